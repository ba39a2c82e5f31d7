/-! PURE: crossings from a sheet, by the reference -/
section ZO
variable {m : ax_M} {g : Nat} {s : zS} {P : zP} {T : zT} {v1 v2 v3 v4 v5 v6 v7 y : Int32} {j : Nat}
theorem L8_read_x (h : ¬ v5 = 0) : L8_read_55 (j + 1) v1 v2 v3 v4 v5 v6 v7 m = (none, v5, v6, v7, m) ∧ E8_read_55 (j + 1) v1 v2 v3 v4 v5 v6 v7 m := by
  constructor
  · unfold L8_read_55
    by_cases e : 3 * v4 ≤ v7
    · rw [if_pos e]
    · rw [if_neg e, if_neg h]
  · unfold E8_read_55
    exact fun _ q => absurd q h
theorem L8_read_a (e : (if (m 94 (Int32.toNatClampNeg v1)) = ((-4)) then (1 : Int32) else if (m 94 (Int32.toNatClampNeg v1)) = v2 then (if (F8_in ((Int32.toInt64 v3) + (Int32.toInt64 v7)) 0 (Int32.toInt64 ((m 95 (Int32.toNatClampNeg v1)) - 1)) m) = 0 then (2 : Int32) else 0 : Int32) else 3) = y) (h : ¬ 3 * v4 ≤ v7) (h2 : ¬ v7 - v7 / 3 * 3 = 2 ∨ ¬ y = 0) : L8_read_55 (j + 1) v1 v2 v3 v4 0 v6 v7 m = L8_read_55 j v1 v2 v3 v4 y v6 (v7 + 1) m := by
  subst e
  conv => lhs; unfold L8_read_55
  rw [if_neg h, if_pos rfl]
  by_cases q : (if (m 94 (Int32.toNatClampNeg v1)) = ((-4)) then (1 : Int32) else if (m 94 (Int32.toNatClampNeg v1)) = v2 then (if (F8_in ((Int32.toInt64 v3) + (Int32.toInt64 v7)) 0 (Int32.toInt64 ((m 95 (Int32.toNatClampNeg v1)) - 1)) m) = 0 then (2 : Int32) else 0 : Int32) else 3) = 0
  · rw [if_pos q, if_neg (h2.elim id (fun w => absurd q w))]
  · rw [if_neg q]
theorem E8_read_a (e : (if (m 94 (Int32.toNatClampNeg v1)) = ((-4)) then (1 : Int32) else if (m 94 (Int32.toNatClampNeg v1)) = v2 then (if (F8_in ((Int32.toInt64 v3) + (Int32.toInt64 v7)) 0 (Int32.toInt64 ((m 95 (Int32.toNatClampNeg v1)) - 1)) m) = 0 then (2 : Int32) else 0 : Int32) else 3) = y) (h2 : ¬ v7 - v7 / 3 * 3 = 2 ∨ ¬ y = 0) (hv : vp_in v1 4) (i : E8_read_55 j v1 v2 v3 v4 y v6 (v7 + 1) m) : E8_read_55 (j + 1) v1 v2 v3 v4 0 v6 v7 m := by
  subst e
  unfold E8_read_55
  exact fun _ _ => ⟨hv, fun _ => ⟨hv, fun _ => hv⟩, fun q => ⟨fun w => absurd w (h2.elim id (fun u => absurd q u)), fun _ => i⟩, fun _ => i⟩
theorem L8_read_c {R : Int32 × ax_M} (e : (if (m 94 (Int32.toNatClampNeg v1)) = ((-4)) then (1 : Int32) else if (m 94 (Int32.toNatClampNeg v1)) = v2 then (if (F8_in ((Int32.toInt64 v3) + (Int32.toInt64 v7)) 0 (Int32.toInt64 ((m 95 (Int32.toNatClampNeg v1)) - 1)) m) = 0 then (2 : Int32) else 0 : Int32) else 3) = 0) (h : ¬ 3 * v4 ≤ v7) (h2 : v7 - v7 / 3 * 3 = 2) (hR : F8_crosses (m 96 (Int32.toNatClampNeg ((((40 * v1) + v3) + v7) - 2))) (m 96 (Int32.toNatClampNeg ((((40 * v1) + v3) + v7) - 1))) (m 96 (Int32.toNatClampNeg (((40 * v1) + v3) + v7))) 0 0 m = R) : L8_read_55 (j + 1) v1 v2 v3 v4 0 v6 v7 m = if 0 ≤ R.1 then L8_read_55 j v1 v2 v3 v4 0 (v6 + 1) (v7 + 1) R.2 else (some ((-20) - v6), 0, v6, v7, F8_copies 99 0 R.2) := by
  subst hR
  conv => lhs; unfold L8_read_55
  rw [if_neg h, if_pos rfl, if_pos e, if_pos h2, e]
theorem E8_read_c {R : Int32 × ax_M} (e : (if (m 94 (Int32.toNatClampNeg v1)) = ((-4)) then (1 : Int32) else if (m 94 (Int32.toNatClampNeg v1)) = v2 then (if (F8_in ((Int32.toInt64 v3) + (Int32.toInt64 v7)) 0 (Int32.toInt64 ((m 95 (Int32.toNatClampNeg v1)) - 1)) m) = 0 then (2 : Int32) else 0 : Int32) else 3) = 0) (h2 : v7 - v7 / 3 * 3 = 2) (hR : F8_crosses (m 96 (Int32.toNatClampNeg ((((40 * v1) + v3) + v7) - 2))) (m 96 (Int32.toNatClampNeg ((((40 * v1) + v3) + v7) - 1))) (m 96 (Int32.toNatClampNeg (((40 * v1) + v3) + v7))) 0 0 m = R) (hv : vp_in v1 4) (w1 : vp_in ((((40 * v1) + v3) + v7) - 2) 160) (w2 : vp_in ((((40 * v1) + v3) + v7) - 1) 160) (w3 : vp_in (((40 * v1) + v3) + v7) 160) (hD : D8_crosses (m 96 (Int32.toNatClampNeg ((((40 * v1) + v3) + v7) - 2))) (m 96 (Int32.toNatClampNeg ((((40 * v1) + v3) + v7) - 1))) (m 96 (Int32.toNatClampNeg (((40 * v1) + v3) + v7))) 0 0 m) (i : 0 ≤ R.1 → E8_read_55 j v1 v2 v3 v4 0 (v6 + 1) (v7 + 1) R.2) (c : ¬ 0 ≤ R.1 → D8_copies 99 0 R.2) : E8_read_55 (j + 1) v1 v2 v3 v4 0 v6 v7 m := by
  subst hR
  unfold E8_read_55
  refine fun _ _ => ⟨hv, fun _ => ⟨hv, fun _ => hv⟩, fun q => ⟨fun _ => ⟨w1, w2, w3, hD, fun w => ?_, c⟩, fun w => absurd h2 w⟩, fun q => absurd e q⟩
  rw [e]; exact i w
theorem z8_by {k l j : Nat} {a3 : Int32} (hT : zWF T) (h8 : z8 m T) (hk : k < 4) (hl : l ≤ 2) (hj : j < 1000) : (if (m 94 (Int32.toNatClampNeg (nI k))) = ((-4)) then (1 : Int32) else if (m 94 (Int32.toNatClampNeg (nI k))) = (nI l) then (if (F8_in ((Int32.toInt64 a3) + (Int32.toInt64 (nI j))) 0 (Int32.toInt64 ((m 95 (Int32.toNatClampNeg (nI k))) - 1)) m) = 0 then (2 : Int32) else 0 : Int32) else 3) = nI (zfb T k l (a3.toInt + j)) := by
  obtain ⟨s1, s2⟩ := hT.sh hk
  have hlo := z_lo a3
  have hhi := z_hi a3
  rw [z_ncl (by omega), h8.ln hk, h8.sz hk]
  unfold zfb
  by_cases e1 : T.ln k = 0
  · rw [if_pos e1, if_pos ((zLane_n s1).mpr e1)]; rfl
  · rw [if_neg e1, if_neg (fun q => e1 ((zLane_n s1).mp q))]
    have c1 : (zLane (T.ln k) = nI l) ↔ T.ln k = l + 1 := by
      unfold zLane; rw [if_neg e1, z_neq (by omega) (by omega)]; omega
    by_cases e2 : T.ln k = l + 1
    · have x1 : (nI (T.sz k) - 1).toInt = (T.sz k : Int) - 1 := by
        have t1 : (1 : Int32).toInt = 1 := rfl
        rw [z_sub, z_nti (by omega), t1]
        · rw [z_nti (by omega), t1]; omega
        · rw [z_nti (by omega), t1]; omega
      have x2 : (Int32.toInt64 a3 + Int32.toInt64 (nI j)).toInt = a3.toInt + j := by
        rw [Int64.toInt_add, z_i64, z_i64, z_nti (by omega)]
        exact Int.bmod_eq_of_le (by omega) (by omega)
      have hin : F8_in (Int32.toInt64 a3 + Int32.toInt64 (nI j)) 0 (nI (T.sz k) - 1).toInt64 m = if 0 ≤ a3.toInt + j ∧ a3.toInt + j < T.sz k then 1 else 0 := by
        rw [z_in, x2, z_i64, x1, show (0 : Int64).toInt = 0 from rfl]
        by_cases e3 : 0 ≤ a3.toInt + j ∧ a3.toInt + j < T.sz k
        · rw [if_pos e3, if_pos (by omega)]
        · rw [if_neg e3, if_neg (by omega)]
      rw [if_pos (c1.mpr e2), if_pos e2, hin]
      by_cases e3 : 0 ≤ a3.toInt + j ∧ a3.toInt + j < T.sz k
      · rw [if_pos e3, if_pos e3]; rfl
      · rw [if_neg e3, if_neg e3]; rfl
    · rw [if_neg (fun q => e2 (c1.mp q)), if_neg e2]; rfl
theorem zfb_le {k l : Nat} {y : Int} : zfb T k l y ≤ 3 := by
  unfold zfb
  split
  · omega
  · split
    · split <;> omega
    · omega
theorem zfb_0 {k l : Nat} {y : Int} (h : T.ln k = l + 1) : zfb T k l y = if 0 ≤ y ∧ y < T.sz k then 0 else 2 := by
  unfold zfb; rw [if_neg (by omega), if_pos h]
theorem z_mod3 {i c : Nat} (hi : i < 1000) (hc : c < 3) : nI (3 * i + c) - nI (3 * i + c) / 3 * 3 = nI c := by
  have := pk_rem (a := 3 * i + c) (d := 3) (by omega) (by omega) (by omega)
  rw [show (3 * i + c) % 3 = c by omega] at this
  exact this
theorem z8_read {k l n : Nat} {a3 : Int32} (hT : zWF T) (hk : k < 4) (hl : l ≤ 2) (hn : n ≤ 13) : ∀ (r i j : Nat) (P : zP) (m : ax_M), n = i + r → 3 * r + 1 < j → (i = 0 ∨ (0 ≤ a3.toInt ∧ a3.toInt ≤ 40)) → zV T.s P → P.cr ≤ 999 → z8 m (T.setP P) → zQ m 99 T.s T.P → E8_read_55 j (nI k) (nI l) a3 (nI n) 0 (nI i) (nI (3 * i)) m ∧ (L8_read_55 j (nI k) (nI l) a3 (nI n) 0 (nI i) (nI (3 * i)) m).1 = (zrd T k l a3.toInt r i P).1.map (fun i => (-20) - nI i) ∧ ((zrd T k l a3.toInt r i P).1 = none → (L8_read_55 j (nI k) (nI l) a3 (nI n) 0 (nI i) (nI (3 * i)) m).2.1 = nI (zrd T k l a3.toInt r i P).2.1 ∧ (L8_read_55 j (nI k) (nI l) a3 (nI n) 0 (nI i) (nI (3 * i)) m).2.2.1 = nI (zrd T k l a3.toInt r i P).2.2.1 ∧ z8 (L8_read_55 j (nI k) (nI l) a3 (nI n) 0 (nI i) (nI (3 * i)) m).2.2.2.2 (T.setP (zrd T k l a3.toInt r i P).2.2.2) ∧ zV T.s (zrd T k l a3.toInt r i P).2.2.2 ∧ (zrd T k l a3.toInt r i P).2.2.2.cr ≤ 999 ∧ (zrd T k l a3.toInt r i P).2.1 ≤ 3) ∧ (¬ (zrd T k l a3.toInt r i P).1 = none → z8 (L8_read_55 j (nI k) (nI l) a3 (nI n) 0 (nI i) (nI (3 * i)) m).2.2.2.2 T) ∧ (∀ d, d < 74 → (L8_read_55 j (nI k) (nI l) a3 (nI n) 0 (nI i) (nI (3 * i)) m).2.2.2.2 d = m d) := by
  have hw := hT.w
  obtain ⟨s1, s2⟩ := hT.sh hk
  intro r
  induction r with
  | zero =>
    intro i j P m hr hj _ hP hc h8 _
    obtain ⟨j, rfl⟩ : ∃ j', j = j' + 1 := ⟨j - 1, by omega⟩
    have hle : 3 * nI n ≤ nI (3 * i) := by rw [z_lit 3, pk_mul]; exact z_let (by omega) (by omega)
    unfold L8_read_55 E8_read_55 zrd
    rw [if_pos hle]
    exact ⟨fun q => absurd hle q, rfl, fun _ => ⟨rfl, rfl, h8, hP, hc, Nat.zero_le _⟩, fun q => absurd rfl q, fun _ _ => rfl⟩
  | succ r ih =>
    intro i j P m hr hj hf hP hc h8 hA
    obtain ⟨j, rfl⟩ : ∃ j', j = j' + 1 + 1 + 1 + 1 := ⟨j - 4, by omega⟩
    have hT' : zWF (T.setP P) := hT.setP hP hc
    have le0 : ∀ c, c < 3 → ¬ 3 * nI n ≤ nI (3 * i + c) := fun c hc => by rw [z_lit 3, pk_mul]; exact z_lef (by omega) (by omega)
    have by0 : ∀ c, c < 3 → _ := fun c hc => z8_by (T := T.setP P) (k := k) (l := l) (j := 3 * i + c) (a3 := a3) hT' h8 hk hl (by omega)
    have fb : ∀ y, zfb (T.setP P) k l y = zfb T k l y := fun y => rfl
    have hv : vp_in (nI k) 4 := z_vp hk (by omega)
    have m3 : ∀ c, c < 3 → nI (3 * i + c) - nI (3 * i + c) / 3 * 3 = nI c := fun c hc => z_mod3 (by omega) hc
    have n0 : ¬ nI (3 * i + 0) - nI (3 * i + 0) / 3 * 3 = 2 := by rw [m3 0 (by omega)]; decide
    have n1 : ¬ nI (3 * i + 1) - nI (3 * i + 1) / 3 * 3 = 2 := by rw [m3 1 (by omega)]; decide
    have n2 : nI (3 * i + 2) - nI (3 * i + 2) / 3 * 3 = 2 := m3 2 (by omega)
    have p1 : nI (3 * i + 0) + 1 = nI (3 * i + 1) := by rw [z_lit 1, nI_add]
    have p2 : nI (3 * i + 1) + 1 = nI (3 * i + 2) := by rw [z_lit 1, nI_add]
    have p3 : nI (3 * i + 2) + 1 = nI (3 * (i + 1)) := by rw [z_lit 1, nI_add]; rfl
    have b0 := by0 0 (by omega)
    have b1 := by0 1 (by omega)
    have b2 := by0 2 (by omega)
    rw [fb] at b0 b1 b2
    have ne : ∀ x, x ≠ 0 → x ≤ 3 → ¬ nI x = 0 := fun x h1 h2 q => h1 ((z_neq (b := 0) (by omega) (by omega)).mp q)
    have c0 : ∀ (c : Nat), a3.toInt + ((3 * i + c : Nat) : Int) = a3.toInt + 3 * i + c := fun c => by omega
    rw [c0] at b0 b1 b2
    have L0 := L8_read_a (j := j + 1 + 1 + 1) (v4 := nI n) (v6 := nI i) b0 (le0 0 (by omega)) (Or.inl n0)
    have E0 := E8_read_a (j := j + 1 + 1 + 1) (v4 := nI n) (v6 := nI i) b0 (Or.inl n0) hv
    rw [p1] at L0 E0
    rw [show nI (3 * i) = nI (3 * i + 0) from rfl, L0]
    unfold zrd
    by_cases f0 : zfb T k l (a3.toInt + 3 * i + 0) = 0
    · have hln : T.ln k = l + 1 ∧ 0 ≤ a3.toInt + 3 * i ∧ a3.toInt + 3 * i < T.sz k := by
        unfold zfb at f0
        by_cases q1 : T.ln k = 0
        · rw [if_pos q1] at f0; omega
        · rw [if_neg q1] at f0
          by_cases q2 : T.ln k = l + 1
          · rw [if_pos q2] at f0
            by_cases q3 : 0 ≤ a3.toInt + 3 * i + (0 : Nat) ∧ a3.toInt + 3 * i + (0 : Nat) < T.sz k
            · exact ⟨q2, by omega, by omega⟩
            · exact absurd f0 (by rw [if_neg (by omega)]; omega)
          · rw [if_neg q2] at f0; omega
      obtain ⟨hln, hlo0, hhi0⟩ := hln
      have hft : zft T k l (a3.toInt + 3 * i) = if a3.toInt + 3 * i + 3 ≤ T.sz k then 0 else 2 := by
        unfold zft; rw [if_neg (by omega), if_pos hln]
        by_cases q : a3.toInt + 3 * i + 3 ≤ T.sz k
        · rw [if_pos q, if_pos ⟨hlo0, q⟩]
        · rw [if_neg q, if_neg (fun w => q w.2)]
      have f0' : zfb T k l (a3.toInt + 3 * i + ((0 : Nat) : Int)) = 0 := f0
      rw [f0'] at E0 ⊢
      have L1 := L8_read_a (j := j + 1 + 1) (v4 := nI n) (v6 := nI i) b1 (le0 1 (by omega)) (Or.inl n1)
      have E1 := E8_read_a (j := j + 1 + 1) (v4 := nI n) (v6 := nI i) b1 (Or.inl n1) hv
      rw [p2] at L1 E1
      rw [show nI 0 = (0 : Int32) from rfl] at E0 ⊢
      rw [L1]
      rw [zfb_0 hln] at L1 E1 b1 b2 ⊢
      by_cases f1 : 0 ≤ a3.toInt + 3 * i + ((1 : Nat) : Int) ∧ a3.toInt + 3 * i + ((1 : Nat) : Int) < T.sz k
      · rw [if_pos f1] at L1 E1 b1 ⊢
        rw [show nI 0 = (0 : Int32) from rfl] at E1 ⊢
        by_cases f2 : 0 ≤ a3.toInt + 3 * i + ((2 : Nat) : Int) ∧ a3.toInt + 3 * i + ((2 : Nat) : Int) < T.sz k
        · rw [if_pos f2] at b2
          have hz : zft T k l (a3.toInt + 3 * i) = 0 := by rw [hft, if_pos (by omega)]
          have ha : a3 = nI a3.toInt.toNat := z_of_toInt (by omega)
          have q1 : (40 * nI k + a3 + nI (3 * i + 2) : Int32) = nI (40 * k + a3.toInt.toNat + (3 * i + 2)) := by
            conv => lhs; rw [ha]
            rw [z_lit 40, pk_mul, nI_add, nI_add]
          have q2 : (40 * nI k + a3 + nI (3 * i + 2) - 2 : Int32) = nI (40 * k + (a3.toInt + 3 * i).toNat) := by
            rw [q1, z_lit 2, pk_sub (by omega)]; congr 1; omega
          have q3 : (40 * nI k + a3 + nI (3 * i + 2) - 1 : Int32) = nI (40 * k + (a3.toInt + 3 * i).toNat + 1) := by
            rw [q1, z_lit 1, pk_sub (by omega)]; congr 1; omega
          have q4 : (40 * nI k + a3 + nI (3 * i + 2) : Int32) = nI (40 * k + (a3.toInt + 3 * i).toNat + 2) := by
            rw [q1]; congr 1; omega
          have r2 : m 96 (Int32.toNatClampNeg (40 * nI k + a3 + nI (3 * i + 2) - 2)) = T.ce (40 * k + (a3.toInt + 3 * i).toNat) := by rw [q2, z_ncl (by omega)]; exact h8.ce (by omega)
          have r3 : m 96 (Int32.toNatClampNeg (40 * nI k + a3 + nI (3 * i + 2) - 1)) = T.ce (40 * k + (a3.toInt + 3 * i).toNat + 1) := by rw [q3, z_ncl (by omega)]; exact h8.ce (by omega)
          have r4 : m 96 (Int32.toNatClampNeg (40 * nI k + a3 + nI (3 * i + 2))) = T.ce (40 * k + (a3.toInt + 3 * i).toNat + 2) := by rw [q4, z_ncl (by omega)]; exact h8.ce (by omega)
          have w2 : vp_in (40 * nI k + a3 + nI (3 * i + 2) - 2) 160 := by rw [q2]; exact z_vp (by omega) (by omega)
          have w3 : vp_in (40 * nI k + a3 + nI (3 * i + 2) - 1) 160 := by rw [q3]; exact z_vp (by omega) (by omega)
          have w4 : vp_in (40 * nI k + a3 + nI (3 * i + 2)) 160 := by rw [q4]; exact z_vp (by omega) (by omega)
          have L2 := fun R => L8_read_c (j := j + 1) (v4 := nI n) (v6 := nI i) (R := R) b2 (le0 2 (by omega)) n2
          have E2 := fun R => E8_read_c (j := j + 1) (v4 := nI n) (v6 := nI i) (R := R) b2 n2
          rw [r2, r3, r4] at L2 E2
          have hE : zE m T.s := h8.e
          have hQ : zQ m 0 T.s P := h8.q
          obtain ⟨g0, g1, g2, g3, g4⟩ := z8_crI (a := T.ce (40 * k + (a3.toInt + 3 * i).toNat)) (b := T.ce (40 * k + (a3.toInt + 3 * i).toNat + 1)) (c := T.ce (40 * k + (a3.toInt + 3 * i).toNat + 2)) hw hP hc hE hQ
          obtain ⟨v1, v2⟩ := zcr_v (a := T.ce (40 * k + (a3.toInt + 3 * i).toNat)) (b := T.ce (40 * k + (a3.toInt + 3 * i).toNat + 1)) (c := T.ce (40 * k + (a3.toInt + 3 * i).toNat + 2)) hw hP hc
          have L2' := L2 _ rfl
          have E2' := E2 _ rfl hv w2 w3 w4 g0
          rw [L2', hz, if_pos rfl]
          clear L2 E2 L2' r2 r3 r4
          generalize T.ce (40 * k + (a3.toInt + 3 * i).toNat) = x1 at g1 g2 g3 g4 v1 v2 E2' ⊢
          generalize T.ce (40 * k + (a3.toInt + 3 * i).toNat + 1) = x2 at g1 g2 g3 g4 v1 v2 E2' ⊢
          generalize T.ce (40 * k + (a3.toInt + 3 * i).toNat + 2) = x3 at g1 g2 g3 g4 v1 v2 E2' ⊢
          generalize F8_crosses x1 x2 x3 0 0 m = R at g1 g2 g3 g4 E2' ⊢
          rw [g1] at E2' ⊢
          have h8R : z8 R.2 (T.setP (zcr T.s P x1 x2 x3).2) := z8.now (T := T.setP P) (P := (zcr T.s P x1 x2 x3).2) h8 hw (fun k _ => by rw [g3 74 (by omega)]) (fun c _ _ _ => g3 c (by omega)) (fun k hk _ => g4 k hk) g2
          have hAR : zQ R.2 99 T.s T.P := hA.same hw (fun k hk => g4 _ (by omega))
          by_cases e4 : 0 ≤ (zcr T.s P x1 x2 x3).1
          · rw [if_pos e4, if_pos e4, p3, show nI i + 1 = nI (i + 1) by rw [z_lit 1, nI_add]] at *
            obtain ⟨i1, i2, i3, i4, i5⟩ := ih (i + 1) (j + 1) _ R.2 (by omega) (by omega) (Or.inr (by omega)) v1 v2 h8R hAR
            exact ⟨E0 (E1 (E2' (fun _ => i1) (fun q => absurd e4 q))), i2, i3, i4, fun d hd => (i5 d hd).trans (g3 d (by omega))⟩
          · rw [if_neg e4, if_neg e4]
            obtain ⟨k1, k2, k3, k4⟩ := z8_cpy (m := R.2) (a := 99) (b := 0) (x := 99) (y := 0) rfl rfl (by omega) (by omega) (by omega)
            refine ⟨E0 (E1 (E2' (fun q => absurd q e4) (fun _ => k1))), rfl, fun q => (by cases q), fun _ => ?_, fun d hd => (k2 d (by omega)).trans (g3 d (by omega))⟩
            have Q0 : zQ (F8_copies 99 0 R.2) 0 T.s T.P := hAR.copy hw k4
            exact z8.now (T := T.setP (zcr T.s P x1 x2 x3).2) (P := T.P) h8R hw (fun k _ => congrFun (k2 74 (by omega)) k) (fun c _ _ _ => k2 c (by omega)) (fun k hk _ => k3 k (by omega)) Q0
        · rw [if_neg f2] at b2
          have L2 := L8_read_a (j := j + 1) (v4 := nI n) (v6 := nI i) b2 (le0 2 (by omega)) (Or.inr (by decide))
          have E2 := E8_read_a (j := j + 1) (v4 := nI n) (v6 := nI i) b2 (Or.inr (by decide)) hv
          have hz : zft T k l (a3.toInt + 3 * i) = 2 := by rw [hft, if_neg (by omega)]
          obtain ⟨x1, x2⟩ := L8_read_x (j := j) (v1 := nI k) (v2 := nI l) (v3 := a3) (v4 := nI n) (v5 := nI 2) (v6 := nI i) (v7 := nI (3 * i + 2) + 1) (m := m) (by decide)
          rw [L2, x1, hz, if_neg (by omega)]
          exact ⟨E0 (E1 (E2 x2)), rfl, fun _ => ⟨rfl, rfl, h8, hP, hc, (show 2 ≤ 3 by omega)⟩, fun q => absurd rfl q, fun _ _ => rfl⟩
      · rw [if_neg f1] at L1 E1 b1 ⊢
        have hz : zft T k l (a3.toInt + 3 * i) = 2 := by rw [hft, if_neg (by omega)]
        obtain ⟨x1, x2⟩ := L8_read_x (j := j + 1) (v1 := nI k) (v2 := nI l) (v3 := a3) (v4 := nI n) (v5 := nI 2) (v6 := nI i) (v7 := nI (3 * i + 2)) (m := m) (by decide)
        rw [x1, hz, if_neg (by omega)]
        exact ⟨E0 (E1 x2), rfl, fun _ => ⟨rfl, rfl, h8, hP, hc, (show 2 ≤ 3 by omega)⟩, fun q => absurd rfl q, fun _ _ => rfl⟩
    · have hz : zft T k l (a3.toInt + 3 * i) = zfb T k l (a3.toInt + 3 * i + ((0 : Nat) : Int)) := by
        have f0' : ¬ zfb T k l (a3.toInt + 3 * i + ((0 : Nat) : Int)) = 0 := f0
        unfold zfb at f0' ⊢
        unfold zft
        by_cases q1 : T.ln k = 0
        · rw [if_pos q1, if_pos q1]
        · rw [if_neg q1, if_neg q1] at *
          by_cases q2 : T.ln k = l + 1
          · rw [if_pos q2] at *
            rw [if_pos q2]
            by_cases q3 : 0 ≤ a3.toInt + 3 * i + ((0 : Nat) : Int) ∧ a3.toInt + 3 * i + ((0 : Nat) : Int) < T.sz k
            · rw [if_pos q3] at f0'; omega
            · rw [if_neg q3, if_neg (by omega)]
          · rw [if_neg q2, if_neg q2]
      have hne : ¬ nI (zfb T k l (a3.toInt + 3 * i + ((0 : Nat) : Int))) = 0 := ne _ f0 zfb_le
      obtain ⟨x1, x2⟩ := L8_read_x (j := j + 1 + 1) (v1 := nI k) (v2 := nI l) (v3 := a3) (v4 := nI n) (v6 := nI i) (v7 := nI (3 * i + 1)) (m := m) hne
      rw [x1, hz, if_neg (show ¬ zfb T k l (a3.toInt + 3 * i + ((0 : Nat) : Int)) = 0 from f0)]
      exact ⟨E0 x2, rfl, fun _ => ⟨rfl, rfl, h8, hP, hc, zfb_le⟩, fun q => absurd rfl q, fun _ _ => rfl⟩
theorem zok34 (h : zI m) : OK34 zI m := by
  obtain ⟨T, hT, h7, h8⟩ := id h
  have hw := hT.w
  intro a1 a2 a3 a4
  have i1 : F7_within a1 0 3 m = zb (zwi a1 0 3) := z7_in
  have i2 : F7_within a2 0 2 m = zb (zwi a2 0 2) := z7_in
  have i4 : F7_within a4 0 13 m = zb (zwi a4 0 13) := z7_in
  have j1 : ∀ m', F8_in a1.toInt64 0 3 m' = zb (zwi a1 0 3) := fun m' => z8_in 0 3 rfl rfl
  have j2 : ∀ m', F8_in a2.toInt64 0 2 m' = zb (zwi a2 0 2) := fun m' => z8_in 0 2 rfl rfl
  have j4 : ∀ m', F8_in a4.toInt64 0 13 m' = zb (zwi a4 0 13) := fun m' => z8_in 0 13 rfl rfl
  cases e1 : zwi a1 0 3 with
  | false =>
    have e7 : F7_read a1 a2 a3 a4 m = (-1, m) := by unfold F7_read; rw [i1, e1]; rfl
    have e8 : F8_read a1 a2 a3 a4 m = (-1, m) := by unfold F8_read; rw [j1, e1]; rfl
    rw [e7, e8]
    refine ⟨?_, ?_, rfl, h⟩
    · unfold D7_read; rw [i1, e1]; exact fun q => absurd rfl q
    · unfold D8_read; rw [j1, e1]; exact fun q => absurd rfl q
  | true =>
  cases e2 : zwi a2 0 2 with
  | false =>
    have e7 : F7_read a1 a2 a3 a4 m = (-1, m) := by unfold F7_read; rw [i1, e1, i2, e2]; rfl
    have e8 : F8_read a1 a2 a3 a4 m = (-1, m) := by unfold F8_read; rw [j1, e1, j2, e2]; rfl
    rw [e7, e8]
    refine ⟨?_, ?_, rfl, h⟩
    · unfold D7_read; rw [i2, e2]; exact fun _ q => absurd rfl q
    · unfold D8_read; rw [j2, e2]; exact fun _ q => absurd rfl q
  | true =>
  cases e4 : zwi a4 0 13 with
  | false =>
    have e7 : F7_read a1 a2 a3 a4 m = (-1, m) := by unfold F7_read; rw [i1, e1, i2, e2, i4, e4]; rfl
    have e8 : F8_read a1 a2 a3 a4 m = (-1, m) := by unfold F8_read; rw [j1, e1, j2, e2, j4, e4]; rfl
    rw [e7, e8]
    refine ⟨?_, ?_, rfl, h⟩
    · unfold D7_read; rw [i4, e4]; exact fun _ _ q => absurd rfl q
    · unfold D8_read; rw [j4, e4]; exact fun _ _ q => absurd rfl q
  | true =>
    obtain ⟨k, _, hk, rfl⟩ := zwi_t (lo := 0) (hi := 3) e1 (by omega)
    obtain ⟨l, _, hl, rfl⟩ := zwi_t (lo := 0) (hi := 2) e2 (by omega)
    obtain ⟨n, _, hn, rfl⟩ := zwi_t (lo := 0) (hi := 13) e4 (by omega)
    obtain ⟨c1, c2⟩ := z7_copy (g := 10) hw h7.g (by omega)
    have h7c : z7 (F1_copyFrom 10 1 m) T := h7.of (fun c _ hc => c2 c (by unfold zsc at hc; omega))
    obtain ⟨s1, s2, s3, s4⟩ := z7_read (a3 := a3) (k := k) (l := l) hT (by omega) hl hn n 0 64 T.P (F1_copyFrom 10 1 m) (by omega) (by omega) (Or.inl rfl) hT.v hT.cr h7c c1
    have d7 : D7_read (nI k) (nI l) a3 (nI n) m := fun _ _ _ => s1
    refine ⟨d7, ?_⟩
    have e7 : F7_read (nI k) (nI l) a3 (nI n) m = if (L7_read_53 64 (nI k) (nI l) a3 (nI n) 0 (nI 0) (nI 0) (F1_copyFrom 10 1 m)).1 = none then (K7_read_163 (nI k) (nI l) a3 (nI n) ((L7_read_53 64 (nI k) (nI l) a3 (nI n) 0 (nI 0) (nI 0) (F1_copyFrom 10 1 m)).2.1) ((L7_read_53 64 (nI k) (nI l) a3 (nI n) 0 (nI 0) (nI 0) (F1_copyFrom 10 1 m)).2.2.1) ((L7_read_53 64 (nI k) (nI l) a3 (nI n) 0 (nI 0) (nI 0) (F1_copyFrom 10 1 m)).2.2.2.1) (L7_read_53 64 (nI k) (nI l) a3 (nI n) 0 (nI 0) (nI 0) (F1_copyFrom 10 1 m)).2.2.2.2) else (((L7_read_53 64 (nI k) (nI l) a3 (nI n) 0 (nI 0) (nI 0) (F1_copyFrom 10 1 m)).1).getD 0, (L7_read_53 64 (nI k) (nI l) a3 (nI n) 0 (nI 0) (nI 0) (F1_copyFrom 10 1 m)).2.2.2.2) := by
      unfold F7_read
      rw [i1, e1, i2, e2, i4, e4, if_neg (show ¬ zb true = 0 by decide), if_neg (show ¬ zb true = 0 by decide), if_neg (show ¬ zb true = 0 by decide)]; rfl
    rw [e7]
    generalize L7_read_53 64 (nI k) (nI l) a3 (nI n) 0 (nI 0) (nI 0) (F1_copyFrom 10 1 m) = R at s2 s3 s4
    have hk4 : k < 4 := by omega
    have e8 : ∀ m1, F8_read (nI k) (nI l) a3 (nI n) m1 = if (L8_read_55 64 (nI k) (nI l) a3 (nI n) 0 (nI 0) (nI (3 * 0)) (F8_copies 0 99 m1)).1 = none then (K8_read_213 (nI k) (nI l) a3 (nI n) ((L8_read_55 64 (nI k) (nI l) a3 (nI n) 0 (nI 0) (nI (3 * 0)) (F8_copies 0 99 m1)).2.1) ((L8_read_55 64 (nI k) (nI l) a3 (nI n) 0 (nI 0) (nI (3 * 0)) (F8_copies 0 99 m1)).2.2.1) ((L8_read_55 64 (nI k) (nI l) a3 (nI n) 0 (nI 0) (nI (3 * 0)) (F8_copies 0 99 m1)).2.2.2.1) (ax_up (L8_read_55 64 (nI k) (nI l) a3 (nI n) 0 (nI 0) (nI (3 * 0)) (F8_copies 0 99 m1)).2.2.2.2 74 51 ((L8_read_55 64 (nI k) (nI l) a3 (nI n) 0 (nI 0) (nI (3 * 0)) (F8_copies 0 99 m1)).2.1))) else (((L8_read_55 64 (nI k) (nI l) a3 (nI n) 0 (nI 0) (nI (3 * 0)) (F8_copies 0 99 m1)).1).getD 0, (L8_read_55 64 (nI k) (nI l) a3 (nI n) 0 (nI 0) (nI (3 * 0)) (F8_copies 0 99 m1)).2.2.2.2) := fun m1 => by
      unfold F8_read
      rw [j1, e1, j2, e2, j4, e4, if_neg (show ¬ zb true = 0 by decide), if_neg (show ¬ zb true = 0 by decide), if_neg (show ¬ zb true = 0 by decide)]; rfl
    have step : ∀ m1, z8 m1 T → _ := fun m1 (h8' : z8 m1 T) => z8_read (T := T) (k := k) (l := l) (n := n) (a3 := a3) hT hk4 hl hn n 0 64 T.P (F8_copies 0 99 m1) (by omega) (by omega) (Or.inl rfl) hT.v hT.cr
    have cp : ∀ m1, z8 m1 T → D8_copies 0 99 m1 ∧ z8 (F8_copies 0 99 m1) (T.setP T.P) ∧ zQ (F8_copies 0 99 m1) 99 T.s T.P ∧ (∀ c, c < 74 → F8_copies 0 99 m1 c = m1 c) := fun m1 h8' => by
      obtain ⟨k1, k2, k3, k4⟩ := z8_cpy (m := m1) (a := 0) (b := 99) (x := 0) (y := 99) rfl rfl (by omega) (by omega) (by omega)
      refine ⟨k1, ?_, zQ.copy hw h8'.q k4, fun c hc => k2 c (by omega)⟩
      exact z8.now (P := T.P) h8' hw (fun k _ => by rw [k2 74 (by omega)]) (fun c _ _ _ => k2 c (by omega)) (fun k hk h99 => k3 k (by omega)) (h8'.q.same hw (fun k hk => k3 _ (by omega)))
    cases hz : (zrd T k l a3.toInt n 0 T.P).1 with
    | some i =>
      rw [hz] at s2
      rw [s2, if_neg (by simp)]
      dsimp only [Option.map, Option.getD]
      have k7 : ∀ c, (c < 10 ∨ 10 + 8 < c) → R.2.2.2.2 c = m c := fun c hc => (s4 c hc).trans (c2 c hc)
      generalize R.2.2.2.2 = m1 at k7
      have h7' : z7 m1 T := h7.of (fun c _ hc => k7 c (by unfold zsc at hc; omega))
      have h8' : z8 m1 T := h8.keep (fun c hc => k7 c (by omega))
      obtain ⟨p1, p2, p3, p4⟩ := cp m1 h8'
      obtain ⟨q1, q2, q3, q4, q5⟩ := step m1 h8' p2 p3
      refine ⟨fun _ _ _ => ⟨p1, q1⟩, ?_⟩
      rw [e8 m1]
      generalize L8_read_55 64 (nI k) (nI l) a3 (nI n) 0 (nI 0) (nI (3 * 0)) (F8_copies 0 99 m1) = R2 at q2 q3 q4 q5
      rw [hz] at q2 q4
      rw [q2, if_neg (by simp)]
      exact ⟨rfl, zI.step hT h7' (fun c hc => (q5 c hc).trans (p4 c hc)) (q4 (by simp))⟩
    | none =>
      rw [hz, Option.map_none] at s2
      obtain ⟨t1, t2, t3⟩ := s3 hz
      rw [s2, if_pos rfl]
      unfold K7_read_163
      rw [t1, t2]
      dsimp only
      obtain ⟨u1, u2⟩ := z7_copy (g := 1) (g1 := 10) hw t3 (by omega)
      have k7 : ∀ c, c ≠ 0 → (10 + 8 < c) → ax_up (F1_copyFrom 1 10 R.2.2.2.2) 0 10 (nI (zrd T k l a3.toInt n 0 T.P).2.1) c = m c := fun c hc hd => by
        rw [z_upr hc, u2 c (by omega), s4 c (by omega), c2 c (by omega)]
      have k9 : ∀ c, c ≠ 10 → ax_up (F1_copyFrom 1 10 R.2.2.2.2) 0 10 (nI (zrd T k l a3.toInt n 0 T.P).2.1) 0 c = m 0 c := fun c hc => by
        rw [z_up, if_neg (by omega), u2 0 (by omega), s4 0 (by omega), c2 0 (by omega)]
      have kt : ax_up (F1_copyFrom 1 10 R.2.2.2.2) 0 10 (nI (zrd T k l a3.toInt n 0 T.P).2.1) 0 10 = nI (zrd T k l a3.toInt n 0 T.P).2.1 := by rw [z_up, if_pos ⟨rfl, rfl⟩]
      have kg : zG (ax_up (F1_copyFrom 1 10 R.2.2.2.2) 0 10 (nI (zrd T k l a3.toInt n 0 T.P).2.1)) 1 T.s (zrd T k l a3.toInt n 0 T.P).2.2.2 := u1.same (fun c a b => z_upr (by omega))
      generalize ax_up (F1_copyFrom 1 10 R.2.2.2.2) 0 10 (nI (zrd T k l a3.toInt n 0 T.P).2.1) = m1 at k7 k9 kt kg
      have h8' : z8 m1 T := h8.keep (fun c hc => k7 c (by omega) (by omega))
      obtain ⟨p1, p2, p3, p4⟩ := cp m1 h8'
      obtain ⟨q1, q2, q3, q4, q5⟩ := step m1 h8' p2 p3
      refine ⟨fun _ _ _ => ⟨p1, q1⟩, ?_⟩
      rw [e8 m1]
      generalize L8_read_55 64 (nI k) (nI l) a3 (nI n) 0 (nI 0) (nI (3 * 0)) (F8_copies 0 99 m1) = R2 at q2 q3 q4 q5
      rw [hz, Option.map_none] at q2
      obtain ⟨y1, y2, y3, y4, y5, y6⟩ := q3 hz
      rw [q2, if_pos rfl]
      unfold K8_read_213
      rw [y1, y2]
      refine ⟨rfl, ?_⟩
      dsimp only
      have h7' : z7 m1 ((T.setP (zrd T k l a3.toInt n 0 T.P).2.2.2).setF T.tf (zrd T k l a3.toInt n 0 T.P).2.1) := by
        obtain ⟨w1, w2, w3, w4, w5, w6, w7, w8, w9⟩ := h7
        refine ⟨kg, ?_, fun k hk hh => (w3 k hk hh).same (fun c a b => k7 c (by omega) (by omega)), ?_, ?_, ⟨?_, kt⟩, ?_, ?_, w9.same (fun c a b => k7 c (by omega) (by omega))⟩
        · rw [k7 38 (by omega) (by omega)]; exact w2
        · rw [k7 39 (by omega) (by omega), k7 40 (by omega) (by omega)]; exact w4
        · rw [k7 42 (by omega) (by omega), k7 43 (by omega) (by omega)]; exact w5
        · rw [k9 9 (by omega)]; exact w6.1
        · rw [k7 72 (by omega) (by omega), k7 73 (by omega) (by omega)]; exact w7
        · rw [k7 71 (by omega) (by omega)]; exact w8
      have h8'' : z8 (ax_up R2.2.2.2.2 74 51 (nI (zrd T k l a3.toInt n 0 T.P).2.1)) ((T.setP (zrd T k l a3.toInt n 0 T.P).2.2.2).setF T.tf (zrd T k l a3.toInt n 0 T.P).2.1) :=
        y3.fl (fun k _ hk => by rw [z_up, if_neg (by omega)]) (fun c _ _ _ _ => z_upr (by omega)) ⟨by rw [z_up, if_neg (by omega)]; exact y3.tf, by rw [z_up, if_pos ⟨rfl, rfl⟩]⟩
      exact zI.step ((hT.setP y4 y5).setF ⟨hT.f.1, y6⟩) h7' (fun c hc => (z_upr (by omega)).trans ((q5 c hc).trans (p4 c hc))) h8''
end ZO
