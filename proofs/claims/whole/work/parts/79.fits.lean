/-! PURE: fits, as a call -/
section ZH2
variable {m : ax_M} {T : zT} {Q : zP}
theorem z7_fm {G n : Nat} (hT : zWF T) (h7 : z7 m T) (h8 : z8 m T) (hQv : zV T.s Q) (hG : zG m G T.s Q) (hn : n ≤ 4) : F1_standing G m = nI (zcode Q.bk T.s.no) ∧ D1_standing G m ∧ D3_survey 1 (nI (zcode Q.bk T.s.no)) m ∧ D1_standing 1 (F3_survey 1 (nI (zcode Q.bk T.s.no)) m) ∧ F1_standing 1 (F3_survey 1 (nI (zcode Q.bk T.s.no)) m) = nI (zcode T.P.bk T.s.no) ∧ D3_countRows (nI (zcode T.P.bk T.s.no)) (nI n) (F3_survey 1 (nI (zcode Q.bk T.s.no)) m) ∧ z7 (F3_countRows (nI (zcode T.P.bk T.s.no)) (nI n) (F3_survey 1 (nI (zcode Q.bk T.s.no)) m)) T ∧ z8 (F3_countRows (nI (zcode T.P.bk T.s.no)) (nI n) (F3_survey 1 (nI (zcode Q.bk T.s.no)) m)) T ∧ F3_rowsFrom 0 (nI n) (F3_countRows (nI (zcode T.P.bk T.s.no)) (nI n) (F3_survey 1 (nI (zcode Q.bk T.s.no)) m)) = nI (znr T.s T.P (zcode T.P.bk T.s.no) n (zcode Q.bk T.s.no)) ∧ ∀ r, r < n → D3_stepOfFirstRow (nI n) (nI r) (F3_countRows (nI (zcode T.P.bk T.s.no)) (nI n) (F3_survey 1 (nI (zcode Q.bk T.s.no)) m)) ∧ F3_stepOfFirstRow (nI n) (nI r) (F3_countRows (nI (zcode T.P.bk T.s.no)) (nI n) (F3_survey 1 (nI (zcode Q.bk T.s.no)) m)) = zen (ztr T.s T.P (zcode T.P.bk T.s.no) n (zcode Q.bk T.s.no) r) := by
  have hw := hT.w
  have hc0 : zcode Q.bk T.s.no < 4096 := zcode_6 hw.no6 (fun k hk => hQv.bk4 hw hk)
  obtain ⟨s1, s2⟩ := z7_stand hw hQv hG
  obtain ⟨a1, a2, a3, a4, a5⟩ := z_both hT h7 h8 hc0
  generalize F3_survey 1 (nI (zcode Q.bk T.s.no)) m = m1 at *
  obtain ⟨t1, t2⟩ := z7_stand hw hT.v a2.g
  obtain ⟨b1, b2, b3⟩ := z7_count (g := zcode T.P.bk T.s.no) hw hc0 (z_c0 hT) hn ⟨a4, a5⟩
  generalize F3_countRows (nI (zcode T.P.bk T.s.no)) (nI n) m1 = m2 at *
  have hA : z3A m2 T.s T.P (zcode Q.bk T.s.no) := z3A.same ⟨a4, a5⟩ (fun d _ _ => b2 d (by omega))
  have hB := zst_bi (fo := zfo T.s T.P) (vs := zvs T.s T.P) (c0 := zcode Q.bk T.s.no) 180
  have h7' : z7 m2 T := a2.ways (fun c _ _ hd => b2 c (by omega)) (hA.2.n (hB.len hw hc0) (fun k e he => hB.lt hw hc0 he))
  have h8' : z8 m2 T := a3.keep (fun c hc => b2 c (by omega))
  refine ⟨s2, s1, a1, t1, t2, b1, h7', h8', ?_, fun r hr => ?_⟩
  · unfold F3_rowsFrom
    rw [show nI n * 180 + 0 = nI (n * 180 + 0) by rw [z_lit 180, pk_mul, z_lit 0, nI_add], z_at (by omega) (by omega)]
    exact b3 n (Nat.le_refl _) 0 _ hB.1 (by show 0 + n ≤ n; omega)
  · obtain ⟨x1, x2⟩ := z7_f5 (g := zcode T.P.bk T.s.no) hw hc0 hA hn hr b3 200 0 0 _ (by omega) (by omega) hB.1 (Nat.le_refl _)
    have x1' : D3_stepOfFirstRow (nI n) (nI r) m2 := x1
    refine ⟨x1', ?_⟩
    unfold F3_stepOfFirstRow
    rw [show nI 0 = (0 : Int32) from rfl] at x2
    rw [x2, if_neg (by simp)]
    rfl
theorem z_fask {a : Int32} {n : Nat} (hn : n ≤ 4) : (¬ a < 10 ∧ a - 10 < nI n) ↔ zwi a 10 (9 + n : Nat) = true := by
  have lo := z_lo a
  have hi := z_hi a
  have es : 10 ≤ a.toInt → (a - 10).toInt = a.toInt - 10 := fun h => by
    rw [z_sub, show (10 : Int32).toInt = 10 from rfl] <;> rw [show (10 : Int32).toInt = 10 from rfl] <;> omega
  unfold zwi
  rw [decide_eq_true_eq, z_lt, z_lt, show (10 : Int32).toInt = 10 from rfl, z_nti (by omega)]
  constructor
  · rintro ⟨h1, h2⟩
    rw [es (by omega)] at h2
    omega
  · rintro ⟨h1, h2⟩
    rw [es (by omega)]
    omega
theorem z_fits {k n : Nat} {a : Int32} (hT : zWF T) (h7 : z7 m T) (h8 : z8 m T) (hk : k < 2) (hkp : T.kp k = true) (hn : n ≤ 4) (ha : a = 0 ∨ (a ≠ 0 ∧ zwi a 10 (9 + n : Nat) = true)) : D7_fits (nI k) (nI n) a m ∧ D8_fits (nI k) (nI n) a (F7_fits (nI k) (nI n) a m).2 ∧ (F7_fits (nI k) (nI n) a m).1 = (F8_fits (nI k) (nI n) a (F7_fits (nI k) (nI n) a m).2).1 ∧ zI (F8_fits (nI k) (nI n) a (F7_fits (nI k) (nI n) a m).2).2 := by
  have hw := hT.w
  have i1 : ∀ m', F7_within (nI k) 0 1 m' = zb true := fun m' => z7_in.trans (by rw [show zwi (nI k) (Int32.toInt 0) (Int32.toInt 1) = true from by unfold zwi; rw [z_nti (by omega)]; exact decide_eq_true (by show (0 : Int) ≤ k ∧ (k : Int) ≤ 1; omega)])
  have i2 : ∀ m', F7_within (nI n) 0 4 m' = zb true := fun m' => z7_in.trans (by rw [show zwi (nI n) (Int32.toInt 0) (Int32.toInt 4) = true from by unfold zwi; rw [z_nti (by omega)]; exact decide_eq_true (by show (0 : Int) ≤ n ∧ (n : Int) ≤ 4; omega)])
  have j1 : ∀ m', F8_in (nI k).toInt64 0 1 m' = zb true := fun m' => (z8_in 0 1 rfl rfl).trans (by rw [show zwi (nI k) 0 1 = true from by unfold zwi; rw [z_nti (by omega)]; exact decide_eq_true (by omega)])
  have j2 : ∀ m', F8_in (nI n).toInt64 0 4 m' = zb true := fun m' => (z8_in 0 4 rfl rfl).trans (by rw [show zwi (nI n) 0 4 = true from by unfold zwi; rw [z_nti (by omega)]; exact decide_eq_true (by omega)])
  obtain ⟨k1, k2⟩ := z7_kept h7 hk
  rw [hkp] at k1
  obtain ⟨hQv, _⟩ := hT.im hk hkp
  obtain ⟨f1, f2, f3, f4, f5, f6, f7, f8, f9, f10⟩ := z7_fm (n := n) hT h7 h8 hQv (h7.im hk hkp) hn
  have nz : ¬ zb true = 0 := by decide
  have r10 : a ≠ 0 → ∃ r, r < n ∧ a - 10 = nI r := fun h0 => by
    have h1 := (ha.resolve_left h0).2
    obtain ⟨i, x1, x2, rfl⟩ := zwi_t (lo := 10) (hi := 9 + n) h1 (by omega)
    exact ⟨i - 10, by omega, by rw [z_lit 10, pk_sub (by omega)]⟩
  have hask := fun h0 => (z_fask (a := a) hn).mpr (ha.resolve_left h0).2
  -- what the class answers
  have hk01 : k = 0 ∨ k = 1 := by omega
  have hans : ∀ M, F3_rowsFrom 0 (nI n) M = nI (znr T.s T.P (zcode T.P.bk T.s.no) n (zcode (T.im k).bk T.s.no)) → (∀ r, r < n → F3_stepOfFirstRow (nI n) (nI r) M = zen (ztr T.s T.P (zcode T.P.bk T.s.no) n (zcode (T.im k).bk T.s.no) r)) → (if a = 0 then (F3_rowsFrom 0 (nI n) M, M) else (F3_stepOfFirstRow (nI n) (a - 10) M, M)) = (if a = 0 then nI (znr T.s T.P (zcode T.P.bk T.s.no) n (zcode (T.im k).bk T.s.no)) else zen (ztr T.s T.P (zcode T.P.bk T.s.no) n (zcode (T.im k).bk T.s.no) (a - 10).toNatClampNeg), M) := fun M h1 h2 => by
    by_cases w : a = 0
    · rw [if_pos w, if_pos w, h1]
    · rw [if_neg w, if_neg w]
      obtain ⟨r, hr, er⟩ := r10 w
      rw [er, h2 r hr, z_ncl (by omega)]
  have e7 : F7_fits (nI k) (nI n) a m = (if a = 0 then nI (znr T.s T.P (zcode T.P.bk T.s.no) n (zcode (T.im k).bk T.s.no)) else zen (ztr T.s T.P (zcode T.P.bk T.s.no) n (zcode (T.im k).bk T.s.no) (a - 10).toNatClampNeg), F3_countRows (nI (zcode T.P.bk T.s.no)) (nI n) (F3_survey 1 (nI (zcode (T.im k).bk T.s.no)) m)) := by
    rw [← hans _ f9 (fun r hr => (f10 r hr).2)]
    unfold F7_fits K7_fits_86 K7_fits_86_1
    rw [i1, i2, k1, if_neg nz, if_neg nz, if_neg nz]
    rcases hk01 with e | e
    · subst e
      have f1' : F1_standing 20 m = nI (zcode (T.im 0).bk T.s.no) := f1
      rw [f1', f5, if_pos (show nI 0 = 0 from rfl)]
      by_cases w : a = 0
      · rw [if_pos w]
      · rw [if_neg w, if_neg (hask w).1, if_pos (hask w).2]
    · subst e
      have f1' : F1_standing 29 m = nI (zcode (T.im 1).bk T.s.no) := f1
      rw [f1', f5, if_neg (show ¬ nI 1 = 0 by decide)]
      by_cases w : a = 0
      · rw [if_pos w]
      · rw [if_neg w, if_neg (hask w).1, if_pos (hask w).2]
  have hstep : ¬ a = 0 → D3_stepOfFirstRow (nI n) (a - 10) (F3_countRows (nI (zcode T.P.bk T.s.no)) (nI n) (F3_survey 1 (nI (zcode (T.im k).bk T.s.no)) m)) := fun w => by
    obtain ⟨r, hr, er⟩ := r10 w
    rw [er]; exact (f10 r hr).1
  have d7 : D7_fits (nI k) (nI n) a m := by
    unfold D7_fits HK7_fits_86 HK7_fits_86_1
    rcases hk01 with e | e
    · subst e
      have f1' : F1_standing 20 m = nI (zcode (T.im 0).bk T.s.no) := f1
      rw [f1', f5]
      exact fun _ _ => ⟨fun _ => ⟨k2, fun _ => ⟨fun _ => ⟨f2, f3, f4, f6, hstep⟩, fun w => absurd rfl w⟩⟩, fun _ _ _ => ⟨k2, fun _ => ⟨fun _ => ⟨f2, f3, f4, f6, hstep⟩, fun w => absurd rfl w⟩⟩⟩
    · subst e
      have f1' : F1_standing 29 m = nI (zcode (T.im 1).bk T.s.no) := f1
      have n10 : ¬ nI 1 = 0 := by decide
      rw [f1', f5]
      exact fun _ _ => ⟨fun _ => ⟨k2, fun _ => ⟨fun w => absurd w n10, fun _ => ⟨f2, f3, f4, f6, hstep⟩⟩⟩, fun _ _ _ => ⟨k2, fun _ => ⟨fun w => absurd w n10, fun _ => ⟨f2, f3, f4, f6, hstep⟩⟩⟩⟩
  rw [e7]
  dsimp only
  generalize F3_countRows (nI (zcode T.P.bk T.s.no)) (nI n) (F3_survey 1 (nI (zcode (T.im k).bk T.s.no)) m) = m1 at *
  -- the reference
  obtain ⟨q1, q2⟩ := z8_code hw hT.v f8.e f8.q
  obtain ⟨p1, p2⟩ := z8_f68 (v2 := nI n) (v3 := a) (v4 := nI (zcode T.P.bk T.s.no)) hw hQv hk f8.e (f8.im hk hkp) 420 0 (by omega) (by have := hw.no6; omega)
  have p1' : E8_fits_68 420 (nI k) (nI n) a (nI (zcode T.P.bk T.s.no)) 0 0 m1 := p1
  have p2' : (L8_fits_68 420 (nI k) (nI n) a (nI (zcode T.P.bk T.s.no)) 0 0 m1).1 = nI (zcode (T.im k).bk T.s.no) := p2
  obtain ⟨l1, l2, l3, l4⟩ := z8_rows8 (g := zcode T.P.bk T.s.no) hw hT.v f8.e f8.q hn (z_c0 hT)
  have hcl : zcode (T.im k).bk T.s.no < 2 ^ (2 * T.s.no) := zcode_lt _ (fun k' hk' => hQv.bk4 hw hk')
  have h46 := z_no4 hw
  have eix : 4096 * nI n + nI (zcode (T.im k).bk T.s.no) = nI (4096 * n + zcode (T.im k).bk T.s.no) := by rw [z_lit 4096, pk_mul, nI_add]
  have many := l4 n (Nat.le_refl _) _ hcl
  have hb := znr_4 (P := T.P) (g := zcode T.P.bk T.s.no) (t := n) (c := zcode (T.im k).bk T.s.no) hw hn
  have e93 : m1 93 (Int32.toNatClampNeg (nI k)) = zb true := by rw [z_ncl (by omega), f8.kp hk, hkp]
  have j3 : ∀ m', a ≠ 0 → F8_in a.toInt64 10 (Int32.toInt64 (9 + nI n)) m' = zb true := fun m' w => by
    rw [← (ha.resolve_left w).2]
    exact z8_in 10 (9 + n : Nat) rfl (by rw [z_i64, z_lit 9, nI_add, z_nti (by omega)])
  generalize hm2 : F8_layRows (nI n) (nI (zcode T.P.bk T.s.no)) m1 = m2 at *
  have hE2 : zE m2 T.s := f8.e.same (by rw [l2 74 (by omega) (by omega)]) (by rw [l2 74 (by omega) (by omega)]) (by rw [l2 74 (by omega) (by omega)]) (by rw [l2 74 (by omega) (by omega)]) (l2 76 (by omega) (by omega))
  have walk : E8_fits_140 420 (nI k) (nI n) a (nI (zcode T.P.bk T.s.no)) (nI (zcode (T.im k).bk T.s.no)) (nI (znr T.s T.P (zcode T.P.bk T.s.no) n (zcode (T.im k).bk T.s.no))) (-4) 0 m2 ∧ (a ≠ 0 → (L8_fits_140 420 (nI k) (nI n) a (nI (zcode T.P.bk T.s.no)) (nI (zcode (T.im k).bk T.s.no)) (nI (znr T.s T.P (zcode T.P.bk T.s.no) n (zcode (T.im k).bk T.s.no))) (-4) 0 m2).2.1 = zen (ztr T.s T.P (zcode T.P.bk T.s.no) n (zcode (T.im k).bk T.s.no) (a - 10).toNatClampNeg)) := by
    by_cases w : a = 0
    · refine ⟨?_, fun h => absurd w h⟩
      subst w
      exact fun x => absurd (show (0 : Int32) - 10 < 0 by decide) x
    · obtain ⟨r, hr, er⟩ := r10 w
      rw [er, z_ncl (by omega)]
      by_cases w0 : znr T.s T.P (zcode T.P.bk T.s.no) n (zcode (T.im k).bk T.s.no) = 0
      · rw [ztr_0 w0, w0]
        have h00 : nI 0 ≤ 0 := by decide
        refine ⟨fun _ x => absurd h00 x, fun _ => ?_⟩
        show (L8_fits_140 (419 + 1) _ _ _ _ _ _ _ _ _).2.1 = _
        unfold L8_fits_140
        rw [if_pos h00]
        split <;> rfl
      · obtain ⟨u, hu⟩ := ztr_e n _ r hr w0
        obtain ⟨y1, y2⟩ := z8_f140 (v1 := nI k) (v3 := a) (v4 := nI (zcode T.P.bk T.s.no)) (u := u) hw hE2 l3 hn hr er (Nat.pos_of_ne_zero w0) hb l4 420 0 (zcode (T.im k).bk T.s.no) (-4) (by omega) (by omega) (fun _ => ⟨hcl, w0, hu⟩) (fun x => by omega)
        rw [hu]
        exact ⟨y1, fun _ => y2⟩
  have e8 : F8_fits (nI k) (nI n) a m1 = (if a = 0 then nI (znr T.s T.P (zcode T.P.bk T.s.no) n (zcode (T.im k).bk T.s.no)) else zen (ztr T.s T.P (zcode T.P.bk T.s.no) n (zcode (T.im k).bk T.s.no) (a - 10).toNatClampNeg), m2) := by
    unfold F8_fits K8_fits_223
    rw [j1, j2, e93, q2, p2', hm2, eix, z_ncl (by omega), many, if_neg nz, if_neg nz, if_neg nz]
    by_cases w : a = 0
    · rw [if_pos w, if_pos w, if_pos w]
    · rw [if_neg w, if_neg w, if_neg w, j3 m1 w, if_neg nz, walk.2 w]
  have vk : vp_in (nI k) 2 := z_vp hk (by omega)
  have d8 : D8_fits (nI k) (nI n) a m1 := by
    unfold D8_fits
    rw [q2, p2', hm2, eix, z_ncl (show 4096 * n + zcode (T.im k).bk T.s.no < 2147483648 by omega), many]
    exact fun _ _ => ⟨fun _ => ⟨vk, fun _ => ⟨q1, p1', l1, z_vp (by omega) (by omega), walk.1⟩⟩, fun _ _ => ⟨vk, fun _ => ⟨q1, p1', l1, z_vp (by omega) (by omega), walk.1⟩⟩⟩
  rw [e8]
  dsimp only
  exact ⟨d7, d8, rfl, zI.step hT f7 (fun c hc => l2 c (by omega) (by omega)) (f8.of (fun k _ => by rw [l2 74 (by omega) (by omega)]) (fun c h1 _ h3 => l2 c (by unfold zsr at h3; omega) (by unfold zsr at h3; omega)))⟩
theorem zok28 (h : zI m) : OK28 zI m := by
  obtain ⟨T, hT, h7, h8⟩ := id h
  have hw := hT.w
  intro a1 a2 a3
  have i1 : F7_within a1 0 1 m = zb (zwi a1 0 1) := z7_in
  have i2 : F7_within a2 0 4 m = zb (zwi a2 0 4) := z7_in
  have j1 : F8_in a1.toInt64 0 1 m = zb (zwi a1 0 1) := z8_in 0 1 rfl rfl
  have j2 : F8_in a2.toInt64 0 4 m = zb (zwi a2 0 4) := z8_in 0 4 rfl rfl
  cases e1 : zwi a1 0 1 with
  | false =>
    have e7 : F7_fits a1 a2 a3 m = (-1, m) := by unfold F7_fits; rw [i1, e1]; rfl
    have e8 : F8_fits a1 a2 a3 m = (-1, m) := by unfold F8_fits; rw [j1, e1]; rfl
    rw [e7, e8]
    refine ⟨?_, ?_, rfl, h⟩
    · unfold D7_fits; rw [i1, e1]; exact fun q => absurd rfl q
    · unfold D8_fits; rw [j1, e1]; exact fun q => absurd rfl q
  | true =>
    obtain ⟨k, _, hk, rfl⟩ := zwi_t (lo := 0) (hi := 1) e1 (by omega)
    have nz : ¬ zb true = 0 := by decide
    cases e2 : zwi a2 0 4 with
    | false =>
      have e7 : F7_fits (nI k) a2 a3 m = (-1, m) := by unfold F7_fits; rw [i1, e1, i2, e2]; rfl
      have e8 : F8_fits (nI k) a2 a3 m = (-1, m) := by unfold F8_fits; rw [j1, e1, j2, e2]; rfl
      rw [e7, e8]
      refine ⟨?_, ?_, rfl, h⟩
      · unfold D7_fits; rw [i2, e2]; exact fun _ q => absurd rfl q
      · unfold D8_fits; rw [j2, e2]; exact fun _ q => absurd rfl q
    | true =>
      obtain ⟨n, _, hn, rfl⟩ := zwi_t (lo := 0) (hi := 4) e2 (by omega)
      have j3 : F8_in a3.toInt64 10 (Int32.toInt64 (9 + nI n)) m = zb (zwi a3 10 (9 + n : Nat)) := z8_in 10 (9 + n : Nat) rfl (by rw [z_i64, z_lit 9, nI_add, z_nti (by omega)])
      by_cases hask : a3 = 0 ∨ (a3 ≠ 0 ∧ zwi a3 10 (9 + n : Nat) = true)
      · cases ek : T.kp k with
        | true => exact z_fits hT h7 h8 (by omega) ek hn hask
        | false =>
          obtain ⟨k1, k2⟩ := z7_kept h7 (show k < 2 by omega)
          rw [ek] at k1
          have zf : zb false = 0 := rfl
          have e93 : m 93 (Int32.toNatClampNeg (nI k)) = zb false := by rw [z_ncl (by omega), h8.kp (by omega), ek]
          have vk : vp_in (nI k) 2 := z_vp (by omega) (by omega)
          have e7 : F7_fits (nI k) (nI n) a3 m = (-2, m) := by
            unfold F7_fits
            rw [i1, e1, i2, e2, k1, if_neg nz, if_neg nz, if_pos zf]
            by_cases w : a3 = 0
            · rw [if_pos w]
            · have := (z_fask (a := a3) hn).mpr (hask.resolve_left w).2
              rw [if_neg w, if_neg this.1, if_pos this.2]
          have e8 : F8_fits (nI k) (nI n) a3 m = (-2, m) := by
            unfold F8_fits
            rw [j1, e1, j2, e2, e93, if_neg nz, if_neg nz, if_pos zf]
            by_cases w : a3 = 0
            · rw [if_pos w]
            · rw [if_neg w, j3, (hask.resolve_left w).2, if_neg nz]
          rw [e7, e8]
          refine ⟨?_, ?_, rfl, h⟩
          · unfold D7_fits; rw [k1]; exact fun _ _ => ⟨fun _ => ⟨k2, fun w => absurd rfl w⟩, fun _ _ _ => ⟨k2, fun w => absurd rfl w⟩⟩
          · show D8_fits (nI k) (nI n) a3 m
            unfold D8_fits; rw [e93]; exact fun _ _ => ⟨fun _ => ⟨vk, fun w => absurd rfl w⟩, fun _ _ => ⟨vk, fun w => absurd rfl w⟩⟩
      · have n0 : ¬ a3 = 0 := fun w => hask (Or.inl w)
        have nw : zwi a3 10 (9 + n : Nat) = false := by
          cases w : zwi a3 10 (9 + n : Nat) with
          | false => rfl
          | true => exact absurd (Or.inr ⟨n0, w⟩) hask
        have nc : ¬ a3 < 10 → ¬ a3 - 10 < nI n := fun x y => by
          have := (z_fask (a := a3) hn).mp ⟨x, y⟩
          rw [nw] at this; cases this
        have e7 : F7_fits (nI k) (nI n) a3 m = (-1, m) := by
          unfold F7_fits
          rw [i1, e1, i2, e2, if_neg nz, if_neg nz, if_neg n0]
          by_cases w : a3 < 10
          · rw [if_pos w]
          · rw [if_neg w, if_neg (nc w)]
        have e8 : F8_fits (nI k) (nI n) a3 m = (-1, m) := by
          unfold F8_fits
          rw [j1, e1, j2, e2, if_neg nz, if_neg nz, if_neg n0, j3, nw, if_pos (show zb false = 0 from rfl)]
        rw [e7, e8]
        refine ⟨fun _ _ => ⟨fun w => absurd w n0, fun _ x y => absurd y (nc x)⟩, ?_, rfl, h⟩
        unfold D8_fits; rw [j3, nw]; exact fun _ _ => ⟨fun w => absurd w n0, fun _ w => absurd rfl w⟩
end ZH2
