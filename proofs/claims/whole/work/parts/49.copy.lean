/-! PURE: told pairs, images -/
def zdy (d : Nat → Nat) (n b p q : Nat) : Nat → Nat := fun i => if i = 3 * n then b else if i = 3 * n + 1 then p else if i = 3 * n + 2 then q else d i
theorem zdy_ok {s : zS} {n b p q : Nat} {d : Nat → Nat} (h : zDay s n d) (hn : n < 8) (hb : b < s.ng) (hp : p < s.no) (hq : q < s.no) (hne : p ≠ q) : zDay s (n + 1) (zdy d n b p q) := by
  refine ⟨by omega, fun i hi => ?_⟩
  unfold zdy
  by_cases e : i = n
  · subst e
    simp
    exact ⟨hb, hp, hq, hne⟩
  · have := h.2 i (by omega)
    rw [if_neg (by omega), if_neg (by omega), if_neg (by omega), if_neg (by omega), if_neg (by omega), if_neg (by omega), if_neg (by omega), if_neg (by omega), if_neg (by omega)]
    exact this
theorem z7_app {m : ax_M} {g n : Nat} {x y z : Int32} (hn : m g 1 = nI n) (h : n < 8) : F0_append g x y z m = ax_up (ax_up (ax_up (ax_up m (g + 1) (3 * n) x) (g + 1) (3 * n + 1) y) (g + 1) (3 * n + 2) z) g 1 (nI (n + 1)) := by
  have c0 : (3 : Int32) * nI n = nI (3 * n) := by rw [z_lit 3, pk_mul]
  have c1 : (3 : Int32) * nI n + 1 = nI (3 * n + 1) := by rw [c0, z_lit 1, nI_add]
  have c2 : (3 : Int32) * nI n + 2 = nI (3 * n + 2) := by rw [c0, z_lit 2, nI_add]
  have hlt : nI n < 8 := (z_nlt (b := 8) (by omega) (by omega)).mpr h
  unfold F0_append K0_append_40
  rw [hn, if_pos hlt, c0]
  have p0 : F7_put (g + 1) 24 (nI (3 * n)) x m = ax_up m (g + 1) (3 * n) x := z_put (by omega) (by omega)
  rw [p0, z_upr (show g ≠ g + 1 by omega), hn, c1]
  have p1 : F7_put (g + 1) 24 (nI (3 * n + 1)) y (ax_up m (g + 1) (3 * n) x) = ax_up (ax_up m (g + 1) (3 * n) x) (g + 1) (3 * n + 1) y := z_put (by omega) (by omega)
  rw [p1, z_upr (show g ≠ g + 1 by omega), z_upr (show g ≠ g + 1 by omega), hn, c2]
  rw [z_put (i := 3 * n + 2) (by omega) (by omega), z_upr (show g ≠ g + 1 by omega), z_upr (show g ≠ g + 1 by omega), z_upr (show g ≠ g + 1 by omega), hn, z_lit 1, nI_add]
theorem zdy_m {m : ax_M} {c n b p q : Nat} {d : Nat → Nat} (hd : ∀ i, i < 3 * n → m c i = nI (d i)) : ∀ i, i < 3 * (n + 1) → ax_up (ax_up (ax_up m c (3 * n) (nI b)) c (3 * n + 1) (nI p)) c (3 * n + 2) (nI q) c i = nI (zdy d n b p q i) := by
  intro i hi
  unfold zdy
  rw [z_up, z_up, z_up]
  by_cases e0 : i = 3 * n
  · rw [if_neg (by omega), if_neg (by omega), if_pos ⟨rfl, e0⟩, if_pos e0]
  · by_cases e1 : i = 3 * n + 1
    · rw [if_neg (by omega), if_pos ⟨rfl, e1⟩, if_neg e0, if_pos e1]
    · by_cases e2 : i = 3 * n + 2
      · rw [if_pos ⟨rfl, e2⟩, if_neg e0, if_neg e1, if_pos e2]
      · rw [if_neg (by omega), if_neg (by omega), if_neg (by omega), if_neg e0, if_neg e1, if_neg e2]
        exact hd i (by omega)
theorem zok24 {m : ax_M} (h : zI m) : OK24 zI m := by
  obtain ⟨T, hT, h7, h8⟩ := id h
  intro a1 a2 a3
  have hw := hT.w
  have hb := hT.day.1
  have asked : F1_isAsked 1 a1 a2 a3 0 0 m = zb (ztwo T.s a1 a2 a3) := by
    rw [z7_asked hw h7.g, show zwi 0 0 3 = true by decide]
    cases ztwo T.s a1 a2 a3 <;> rfl
  cases e1 : ztwo T.s a1 a2 a3 with
  | false =>
    have e7 : F7_tell a1 a2 a3 m = (-1, m) := by unfold F7_tell; rw [asked, e1]; rfl
    have e8 : F8_tell a1 a2 a3 m = (-1, m) := by unfold F8_tell; rw [z8_two hw h8.e, e1]; rfl
    rw [e7, e8]
    refine ⟨?_, rfl, h⟩
    unfold D8_tell
    rw [z8_two hw h8.e, e1]
    exact fun q => absurd rfl q
  | true =>
    obtain ⟨x, y, z, hx, hy, hz, hn, rfl, rfl, rfl⟩ := ztwo_t hw e1
    by_cases e2 : T.dn < 8
    · have e7 : F7_tell (nI x) (nI y) (nI z) m = (nI (T.dn + 1), ax_up (ax_up (ax_up (ax_up m 40 (3 * T.dn) (nI x)) 40 (3 * T.dn + 1) (nI y)) 40 (3 * T.dn + 2) (nI z)) 39 1 (nI (T.dn + 1))) := by
        unfold F7_tell
        rw [asked, e1, z7_app (g := 39) h7.dn e2, h7.dn]
        have hlt : nI T.dn < 8 := (z_nlt (b := 8) (by omega) (by omega)).mpr e2
        rw [if_neg (show ¬ zb true = 0 by decide), if_pos hlt, z_up, if_pos ⟨rfl, rfl⟩]
      rw [e7]
      have h8' : z8 (ax_up (ax_up (ax_up (ax_up m 40 (3 * T.dn) (nI x)) 40 (3 * T.dn + 1) (nI y)) 40 (3 * T.dn + 2) (nI z)) 39 1 (nI (T.dn + 1))) T := h8.keep (fun c hc => by rw [z_upr (by omega), z_upr (by omega), z_upr (by omega), z_upr (by omega)])
      have h7' : z7 (ax_up (ax_up (ax_up (ax_up m 40 (3 * T.dn) (nI x)) 40 (3 * T.dn + 1) (nI y)) 40 (3 * T.dn + 2) (nI z)) 39 1 (nI (T.dn + 1))) (T.setDay (T.dn + 1) (zdy T.dy T.dn x y z)) := h7.day (fun c _ _ hc => by rw [z_upr (by omega), z_upr (by omega), z_upr (by omega), z_upr (by omega)]) ⟨by rw [z_up, if_pos ⟨rfl, rfl⟩], fun i hi => by rw [z_upr (by omega)]; exact zdy_m (fun i hi => h7.dy hi) i hi⟩
      dsimp only
      generalize ax_up (ax_up (ax_up (ax_up m 40 (3 * T.dn) (nI x)) 40 (3 * T.dn + 1) (nI y)) 40 (3 * T.dn + 2) (nI z)) 39 1 (nI (T.dn + 1)) = m1 at h8' h7'
      have c0 : Int32.toNatClampNeg ((3 : Int32) * nI T.dn) = 3 * T.dn := by rw [z_lit 3, pk_mul, z_ncl (by omega)]
      have c1 : Int32.toNatClampNeg ((3 : Int32) * nI T.dn + 1) = 3 * T.dn + 1 := by rw [z_lit 3, pk_mul, z_lit 1, nI_add, z_ncl (by omega)]
      have c2 : Int32.toNatClampNeg ((3 : Int32) * nI T.dn + 2) = 3 * T.dn + 2 := by rw [z_lit 3, pk_mul, z_lit 2, nI_add, z_ncl (by omega)]
      have ne8 : ¬ nI T.dn = 8 := fun e => by have := (z_neq (b := 8) (by omega) (by omega)).mp e; omega
      have e8 : F8_tell (nI x) (nI y) (nI z) m1 = (nI (T.dn + 1), ax_up (ax_up (ax_up (ax_up m1 77 (3 * T.dn) (nI x)) 77 (3 * T.dn + 1) (nI y)) 77 (3 * T.dn + 2) (nI z)) 74 7 (nI (T.dn + 1))) := by
        unfold F8_tell K8_tell_50 K8_tell_74
        rw [z8_two hw h8'.e, e1, h8'.dn, c0, z_upr (show (74 : Nat) ≠ 77 by omega), h8'.dn, c1, z_upr (show (74 : Nat) ≠ 77 by omega), z_upr (show (74 : Nat) ≠ 77 by omega), h8'.dn, c2, z_upr (show (74 : Nat) ≠ 77 by omega), z_upr (show (74 : Nat) ≠ 77 by omega), z_upr (show (74 : Nat) ≠ 77 by omega), h8'.dn, z_lit 1, nI_add]
        rw [if_neg (show ¬ zb true = 0 by decide), if_neg ne8, z_up, if_pos ⟨rfl, rfl⟩]
      rw [e8]
      refine ⟨?_, rfl, ?_⟩
      · unfold D8_tell HK8_tell_50
        rw [h8'.dn, z_upr (show (74 : Nat) ≠ 77 by omega), h8'.dn, z_upr (show (74 : Nat) ≠ 77 by omega), z_upr (show (74 : Nat) ≠ 77 by omega), h8'.dn]
        refine fun _ _ => ⟨?_, ?_, ?_⟩
        · rw [z_lit 3, pk_mul]; exact z_vp (by omega) (by omega)
        · rw [z_lit 3, pk_mul, z_lit 1, nI_add]; exact z_vp (by omega) (by omega)
        · rw [z_lit 3, pk_mul, z_lit 2, nI_add]; exact z_vp (by omega) (by omega)
      · dsimp only
        refine zI.step (hT.setDay (zdy_ok hT.day e2 hx hy hz hn)) h7' (fun c hc => by rw [z_upr (by omega), z_upr (by omega), z_upr (by omega), z_upr (by omega)]) ?_
        exact h8'.day (fun k _ hk => by rw [z_up, if_neg (by omega), z_upr (by omega), z_upr (by omega), z_upr (by omega)]) (fun c _ _ _ _ => by rw [z_upr (by omega), z_upr (by omega), z_upr (by omega), z_upr (by omega)]) ⟨by rw [z_up, if_pos ⟨rfl, rfl⟩], fun i hi => by rw [z_upr (by omega)]; exact zdy_m (fun i hi => h8'.dy hi) i hi⟩
    · have e3 : T.dn = 8 := by omega
      have e7 : F7_tell (nI x) (nI y) (nI z) m = (-3, m) := by
        unfold F7_tell
        rw [asked, e1, h7.dn, e3]; rfl
      have e8 : F8_tell (nI x) (nI y) (nI z) m = (-3, m) := by
        unfold F8_tell
        rw [z8_two hw h8.e, e1, h8.dn, e3]; rfl
      rw [e7, e8]
      refine ⟨?_, rfl, h⟩
      unfold D8_tell
      dsimp only
      rw [h8.dn, e3]
      exact fun _ q => absurd rfl q
theorem z_cpyr {k0 n k1 a : Nat} {m : ax_M} (h : a ≠ k1) : F7_copyRow k0 n k1 n m a = m a := by
  unfold F7_copyRow; rw [if_neg h]
theorem z_cpys {k0 n k1 b : Nat} {m : ax_M} (h : b < n) : F7_copyRow k0 n k1 n m k1 b = m k0 b := by rw [z_cpy rfl, if_pos ⟨rfl, h⟩]
theorem z7_copy {m : ax_M} {g g1 : Nat} {s : zS} {P : zP} (hs : zW s) (h : zG m g1 s P) (hd : g1 + 8 < g ∨ g + 8 < g1) : zG (F1_copyFrom g g1 m) g s P ∧ ∀ c, (c < g ∨ g + 8 < c) → F1_copyFrom g g1 m c = m c := by
  have a1 := hs.ng4
  have a2 := hs.no6
  have hne : g1 ≠ g := by omega
  unfold F1_copyFrom K1_copyFrom_16 K1_copyFrom_32 K1_copyFrom_62 K1_copyFrom_84 K1_copyFrom_106
  rw [z_upr hne, z_upr hne, z_upr hne, z_upr hne, z_upr hne, z_upr hne, z_upr hne, z_upr hne, z_upr hne, z_upr hne]
  obtain ⟨h0, h1, h2, h3, h4, h5, h6, h7, h8, h9, h10, h11, h12⟩ := h
  refine ⟨⟨?_, ?_, ?_, ?_, ?_, ?_, ?_, ?_, ?_, ?_, ?_, ?_, ?_⟩, fun c hc => ?_⟩
  · rw [z_cpyr (by omega), z_cpyr (by omega), z_cpyr (by omega), z_cpyr (by omega), z_cpyr (by omega), z_cpyr (by omega), z_cpyr (by omega), z_cpyr (by omega)]; simp [z_up, h0]
  · rw [z_cpyr (by omega), z_cpyr (by omega), z_cpyr (by omega), z_cpyr (by omega), z_cpyr (by omega), z_cpyr (by omega), z_cpyr (by omega), z_cpyr (by omega)]; simp [z_up, h1]
  · rw [z_cpyr (by omega), z_cpyr (by omega), z_cpyr (by omega), z_cpyr (by omega), z_cpyr (by omega), z_cpyr (by omega), z_cpyr (by omega), z_cpyr (by omega)]; simp [z_up, h2]
  · rw [z_cpyr (by omega), z_cpyr (by omega), z_cpyr (by omega), z_cpyr (by omega), z_cpyr (by omega), z_cpyr (by omega), z_cpyr (by omega), z_cpyr (by omega)]; simp [z_up, h3]
  · rw [z_cpyr (by omega), z_cpyr (by omega), z_cpyr (by omega), z_cpyr (by omega), z_cpyr (by omega), z_cpyr (by omega), z_cpyr (by omega), z_cpyr (by omega)]; simp [z_up, h4]
  · intro k hk; rw [z_cpyr (by omega), z_cpyr (by omega), z_cpyr (by omega), z_cpyr (by omega), z_cpyr (by omega), z_cpyr (by omega), z_cpyr (by omega), z_cpys (by omega), z_upr (by omega), z_upr (by omega), z_upr (by omega), z_upr (by omega), z_upr (by omega)]; exact h5 k hk
  · intro k hk; rw [z_cpyr (by omega), z_cpyr (by omega), z_cpyr (by omega), z_cpyr (by omega), z_cpyr (by omega), z_cpyr (by omega), z_cpys (by omega), z_cpyr (by omega), z_upr (by omega), z_upr (by omega), z_upr (by omega), z_upr (by omega), z_upr (by omega)]; exact h6 k hk
  · intro k hk; rw [z_cpyr (by omega), z_cpyr (by omega), z_cpyr (by omega), z_cpyr (by omega), z_cpyr (by omega), z_cpys (by omega), z_cpyr (by omega), z_cpyr (by omega), z_upr (by omega), z_upr (by omega), z_upr (by omega), z_upr (by omega), z_upr (by omega)]; exact h7 k hk
  · intro k hk; rw [z_cpyr (by omega), z_cpyr (by omega), z_cpyr (by omega), z_cpyr (by omega), z_cpys (by omega), z_cpyr (by omega), z_cpyr (by omega), z_cpyr (by omega), z_upr (by omega), z_upr (by omega), z_upr (by omega), z_upr (by omega), z_upr (by omega)]; exact h8 k hk
  · intro k hk; rw [z_cpyr (by omega), z_cpyr (by omega), z_cpyr (by omega), z_cpys (by omega), z_cpyr (by omega), z_cpyr (by omega), z_cpyr (by omega), z_cpyr (by omega), z_upr (by omega), z_upr (by omega), z_upr (by omega), z_upr (by omega), z_upr (by omega)]; exact h9 k hk
  · intro k hk; rw [z_cpyr (by omega), z_cpyr (by omega), z_cpys (by omega), z_cpyr (by omega), z_cpyr (by omega), z_cpyr (by omega), z_cpyr (by omega), z_cpyr (by omega), z_upr (by omega), z_upr (by omega), z_upr (by omega), z_upr (by omega), z_upr (by omega)]; exact h10 k hk
  · intro k hk; rw [z_cpyr (by omega), z_cpys (by omega), z_cpyr (by omega), z_cpyr (by omega), z_cpyr (by omega), z_cpyr (by omega), z_cpyr (by omega), z_cpyr (by omega), z_upr (by omega), z_upr (by omega), z_upr (by omega), z_upr (by omega), z_upr (by omega)]; exact h11 k hk
  · intro k hk; rw [z_cpys (by omega), z_cpyr (by omega), z_cpyr (by omega), z_cpyr (by omega), z_cpyr (by omega), z_cpyr (by omega), z_cpyr (by omega), z_cpyr (by omega), z_upr (by omega), z_upr (by omega), z_upr (by omega), z_upr (by omega), z_upr (by omega)]; exact h12 k hk
  · rw [z_cpyr (by omega), z_cpyr (by omega), z_cpyr (by omega), z_cpyr (by omega), z_cpyr (by omega), z_cpyr (by omega), z_cpyr (by omega), z_cpyr (by omega), z_upr (by omega), z_upr (by omega), z_upr (by omega), z_upr (by omega), z_upr (by omega)]
theorem z8_copies {a b : Nat} (hd : a + 33 ≤ b ∨ b + 33 ≤ a) (ha : a + 33 ≤ 132) (hb : b + 33 ≤ 132) : ∀ (n k : Nat) (m : ax_M), k ≤ 33 → 33 - k < n → E8_copies_2 n (nI a) (nI b) (nI k) m ∧ (∀ c, c ≠ 75 → (L8_copies_2 n (nI a) (nI b) (nI k) m).2 c = m c) ∧ (∀ j, (j < b + k ∨ b + 33 ≤ j) → (L8_copies_2 n (nI a) (nI b) (nI k) m).2 75 j = m 75 j) ∧ (∀ j, k ≤ j → j < 33 → (L8_copies_2 n (nI a) (nI b) (nI k) m).2 75 (b + j) = m 75 (a + j)) := by
  intro n
  induction n with
  | zero => intro k m _ h; omega
  | succ n ih =>
    intro k m hk hn
    unfold L8_copies_2 E8_copies_2
    by_cases e : k = 33
    · subst e
      rw [if_pos (show (33 : Int32) ≤ nI 33 by decide)]
      exact ⟨fun q => absurd (show (33 : Int32) ≤ nI 33 by decide) q, fun c _ => rfl, fun j _ => rfl, fun j _ _ => by omega⟩
    · have hlt : ¬ (33 : Int32) ≤ nI k := fun q => by have := (z_nle (a := 33) (by omega) (by omega)).mp q; omega
      rw [if_neg hlt, nI_add, nI_add, z_ncl (by omega), z_ncl (by omega), z_lit 1, nI_add]
      obtain ⟨i1, i2, i3, i4⟩ := ih (k + 1) (ax_up m 75 (b + k) (m 75 (a + k))) (by omega) (by omega)
      refine ⟨fun _ => ⟨z_vp (by omega) (by omega), z_vp (by omega) (by omega), i1⟩, fun c hc => by rw [i2 c hc, z_upr hc], fun j hj => ?_, fun j h1 h2 => ?_⟩
      · rw [i3 j (by omega), z_up, if_neg (by omega)]
      · by_cases e2 : j = k
        · subst e2
          rw [i3 (b + j) (by omega), z_up, if_pos ⟨rfl, rfl⟩]
        · rw [i4 j (by omega) h2, z_up, if_neg (by omega)]
theorem zQ.copy {m m' : ax_M} {a b : Nat} {s : zS} {P : zP} (hs : zW s) (h : zQ m a s P) (e : ∀ j, j < 33 → m' 75 (b + j) = m 75 (a + j)) : zQ m' b s P := by
  have a1 := hs.ng4
  have a2 := hs.no6
  obtain ⟨h0, h1, h2, h3, h4, h5, h6⟩ := h
  exact ⟨by rw [e _ (by omega)]; exact h0, fun k hk => by rw [e _ (by omega)]; exact h1 k hk, fun k hk => by rw [e _ (by omega)]; exact h2 k hk, fun k hk => by rw [e _ (by omega)]; exact h3 k hk, fun k hk => by rw [e _ (by omega)]; exact h4 k hk, fun k hk => by rw [e _ (by omega)]; exact h5 k hk, fun k hk => by rw [e _ (by omega)]; exact h6 k hk⟩
