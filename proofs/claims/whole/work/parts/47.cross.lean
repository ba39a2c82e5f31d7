/-! PURE: a crossing -/
def zgo (s : zS) (P : zP) (b p q i j : Nat) : zP := ((((P.set 5 p (s.sc b)).set 5 q (s.fs b)).set 1 (s.fs b) (P.hp (s.fs b) - i + j)).set 1 (s.sc b) (P.hp (s.sc b) - j + i)).set 0 0 (P.cr + 1)
def zsw (s : zS) (P : zP) (b p q : Nat) : zP := (P.set 5 p (s.sc b)).set 5 q (s.fs b)
def zroom (s : zS) (P : zP) (b i j : Nat) : Bool := decide (P.cr < 999 ∧ P.hp (s.fs b) - i + j ≤ 20 ∧ P.hp (s.sc b) - j + i ≤ 20)
def zcross (s : zS) (P : zP) (b p q i j : Nat) : Int32 × zP := if zcan s P b p q i j = true then (if zroom s P b i j = true then (nI (P.cr + 1), zgo s P b p q i j) else (-3, P)) else (-4, P)
theorem zcan_t {s : zS} {P : zP} {b p q i j : Nat} (h : zcan s P b p q i j = true) : P.bk p = s.fs b ∧ P.bk q = s.sc b ∧ i ≤ P.hp (s.fs b) ∧ j ≤ P.hp (s.sc b) := by
  unfold zcan zpair at h
  simp only [Bool.and_eq_true, decide_eq_true_eq] at h
  exact ⟨h.1.1.1.1, h.1.1.1.2, h.1.2.2.2.1, h.1.2.2.2.2⟩
theorem zgo_sw {s : zS} {P : zP} {b p q : Nat} : zgo s P b p q 0 0 = (zsw s P b p q).set 0 0 (P.cr + 1) := by
  funext a c
  unfold zgo zsw zP.set
  by_cases h0 : a = 0
  · subst h0; simp
  · by_cases h1 : a = 1
    · subst h1
      simp
      by_cases e1 : c = s.sc b
      · rw [if_pos e1, e1]; rfl
      · rw [if_neg e1]
        by_cases e2 : c = s.fs b
        · rw [if_pos e2, e2]; rfl
        · rw [if_neg e2]
    · simp [h0, h1]
theorem zgo_or {s : zS} {P : zP} {b p q i j x y : Nat} : ((((P.set 1 (s.fs b) x).set 1 (s.sc b) y).set 5 p (s.sc b)).set 5 q (s.fs b)) = ((((P.set 5 p (s.sc b)).set 5 q (s.fs b)).set 1 (s.fs b) x).set 1 (s.sc b) y) := by
  funext a c
  unfold zP.set
  by_cases h1 : a = 1
  · subst h1; simp
  · by_cases h5 : a = 5
    · subst h5; simp
    · simp [h1, h5]
theorem zV.go {s : zS} {P : zP} {b p q i j : Nat} (hs : zW s) (h : zV s P) (hb : b < s.ng) (h1 : P.hp (s.fs b) - i + j ≤ 20) (h2 : P.hp (s.sc b) - j + i ≤ 20) : zV s (zgo s P b p q i j) :=
  zV.set0 (zV.set1 (zV.set1 (zV.set5 (zV.set5 h (hs.sc hb)) (hs.fs hb)) (hs.fs hb) h1) (hs.sc hb) h2)
theorem zV.sw {s : zS} {P : zP} {b p q : Nat} (hs : zW s) (h : zV s P) (hb : b < s.ng) : zV s (zsw s P b p q) := zV.set5 (zV.set5 h (hs.sc hb)) (hs.fs hb)
section ZF
variable {m : ax_M} {g : Nat} {s : zS} {P : zP} {b p q i j : Nat}
theorem z_msub {h i j : Nat} (hi : i ≤ h) : nI h - nI i + nI j = nI (h - i + j) := by rw [pk_sub hi, nI_add]
theorem z_madd {h i j : Nat} (hi : i ≤ h) (hh : h ≤ 1000) (hj : j ≤ 1000) : nI h + (nI j - nI i) = nI (h - i + j) := by
  have e : (nI j - nI i).toInt = (j : Int) - i := pk_sub_toInt (by omega) (by omega)
  rw [z_eq, z_add, e, z_nti (by omega), z_nti (by omega)]
  · omega
  · rw [e, z_nti (by omega)]; omega
  · rw [e, z_nti (by omega)]; omega
theorem z7_go (hs : zW s) (hG : zG m g s P) (hb : b < s.ng) (hp : p < s.no) (hq : q < s.no) (hi : i ≤ P.hp (s.fs b)) (hj : j ≤ P.hp (s.sc b)) : zG (F1_go g (nI b) (nI p) (nI q) (nI i) (nI j) m) g s (zgo s P b p q i j) ∧ ∀ c, (c < g ∨ g + 8 < c) → F1_go g (nI b) (nI p) (nI q) (nI i) (nI j) m c = m c := by
  have h3 := hs.fs hb
  have h4 := hs.sc hb
  have h5 := hs.nb4
  have h6 := hs.no6
  have h7 := hs.ne hb
  have e1 : F7_put (g + 7) 6 (nI p) (nI (s.sc b)) m = ax_up m (g + 7) p (nI (s.sc b)) := z_put (by omega) (by omega)
  have G1 : zG (ax_up m (g + 7) p (nI (s.sc b))) g s (P.set 5 p (s.sc b)) := zG.set5 hG
  have K1 : ∀ c, (c < g ∨ g + 8 < c) → ax_up m (g + 7) p (nI (s.sc b)) c = m c := fun c hc => z_upr (by omega)
  unfold F1_go K1_go_34 K1_go_70 F1_setStones
  rw [z7_first hs hG hb, z7_second hs hG hb, e1]
  generalize ax_up m (g + 7) p (nI (s.sc b)) = m1 at G1 K1
  have e2 : F7_put (g + 7) 6 (nI q) (nI (s.fs b)) m1 = ax_up m1 (g + 7) q (nI (s.fs b)) := z_put (by omega) (by omega)
  have G2 : zG (ax_up m1 (g + 7) q (nI (s.fs b))) g s ((P.set 5 p (s.sc b)).set 5 q (s.fs b)) := zG.set5 G1
  have K2 : ∀ c, (c < g ∨ g + 8 < c) → ax_up m1 (g + 7) q (nI (s.fs b)) c = m c := fun c hc => by rw [z_upr (by omega)]; exact K1 c hc
  rw [e2]
  generalize ax_up m1 (g + 7) q (nI (s.fs b)) = m2 at G2 K2
  have e3 : F1_stonesOn g (nI (s.fs b)) m2 = nI (P.hp (s.fs b)) := z7_stones G2 (by omega)
  rw [e3, z_msub hi]
  have e4 : F7_put (g + 1) 4 (nI (s.fs b)) (nI (P.hp (s.fs b) - i + j)) m2 = ax_up m2 (g + 1) (s.fs b) (nI (P.hp (s.fs b) - i + j)) := z_put (by omega) (by omega)
  have G3 : zG (ax_up m2 (g + 1) (s.fs b) (nI (P.hp (s.fs b) - i + j))) g s (((P.set 5 p (s.sc b)).set 5 q (s.fs b)).set 1 (s.fs b) (P.hp (s.fs b) - i + j)) := zG.set1 G2
  have K3 : ∀ c, (c < g ∨ g + 8 < c) → ax_up m2 (g + 1) (s.fs b) (nI (P.hp (s.fs b) - i + j)) c = m c := fun c hc => by rw [z_upr (by omega)]; exact K2 c hc
  rw [e4]
  generalize ax_up m2 (g + 1) (s.fs b) (nI (P.hp (s.fs b) - i + j)) = m3 at G3 K3
  have e : (((P.set 5 p (s.sc b)).set 5 q (s.fs b)).set 1 (s.fs b) (P.hp (s.fs b) - i + j)).hp (s.sc b) = P.hp (s.sc b) := by
    show (if 1 = 1 ∧ s.sc b = s.fs b then _ else P 1 (s.sc b)) = _
    rw [if_neg (fun q => h7 q.2.symm)]; rfl
  have e5 : F1_stonesOn g (nI (s.sc b)) m3 = nI (P.hp (s.sc b)) := by rw [z7_stones G3 (by omega), e]
  rw [e5, z_msub hj]
  have e6 : F7_put (g + 1) 4 (nI (s.sc b)) (nI (P.hp (s.sc b) - j + i)) m3 = ax_up m3 (g + 1) (s.sc b) (nI (P.hp (s.sc b) - j + i)) := z_put (by omega) (by omega)
  have G4 : zG (ax_up m3 (g + 1) (s.sc b) (nI (P.hp (s.sc b) - j + i))) g s ((((P.set 5 p (s.sc b)).set 5 q (s.fs b)).set 1 (s.fs b) (P.hp (s.fs b) - i + j)).set 1 (s.sc b) (P.hp (s.sc b) - j + i)) := zG.set1 G3
  have K4 : ∀ c, (c < g ∨ g + 8 < c) → ax_up m3 (g + 1) (s.sc b) (nI (P.hp (s.sc b) - j + i)) c = m c := fun c hc => by rw [z_upr (by omega)]; exact K3 c hc
  rw [e6]
  generalize ax_up m3 (g + 1) (s.sc b) (nI (P.hp (s.sc b) - j + i)) = m4 at G4 K4
  have e7 : m4 g 4 + 1 = nI (P.cr + 1) := by rw [G4.cr, z_lit 1, nI_add]; rfl
  rw [e7]
  exact ⟨zG.set0 G4, fun c hc => by rw [z_upr (by omega)]; exact K4 c hc⟩
theorem z7_try (hs : zW s) (hP : zV s P) (hG : zG m g s P) (hb : b < s.ng) (hp : p < s.no) (hq : q < s.no) (hn : p ≠ q) (hi : i ≤ 3) (hj : j ≤ 3) (hc : P.cr ≤ 999) : F1_tryCrossing g (nI b) (nI p) (nI q) (nI i) (nI j) m = if zcan s P b p q i j = true then (if zroom s P b i j = true then (F1_go g (nI b) (nI p) (nI q) (nI i) (nI j) m g 4, F1_go g (nI b) (nI p) (nI q) (nI i) (nI j) m) else (-3, m)) else (-4, m) := by
  have h3 := hs.fs hb
  have h4 := hs.sc hb
  have h5 := hs.nb4
  have h8 := hP.hp (show s.fs b < 4 by omega)
  have h9 := hP.hp (show s.sc b < 4 by omega)
  have a1 : zwi (nI i) 0 3 = true := by unfold zwi; rw [z_nti (by omega)]; exact decide_eq_true (by omega)
  have a2 : zwi (nI j) 0 3 = true := by unfold zwi; rw [z_nti (by omega)]; exact decide_eq_true (by omega)
  unfold F1_tryCrossing
  generalize F1_go g (nI b) (nI p) (nI q) (nI i) (nI j) m = mg
  rw [z7_asked hs hG, ztwo_i hs hb hp hq hn, a1, a2, z7_passes hs hP hG hb hp hq (by omega) (by omega), decide_eq_true hn]
  cases hcan : zcan s P b p q i j with
  | false => rfl
  | true =>
    obtain ⟨_, _, c3, c4⟩ := zcan_t hcan
    rw [z7_first hs hG hb, z7_second hs hG hb, z7_stones hG (by omega), z7_stones hG (by omega), z_msub c3, z_msub c4, hG.cr]
    have c1 : (nI P.cr < 999) ↔ P.cr < 999 := z_nlt (b := 999) (by omega) (by omega)
    have c2 : (nI (P.hp (s.fs b) - i + j) ≤ 20) ↔ P.hp (s.fs b) - i + j ≤ 20 := z_nle (b := 20) (by omega) (by omega)
    have c5 : (nI (P.hp (s.sc b) - j + i) ≤ 20) ↔ P.hp (s.sc b) - j + i ≤ 20 := z_nle (b := 20) (by omega) (by omega)
    simp only [c1, c2, c5, zroom]
    by_cases q1 : P.cr < 999 <;> by_cases q2 : P.hp (s.fs b) - i + j ≤ 20 <;> by_cases q3 : P.hp (s.sc b) - j + i ≤ 20 <;> simp [q1, q2, q3, zb]
theorem z7_cross (hs : zW s) (hP : zV s P) (hc : P.cr ≤ 999) (hG : zG m g s P) (hb : b < s.ng) (hp : p < s.no) (hq : q < s.no) (hn : p ≠ q) (hi : i ≤ 3) (hj : j ≤ 3) : (F1_tryCrossing g (nI b) (nI p) (nI q) (nI i) (nI j) m).1 = (zcross s P b p q i j).1 ∧ zG (F1_tryCrossing g (nI b) (nI p) (nI q) (nI i) (nI j) m).2 g s (zcross s P b p q i j).2 ∧ ∀ c, (c < g ∨ g + 8 < c) → (F1_tryCrossing g (nI b) (nI p) (nI q) (nI i) (nI j) m).2 c = m c := by
  rw [z7_try hs hP hG hb hp hq hn hi hj hc]
  unfold zcross
  cases hcan : zcan s P b p q i j with
  | false => exact ⟨rfl, hG, fun c _ => rfl⟩
  | true =>
    cases hr : zroom s P b i j with
    | false => exact ⟨rfl, hG, fun c _ => rfl⟩
    | true =>
      obtain ⟨_, _, c3, c4⟩ := zcan_t hcan
      obtain ⟨G, K⟩ := z7_go hs hG hb hp hq c3 c4
      generalize F1_go g (nI b) (nI p) (nI q) (nI i) (nI j) m = mg at G K
      exact ⟨G.cr, G, K⟩
theorem z7_crossno {a1 a2 a3 a4 a5 : Int32} (hs : zW s) (hG : zG m g s P) (h : (ztwo s a1 a2 a3 && zwi a4 0 3 && zwi a5 0 3) = false) : F1_tryCrossing g a1 a2 a3 a4 a5 m = (-1, m) := by
  unfold F1_tryCrossing
  rw [z7_asked hs hG, h]; rfl
theorem z8_crossno {a1 a2 a3 a4 a5 : Int32} (hs : zW s) (hE : zE m s) (h : (ztwo s a1 a2 a3 && zwi a4 0 3 && zwi a5 0 3) = false) : F8_crosses a1 a2 a3 a4 a5 m = (-1, m) ∧ D8_crosses a1 a2 a3 a4 a5 m := by
  have hi4 : F8_in a4.toInt64 0 3 m = zb (zwi a4 0 3) := z8_in 0 3 rfl rfl
  have hi5 : F8_in a5.toInt64 0 3 m = zb (zwi a5 0 3) := z8_in 0 3 rfl rfl
  constructor
  · unfold F8_crosses
    rw [z8_two hs hE, hi4, hi5]
    revert h
    cases ztwo s a1 a2 a3 <;> cases zwi a4 0 3 <;> cases zwi a5 0 3 <;> intro h <;> first | rfl | cases h
  · unfold D8_crosses
    rw [z8_two hs hE, hi4, hi5, zb_n, zb_n, zb_n]
    intro q1 q2 q3
    rw [q1, q2, q3] at h
    cases h
theorem z8_swp (hs : zW s) (hE : zE m s) (hb : b < s.ng) (hp : p < s.no) (hq : q < s.no) : F8_swaps (nI b) (nI p) (nI q) m = ax_up (ax_up m 75 (4 * p + 2) (nI (s.sc b))) 75 (4 * q + 2) (nI (s.fs b)) ∧ D8_swaps (nI b) (nI p) (nI q) m := by
  have h6 := hs.no6
  have c1 : Int32.toNatClampNeg ((4 : Int32) * nI p + 2) = 4 * p + 2 := by rw [z_lit 4, z_lit 2, pk_mul, nI_add, z_ncl (by omega)]
  have c2 : Int32.toNatClampNeg ((4 : Int32) * nI q + 2) = 4 * q + 2 := by rw [z_lit 4, z_lit 2, pk_mul, nI_add, z_ncl (by omega)]
  constructor
  · unfold F8_swaps K8_swaps_20
    rw [z8_second hs hE hb, z_upr (show (76 : Nat) ≠ 75 by omega), z8_first hs hE hb, c1, c2]
  · exact ⟨z8_vs hs hb, z8_v4 (c := 2) hs hp (by omega), z8_vf hs hb, z8_v4 (c := 2) hs hq (by omega)⟩
theorem z8_crs (hs : zW s) (hP : zV s P) (hc : P.cr ≤ 999) (hE : zE m s) (hQ : zQ m 0 s P) (hb : b < s.ng) (hp : p < s.no) (hq : q < s.no) (hn : p ≠ q) (hi : i ≤ 3) (hj : j ≤ 3) : F8_crosses (nI b) (nI p) (nI q) (nI i) (nI j) m = (if zcan s P b p q i j = true then (if zroom s P b i j = true then (nI (P.cr + 1), ax_up (ax_up (ax_up (ax_up (ax_up m 75 (24 + s.fs b) (nI (P.hp (s.fs b) - i + j))) 75 (24 + s.sc b) (nI (P.hp (s.sc b) - j + i))) 75 (4 * p + 2) (nI (s.sc b))) 75 (4 * q + 2) (nI (s.fs b))) 75 32 (nI (P.cr + 1))) else (-3, m)) else (-4, m)) ∧ D8_crosses (nI b) (nI p) (nI q) (nI i) (nI j) m := by
  have h3 := hs.fs hb
  have h4 := hs.sc hb
  have h5 := hs.nb4
  have h6 := hs.no6
  have h7 := hs.ne hb
  have h8 := hP.hp (show s.fs b < 4 by omega)
  have h9 := hP.hp (show s.sc b < 4 by omega)
  have a1 : zwi (nI i) 0 3 = true := by unfold zwi; rw [z_nti (by omega)]; exact decide_eq_true (by omega)
  have a2 : zwi (nI j) 0 3 = true := by unfold zwi; rw [z_nti (by omega)]; exact decide_eq_true (by omega)
  have hi4 : F8_in (nI i).toInt64 0 3 m = zb (zwi (nI i) 0 3) := z8_in 0 3 rfl rfl
  have hi5 : F8_in (nI j).toInt64 0 3 m = zb (zwi (nI j) 0 3) := z8_in 0 3 rfl rfl
  have e24 : ∀ k, k < 4 → Int32.toNatClampNeg ((24 : Int32) + nI k) = 24 + k := fun k hk => by rw [z_lit 24, nI_add, z_ncl (by omega)]
  have e32 : Int32.toNatClampNeg (32 : Int32) = 32 := by rw [z_lit 32, z_ncl (by omega)]
  unfold F8_crosses D8_crosses
  rw [z8_two hs hE, ztwo_i hs hb hp hq hn, hi4, hi5, a1, a2, z8_can hs hP hE hQ hb hp hq (by omega) (by omega)]
  cases hcan : zcan s P b p q i j with
  | false => exact ⟨rfl, fun _ _ _ => ⟨z8_dcan hs hE hb hp hq, fun q => absurd rfl q⟩⟩
  | true =>
    obtain ⟨_, _, c3, c4⟩ := zcan_t hcan
    rw [z8_first hs hE hb, z8_second hs hE hb, e24 _ (by omega), e24 _ (by omega), hQ.hp (by omega), hQ.hp (by omega), z_msub c3, z_msub c4, e32, hQ.cr, z_madd c3 (by omega) (by omega)]
    have c1 : (nI P.cr = 999) ↔ P.cr = 999 := z_neq (b := 999) (by omega) (by omega)
    have c2 : ((20 : Int32) < nI (P.hp (s.fs b) - i + j)) ↔ 20 < P.hp (s.fs b) - i + j := z_nlt (a := 20) (by omega) (by omega)
    have c5 : (nI (P.hp (s.sc b) - j + i) ≤ 20) ↔ P.hp (s.sc b) - j + i ≤ 20 := z_nle (b := 20) (by omega) (by omega)
    have Q1 : zQ (ax_up m 75 (24 + s.fs b) (nI (P.hp (s.fs b) - i + j))) 0 s (P.set 1 (s.fs b) (P.hp (s.fs b) - i + j)) := zQ.set1 hs hQ (by omega)
    have E1 : zE (ax_up m 75 (24 + s.fs b) (nI (P.hp (s.fs b) - i + j))) s := hE.same (by rw [z_upr (by omega)]) (by rw [z_upr (by omega)]) (by rw [z_upr (by omega)]) (by rw [z_upr (by omega)]) (by rw [z_upr (by omega)])
    generalize hm1 : ax_up m 75 (24 + s.fs b) (nI (P.hp (s.fs b) - i + j)) = m1 at Q1 E1
    have e : (P.set 1 (s.fs b) (P.hp (s.fs b) - i + j)).hp (s.sc b) = P.hp (s.sc b) := by
      show (if 1 = 1 ∧ s.sc b = s.fs b then _ else P 1 (s.sc b)) = _
      rw [if_neg (fun q => h7 q.2.symm)]; rfl
    have x1 := Q1.hp (k := s.sc b) (by omega)
    rw [e] at x1
    have Q2 : zQ (ax_up m1 75 (24 + s.sc b) (nI (P.hp (s.sc b) - j + i))) 0 s ((P.set 1 (s.fs b) (P.hp (s.fs b) - i + j)).set 1 (s.sc b) (P.hp (s.sc b) - j + i)) := zQ.set1 hs Q1 (by omega)
    have E2 : zE (ax_up m1 75 (24 + s.sc b) (nI (P.hp (s.sc b) - j + i))) s := E1.same (by rw [z_upr (by omega)]) (by rw [z_upr (by omega)]) (by rw [z_upr (by omega)]) (by rw [z_upr (by omega)]) (by rw [z_upr (by omega)])
    unfold K8_crosses_150 K8_crosses_165 K8_crosses_183 HK8_crosses_150 HK8_crosses_165
    rw [e24 _ (by omega), x1, z_madd c4 (by omega) (by omega), e32]
    generalize hm2 : ax_up m1 75 (24 + s.sc b) (nI (P.hp (s.sc b) - j + i)) = m2 at Q2 E2
    obtain ⟨w1, w2⟩ := z8_swp hs E2 hb hp hq
    rw [w1]
    have Q4 : zQ (ax_up (ax_up m2 75 (4 * p + 2) (nI (s.sc b))) 75 (4 * q + 2) (nI (s.fs b))) 0 s (((((P.set 1 (s.fs b) (P.hp (s.fs b) - i + j)).set 1 (s.sc b) (P.hp (s.sc b) - j + i))).set 5 p (s.sc b)).set 5 q (s.fs b)) := zQ.set5 hs (zQ.set5 hs Q2 hp) hq
    generalize hm4 : ax_up (ax_up m2 75 (4 * p + 2) (nI (s.sc b))) 75 (4 * q + 2) (nI (s.fs b)) = m4 at Q4
    have x2 : m4 75 32 + 1 = nI (P.cr + 1) := by rw [Q4.cr, z_lit 1, nI_add]; rfl
    rw [x2]
    have x3 : ax_up m4 75 32 (nI (P.cr + 1)) 75 32 = nI (P.cr + 1) := by rw [z_up, if_pos ⟨rfl, rfl⟩]
    rw [x3]
    refine ⟨?_, fun _ _ _ => ⟨z8_dcan hs hE hb hp hq, fun _ => ⟨z8_vf hs hb, z8_vs hs hb, fun _ => ⟨z8_vstones (by omega), fun _ => ⟨z8_vstones (by omega), fun _ => ⟨z8_vstones (by omega), z8_vstones (by omega), z8_vstones (by omega), z8_vstones (by omega), w2⟩⟩⟩⟩⟩⟩
    have hz : zroom s P b i j = decide (¬ P.cr = 999 ∧ ¬ 20 < P.hp (s.fs b) - i + j ∧ P.hp (s.sc b) - j + i ≤ 20) := by
      unfold zroom
      rw [decide_eq_decide]; omega
    rw [hz]
    simp only [c1, c2, c5]
    by_cases q1 : P.cr = 999 <;> by_cases q2 : 20 < P.hp (s.fs b) - i + j <;> by_cases q3 : P.hp (s.sc b) - j + i ≤ 20 <;> simp [q1, q2, q3, zb]
theorem z8_cross (hs : zW s) (hP : zV s P) (hc : P.cr ≤ 999) (hE : zE m s) (hQ : zQ m 0 s P) (hb : b < s.ng) (hp : p < s.no) (hq : q < s.no) (hn : p ≠ q) (hi : i ≤ 3) (hj : j ≤ 3) : (F8_crosses (nI b) (nI p) (nI q) (nI i) (nI j) m).1 = (zcross s P b p q i j).1 ∧ zQ (F8_crosses (nI b) (nI p) (nI q) (nI i) (nI j) m).2 0 s (zcross s P b p q i j).2 ∧ (∀ c, c ≠ 75 → (F8_crosses (nI b) (nI p) (nI q) (nI i) (nI j) m).2 c = m c) ∧ (∀ k, 33 ≤ k → (F8_crosses (nI b) (nI p) (nI q) (nI i) (nI j) m).2 75 k = m 75 k) := by
  have h3 := hs.fs hb
  have h4 := hs.sc hb
  have h5 := hs.nb4
  have h6 := hs.no6
  rw [(z8_crs hs hP hc hE hQ hb hp hq hn hi hj).1]
  unfold zcross
  cases hcan : zcan s P b p q i j with
  | false => exact ⟨rfl, hQ, fun c _ => rfl, fun k _ => rfl⟩
  | true =>
    cases hr : zroom s P b i j with
    | false => exact ⟨rfl, hQ, fun c _ => rfl, fun k _ => rfl⟩
    | true =>
      rw [if_pos rfl, if_pos rfl]
      refine ⟨rfl, ?_, fun c hc => ?_, fun k hk => ?_⟩
      · have Q2 := zQ.set1 (k := s.sc b) (v := P.hp (s.sc b) - j + i) hs (zQ.set1 (k := s.fs b) (v := P.hp (s.fs b) - i + j) hs hQ (by omega)) (by omega)
        have Q4 := zQ.set5 (k := q) (v := s.fs b) hs (zQ.set5 (k := p) (v := s.sc b) hs Q2 hp) hq
        rw [zgo_or (i := i) (j := j)] at Q4
        exact zQ.set0 hs Q4
      · dsimp only
        rw [z_upr hc, z_upr hc, z_upr hc, z_upr hc, z_upr hc]
      · dsimp only
        rw [z_up, if_neg (by omega), z_up, if_neg (by omega), z_up, if_neg (by omega), z_up, if_neg (by omega), z_up, if_neg (by omega)]
theorem zcross_v (hs : zW s) (hP : zV s P) (hc : P.cr ≤ 999) (hb : b < s.ng) : zV s (zcross s P b p q i j).2 ∧ (zcross s P b p q i j).2.cr ≤ 999 := by
  unfold zcross
  cases zcan s P b p q i j with
  | false => exact ⟨hP, hc⟩
  | true =>
    cases h : zroom s P b i j with
    | false => exact ⟨hP, hc⟩
    | true =>
      unfold zroom at h
      have := of_decide_eq_true h
      refine ⟨hP.go hs hb this.2.1 this.2.2, ?_⟩
      show P.cr + 1 ≤ 999
      omega
theorem zok14 (h : zI m) : OK14 zI m := by
  obtain ⟨T, hT, h7, h8⟩ := id h
  intro a1 a2 a3 a4 a5
  have hw := hT.w
  unfold F7_cross F8_cross D8_cross
  cases e1 : ztwo T.s a1 a2 a3 && zwi a4 0 3 && zwi a5 0 3 with
  | false =>
    rw [z7_crossno hw h7.g e1]
    obtain ⟨x1, x2⟩ := z8_crossno hw h8.e e1
    rw [x1]
    exact ⟨x2, rfl, h⟩
  | true =>
    simp only [Bool.and_eq_true] at e1
    obtain ⟨⟨e1, e4⟩, e5⟩ := e1
    obtain ⟨x, y, z, hx, hy, hz, hn, rfl, rfl, rfl⟩ := ztwo_t hw e1
    obtain ⟨i, _, hi, rfl⟩ := zwi_t (lo := 0) (hi := 3) e4 (by omega)
    obtain ⟨j, _, hj, rfl⟩ := zwi_t (lo := 0) (hi := 3) e5 (by omega)
    obtain ⟨r1, r2, r3⟩ := z7_cross hw hT.v hT.cr h7.g hx hy hz hn hi hj
    generalize F1_tryCrossing 1 (nI x) (nI y) (nI z) (nI i) (nI j) m = R at r1 r2 r3
    have h8' := h8.keep (m' := R.2) (fun c hc => r3 c (by omega))
    have h7' := h7.now (m' := R.2) (fun c _ _ hc => r3 c (by omega)) r2
    dsimp only
    obtain ⟨w1, w2, w3, w4⟩ := z8_cross hw hT.v hT.cr h8'.e h8'.q hx hy hz hn hi hj
    have w5 := (z8_crs hw hT.v hT.cr h8'.e h8'.q hx hy hz hn hi hj).2
    generalize F8_crosses (nI x) (nI y) (nI z) (nI i) (nI j) R.2 = R2 at w1 w2 w3 w4
    obtain ⟨v1, v2⟩ := zcross_v (p := y) (q := z) (i := i) (j := j) hw hT.v hT.cr hx
    refine ⟨w5, by rw [r1, w1], ?_⟩
    exact zI.step (hT.setP v1 v2) h7' (fun c hc => w3 c (by omega)) (h8'.now hw (fun k _ => by rw [w3 74 (by omega)]) (fun c _ _ _ => w3 c (by omega)) (fun k hk _ => w4 k hk) w2)
end ZF
