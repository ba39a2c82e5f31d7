/-! PURE: the reference's lines -/
/-- which banks, bridges, people a draft names -/
def zNB (D : zD) (x : Nat) : Prop := (x < 4 ∧ 0 < D.P.hp x) ∨ (∃ b, b < D.s.ng ∧ (D.s.fs b = x ∨ D.s.sc b = x)) ∨ ∃ p, p < D.s.no ∧ (D.P.bk p = x ∨ D.P.gl p = x)
def zNG (D : zD) (x : Nat) : Prop := ∃ i, i < D.dn ∧ D.dy (3 * i) = x
def zNO (D : zD) (x : Nat) : Prop := ∃ i, i < D.dn ∧ (D.dy (3 * i + 1) = x ∨ D.dy (3 * i + 2) = x)
/-- h - 1 is the highest that N has -/
def zHh (N : Nat → Prop) (h : Nat) : Prop := (∀ x, N x → x < h) ∧ (0 < h → N (h - 1))
def zmx (h v : Nat) : Nat := if v + 1 ≤ h then h else v + 1
theorem zmx_i {h v : Nat} (hh : h ≤ 100) (hv : v ≤ 100) : (if nI v ≤ nI h - 1 then nI h - 1 else nI v) = nI (zmx h v) - 1 := by
  unfold zmx
  have e1 : (nI h - 1).toInt = (h : Int) - 1 := by
    have := pk_sub_toInt (a := h) (b := 1) (by omega) (by omega)
    exact this
  have c : (nI v ≤ nI h - 1) ↔ v + 1 ≤ h := by rw [z_le, e1, z_nti (by omega)]; omega
  simp only [c]
  by_cases w : v + 1 ≤ h
  · rw [if_pos w, if_pos w]
  · rw [if_neg w, if_neg w, nI_pred]
theorem zmx_h {N N' : Nat → Prop} {h v : Nat} (hh : zHh N h) (hN : ∀ x, N' x ↔ (N x ∨ x = v)) : zHh N' (zmx h v) := by
  unfold zmx
  by_cases w : v + 1 ≤ h
  · rw [if_pos w]
    refine ⟨fun x hx => ?_, fun h0 => (hN _).mpr (Or.inl (hh.2 h0))⟩
    rcases (hN x).mp hx with y | y
    · exact hh.1 x y
    · omega
  · rw [if_neg w]
    refine ⟨fun x hx => ?_, fun _ => (hN _).mpr (Or.inr (by omega))⟩
    rcases (hN x).mp hx with y | y
    · have := hh.1 x y; omega
    · omega
section ZN2
variable {m m0 : ax_M} {d : Nat → Nat} {n i p0 : Nat} {D : zD}
/-- the reference's draft -/
def z8d (m : ax_M) (D : zD) : Prop := (m 74 11 = nI D.s.ng ∧ m 74 12 = nI D.s.no ∧ m 74 13 = nI D.dn ∧ m 74 14 = nI D.s.nb ∧ m 74 15 = nI D.s.sw ∧ m 74 16 = nI ((if D.tb = true then 1 else 0) + (if D.ts = true then 2 else 0))) ∧ (∃ H, m 74 17 = nI H ∧ H < 16 ∧ ∀ k, k < 4 → H.testBit k = decide (0 < D.P.hp k)) ∧ zQ (fun _ => m 78) 0 D.s D.P ∧ (∀ b, b < D.s.ng → m 79 (2 * b) = nI (D.s.fs b) ∧ m 79 (2 * b + 1) = nI (D.s.sc b)) ∧ (∀ i, i < 3 * D.dn → m 80 i = nI (D.dy i))
def z8h (m : ax_M) (hb hg ho : Nat) : Prop := m 74 18 = nI hb - 1 ∧ m 74 19 = nI hg - 1 ∧ m 74 20 = nI ho - 1 ∧ hb ≤ 4 ∧ hg ≤ 4 ∧ ho ≤ 6
def z8H (m : ax_M) (D : zD) : Prop := ∃ hb hg ho, z8h m hb hg ho ∧ zHh (zNB D) hb ∧ zHh (zNG D) hg ∧ zHh (zNO D) ho
def z8X (m m' : ax_M) : Prop := (∀ c, c ≠ 74 → c ≠ 78 → c ≠ 79 → c ≠ 80 → m' c = m c) ∧ ∀ j, ¬ (11 ≤ j ∧ j ≤ 20) → ¬ (24 ≤ j ∧ j ≤ 29) → m' 74 j = m 74 j
/-- steps and highs alone have changed -/
def z8G (m m' : ax_M) : Prop := (∀ c, c ≠ 74 → m' c = m c) ∧ ∀ j, ¬ (18 ≤ j ∧ j ≤ 20) → ¬ (24 ≤ j ∧ j ≤ 29) → m' 74 j = m 74 j
theorem z8F.gg {m m' : ax_M} (h : z8F m m') : z8G m m' := ⟨h.1, fun j h1 h2 => h.2 j (by omega)⟩
theorem z8G.tr {m1 m2 m3 : ax_M} (h : z8G m1 m2) (h' : z8G m2 m3) : z8G m1 m3 := ⟨fun c hc => by rw [h'.1 c hc, h.1 c hc], fun j h1 h2 => by rw [h'.2 j h1 h2, h.2 j h1 h2]⟩
theorem z8G.x {m1 m2 : ax_M} (h : z8G m1 m2) (hX : z8X m0 m1) : z8X m0 m2 := ⟨fun c c1 c2 c3 c4 => by rw [h.1 c c1]; exact hX.1 c c1 c2 c3 c4, fun j j1 j2 => by rw [h.2 j (by omega) j2]; exact hX.2 j j1 j2⟩
theorem z8G.t {m1 m2 : ax_M} (h : z8G m1 m2) (hT : z8T m1 n d) : z8T m2 n d := by
  unfold z8T; rw [h.2 22 (by omega) (by omega), h.1 81 (by omega)]; exact hT
theorem z8G.nn {m1 m2 : ax_M} (h : z8G m1 m2) (hN : z8N m1) : z8N m2 := by
  unfold z8N; rw [h.1 82 (by omega), h.1 83 (by omega)]; exact hN
theorem z8G.dd {m1 m2 : ax_M} (h : z8G m1 m2) (hD : z8d m1 D) : z8d m2 D := by
  unfold z8d
  rw [h.2 11 (by omega) (by omega), h.2 12 (by omega) (by omega), h.2 13 (by omega) (by omega), h.2 14 (by omega) (by omega), h.2 15 (by omega) (by omega), h.2 16 (by omega) (by omega), h.2 17 (by omega) (by omega), h.1 78 (by omega), h.1 79 (by omega), h.1 80 (by omega)]
  exact hD
theorem z8G.up {m1 m2 : ax_M} (h : z8G m1 m2) {j : Nat} {x : Int32} (h1 : 18 ≤ j) (h2 : j ≤ 20) : z8G m1 (ax_up m2 74 j x) := ⟨fun c hc => by rw [z_upr hc, h.1 c hc], fun k k1 k2 => by rw [z_up, if_neg (by omega), h.2 k k1 k2]⟩
theorem z8G.rf {m : ax_M} : z8G m m := ⟨fun _ _ => rfl, fun _ _ _ => rfl⟩
def z8O (m0 : ax_M) (d : Nat → Nat) (n : Nat) (m : ax_M) : zR → Prop
  | Sum.inl x => m 74 24 = nI x.1 ∧ m 74 25 = nI x.2 ∧ 0 < x.1 ∧ x.1 < 10 ∧ z8X m0 m
  | Sum.inr x => z8d m x.1 ∧ z8H m x.1 ∧ z8T m n d ∧ z8N m ∧ z8X m0 m ∧ z8S m d n x.2 ∧ x.2 ≤ n
/-- the reference broke -/
def z8B (m : ax_M) (f a : Nat) : Prop := m 74 24 = nI f ∧ m 74 25 = nI a ∧ 0 < f ∧ f < 10
theorem z8B.up {f a : Nat} (h : z8B m f a) {c j : Nat} {x : Int32} (h1 : c ≠ 74 ∨ (j ≠ 24 ∧ j ≠ 25)) : z8B (ax_up m c j x) f a := by
  obtain ⟨a1, a2, a3⟩ := h
  exact ⟨by rw [z_up, if_neg (by omega)]; exact a1, by rw [z_up, if_neg (by omega)]; exact a2, a3⟩
theorem z8B.st {f a : Nat} (h : z8B m f a) : D8_step m ∧ F8_step m = m := z8_stepN h.1 h.2.2.1 (by have := h.2.2.2; omega)
theorem z8B.ot {f a : Nat} (h : z8B m f a) {lo hi S : Int32} : D8_other lo hi S m ∧ F8_other lo hi S m = (lo, m) := z8_numN h.1 h.2.2.1 (by have := h.2.2.2; omega)
theorem z8B.bk {f a : Nat} (h : z8B m f a) {S : Int32} : D8_bank S m ∧ ∃ y, F8_bank S m = (0, ax_up m 74 18 y) := by
  obtain ⟨o1, o2⟩ := h.ot (lo := 0) (hi := 3) (S := S)
  refine ⟨o1, ?_⟩
  unfold F8_bank K8_bank_28
  rw [o2]
  exact ⟨_, rfl⟩
theorem z8B.on {f a : Nat} (h : z8B m f a) {S : Int32} : D8_oneOf S m ∧ ∃ y, F8_oneOf S m = (0, ax_up m 74 20 y) := by
  obtain ⟨o1, o2⟩ := h.ot (lo := 0) (hi := 5) (S := S)
  refine ⟨o1, ?_⟩
  unfold F8_oneOf K8_oneOf_28
  rw [o2]
  exact ⟨_, rfl⟩
theorem z8_bN {lo hi S : Nat} {κ : Int32 → ax_M → ax_M} {δ : Int32 → ax_M → Prop} {k : Nat → Nat → Nat → zR} (hn : n ≤ 320) (hd : ∀ i, i < n → d i < 256) (hl : lo < 1000) (hh : hi < 1000) (hS2 : S < 2 ^ 31) (hi' : i ≤ n) (hT : z8T m n d) (hS : z8S m d n i) (hs : ∀ M f a, z8F m M → z8B M f a → δ (nI lo) M ∧ z8O m0 d n (κ (nI lo) M) (Sum.inl (f, a))) (hb : ∀ v a e, v < 31 → S.testBit v = true → k v a e = Sum.inl (4, a)) (hk : ∀ v a e M, lo ≤ v → v ≤ hi → ¬ (v < 31 ∧ S.testBit v = true) → e ≤ n → z8F m M → z8S M d n e → δ (nI v) M ∧ z8O m0 d n (κ (nI v) M) (k v a e)) : D8_other (nI lo) (nI hi) (nI S) m ∧ δ (F8_other (nI lo) (nI hi) (nI S) m).1 (F8_other (nI lo) (nI hi) (nI S) m).2 ∧ z8O m0 d n (κ (F8_other (nI lo) (nI hi) (nI S) m).1 (F8_other (nI lo) (nI hi) (nI S) m).2) (zbN d n lo hi i k) := by
  obtain ⟨a1, a2, a3, a4, a5⟩ := z8_num hn hd hT hS hi' hl hh hS2
  obtain ⟨p1, p2, p3, p4, p5⟩ := zNu_p (d := d) (lo := lo) (hi := hi) hi'
  refine ⟨a1, ?_⟩
  unfold zbN
  by_cases w : (zNu d n lo hi i).1 = 0
  · obtain ⟨q1, q2, q3, q4⟩ := p5 w
    rw [if_pos w]
    by_cases wb : (zNu d n lo hi i).2.2.1 < 31 ∧ S.testBit (zNu d n lo hi i).2.2.1 = true
    · obtain ⟨b1, b2, b3⟩ := a4 w wb
      rw [b1, hb _ _ _ wb.1 wb.2]
      exact hs _ 4 _ a2 ⟨b2, b3, by omega, by omega⟩
    · obtain ⟨b1, b2⟩ := a3 w wb
      rw [b1]
      exact hk _ _ _ _ q2 q3 wb p3 a2 b2
  · obtain ⟨b1, b2, b3⟩ := a5 w
    rw [if_neg w, b1]
    exact hs _ _ _ a2 ⟨b2, b3, by omega, by omega⟩
/-- where the token breaks, any number does -/
theorem zbN_5 {lo hi : Nat} {k : Nat → Nat → Nat → zR} (h : (zTk d n i).2.2 = 5) : zbN d n lo hi i k = Sum.inl (1, (zTk d n i).1) := by
  have : (zNu d n lo hi i).1 = 1 := by unfold zNu; rw [if_pos h]
  unfold zbN
  rw [if_neg (by omega), this]
  rfl
theorem z8S.up (h : z8S m d n i) {c j : Nat} {x : Int32} (hc : c ≠ 74 ∨ j < 24 ∨ 29 < j) : z8S (ax_up m c j x) d n i := by
  have e : ∀ k, 24 ≤ k → k ≤ 29 → ax_up m c j x 74 k = m 74 k := fun k k1 k2 => by rw [z_up, if_neg (by omega)]
  unfold z8S
  rw [e 27 (by omega) (by omega), e 24 (by omega) (by omega), e 25 (by omega) (by omega), e 26 (by omega) (by omega), e 28 (by omega) (by omega), e 29 (by omega) (by omega)]
  exact h
theorem z8_bk {S hb hg ho : Nat} {κ : Int32 → ax_M → ax_M} {δ : Int32 → ax_M → Prop} {k : Nat → Nat → Nat → zR} (hn : n ≤ 320) (hd : ∀ i, i < n → d i < 256) (hS2 : S < 2 ^ 31) (hi' : i ≤ n) (hT : z8T m n d) (hS : z8S m d n i) (hH : z8h m hb hg ho) (hs : ∀ M f a, z8G m M → z8B M f a → δ (nI 0) M ∧ z8O m0 d n (κ (nI 0) M) (Sum.inl (f, a))) (hbad : ∀ v a e, v < 31 → S.testBit v = true → k v a e = Sum.inl (4, a)) (hk : ∀ v a e M, v ≤ 3 → ¬ (v < 31 ∧ S.testBit v = true) → e ≤ n → z8G m M → z8S M d n e → z8h M (zmx hb v) hg ho → δ (nI v) M ∧ z8O m0 d n (κ (nI v) M) (k v a e)) : D8_bank (nI S) m ∧ δ (F8_bank (nI S) m).1 (F8_bank (nI S) m).2 ∧ z8O m0 d n (κ (F8_bank (nI S) m).1 (F8_bank (nI S) m).2) (zbN d n 0 3 i k) := by
  refine z8_bN (lo := 0) (hi := 3) (κ := fun x M => κ x (ax_up M 74 18 (if x ≤ (M 74 18) then (M 74 18 : Int32) else x))) (δ := fun x M => δ x (ax_up M 74 18 (if x ≤ (M 74 18) then (M 74 18 : Int32) else x))) hn hd (by omega) (by omega) hS2 hi' hT hS (fun M f a hF hB => hs _ f a (hF.gg.up (by omega) (by omega)) (hB.up (by omega))) hbad (fun v a e M _ hv hnb he hF hS' => ?_)
  obtain ⟨h1, h2, h3, h4, h5, h6⟩ := hH
  have e18 : M 74 18 = nI hb - 1 := by rw [hF.2 18 (by omega)]; exact h1
  rw [e18, zmx_i (by omega) (by omega)]
  refine hk v a e _ hv hnb he (hF.gg.up (by omega) (by omega)) ?_ ⟨by rw [z_up, if_pos ⟨rfl, rfl⟩], by rw [z_up, if_neg (by omega), hF.2 19 (by omega)]; exact h2, by rw [z_up, if_neg (by omega), hF.2 20 (by omega)]; exact h3, by unfold zmx; split <;> omega, h5, h6⟩
  exact hS'.up (by omega)
theorem z8_on {S hb hg ho : Nat} {κ : Int32 → ax_M → ax_M} {δ : Int32 → ax_M → Prop} {k : Nat → Nat → Nat → zR} (hn : n ≤ 320) (hd : ∀ i, i < n → d i < 256) (hS2 : S < 2 ^ 31) (hi' : i ≤ n) (hT : z8T m n d) (hS : z8S m d n i) (hH : z8h m hb hg ho) (hs : ∀ M f a, z8G m M → z8B M f a → δ (nI 0) M ∧ z8O m0 d n (κ (nI 0) M) (Sum.inl (f, a))) (hbad : ∀ v a e, v < 31 → S.testBit v = true → k v a e = Sum.inl (4, a)) (hk : ∀ v a e M, v ≤ 5 → ¬ (v < 31 ∧ S.testBit v = true) → e ≤ n → z8G m M → z8S M d n e → z8h M hb hg (zmx ho v) → δ (nI v) M ∧ z8O m0 d n (κ (nI v) M) (k v a e)) : D8_oneOf (nI S) m ∧ δ (F8_oneOf (nI S) m).1 (F8_oneOf (nI S) m).2 ∧ z8O m0 d n (κ (F8_oneOf (nI S) m).1 (F8_oneOf (nI S) m).2) (zbN d n 0 5 i k) := by
  refine z8_bN (lo := 0) (hi := 5) (κ := fun x M => κ x (ax_up M 74 20 (if x ≤ (M 74 20) then (M 74 20 : Int32) else x))) (δ := fun x M => δ x (ax_up M 74 20 (if x ≤ (M 74 20) then (M 74 20 : Int32) else x))) hn hd (by omega) (by omega) hS2 hi' hT hS (fun M f a hF hB => hs _ f a (hF.gg.up (by omega) (by omega)) (hB.up (by omega))) hbad (fun v a e M _ hv hnb he hF hS' => ?_)
  obtain ⟨h1, h2, h3, h4, h5, h6⟩ := hH
  have e20 : M 74 20 = nI ho - 1 := by rw [hF.2 20 (by omega)]; exact h3
  rw [e20, zmx_i (by omega) (by omega)]
  refine hk v a e _ hv hnb he (hF.gg.up (by omega) (by omega)) ?_ ⟨by rw [z_up, if_neg (by omega), hF.2 18 (by omega)]; exact h1, by rw [z_up, if_neg (by omega), hF.2 19 (by omega)]; exact h2, by rw [z_up, if_pos ⟨rfl, rfl⟩], h4, h5, by unfold zmx; split <;> omega⟩
  exact hS'.up (by omega)
theorem z8X.up (h : z8X m0 m) {c j : Nat} {x : Int32} (hc : c = 78 ∨ c = 79 ∨ c = 80 ∨ (c = 74 ∧ 11 ≤ j ∧ j ≤ 20)) : z8X m0 (ax_up m c j x) := by
  refine ⟨fun c' h1 h2 h3 h4 => ?_, fun j' h1 h2 => ?_⟩
  · rw [z_upr (by omega)]; exact h.1 c' h1 h2 h3 h4
  · rw [z_up, if_neg (by omega)]; exact h.2 j' h1 h2
theorem z8T.x (h : z8T m n d) {c j : Nat} {x : Int32} (hc : c = 78 ∨ c = 79 ∨ c = 80 ∨ (c = 74 ∧ 11 ≤ j ∧ j ≤ 20)) : z8T (ax_up m c j x) n d := by
  unfold z8T at *
  rw [z_up, if_neg (by omega), z_upr (by omega)]; exact h
theorem z8N.x (h : z8N m) {c j : Nat} {x : Int32} (hc : c < 82) : z8N (ax_up m c j x) := by
  unfold z8N at *
  rw [z_upr (by omega), z_upr (by omega)]; exact h
/-- all that a line begins with -/
def z8Q (m0 : ax_M) (d : Nat → Nat) (n : Nat) (D : zD) (m : ax_M) : Prop := z8d m D ∧ z8H m D ∧ z8T m n d ∧ z8N m ∧ z8X m0 m
/-- the name's token is here -/
def z8P (m : ax_M) (p0 i : Nat) : Prop := m 74 24 = 0 ∧ m 74 27 = nI p0 ∧ m 74 26 = nI i
theorem z8_brk {f : Nat} {c : Int32} (h : z8P m p0 i) (hc : c = nI f) (h0 : 0 < f) (h1 : f < 10) : z8B (F8_fails c m) f p0 ∧ z8G m (F8_fails c m) := by
  rw [hc, z8_fail0 h.1, h.2.1]
  exact ⟨⟨by rw [z_up, if_neg (by omega), z_up, if_pos ⟨rfl, rfl⟩], by rw [z_up, if_pos ⟨rfl, rfl⟩], h0, h1⟩, ((z8F.rf.up (by omega) (by omega)).up (by omega) (by omega)).gg⟩
theorem z8_once {nm : Int32} {b : Nat} (hnm : nm = nI b) (hb : b < 2) (hn : n ≤ 320) (hd : ∀ i, i < n → d i < 256) (hi' : i ≤ n) (hQ : z8Q m0 d n D m) (hP : z8P m p0 i) : D8_readOnce nm m ∧ z8O m0 d n (F8_readOnce nm m) (if b = 0 then zlB d n D p0 i (fun D e => Sum.inr (D, e)) else zlS d n D p0 i (fun D e => Sum.inr (D, e))) := by
  obtain ⟨hD, ⟨hb', hg', ho', hH, nB, nG, nO⟩, hT, hN, hX⟩ := hQ
  obtain ⟨⟨q11, q12, q13, q14, q15, q16⟩, q17, qP, qE, qY⟩ := id hD
  unfold D8_readOnce F8_readOnce HK8_readOnce_17 K8_readOnce_17 HK8_readOnce_29 K8_readOnce_29 K8_readOnce_48
  subst hnm
  generalize htd : (if D.tb = true then 1 else 0) + (if D.ts = true then 2 else 0) = td at *
  have htd4 : td < 4 := by rw [← htd]; split <;> split <;> omega
  have tbit : td.testBit b = if b = 0 then D.tb else D.ts := by
    rw [← htd]
    rcases (show b = 0 ∨ b = 1 by omega) with e | e <;> subst e <;> cases D.tb <;> cases D.ts <;> rfl
  have tor : td ||| 2 ^ b = (if (if b = 0 then true else D.tb) = true then 1 else 0) + (if (if b = 0 then D.ts else true) = true then 2 else 0) := by
    rw [← htd]
    rcases (show b = 0 ∨ b = 1 by omega) with e | e <;> subst e <;> cases D.tb <;> cases D.ts <;> rfl
  have c1 : ((m 74 16 >>> (nI b &&& (31 : Int32))) &&& 1 = 1) ↔ td.testBit b = true := by
    rw [q16, z_shr (by omega) (by omega), z_lit 1, z_and, show td / 2 ^ b &&& 1 = td / 2 ^ b % 2 from Nat.and_one_is_mod _, z_neq (by omega) (by omega), Nat.testBit_eq_decide_div_mod_eq, decide_eq_true_eq]
  have c0 : (nI b = 0) ↔ b = 0 := z_neq (b := 0) (by omega) (by omega)
  by_cases w : td.testBit b = true
  · rw [if_pos (c1.mpr w)]
    obtain ⟨f1, f2⟩ := z8_brk (c := 4) hP rfl (f := 4) (by omega) (by omega)
    generalize F8_fails 4 m = m1 at *
    have f3 : z8B (ax_up m1 74 16 ((m1 74 16) ||| ((1 : Int32) <<< (nI b &&& (31 : Int32))))) 4 p0 := f1.up (by omega)
    have x3 : z8X m0 (ax_up m1 74 16 ((m1 74 16) ||| ((1 : Int32) <<< (nI b &&& (31 : Int32))))) := (f2.x hX).up (by omega)
    generalize (ax_up m1 74 16 ((m1 74 16) ||| ((1 : Int32) <<< (nI b &&& (31 : Int32))))) = m2 at *
    obtain ⟨s1, s2⟩ := f3.st
    rw [s2]
    obtain ⟨o1, o2⟩ := f3.ot (lo := 2) (hi := 4) (S := 0)
    obtain ⟨o3, o4⟩ := f3.ot (lo := 1) (hi := 9) (S := 0)
    rw [o2, o4]
    refine ⟨⟨s1, fun _ => o1, fun _ => o3⟩, ?_⟩
    simp only [c0]
    rw [tbit] at w
    by_cases e : b = 0
    · rw [if_pos e] at w
      rw [if_pos e, if_pos e]
      unfold zlB
      rw [if_pos w]
      have := f3.up (c := 74) (j := 14) (x := 2) (by omega)
      exact ⟨this.1, this.2.1, by show 0 < 4; omega, by show 4 < 10; omega, x3.up (by omega)⟩
    · rw [if_neg e] at w
      rw [if_neg e, if_neg e]
      unfold zlS
      rw [if_pos w]
      have := f3.up (c := 74) (j := 15) (x := 1) (by omega)
      exact ⟨this.1, this.2.1, by show 0 < 4; omega, by show 4 < 10; omega, x3.up (by omega)⟩
  · rw [if_neg (fun x => w (c1.mp x)), q16, z_tor (by omega), tor]
    generalize hm2 : ax_up m 74 16 (nI ((if (if b = 0 then true else D.tb) = true then 1 else 0) + (if (if b = 0 then D.ts else true) = true then 2 else 0))) = m2
    have T2 : z8T m2 n d := by rw [← hm2]; exact hT.x (by omega)
    have N2 : z8N m2 := by rw [← hm2]; exact hN.x (by omega)
    have X2 : z8X m0 m2 := by rw [← hm2]; exact hX.up (by omega)
    have e16 : m2 74 16 = nI ((if (if b = 0 then true else D.tb) = true then 1 else 0) + (if (if b = 0 then D.ts else true) = true then 2 else 0)) := by rw [← hm2, z_up, if_pos ⟨rfl, rfl⟩]
    have ne16 : ∀ j, j ≠ 16 → m2 74 j = m 74 j := fun j hj => by rw [← hm2, z_up, if_neg (by omega)]
    have ne74 : ∀ c, c ≠ 74 → m2 c = m c := fun c hc => by rw [← hm2, z_upr hc]
    obtain ⟨s1, s2, s3⟩ := z8_step hn hd T2 (by rw [ne16 24 (by omega)]; exact hP.1) (by rw [ne16 26 (by omega)]; exact hP.2.2) hi'
    have T3 := s2.t T2
    simp only [c0]
    have key : ∀ (lo hi sl : Nat) (mk : Nat → zD), (∀ v, (mk v).s.ng = D.s.ng ∧ (mk v).s.no = D.s.no ∧ (mk v).dn = D.dn ∧ (mk v).P = D.P ∧ (mk v).s.fs = D.s.fs ∧ (mk v).s.sc = D.s.sc ∧ (mk v).dy = D.dy) → (sl = 14 ∨ sl = 15) → (∀ v, (mk v).s.nb = (if sl = 14 then v else D.s.nb) ∧ (mk v).s.sw = (if sl = 14 then D.s.sw else v) ∧ (mk v).tb = (if b = 0 then true else D.tb) ∧ (mk v).ts = (if b = 0 then D.ts else true)) → lo < 1000 → hi < 1000 → D8_other (nI lo) (nI hi) 0 (F8_step m2) ∧ z8O m0 d n (ax_up (F8_other (nI lo) (nI hi) 0 (F8_step m2)).2 74 sl (F8_other (nI lo) (nI hi) 0 (F8_step m2)).1) (zbN d n lo hi i (fun v _ e => Sum.inr (mk v, e))) := fun lo hi sl mk h1 h2 h3 h4 h5 => by
      have t := z8_bN (lo := lo) (hi := hi) (S := 0) (m0 := m0) (κ := fun x M => ax_up M 74 sl x) (δ := fun _ _ => True) (k := fun v _ e => Sum.inr (mk v, e)) hn hd h4 h5 (by omega) hi' T3 s3 (fun M f a hF hB => ⟨trivial, by
        have := hB.up (c := 74) (j := sl) (x := nI lo) (by omega)
        exact ⟨this.1, this.2.1, this.2.2.1, this.2.2.2, (hF.gg.x (s2.gg.x X2)).up (by omega)⟩⟩) (fun v a e _ hv => by rw [Nat.zero_testBit] at hv; cases hv) (fun v a e M _ _ _ he hF hS' => ⟨trivial, by
        have g1 : z8G m2 M := s2.gg.tr hF.gg
        obtain ⟨y1, y2, y3, y4, y5, y6, y7⟩ := h1 v
        obtain ⟨u1, u2, u3, u4⟩ := h3 v
        have sl1 : ∀ j, j ≠ sl → j ≠ 16 → ¬ (18 ≤ j ∧ j ≤ 20) → ¬ (24 ≤ j ∧ j ≤ 29) → (ax_up M 74 sl (nI v)) 74 j = m 74 j := fun j j1 j2 j3 j4 => by rw [z_up, if_neg (by omega), g1.2 j j3 j4, ne16 j j2]
        have hc1 : ∀ c, c ≠ 74 → (ax_up M 74 sl (nI v)) c = m c := fun c hc => by rw [z_upr hc, g1.1 c hc, ne74 c hc]
        have hh1 : ∀ j, 18 ≤ j → j ≤ 20 → (ax_up M 74 sl (nI v)) 74 j = m 74 j := fun j j1 j2 => by rw [z_up, if_neg (by omega), hF.2 j (by omega), s2.2 j (by omega), ne16 j (by omega)]
        refine ⟨⟨⟨?_, ?_, ?_, ?_, ?_, ?_⟩, ?_, ?_, ?_, ?_⟩, ?_, (hF.t T3).x (by omega), ((g1.nn N2)).x (by omega), ((g1.x X2)).up (by omega), hS'.up (by omega), he⟩
        · rw [sl1 11 (by omega) (by omega) (by omega) (by omega), y1]; exact q11
        · rw [sl1 12 (by omega) (by omega) (by omega) (by omega), y2]; exact q12
        · rw [sl1 13 (by omega) (by omega) (by omega) (by omega), y3]; exact q13
        · rw [u1]
          rcases h2 with e | e
          · rw [if_pos e, z_up, if_pos ⟨rfl, by omega⟩]
          · rw [if_neg (by omega), sl1 14 (by omega) (by omega) (by omega) (by omega)]; exact q14
        · rw [u2]
          rcases h2 with e | e
          · rw [if_pos e, sl1 15 (by omega) (by omega) (by omega) (by omega)]; exact q15
          · rw [if_neg (by omega), z_up, if_pos ⟨rfl, by omega⟩]
        · rw [z_up, if_neg (by omega), g1.2 16 (by omega) (by omega), e16, u3, u4]
        · rw [sl1 17 (by omega) (by omega) (by omega) (by omega), y4]; exact q17
        · rw [hc1 78 (by omega)]
          obtain ⟨z1, z2, z3, z4, z5, z6, z7⟩ := qP
          unfold zQ
          rw [y1, y2, y4]
          exact ⟨z1, z2, z3, z4, z5, z6, z7⟩
        · rw [hc1 79 (by omega), y1, y5, y6]; exact qE
        · rw [hc1 80 (by omega), y3, y7]; exact qY
        · refine ⟨hb', hg', ho', ⟨by rw [hh1 18 (by omega) (by omega)]; exact hH.1, by rw [hh1 19 (by omega) (by omega)]; exact hH.2.1, by rw [hh1 20 (by omega) (by omega)]; exact hH.2.2.1, hH.2.2.2⟩, ?_, ?_, ?_⟩
          · have : zNB (mk v) = zNB D := by funext x; unfold zNB; rw [y1, y2, y4, y5, y6]
            rw [this]; exact nB
          · have : zNG (mk v) = zNG D := by funext x; unfold zNG; rw [y3, y7]
            rw [this]; exact nG
          · have : zNO (mk v) = zNO D := by funext x; unfold zNO; rw [y3, y7]
            rw [this]; exact nO⟩)
      exact ⟨t.1, t.2.2⟩
    by_cases e : b = 0
    · have t := key 2 4 14 (fun v => D.banks v) (fun v => ⟨rfl, rfl, rfl, rfl, rfl, rfl, rfl⟩) (Or.inl rfl) (fun v => ⟨rfl, rfl, by rw [if_pos e]; rfl, by rw [if_pos e]; rfl⟩) (by omega) (by omega)
      rw [tbit, if_pos e] at w
      rw [if_pos e, if_pos e]
      unfold zlB
      rw [if_neg w]
      exact ⟨⟨s1, fun _ => t.1, fun x => absurd e x⟩, t.2⟩
    · have t := key 1 9 15 (fun v => D.stone v) (fun v => ⟨rfl, rfl, rfl, rfl, rfl, rfl, rfl⟩) (Or.inr rfl) (fun v => ⟨rfl, rfl, by rw [if_neg e]; rfl, by rw [if_neg e]; rfl⟩) (by omega) (by omega)
      rw [tbit, if_neg e] at w
      rw [if_neg e, if_neg e]
      unfold zlS
      rw [if_neg w]
      exact ⟨⟨s1, fun x => absurd x e, fun _ => t.1⟩, t.2⟩
end ZN2
