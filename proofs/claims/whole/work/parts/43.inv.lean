/-! PURE: the state of both, and the invariant -/
def zT : Type := zS × zP × (Nat → zP) × (Nat → Bool) × (Nat × (Nat → Nat)) × (Nat × (Nat → Nat)) × (Nat × Nat) × ((Nat → Nat) × (Nat → Nat) × (Nat → Int32))
def zT.s (T : zT) : zS := T.1
def zT.P (T : zT) : zP := T.2.1
def zT.im (T : zT) : Nat → zP := T.2.2.1
def zT.kp (T : zT) : Nat → Bool := T.2.2.2.1
def zT.dn (T : zT) : Nat := T.2.2.2.2.1.1
def zT.dy (T : zT) : Nat → Nat := T.2.2.2.2.1.2
def zT.tn (T : zT) : Nat := T.2.2.2.2.2.1.1
def zT.tp (T : zT) : Nat → Nat := T.2.2.2.2.2.1.2
def zT.tf (T : zT) : Nat := T.2.2.2.2.2.2.1.1
def zT.rf (T : zT) : Nat := T.2.2.2.2.2.2.1.2
def zT.ln (T : zT) : Nat → Nat := T.2.2.2.2.2.2.2.1
def zT.sz (T : zT) : Nat → Nat := T.2.2.2.2.2.2.2.2.1
def zT.ce (T : zT) : Nat → Int32 := T.2.2.2.2.2.2.2.2.2
def zT.setP (T : zT) (P : zP) : zT := (T.1, P, T.2.2)
def zT.setIm (T : zT) (im : Nat → zP) (kp : Nat → Bool) : zT := (T.1, T.2.1, im, kp, T.2.2.2.2)
def zT.setDay (T : zT) (n : Nat) (d : Nat → Nat) : zT := (T.1, T.2.1, T.2.2.1, T.2.2.2.1, (n, d), T.2.2.2.2.2)
def zT.setTape (T : zT) (n : Nat) (d : Nat → Nat) : zT := (T.1, T.2.1, T.2.2.1, T.2.2.2.1, T.2.2.2.2.1, (n, d), T.2.2.2.2.2.2)
def zT.setF (T : zT) (a b : Nat) : zT := (T.1, T.2.1, T.2.2.1, T.2.2.2.1, T.2.2.2.2.1, T.2.2.2.2.2.1, (a, b), T.2.2.2.2.2.2.2)
def zT.setSh (T : zT) (l z : Nat → Nat) (c : Nat → Int32) : zT := (T.1, T.2.1, T.2.2.1, T.2.2.2.1, T.2.2.2.2.1, T.2.2.2.2.2.1, T.2.2.2.2.2.2.1, (l, z, c))
def zDay (s : zS) (n : Nat) (d : Nat → Nat) : Prop := n ≤ 8 ∧ ∀ i, i < n → d (3 * i) < s.ng ∧ d (3 * i + 1) < s.no ∧ d (3 * i + 2) < s.no ∧ d (3 * i + 1) ≠ d (3 * i + 2)
def zTape (n : Nat) (d : Nat → Nat) : Prop := n ≤ 320 ∧ ∀ i, i < n → d i < 256
def zWF (T : zT) : Prop := zW T.s ∧ zV T.s T.P ∧ T.P.cr ≤ 999 ∧ (∀ k, k < 2 → T.kp k = true → zV T.s (T.im k) ∧ (T.im k).cr ≤ 999) ∧ zDay T.s T.dn T.dy ∧ zTape T.tn T.tp ∧ (T.tf ≤ 6 ∧ T.rf ≤ 3) ∧ (∀ k, k < 4 → T.ln k ≤ 3 ∧ T.sz k ≤ 40)
/-- the ways that were found last: their places are known -/
def zN (m : ax_M) : Prop := ∃ (n : Nat) (cd : Nat → Nat), n ≤ 180 ∧ m 59 10 = nI n ∧ (∀ i, i < n → m 65 i = nI (cd i) ∧ cd i < 4096) ∧ (∀ c, c < 4096 → (∀ i, i < n → cd i ≠ c) → m 64 c = 0)
def z7 (m : ax_M) (T : zT) : Prop := zG m 1 T.s T.P ∧ (∀ k, k < 2 → m 38 k = zb (T.kp k)) ∧ (∀ k, k < 2 → T.kp k = true → zG m (20 + 9 * k) T.s (T.im k)) ∧ (m 39 1 = nI T.dn ∧ ∀ i, i < 3 * T.dn → m 40 i = nI (T.dy i)) ∧ (m 42 1 = nI T.tn ∧ ∀ i, i < T.tn → m 43 i = nI (T.tp i)) ∧ (m 0 9 = nI T.tf ∧ m 0 10 = nI T.rf) ∧ (∀ k, k < 4 → m 73 k = nI (T.ln k) ∧ m 72 k = nI (T.sz k)) ∧ (∀ i, i < 160 → m 71 i = T.ce i) ∧ zN m
def zLane (n : Nat) : Int32 := if n = 0 then -4 else nI (n - 1)
def z8 (m : ax_M) (T : zT) : Prop := (zE m T.s ∧ zQ m 0 T.s T.P) ∧ (∀ k, k < 2 → m 93 k = zb (T.kp k)) ∧ (∀ k, k < 2 → T.kp k = true → zQ m (33 * (k + 1)) T.s (T.im k)) ∧ (m 74 7 = nI T.dn ∧ ∀ i, i < 3 * T.dn → m 77 i = nI (T.dy i)) ∧ (m 74 22 = nI T.tn ∧ ∀ i, i < T.tn → m 81 i = nI (T.tp i)) ∧ (m 74 23 = nI T.tf ∧ m 74 51 = nI T.rf) ∧ (∀ k, k < 4 → m 94 k = zLane (T.ln k) ∧ m 95 k = nI (T.sz k)) ∧ (∀ i, i < 160 → m 96 i = T.ce i) ∧ ((∀ i, i < 12 → m 82 i = mI 82 i) ∧ (∀ i, i < 54 → m 83 i = mI 83 i))
def zI (m : ax_M) : Prop := ∃ T, zWF T ∧ z7 m T ∧ z8 m T
/-- cells that only one call uses -/
def zsc (c : Nat) : Prop := (10 ≤ c ∧ c ≤ 18) ∨ c = 41 ∨ (44 ≤ c ∧ c ≤ 58)
theorem zG.same {m m' : ax_M} {g : Nat} {s : zS} {P : zP} (h : zG m g s P) (e : ∀ c, g ≤ c → c ≤ g + 8 → m' c = m c) : zG m' g s P := by
  unfold zG
  rw [e g (by omega) (by omega), e (g + 1) (by omega) (by omega), e (g + 2) (by omega) (by omega), e (g + 3) (by omega) (by omega), e (g + 4) (by omega) (by omega), e (g + 5) (by omega) (by omega), e (g + 6) (by omega) (by omega), e (g + 7) (by omega) (by omega), e (g + 8) (by omega) (by omega)]
  exact h
theorem zN.same {m m' : ax_M} (h : zN m) (e : ∀ c, 59 ≤ c → c ≤ 69 → m' c = m c) : zN m' := by
  unfold zN
  rw [e 59 (by omega) (by omega), e 64 (by omega) (by omega), e 65 (by omega) (by omega)]
  exact h
/-- the class's side, where all but scratch is as it was, but for what the new state says otherwise -/
theorem z7.of {m m' : ax_M} {T : zT} (h : z7 m T) (e : ∀ c, c < 74 → ¬ zsc c → m' c = m c) : z7 m' T := by
  obtain ⟨h1, h2, h3, h4, h5, h6, h7, h8, h9⟩ := h
  refine ⟨h1.same (fun c a b => e c (by omega) (by unfold zsc; omega)), ?_, fun k hk hh => (h3 k hk hh).same (fun c a b => e c (by omega) (by unfold zsc; omega)), ?_, ?_, ?_, ?_, ?_, h9.same (fun c a b => e c (by omega) (by unfold zsc; omega))⟩
  · rw [e 38 (by omega) (by unfold zsc; omega)]; exact h2
  · rw [e 39 (by omega) (by unfold zsc; omega), e 40 (by omega) (by unfold zsc; omega)]; exact h4
  · rw [e 42 (by omega) (by unfold zsc; omega), e 43 (by omega) (by unfold zsc; omega)]; exact h5
  · rw [e 0 (by omega) (by unfold zsc; omega)]; exact h6
  · rw [e 72 (by omega) (by unfold zsc; omega), e 73 (by omega) (by unfold zsc; omega)]; exact h7
  · rw [e 71 (by omega) (by unfold zsc; omega)]; exact h8
theorem z7.now {m m' : ax_M} {T : zT} {P : zP} (h : z7 m T) (e : ∀ c, c < 74 → ¬ zsc c → ¬ (1 ≤ c ∧ c ≤ 9) → m' c = m c) (hG : zG m' 1 T.s P) : z7 m' (T.setP P) := by
  obtain ⟨h1, h2, h3, h4, h5, h6, h7, h8, h9⟩ := h
  refine ⟨hG, ?_, fun k hk hh => (h3 k hk hh).same (fun c a b => e c (by omega) (by unfold zsc; omega) (by omega)), ?_, ?_, ?_, ?_, ?_, h9.same (fun c a b => e c (by omega) (by unfold zsc; omega) (by omega))⟩
  · rw [e 38 (by omega) (by unfold zsc; omega) (by omega)]; exact h2
  · rw [e 39 (by omega) (by unfold zsc; omega) (by omega), e 40 (by omega) (by unfold zsc; omega) (by omega)]; exact h4
  · rw [e 42 (by omega) (by unfold zsc; omega) (by omega), e 43 (by omega) (by unfold zsc; omega) (by omega)]; exact h5
  · rw [e 0 (by omega) (by unfold zsc; omega) (by omega)]; exact h6
  · rw [e 72 (by omega) (by unfold zsc; omega) (by omega), e 73 (by omega) (by unfold zsc; omega) (by omega)]; exact h7
  · rw [e 71 (by omega) (by unfold zsc; omega) (by omega)]; exact h8
theorem zE.same {m m' : ax_M} {s : zS} (h : zE m s) (e2 : m' 74 2 = m 74 2) (e3 : m' 74 3 = m 74 3) (e4 : m' 74 4 = m 74 4) (e5 : m' 74 5 = m 74 5) (e76 : m' 76 = m 76) : zE m' s := by
  unfold zE
  rw [e2, e3, e4, e5, e76]; exact h
theorem zQ.same {m m' : ax_M} {o : Nat} {s : zS} {P : zP} (h : zQ m o s P) (hs : zW s) (e : ∀ k, k < 33 → m' 75 (o + k) = m 75 (o + k)) : zQ m' o s P := by
  obtain ⟨h1, h2, h3, h4, h5, h6, h7⟩ := h
  have a := hs.ng4
  have b := hs.no6
  refine ⟨by rw [e 32 (by omega)]; exact h1, fun k hk => by rw [e _ (by omega)]; exact h2 k hk, fun k hk => by rw [e _ (by omega)]; exact h3 k hk, fun k hk => by rw [e _ (by omega)]; exact h4 k hk, fun k hk => by rw [e _ (by omega)]; exact h5 k hk, fun k hk => by rw [e _ (by omega)]; exact h6 k hk, fun k hk => by rw [e _ (by omega)]; exact h7 k hk⟩
/-- the slots of the reference's object that stay over a call -/
def zsl (k : Nat) : Prop := k = 2 ∨ k = 3 ∨ k = 4 ∨ k = 5 ∨ k = 7 ∨ k = 22 ∨ k = 23 ∨ k = 51
def zsr (c : Nat) : Prop := c = 78 ∨ c = 79 ∨ c = 80 ∨ (84 ≤ c ∧ c ≤ 92)
theorem z8.of {m m' : ax_M} {T : zT} (h : z8 m T) (e0 : ∀ k, zsl k → m' 74 k = m 74 k) (e : ∀ c, 75 ≤ c → c < 97 → ¬ zsr c → m' c = m c) : z8 m' T := by
  obtain ⟨h1, h2, h3, h4, h5, h6, h7, h8, h9⟩ := h
  refine ⟨⟨h1.1.same (e0 2 (by unfold zsl; omega)) (e0 3 (by unfold zsl; omega)) (e0 4 (by unfold zsl; omega)) (e0 5 (by unfold zsl; omega)) (e 76 (by omega) (by omega) (by unfold zsr; omega)), ?_⟩, ?_, ?_, ?_, ?_, ?_, ?_, ?_, ?_⟩
  · unfold zQ; rw [e 75 (by omega) (by omega) (by unfold zsr; omega)]; exact h1.2
  · rw [e 93 (by omega) (by omega) (by unfold zsr; omega)]; exact h2
  · unfold zQ; rw [e 75 (by omega) (by omega) (by unfold zsr; omega)]; exact h3
  · rw [e0 7 (by unfold zsl; omega), e 77 (by omega) (by omega) (by unfold zsr; omega)]; exact h4
  · rw [e0 22 (by unfold zsl; omega), e 81 (by omega) (by omega) (by unfold zsr; omega)]; exact h5
  · rw [e0 23 (by unfold zsl; omega), e0 51 (by unfold zsl; omega)]; exact h6
  · rw [e 94 (by omega) (by omega) (by unfold zsr; omega), e 95 (by omega) (by omega) (by unfold zsr; omega)]; exact h7
  · rw [e 96 (by omega) (by omega) (by unfold zsr; omega)]; exact h8
  · rw [e 82 (by omega) (by omega) (by unfold zsr; omega), e 83 (by omega) (by omega) (by unfold zsr; omega)]; exact h9
theorem z8.now {m m' : ax_M} {T : zT} {P : zP} (h : z8 m T) (hs : zW T.s) (e0 : ∀ k, zsl k → m' 74 k = m 74 k) (e : ∀ c, 76 ≤ c → c < 97 → ¬ zsr c → m' c = m c) (e5 : ∀ k, 33 ≤ k → k < 99 → m' 75 k = m 75 k) (hQ : zQ m' 0 T.s P) : z8 m' (T.setP P) := by
  obtain ⟨h1, h2, h3, h4, h5, h6, h7, h8, h9⟩ := h
  refine ⟨⟨h1.1.same (e0 2 (by unfold zsl; omega)) (e0 3 (by unfold zsl; omega)) (e0 4 (by unfold zsl; omega)) (e0 5 (by unfold zsl; omega)) (e 76 (by omega) (by omega) (by unfold zsr; omega)), hQ⟩, ?_, fun k hk hh => (h3 k hk hh).same hs (fun k1 hk1 => e5 _ (by omega) (by omega)), ?_, ?_, ?_, ?_, ?_, ?_⟩
  · rw [e 93 (by omega) (by omega) (by unfold zsr; omega)]; exact h2
  · rw [e0 7 (by unfold zsl; omega), e 77 (by omega) (by omega) (by unfold zsr; omega)]; exact h4
  · rw [e0 22 (by unfold zsl; omega), e 81 (by omega) (by omega) (by unfold zsr; omega)]; exact h5
  · rw [e0 23 (by unfold zsl; omega), e0 51 (by unfold zsl; omega)]; exact h6
  · rw [e 94 (by omega) (by omega) (by unfold zsr; omega), e 95 (by omega) (by omega) (by unfold zsr; omega)]; exact h7
  · rw [e 96 (by omega) (by omega) (by unfold zsr; omega)]; exact h8
  · rw [e 82 (by omega) (by omega) (by unfold zsr; omega), e 83 (by omega) (by omega) (by unfold zsr; omega)]; exact h9
theorem z7.keep {m m' : ax_M} {T : zT} (h : z7 m T) (e : ∀ c, c < 74 → m' c = m c) : z7 m' T := h.of (fun c a _ => e c a)
theorem z8.keep {m m' : ax_M} {T : zT} (h : z8 m T) (e : ∀ c, 74 ≤ c → m' c = m c) : z8 m' T := h.of (fun k _ => by rw [e 74 (by omega)]) (fun c a _ _ => e c (by omega))
/-- one call of both: the shape of every proof below -/
theorem zI.step {m1 m2 : ax_M} {T' : zT} (hT : zWF T') (h1 : z7 m1 T') (e2 : ∀ c, c < 74 → m2 c = m1 c) (h2 : z8 m2 T') : zI m2 := ⟨T', hT, h1.keep e2, h2⟩
