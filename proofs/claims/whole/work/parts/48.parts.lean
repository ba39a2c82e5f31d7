/-! PURE: the other things of the state are set -/
theorem z7.day {m m' : ax_M} {T : zT} {n : Nat} {d : Nat → Nat} (h : z7 m T) (e : ∀ c, c < 74 → ¬ zsc c → (c ≠ 39 ∧ c ≠ 40) → m' c = m c) (hd : m' 39 1 = nI n ∧ ∀ i, i < 3 * n → m' 40 i = nI (d i)) : z7 m' (T.setDay n d) := by
  obtain ⟨h1, h2, h3, h4, h5, h6, h7, h8, h9⟩ := h
  refine ⟨h1.same (fun c a b => e c (by omega) (by unfold zsc; omega) (by omega)), ?_, fun k hk hh => (h3 k hk hh).same (fun c a b => e c (by omega) (by unfold zsc; omega) (by omega)), hd, ?_, ?_, ?_, ?_, h9.same (fun c a b => e c (by omega) (by unfold zsc; omega) (by omega))⟩
  · rw [e 38 (by omega) (by unfold zsc; omega) (by omega)]; exact h2
  · rw [e 42 (by omega) (by unfold zsc; omega) (by omega), e 43 (by omega) (by unfold zsc; omega) (by omega)]; exact h5
  · rw [e 0 (by omega) (by unfold zsc; omega) (by omega)]; exact h6
  · rw [e 72 (by omega) (by unfold zsc; omega) (by omega), e 73 (by omega) (by unfold zsc; omega) (by omega)]; exact h7
  · rw [e 71 (by omega) (by unfold zsc; omega) (by omega)]; exact h8
theorem z7.tape {m m' : ax_M} {T : zT} {n : Nat} {d : Nat → Nat} (h : z7 m T) (e : ∀ c, c < 74 → ¬ zsc c → (c ≠ 42 ∧ c ≠ 43) → m' c = m c) (hd : m' 42 1 = nI n ∧ ∀ i, i < n → m' 43 i = nI (d i)) : z7 m' (T.setTape n d) := by
  obtain ⟨h1, h2, h3, h4, h5, h6, h7, h8, h9⟩ := h
  refine ⟨h1.same (fun c a b => e c (by omega) (by unfold zsc; omega) (by omega)), ?_, fun k hk hh => (h3 k hk hh).same (fun c a b => e c (by omega) (by unfold zsc; omega) (by omega)), ?_, hd, ?_, ?_, ?_, h9.same (fun c a b => e c (by omega) (by unfold zsc; omega) (by omega))⟩
  · rw [e 38 (by omega) (by unfold zsc; omega) (by omega)]; exact h2
  · rw [e 39 (by omega) (by unfold zsc; omega) (by omega), e 40 (by omega) (by unfold zsc; omega) (by omega)]; exact h4
  · rw [e 0 (by omega) (by unfold zsc; omega) (by omega)]; exact h6
  · rw [e 72 (by omega) (by unfold zsc; omega) (by omega), e 73 (by omega) (by unfold zsc; omega) (by omega)]; exact h7
  · rw [e 71 (by omega) (by unfold zsc; omega) (by omega)]; exact h8
theorem z7.fl {m m' : ax_M} {T : zT} {a b : Nat} (h : z7 m T) (e : ∀ c, c < 74 → ¬ zsc c → (c ≠ 0) → m' c = m c) (hd : m' 0 9 = nI a ∧ m' 0 10 = nI b) : z7 m' (T.setF a b) := by
  obtain ⟨h1, h2, h3, h4, h5, h6, h7, h8, h9⟩ := h
  refine ⟨h1.same (fun c a b => e c (by omega) (by unfold zsc; omega) (by omega)), ?_, fun k hk hh => (h3 k hk hh).same (fun c a b => e c (by omega) (by unfold zsc; omega) (by omega)), ?_, ?_, hd, ?_, ?_, h9.same (fun c a b => e c (by omega) (by unfold zsc; omega) (by omega))⟩
  · rw [e 38 (by omega) (by unfold zsc; omega) (by omega)]; exact h2
  · rw [e 39 (by omega) (by unfold zsc; omega) (by omega), e 40 (by omega) (by unfold zsc; omega) (by omega)]; exact h4
  · rw [e 42 (by omega) (by unfold zsc; omega) (by omega), e 43 (by omega) (by unfold zsc; omega) (by omega)]; exact h5
  · rw [e 72 (by omega) (by unfold zsc; omega) (by omega), e 73 (by omega) (by unfold zsc; omega) (by omega)]; exact h7
  · rw [e 71 (by omega) (by unfold zsc; omega) (by omega)]; exact h8
theorem z7.shs {m m' : ax_M} {T : zT} {l z : Nat → Nat} {d : Nat → Int32} (h : z7 m T) (e : ∀ c, c < 74 → ¬ zsc c → (c ≠ 71 ∧ c ≠ 72 ∧ c ≠ 73) → m' c = m c) (hd : ∀ k, k < 4 → m' 73 k = nI (l k) ∧ m' 72 k = nI (z k)) (hd2 : ∀ i, i < 160 → m' 71 i = d i) : z7 m' (T.setSh l z d) := by
  obtain ⟨h1, h2, h3, h4, h5, h6, h7, h8, h9⟩ := h
  refine ⟨h1.same (fun c a b => e c (by omega) (by unfold zsc; omega) (by omega)), ?_, fun k hk hh => (h3 k hk hh).same (fun c a b => e c (by omega) (by unfold zsc; omega) (by omega)), ?_, ?_, ?_, hd, hd2, h9.same (fun c a b => e c (by omega) (by unfold zsc; omega) (by omega))⟩
  · rw [e 38 (by omega) (by unfold zsc; omega) (by omega)]; exact h2
  · rw [e 39 (by omega) (by unfold zsc; omega) (by omega), e 40 (by omega) (by unfold zsc; omega) (by omega)]; exact h4
  · rw [e 42 (by omega) (by unfold zsc; omega) (by omega), e 43 (by omega) (by unfold zsc; omega) (by omega)]; exact h5
  · rw [e 0 (by omega) (by unfold zsc; omega) (by omega)]; exact h6
theorem z7.imgs {m m' : ax_M} {T : zT} {im : Nat → zP} {kp : Nat → Bool} (h : z7 m T) (e : ∀ c, c < 74 → ¬ zsc c → (¬ (20 ≤ c ∧ c ≤ 38)) → m' c = m c) (hd : ∀ k, k < 2 → m' 38 k = zb (kp k)) (hd2 : ∀ k, k < 2 → kp k = true → zG m' (20 + 9 * k) T.s (im k)) : z7 m' (T.setIm im kp) := by
  obtain ⟨h1, h2, h3, h4, h5, h6, h7, h8, h9⟩ := h
  refine ⟨h1.same (fun c a b => e c (by omega) (by unfold zsc; omega) (by omega)), hd, hd2, ?_, ?_, ?_, ?_, ?_, h9.same (fun c a b => e c (by omega) (by unfold zsc; omega) (by omega))⟩
  · rw [e 39 (by omega) (by unfold zsc; omega) (by omega), e 40 (by omega) (by unfold zsc; omega) (by omega)]; exact h4
  · rw [e 42 (by omega) (by unfold zsc; omega) (by omega), e 43 (by omega) (by unfold zsc; omega) (by omega)]; exact h5
  · rw [e 0 (by omega) (by unfold zsc; omega) (by omega)]; exact h6
  · rw [e 72 (by omega) (by unfold zsc; omega) (by omega), e 73 (by omega) (by unfold zsc; omega) (by omega)]; exact h7
  · rw [e 71 (by omega) (by unfold zsc; omega) (by omega)]; exact h8
theorem z7.ways {m m' : ax_M} {T : zT}  (h : z7 m T) (e : ∀ c, c < 74 → ¬ zsc c → (¬ (59 ≤ c ∧ c ≤ 69)) → m' c = m c) (hd : zN m') : z7 m' T := by
  obtain ⟨h1, h2, h3, h4, h5, h6, h7, h8, h9⟩ := h
  refine ⟨h1.same (fun c a b => e c (by omega) (by unfold zsc; omega) (by omega)), ?_, fun k hk hh => (h3 k hk hh).same (fun c a b => e c (by omega) (by unfold zsc; omega) (by omega)), ?_, ?_, ?_, ?_, ?_, hd⟩
  · rw [e 38 (by omega) (by unfold zsc; omega) (by omega)]; exact h2
  · rw [e 39 (by omega) (by unfold zsc; omega) (by omega), e 40 (by omega) (by unfold zsc; omega) (by omega)]; exact h4
  · rw [e 42 (by omega) (by unfold zsc; omega) (by omega), e 43 (by omega) (by unfold zsc; omega) (by omega)]; exact h5
  · rw [e 0 (by omega) (by unfold zsc; omega) (by omega)]; exact h6
  · rw [e 72 (by omega) (by unfold zsc; omega) (by omega), e 73 (by omega) (by unfold zsc; omega) (by omega)]; exact h7
  · rw [e 71 (by omega) (by unfold zsc; omega) (by omega)]; exact h8
theorem z8.day {m m' : ax_M} {T : zT} {n : Nat} {d : Nat → Nat} (h : z8 m T) (e0 : ∀ k, zsl k → (k ≠ 7) → m' 74 k = m 74 k) (e : ∀ c, 75 ≤ c → c < 97 → ¬ zsr c → (c ≠ 77) → m' c = m c) (hd : m' 74 7 = nI n ∧ ∀ i, i < 3 * n → m' 77 i = nI (d i)) : z8 m' (T.setDay n d) := by
  obtain ⟨h1, h2, h3, h4, h5, h6, h7, h8, h9⟩ := h
  refine ⟨⟨h1.1.same (e0 2 (by unfold zsl; omega) (by omega)) (e0 3 (by unfold zsl; omega) (by omega)) (e0 4 (by unfold zsl; omega) (by omega)) (e0 5 (by unfold zsl; omega) (by omega)) (e 76 (by omega) (by omega) (by unfold zsr; omega) (by omega)), ?_⟩, ?_, ?_, hd, ?_, ?_, ?_, ?_, ?_⟩
  · unfold zQ; rw [e 75 (by omega) (by omega) (by unfold zsr; omega) (by omega)]; exact h1.2
  · rw [e 93 (by omega) (by omega) (by unfold zsr; omega) (by omega)]; exact h2
  · unfold zQ; rw [e 75 (by omega) (by omega) (by unfold zsr; omega) (by omega)]; exact h3
  · rw [e0 22 (by unfold zsl; omega) (by omega), e 81 (by omega) (by omega) (by unfold zsr; omega) (by omega)]; exact h5
  · rw [e0 23 (by unfold zsl; omega) (by omega), e0 51 (by unfold zsl; omega) (by omega)]; exact h6
  · rw [e 94 (by omega) (by omega) (by unfold zsr; omega) (by omega), e 95 (by omega) (by omega) (by unfold zsr; omega) (by omega)]; exact h7
  · rw [e 96 (by omega) (by omega) (by unfold zsr; omega) (by omega)]; exact h8
  · rw [e 82 (by omega) (by omega) (by unfold zsr; omega) (by omega), e 83 (by omega) (by omega) (by unfold zsr; omega) (by omega)]; exact h9
theorem z8.tape {m m' : ax_M} {T : zT} {n : Nat} {d : Nat → Nat} (h : z8 m T) (e0 : ∀ k, zsl k → (k ≠ 22) → m' 74 k = m 74 k) (e : ∀ c, 75 ≤ c → c < 97 → ¬ zsr c → (c ≠ 81) → m' c = m c) (hd : m' 74 22 = nI n ∧ ∀ i, i < n → m' 81 i = nI (d i)) : z8 m' (T.setTape n d) := by
  obtain ⟨h1, h2, h3, h4, h5, h6, h7, h8, h9⟩ := h
  refine ⟨⟨h1.1.same (e0 2 (by unfold zsl; omega) (by omega)) (e0 3 (by unfold zsl; omega) (by omega)) (e0 4 (by unfold zsl; omega) (by omega)) (e0 5 (by unfold zsl; omega) (by omega)) (e 76 (by omega) (by omega) (by unfold zsr; omega) (by omega)), ?_⟩, ?_, ?_, ?_, hd, ?_, ?_, ?_, ?_⟩
  · unfold zQ; rw [e 75 (by omega) (by omega) (by unfold zsr; omega) (by omega)]; exact h1.2
  · rw [e 93 (by omega) (by omega) (by unfold zsr; omega) (by omega)]; exact h2
  · unfold zQ; rw [e 75 (by omega) (by omega) (by unfold zsr; omega) (by omega)]; exact h3
  · rw [e0 7 (by unfold zsl; omega) (by omega), e 77 (by omega) (by omega) (by unfold zsr; omega) (by omega)]; exact h4
  · rw [e0 23 (by unfold zsl; omega) (by omega), e0 51 (by unfold zsl; omega) (by omega)]; exact h6
  · rw [e 94 (by omega) (by omega) (by unfold zsr; omega) (by omega), e 95 (by omega) (by omega) (by unfold zsr; omega) (by omega)]; exact h7
  · rw [e 96 (by omega) (by omega) (by unfold zsr; omega) (by omega)]; exact h8
  · rw [e 82 (by omega) (by omega) (by unfold zsr; omega) (by omega), e 83 (by omega) (by omega) (by unfold zsr; omega) (by omega)]; exact h9
theorem z8.fl {m m' : ax_M} {T : zT} {a b : Nat} (h : z8 m T) (e0 : ∀ k, zsl k → (k ≠ 23 ∧ k ≠ 51) → m' 74 k = m 74 k) (e : ∀ c, 75 ≤ c → c < 97 → ¬ zsr c → (c ≠ 74) → m' c = m c) (hd : m' 74 23 = nI a ∧ m' 74 51 = nI b) : z8 m' (T.setF a b) := by
  obtain ⟨h1, h2, h3, h4, h5, h6, h7, h8, h9⟩ := h
  refine ⟨⟨h1.1.same (e0 2 (by unfold zsl; omega) (by omega)) (e0 3 (by unfold zsl; omega) (by omega)) (e0 4 (by unfold zsl; omega) (by omega)) (e0 5 (by unfold zsl; omega) (by omega)) (e 76 (by omega) (by omega) (by unfold zsr; omega) (by omega)), ?_⟩, ?_, ?_, ?_, ?_, hd, ?_, ?_, ?_⟩
  · unfold zQ; rw [e 75 (by omega) (by omega) (by unfold zsr; omega) (by omega)]; exact h1.2
  · rw [e 93 (by omega) (by omega) (by unfold zsr; omega) (by omega)]; exact h2
  · unfold zQ; rw [e 75 (by omega) (by omega) (by unfold zsr; omega) (by omega)]; exact h3
  · rw [e0 7 (by unfold zsl; omega) (by omega), e 77 (by omega) (by omega) (by unfold zsr; omega) (by omega)]; exact h4
  · rw [e0 22 (by unfold zsl; omega) (by omega), e 81 (by omega) (by omega) (by unfold zsr; omega) (by omega)]; exact h5
  · rw [e 94 (by omega) (by omega) (by unfold zsr; omega) (by omega), e 95 (by omega) (by omega) (by unfold zsr; omega) (by omega)]; exact h7
  · rw [e 96 (by omega) (by omega) (by unfold zsr; omega) (by omega)]; exact h8
  · rw [e 82 (by omega) (by omega) (by unfold zsr; omega) (by omega), e 83 (by omega) (by omega) (by unfold zsr; omega) (by omega)]; exact h9
theorem z8.shs {m m' : ax_M} {T : zT} {l z : Nat → Nat} {d : Nat → Int32} (h : z8 m T) (e0 : ∀ k, zsl k → (k ≠ 1000) → m' 74 k = m 74 k) (e : ∀ c, 75 ≤ c → c < 97 → ¬ zsr c → (c ≠ 94 ∧ c ≠ 95 ∧ c ≠ 96) → m' c = m c) (hd : ∀ k, k < 4 → m' 94 k = zLane (l k) ∧ m' 95 k = nI (z k)) (hd2 : ∀ i, i < 160 → m' 96 i = d i) : z8 m' (T.setSh l z d) := by
  obtain ⟨h1, h2, h3, h4, h5, h6, h7, h8, h9⟩ := h
  refine ⟨⟨h1.1.same (e0 2 (by unfold zsl; omega) (by omega)) (e0 3 (by unfold zsl; omega) (by omega)) (e0 4 (by unfold zsl; omega) (by omega)) (e0 5 (by unfold zsl; omega) (by omega)) (e 76 (by omega) (by omega) (by unfold zsr; omega) (by omega)), ?_⟩, ?_, ?_, ?_, ?_, ?_, hd, hd2, ?_⟩
  · unfold zQ; rw [e 75 (by omega) (by omega) (by unfold zsr; omega) (by omega)]; exact h1.2
  · rw [e 93 (by omega) (by omega) (by unfold zsr; omega) (by omega)]; exact h2
  · unfold zQ; rw [e 75 (by omega) (by omega) (by unfold zsr; omega) (by omega)]; exact h3
  · rw [e0 7 (by unfold zsl; omega) (by omega), e 77 (by omega) (by omega) (by unfold zsr; omega) (by omega)]; exact h4
  · rw [e0 22 (by unfold zsl; omega) (by omega), e 81 (by omega) (by omega) (by unfold zsr; omega) (by omega)]; exact h5
  · rw [e0 23 (by unfold zsl; omega) (by omega), e0 51 (by unfold zsl; omega) (by omega)]; exact h6
  · rw [e 82 (by omega) (by omega) (by unfold zsr; omega) (by omega), e 83 (by omega) (by omega) (by unfold zsr; omega) (by omega)]; exact h9
theorem z8.imgs {m m' : ax_M} {T : zT} {im : Nat → zP} {kp : Nat → Bool} (h : z8 m T) (e0 : ∀ k, zsl k → (k ≠ 1000) → m' 74 k = m 74 k) (e : ∀ c, 75 ≤ c → c < 97 → ¬ zsr c → (c ≠ 75 ∧ c ≠ 93) → m' c = m c) (hs : zW T.s) (e5 : ∀ k, k < 33 → m' 75 k = m 75 k) (hd : ∀ k, k < 2 → m' 93 k = zb (kp k)) (hd2 : ∀ k, k < 2 → kp k = true → zQ m' (33 * (k + 1)) T.s (im k)) : z8 m' (T.setIm im kp) := by
  obtain ⟨h1, h2, h3, h4, h5, h6, h7, h8, h9⟩ := h
  refine ⟨⟨h1.1.same (e0 2 (by unfold zsl; omega) (by omega)) (e0 3 (by unfold zsl; omega) (by omega)) (e0 4 (by unfold zsl; omega) (by omega)) (e0 5 (by unfold zsl; omega) (by omega)) (e 76 (by omega) (by omega) (by unfold zsr; omega) (by omega)), h1.2.same hs (fun k hk => by rw [Nat.zero_add]; exact e5 k hk)⟩, hd, hd2, ?_, ?_, ?_, ?_, ?_, ?_⟩
  · rw [e0 7 (by unfold zsl; omega) (by omega), e 77 (by omega) (by omega) (by unfold zsr; omega) (by omega)]; exact h4
  · rw [e0 22 (by unfold zsl; omega) (by omega), e 81 (by omega) (by omega) (by unfold zsr; omega) (by omega)]; exact h5
  · rw [e0 23 (by unfold zsl; omega) (by omega), e0 51 (by unfold zsl; omega) (by omega)]; exact h6
  · rw [e 94 (by omega) (by omega) (by unfold zsr; omega) (by omega), e 95 (by omega) (by omega) (by unfold zsr; omega) (by omega)]; exact h7
  · rw [e 96 (by omega) (by omega) (by unfold zsr; omega) (by omega)]; exact h8
  · rw [e 82 (by omega) (by omega) (by unfold zsr; omega) (by omega), e 83 (by omega) (by omega) (by unfold zsr; omega) (by omega)]; exact h9
theorem zWF.setDay {T : zT} {n : Nat} {d : Nat → Nat} (h : zWF T) (hd : zDay T.s n d) : zWF (T.setDay n d) := ⟨h.1, h.2.1, h.2.2.1, h.2.2.2.1, hd, h.2.2.2.2.2.1, h.2.2.2.2.2.2.1, h.2.2.2.2.2.2.2⟩
theorem zWF.setTape {T : zT} {n : Nat} {d : Nat → Nat} (h : zWF T) (hd : zTape n d) : zWF (T.setTape n d) := ⟨h.1, h.2.1, h.2.2.1, h.2.2.2.1, h.2.2.2.2.1, hd, h.2.2.2.2.2.2.1, h.2.2.2.2.2.2.2⟩
theorem zWF.setF {T : zT} {a b : Nat} (h : zWF T) (hd : a ≤ 6 ∧ b ≤ 3) : zWF (T.setF a b) := ⟨h.1, h.2.1, h.2.2.1, h.2.2.2.1, h.2.2.2.2.1, h.2.2.2.2.2.1, hd, h.2.2.2.2.2.2.2⟩
theorem zWF.setSh {T : zT} {l z : Nat → Nat} {d : Nat → Int32} (h : zWF T) (hd : ∀ k, k < 4 → l k ≤ 3 ∧ z k ≤ 40) : zWF (T.setSh l z d) := ⟨h.1, h.2.1, h.2.2.1, h.2.2.2.1, h.2.2.2.2.1, h.2.2.2.2.2.1, h.2.2.2.2.2.2.1, hd⟩
theorem zWF.setIm {T : zT} {im : Nat → zP} {kp : Nat → Bool} (h : zWF T) (hd : ∀ k, k < 2 → kp k = true → zV T.s (im k) ∧ (im k).cr ≤ 999) : zWF (T.setIm im kp) := ⟨h.1, h.2.1, h.2.2.1, hd, h.2.2.2.2.1, h.2.2.2.2.2.1, h.2.2.2.2.2.2.1, h.2.2.2.2.2.2.2⟩
theorem zok1 {m : ax_M} (h : zI m) : OK1 zI m := by
  obtain ⟨T, hT, h7, h8⟩ := id h
  intro a1
  have hb := hT.tape.1
  have hi7 : F7_within a1 0 (m 42 1) m = zb (zwi a1 0 T.tn) := by rw [h7.tn, z7_in, z_nti (by omega)]; rfl
  have hi8 : ∀ m' : ax_M, m' 74 22 = nI T.tn → F8_in a1.toInt64 0 (m' 74 22).toInt64 m' = zb (zwi a1 0 T.tn) := fun m' e => by rw [e]; exact z8_in 0 T.tn rfl (by rw [z_i64, z_nti (by omega)])
  unfold F7_end F8_end
  rw [hi7]
  cases e1 : zwi a1 0 T.tn with
  | false =>
    show (-1 : Int32) = (if F8_in a1.toInt64 0 (m 74 22).toInt64 m = 0 then (-1, m) else (m 74 22, ax_up m 74 22 a1) : Int32 × ax_M).1 ∧ zI (if F8_in a1.toInt64 0 (m 74 22).toInt64 m = 0 then (-1, m) else (m 74 22, ax_up m 74 22 a1) : Int32 × ax_M).2
    rw [hi8 m h8.tn, e1]
    exact ⟨rfl, h⟩
  | true =>
    obtain ⟨n, _, hn, rfl⟩ := zwi_t (lo := 0) (hi := T.tn) e1 (by omega)
    have h8' : z8 (ax_up m 42 1 (nI n)) T := h8.keep (fun c hc => z_upr (by omega))
    have h7' : z7 (ax_up m 42 1 (nI n)) (T.setTape n T.tp) := h7.tape (fun c _ _ hc => z_upr (by omega)) ⟨by rw [z_up, if_pos ⟨rfl, rfl⟩], fun i hi => by rw [z_upr (by omega)]; exact h7.tp (by omega)⟩
    show m 42 1 = (if F8_in (nI n).toInt64 0 ((ax_up m 42 1 (nI n)) 74 22).toInt64 (ax_up m 42 1 (nI n)) = 0 then (-1, ax_up m 42 1 (nI n)) else ((ax_up m 42 1 (nI n)) 74 22, ax_up (ax_up m 42 1 (nI n)) 74 22 (nI n)) : Int32 × ax_M).1 ∧ zI (if F8_in (nI n).toInt64 0 ((ax_up m 42 1 (nI n)) 74 22).toInt64 (ax_up m 42 1 (nI n)) = 0 then (-1, ax_up m 42 1 (nI n)) else ((ax_up m 42 1 (nI n)) 74 22, ax_up (ax_up m 42 1 (nI n)) 74 22 (nI n)) : Int32 × ax_M).2
    rw [hi8 _ h8'.tn, e1, h8'.tn, h7.tn]
    refine ⟨rfl, ?_⟩
    show zI (ax_up (ax_up m 42 1 (nI n)) 74 22 (nI n))
    refine zI.step (hT.setTape ⟨by omega, fun i hi => hT.tape.2 i (by omega)⟩) h7' (fun c hc => z_upr (by omega)) ?_
    exact h8'.tape (fun k _ hk => by rw [z_up, if_neg (by omega)]) (fun c _ _ _ _ => z_upr (by omega)) ⟨by rw [z_up, if_pos ⟨rfl, rfl⟩], fun i hi => by rw [z_upr (by omega)]; exact h8'.tp (by omega)⟩
theorem zok25 {m : ax_M} (h : zI m) : OK25 zI m := by
  obtain ⟨T, hT, h7, h8⟩ := id h
  intro a1
  have hb := hT.day.1
  have hi7 : F7_within a1 0 (m 39 1) m = zb (zwi a1 0 T.dn) := by rw [h7.dn, z7_in, z_nti (by omega)]; rfl
  have hi8 : ∀ m' : ax_M, m' 74 7 = nI T.dn → F8_in a1.toInt64 0 (m' 74 7).toInt64 m' = zb (zwi a1 0 T.dn) := fun m' e => by rw [e]; exact z8_in 0 T.dn rfl (by rw [z_i64, z_nti (by omega)])
  unfold F7_forget F8_forget
  rw [hi7]
  cases e1 : zwi a1 0 T.dn with
  | false =>
    show (-1 : Int32) = (if F8_in a1.toInt64 0 (m 74 7).toInt64 m = 0 then (-1, m) else (m 74 7, ax_up m 74 7 a1) : Int32 × ax_M).1 ∧ zI (if F8_in a1.toInt64 0 (m 74 7).toInt64 m = 0 then (-1, m) else (m 74 7, ax_up m 74 7 a1) : Int32 × ax_M).2
    rw [hi8 m h8.dn, e1]
    exact ⟨rfl, h⟩
  | true =>
    obtain ⟨n, _, hn, rfl⟩ := zwi_t (lo := 0) (hi := T.dn) e1 (by omega)
    have h8' : z8 (ax_up m 39 1 (nI n)) T := h8.keep (fun c hc => z_upr (by omega))
    have h7' : z7 (ax_up m 39 1 (nI n)) (T.setDay n T.dy) := h7.day (fun c _ _ hc => z_upr (by omega)) ⟨by rw [z_up, if_pos ⟨rfl, rfl⟩], fun i hi => by rw [z_upr (by omega)]; exact h7.dy (by omega)⟩
    show m 39 1 = (if F8_in (nI n).toInt64 0 ((ax_up m 39 1 (nI n)) 74 7).toInt64 (ax_up m 39 1 (nI n)) = 0 then (-1, ax_up m 39 1 (nI n)) else ((ax_up m 39 1 (nI n)) 74 7, ax_up (ax_up m 39 1 (nI n)) 74 7 (nI n)) : Int32 × ax_M).1 ∧ zI (if F8_in (nI n).toInt64 0 ((ax_up m 39 1 (nI n)) 74 7).toInt64 (ax_up m 39 1 (nI n)) = 0 then (-1, ax_up m 39 1 (nI n)) else ((ax_up m 39 1 (nI n)) 74 7, ax_up (ax_up m 39 1 (nI n)) 74 7 (nI n)) : Int32 × ax_M).2
    rw [hi8 _ h8'.dn, e1, h8'.dn, h7.dn]
    refine ⟨rfl, ?_⟩
    show zI (ax_up (ax_up m 39 1 (nI n)) 74 7 (nI n))
    refine zI.step (hT.setDay ⟨by omega, fun i hi => hT.day.2 i (by omega)⟩) h7' (fun c hc => z_upr (by omega)) ?_
    exact h8'.day (fun k _ hk => by rw [z_up, if_neg (by omega)]) (fun c _ _ _ _ => z_upr (by omega)) ⟨by rw [z_up, if_pos ⟨rfl, rfl⟩], fun i hi => by rw [z_upr (by omega)]; exact h8'.dy (by omega)⟩
