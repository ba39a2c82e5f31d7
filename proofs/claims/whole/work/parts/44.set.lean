/-! PURE: one thing is set, on both sides -/
theorem zG.set0 {m : ax_M} {g : Nat} {s : zS} {P : zP} {v : Nat} (h : zG m g s P) : zG (ax_up m g 4 (nI v)) g s (P.set 0 0 v) := by
  obtain ⟨h0, h1, h2, h3, h4, h5, h6, h7, h8, h9, h10, h11, h12⟩ := h
  refine ⟨?_, ?_, ?_, ?_, ?_, ?_, ?_, ?_, ?_, ?_, ?_, ?_, ?_⟩
  · rw [z_up, if_neg (by omega)]; exact h0
  · rw [z_up, if_neg (by omega)]; exact h1
  · rw [z_up, if_neg (by omega)]; exact h2
  · rw [z_up, if_neg (by omega)]; exact h3
  · rw [z_up, if_pos ⟨rfl, rfl⟩]; rfl
  · rw [z_upr (by omega)]; exact h5
  · rw [z_upr (by omega)]; exact h6
  · rw [z_upr (by omega)]; exact h7
  · rw [z_upr (by omega)]; exact h8
  · rw [z_upr (by omega)]; exact h9
  · rw [z_upr (by omega)]; exact h10
  · rw [z_upr (by omega)]; exact h11
  · rw [z_upr (by omega)]; exact h12
theorem zG.set1 {m : ax_M} {g : Nat} {s : zS} {P : zP} {k : Nat} {v : Nat} (h : zG m g s P) : zG (ax_up m (g + 1) k (nI v)) g s (P.set 1 k v) := by
  obtain ⟨h0, h1, h2, h3, h4, h5, h6, h7, h8, h9, h10, h11, h12⟩ := h
  refine ⟨?_, ?_, ?_, ?_, ?_, ?_, ?_, ?_, ?_, ?_, ?_, ?_, ?_⟩
  · rw [z_upr (by omega)]; exact h0
  · rw [z_upr (by omega)]; exact h1
  · rw [z_upr (by omega)]; exact h2
  · rw [z_upr (by omega)]; exact h3
  · rw [z_upr (by omega)]; exact h4
  · intro k1 hk1
    rw [z_up]
    show _ = nI (if 1 = 1 ∧ k1 = k then v else P 1 k1)
    by_cases e : k1 = k
    · rw [if_pos ⟨rfl, e⟩, if_pos ⟨rfl, e⟩]
    · rw [if_neg (fun q => e q.2), if_neg (fun q => e q.2)]; exact h5 k1 hk1
  · rw [z_upr (by omega)]; exact h6
  · rw [z_upr (by omega)]; exact h7
  · rw [z_upr (by omega)]; exact h8
  · rw [z_upr (by omega)]; exact h9
  · rw [z_upr (by omega)]; exact h10
  · rw [z_upr (by omega)]; exact h11
  · rw [z_upr (by omega)]; exact h12
theorem zG.set2 {m : ax_M} {g : Nat} {s : zS} {P : zP} {k : Nat} {v : Nat} (h : zG m g s P) : zG (ax_up m (g + 4) k (nI v)) g s (P.set 2 k v) := by
  obtain ⟨h0, h1, h2, h3, h4, h5, h6, h7, h8, h9, h10, h11, h12⟩ := h
  refine ⟨?_, ?_, ?_, ?_, ?_, ?_, ?_, ?_, ?_, ?_, ?_, ?_, ?_⟩
  · rw [z_upr (by omega)]; exact h0
  · rw [z_upr (by omega)]; exact h1
  · rw [z_upr (by omega)]; exact h2
  · rw [z_upr (by omega)]; exact h3
  · rw [z_upr (by omega)]; exact h4
  · rw [z_upr (by omega)]; exact h5
  · rw [z_upr (by omega)]; exact h6
  · rw [z_upr (by omega)]; exact h7
  · intro k1 hk1
    rw [z_up]
    show _ = nI (if 2 = 2 ∧ k1 = k then v else P 2 k1)
    by_cases e : k1 = k
    · rw [if_pos ⟨rfl, e⟩, if_pos ⟨rfl, e⟩]
    · rw [if_neg (fun q => e q.2), if_neg (fun q => e q.2)]; exact h8 k1 hk1
  · rw [z_upr (by omega)]; exact h9
  · rw [z_upr (by omega)]; exact h10
  · rw [z_upr (by omega)]; exact h11
  · rw [z_upr (by omega)]; exact h12
theorem zG.set3 {m : ax_M} {g : Nat} {s : zS} {P : zP} {k : Nat} {v : Nat} (h : zG m g s P) : zG (ax_up m (g + 5) k (nI v)) g s (P.set 3 k v) := by
  obtain ⟨h0, h1, h2, h3, h4, h5, h6, h7, h8, h9, h10, h11, h12⟩ := h
  refine ⟨?_, ?_, ?_, ?_, ?_, ?_, ?_, ?_, ?_, ?_, ?_, ?_, ?_⟩
  · rw [z_upr (by omega)]; exact h0
  · rw [z_upr (by omega)]; exact h1
  · rw [z_upr (by omega)]; exact h2
  · rw [z_upr (by omega)]; exact h3
  · rw [z_upr (by omega)]; exact h4
  · rw [z_upr (by omega)]; exact h5
  · rw [z_upr (by omega)]; exact h6
  · rw [z_upr (by omega)]; exact h7
  · rw [z_upr (by omega)]; exact h8
  · intro k1 hk1
    rw [z_up]
    show _ = nI (if 3 = 3 ∧ k1 = k then v else P 3 k1)
    by_cases e : k1 = k
    · rw [if_pos ⟨rfl, e⟩, if_pos ⟨rfl, e⟩]
    · rw [if_neg (fun q => e q.2), if_neg (fun q => e q.2)]; exact h9 k1 hk1
  · rw [z_upr (by omega)]; exact h10
  · rw [z_upr (by omega)]; exact h11
  · rw [z_upr (by omega)]; exact h12
theorem zG.set4 {m : ax_M} {g : Nat} {s : zS} {P : zP} {k : Nat} {v : Nat} (h : zG m g s P) : zG (ax_up m (g + 6) k (nI v)) g s (P.set 4 k v) := by
  obtain ⟨h0, h1, h2, h3, h4, h5, h6, h7, h8, h9, h10, h11, h12⟩ := h
  refine ⟨?_, ?_, ?_, ?_, ?_, ?_, ?_, ?_, ?_, ?_, ?_, ?_, ?_⟩
  · rw [z_upr (by omega)]; exact h0
  · rw [z_upr (by omega)]; exact h1
  · rw [z_upr (by omega)]; exact h2
  · rw [z_upr (by omega)]; exact h3
  · rw [z_upr (by omega)]; exact h4
  · rw [z_upr (by omega)]; exact h5
  · rw [z_upr (by omega)]; exact h6
  · rw [z_upr (by omega)]; exact h7
  · rw [z_upr (by omega)]; exact h8
  · rw [z_upr (by omega)]; exact h9
  · intro k1 hk1
    rw [z_up]
    show _ = nI (if 4 = 4 ∧ k1 = k then v else P 4 k1)
    by_cases e : k1 = k
    · rw [if_pos ⟨rfl, e⟩, if_pos ⟨rfl, e⟩]
    · rw [if_neg (fun q => e q.2), if_neg (fun q => e q.2)]; exact h10 k1 hk1
  · rw [z_upr (by omega)]; exact h11
  · rw [z_upr (by omega)]; exact h12
theorem zG.set5 {m : ax_M} {g : Nat} {s : zS} {P : zP} {k : Nat} {v : Nat} (h : zG m g s P) : zG (ax_up m (g + 7) k (nI v)) g s (P.set 5 k v) := by
  obtain ⟨h0, h1, h2, h3, h4, h5, h6, h7, h8, h9, h10, h11, h12⟩ := h
  refine ⟨?_, ?_, ?_, ?_, ?_, ?_, ?_, ?_, ?_, ?_, ?_, ?_, ?_⟩
  · rw [z_upr (by omega)]; exact h0
  · rw [z_upr (by omega)]; exact h1
  · rw [z_upr (by omega)]; exact h2
  · rw [z_upr (by omega)]; exact h3
  · rw [z_upr (by omega)]; exact h4
  · rw [z_upr (by omega)]; exact h5
  · rw [z_upr (by omega)]; exact h6
  · rw [z_upr (by omega)]; exact h7
  · rw [z_upr (by omega)]; exact h8
  · rw [z_upr (by omega)]; exact h9
  · rw [z_upr (by omega)]; exact h10
  · intro k1 hk1
    rw [z_up]
    show _ = nI (if 5 = 5 ∧ k1 = k then v else P 5 k1)
    by_cases e : k1 = k
    · rw [if_pos ⟨rfl, e⟩, if_pos ⟨rfl, e⟩]
    · rw [if_neg (fun q => e q.2), if_neg (fun q => e q.2)]; exact h11 k1 hk1
  · rw [z_upr (by omega)]; exact h12
theorem zG.set6 {m : ax_M} {g : Nat} {s : zS} {P : zP} {k : Nat} {v : Nat} (h : zG m g s P) : zG (ax_up m (g + 8) k (nI v)) g s (P.set 6 k v) := by
  obtain ⟨h0, h1, h2, h3, h4, h5, h6, h7, h8, h9, h10, h11, h12⟩ := h
  refine ⟨?_, ?_, ?_, ?_, ?_, ?_, ?_, ?_, ?_, ?_, ?_, ?_, ?_⟩
  · rw [z_upr (by omega)]; exact h0
  · rw [z_upr (by omega)]; exact h1
  · rw [z_upr (by omega)]; exact h2
  · rw [z_upr (by omega)]; exact h3
  · rw [z_upr (by omega)]; exact h4
  · rw [z_upr (by omega)]; exact h5
  · rw [z_upr (by omega)]; exact h6
  · rw [z_upr (by omega)]; exact h7
  · rw [z_upr (by omega)]; exact h8
  · rw [z_upr (by omega)]; exact h9
  · rw [z_upr (by omega)]; exact h10
  · rw [z_upr (by omega)]; exact h11
  · intro k1 hk1
    rw [z_up]
    show _ = nI (if 6 = 6 ∧ k1 = k then v else P 6 k1)
    by_cases e : k1 = k
    · rw [if_pos ⟨rfl, e⟩, if_pos ⟨rfl, e⟩]
    · rw [if_neg (fun q => e q.2), if_neg (fun q => e q.2)]; exact h12 k1 hk1
theorem zQ.set0 {m : ax_M} {s : zS} {P : zP} {v : Nat} (hs : zW s) (h : zQ m 0 s P) : zQ (ax_up m 75 (32) (nI v)) 0 s (P.set 0 0 v) := by
  have a1 := hs.ng4
  have a2 := hs.no6
  obtain ⟨h0, h1, h2, h3, h4, h5, h6⟩ := h
  refine ⟨?_, ?_, ?_, ?_, ?_, ?_, ?_⟩
  · rw [z_up, if_pos ⟨rfl, by omega⟩]; rfl
  · intro k1 hk1
    rw [z_up, if_neg (by omega)]; exact h1 k1 hk1
  · intro k1 hk1
    rw [z_up, if_neg (by omega)]; exact h2 k1 hk1
  · intro k1 hk1
    rw [z_up, if_neg (by omega)]; exact h3 k1 hk1
  · intro k1 hk1
    rw [z_up, if_neg (by omega)]; exact h4 k1 hk1
  · intro k1 hk1
    rw [z_up, if_neg (by omega)]; exact h5 k1 hk1
  · intro k1 hk1
    rw [z_up, if_neg (by omega)]; exact h6 k1 hk1
theorem zQ.set1 {m : ax_M} {s : zS} {P : zP} {k : Nat} {v : Nat} (hs : zW s) (h : zQ m 0 s P) (hk : k < 4) : zQ (ax_up m 75 (24 + k) (nI v)) 0 s (P.set 1 k v) := by
  have a1 := hs.ng4
  have a2 := hs.no6
  obtain ⟨h0, h1, h2, h3, h4, h5, h6⟩ := h
  refine ⟨?_, ?_, ?_, ?_, ?_, ?_, ?_⟩
  · rw [z_up, if_neg (by omega)]; exact h0
  · intro k1 hk1
    rw [z_up]
    show _ = nI (if 1 = 1 ∧ k1 = k then v else P 1 k1)
    by_cases e : k1 = k
    · rw [if_pos ⟨rfl, by omega⟩, if_pos ⟨rfl, e⟩]
    · rw [if_neg (by omega), if_neg (fun q => e q.2)]; exact h1 k1 hk1
  · intro k1 hk1
    rw [z_up, if_neg (by omega)]; exact h2 k1 hk1
  · intro k1 hk1
    rw [z_up, if_neg (by omega)]; exact h3 k1 hk1
  · intro k1 hk1
    rw [z_up, if_neg (by omega)]; exact h4 k1 hk1
  · intro k1 hk1
    rw [z_up, if_neg (by omega)]; exact h5 k1 hk1
  · intro k1 hk1
    rw [z_up, if_neg (by omega)]; exact h6 k1 hk1
theorem zQ.set2 {m : ax_M} {s : zS} {P : zP} {k : Nat} {v : Nat} (hs : zW s) (h : zQ m 0 s P) (hk : k < s.ng) : zQ (ax_up m 75 (28 + k) (nI v)) 0 s (P.set 2 k v) := by
  have a1 := hs.ng4
  have a2 := hs.no6
  obtain ⟨h0, h1, h2, h3, h4, h5, h6⟩ := h
  refine ⟨?_, ?_, ?_, ?_, ?_, ?_, ?_⟩
  · rw [z_up, if_neg (by omega)]; exact h0
  · intro k1 hk1
    rw [z_up, if_neg (by omega)]; exact h1 k1 hk1
  · intro k1 hk1
    rw [z_up]
    show _ = nI (if 2 = 2 ∧ k1 = k then v else P 2 k1)
    by_cases e : k1 = k
    · rw [if_pos ⟨rfl, by omega⟩, if_pos ⟨rfl, e⟩]
    · rw [if_neg (by omega), if_neg (fun q => e q.2)]; exact h2 k1 hk1
  · intro k1 hk1
    rw [z_up, if_neg (by omega)]; exact h3 k1 hk1
  · intro k1 hk1
    rw [z_up, if_neg (by omega)]; exact h4 k1 hk1
  · intro k1 hk1
    rw [z_up, if_neg (by omega)]; exact h5 k1 hk1
  · intro k1 hk1
    rw [z_up, if_neg (by omega)]; exact h6 k1 hk1
theorem zQ.set3 {m : ax_M} {s : zS} {P : zP} {k : Nat} {v : Nat} (hs : zW s) (h : zQ m 0 s P) (hk : k < s.no) : zQ (ax_up m 75 (4 * k) (nI v)) 0 s (P.set 3 k v) := by
  have a1 := hs.ng4
  have a2 := hs.no6
  obtain ⟨h0, h1, h2, h3, h4, h5, h6⟩ := h
  refine ⟨?_, ?_, ?_, ?_, ?_, ?_, ?_⟩
  · rw [z_up, if_neg (by omega)]; exact h0
  · intro k1 hk1
    rw [z_up, if_neg (by omega)]; exact h1 k1 hk1
  · intro k1 hk1
    rw [z_up, if_neg (by omega)]; exact h2 k1 hk1
  · intro k1 hk1
    rw [z_up]
    show _ = nI (if 3 = 3 ∧ k1 = k then v else P 3 k1)
    by_cases e : k1 = k
    · rw [if_pos ⟨rfl, by omega⟩, if_pos ⟨rfl, e⟩]
    · rw [if_neg (by omega), if_neg (fun q => e q.2)]; exact h3 k1 hk1
  · intro k1 hk1
    rw [z_up, if_neg (by omega)]; exact h4 k1 hk1
  · intro k1 hk1
    rw [z_up, if_neg (by omega)]; exact h5 k1 hk1
  · intro k1 hk1
    rw [z_up, if_neg (by omega)]; exact h6 k1 hk1
theorem zQ.set4 {m : ax_M} {s : zS} {P : zP} {k : Nat} {v : Nat} (hs : zW s) (h : zQ m 0 s P) (hk : k < s.no) : zQ (ax_up m 75 (4 * k + 1) (nI v)) 0 s (P.set 4 k v) := by
  have a1 := hs.ng4
  have a2 := hs.no6
  obtain ⟨h0, h1, h2, h3, h4, h5, h6⟩ := h
  refine ⟨?_, ?_, ?_, ?_, ?_, ?_, ?_⟩
  · rw [z_up, if_neg (by omega)]; exact h0
  · intro k1 hk1
    rw [z_up, if_neg (by omega)]; exact h1 k1 hk1
  · intro k1 hk1
    rw [z_up, if_neg (by omega)]; exact h2 k1 hk1
  · intro k1 hk1
    rw [z_up, if_neg (by omega)]; exact h3 k1 hk1
  · intro k1 hk1
    rw [z_up]
    show _ = nI (if 4 = 4 ∧ k1 = k then v else P 4 k1)
    by_cases e : k1 = k
    · rw [if_pos ⟨rfl, by omega⟩, if_pos ⟨rfl, e⟩]
    · rw [if_neg (by omega), if_neg (fun q => e q.2)]; exact h4 k1 hk1
  · intro k1 hk1
    rw [z_up, if_neg (by omega)]; exact h5 k1 hk1
  · intro k1 hk1
    rw [z_up, if_neg (by omega)]; exact h6 k1 hk1
theorem zQ.set5 {m : ax_M} {s : zS} {P : zP} {k : Nat} {v : Nat} (hs : zW s) (h : zQ m 0 s P) (hk : k < s.no) : zQ (ax_up m 75 (4 * k + 2) (nI v)) 0 s (P.set 5 k v) := by
  have a1 := hs.ng4
  have a2 := hs.no6
  obtain ⟨h0, h1, h2, h3, h4, h5, h6⟩ := h
  refine ⟨?_, ?_, ?_, ?_, ?_, ?_, ?_⟩
  · rw [z_up, if_neg (by omega)]; exact h0
  · intro k1 hk1
    rw [z_up, if_neg (by omega)]; exact h1 k1 hk1
  · intro k1 hk1
    rw [z_up, if_neg (by omega)]; exact h2 k1 hk1
  · intro k1 hk1
    rw [z_up, if_neg (by omega)]; exact h3 k1 hk1
  · intro k1 hk1
    rw [z_up, if_neg (by omega)]; exact h4 k1 hk1
  · intro k1 hk1
    rw [z_up]
    show _ = nI (if 5 = 5 ∧ k1 = k then v else P 5 k1)
    by_cases e : k1 = k
    · rw [if_pos ⟨rfl, by omega⟩, if_pos ⟨rfl, e⟩]
    · rw [if_neg (by omega), if_neg (fun q => e q.2)]; exact h5 k1 hk1
  · intro k1 hk1
    rw [z_up, if_neg (by omega)]; exact h6 k1 hk1
theorem zQ.set6 {m : ax_M} {s : zS} {P : zP} {k : Nat} {v : Nat} (hs : zW s) (h : zQ m 0 s P) (hk : k < s.no) : zQ (ax_up m 75 (4 * k + 3) (nI v)) 0 s (P.set 6 k v) := by
  have a1 := hs.ng4
  have a2 := hs.no6
  obtain ⟨h0, h1, h2, h3, h4, h5, h6⟩ := h
  refine ⟨?_, ?_, ?_, ?_, ?_, ?_, ?_⟩
  · rw [z_up, if_neg (by omega)]; exact h0
  · intro k1 hk1
    rw [z_up, if_neg (by omega)]; exact h1 k1 hk1
  · intro k1 hk1
    rw [z_up, if_neg (by omega)]; exact h2 k1 hk1
  · intro k1 hk1
    rw [z_up, if_neg (by omega)]; exact h3 k1 hk1
  · intro k1 hk1
    rw [z_up, if_neg (by omega)]; exact h4 k1 hk1
  · intro k1 hk1
    rw [z_up, if_neg (by omega)]; exact h5 k1 hk1
  · intro k1 hk1
    rw [z_up]
    show _ = nI (if 6 = 6 ∧ k1 = k then v else P 6 k1)
    by_cases e : k1 = k
    · rw [if_pos ⟨rfl, by omega⟩, if_pos ⟨rfl, e⟩]
    · rw [if_neg (by omega), if_neg (fun q => e q.2)]; exact h6 k1 hk1
def zin (a : Int32) (n : Nat) : Bool := decide (0 ≤ a.toInt ∧ a.toInt < n)
def zwi (a : Int32) (lo hi : Int) : Bool := decide (lo ≤ a.toInt ∧ a.toInt ≤ hi)
theorem zin_t {a : Int32} {n : Nat} (h : zin a n = true) (hn : n < 1000000) : ∃ i, i < n ∧ a = nI i := by
  have h1 := of_decide_eq_true h
  rcases z_split a n hn with h2 | h2
  · omega
  · exact h2
theorem zwi_t {a : Int32} {lo hi : Nat} (h : zwi a lo hi = true) (hn : hi < 100000) : ∃ i, lo ≤ i ∧ i ≤ hi ∧ a = nI i := by
  have h1 := of_decide_eq_true h
  rcases z_split a (hi + 1) (by omega) with h2 | ⟨i, h2, rfl⟩
  · omega
  · rw [z_nti (by omega)] at h1
    exact ⟨i, by omega, by omega, rfl⟩
theorem zin_i {i n : Nat} (h : i < n) (hn : n < 1000000) : zin (nI i) n = true := by
  unfold zin; rw [z_nti (by omega)]; exact decide_eq_true (by omega)
theorem z_has {a : Int32} {n : Nat} (hn : n < 1000000) : (if a < 0 then (0 : Int32) else if nI n ≤ a then 0 else 1) = zb (zin a n) := by
  unfold zin
  have h0 : (0 : Int32).toInt = 0 := rfl
  by_cases h1 : a < 0
  · rw [if_pos h1, decide_eq_false (by rw [z_lt] at h1; omega)]; rfl
  · rw [if_neg h1]
    rw [z_lt] at h1
    by_cases h2 : nI n ≤ a
    · rw [if_pos h2, decide_eq_false (by rw [z_le, z_nti (by omega)] at h2; omega)]; rfl
    · rw [if_neg h2, decide_eq_true (by rw [z_le, z_nti (by omega)] at h2; omega)]; rfl
theorem z7_in {a lo hi : Int32} {m : ax_M} : F7_within a lo hi m = zb (zwi a lo.toInt hi.toInt) := by
  unfold zwi F7_within
  by_cases h1 : a < lo
  · rw [if_pos h1, decide_eq_false (by rw [z_lt] at h1; omega)]; rfl
  · rw [if_neg h1]
    rw [z_lt] at h1
    by_cases h2 : hi < a
    · rw [if_pos h2, decide_eq_false (by rw [z_lt] at h2; omega)]; rfl
    · rw [if_neg h2, decide_eq_true (by rw [z_lt] at h2; omega)]; rfl
theorem z8_in {x : Int32} {y z : Int64} {m : ax_M} (lo hi : Int) (hy : y.toInt = lo) (hz : z.toInt = hi) : F8_in x.toInt64 y z m = zb (zwi x lo hi) := by
  rw [z_inL lo hi hy hz, z_ite1]; rfl
theorem z8_is {a : Int32} {n : Nat} {m : ax_M} (hn : n < 1000000) : F8_in a.toInt64 0 (nI n - 1).toInt64 m = zb (zin a n) := by
  rw [z_is hn, z_ite1]; rfl
section ZC
variable {m : ax_M} {g : Nat} {s : zS} {P : zP} {a : Int32}
theorem z7_hasBank (hs : zW s) (hG : zG m g s P) : F1_hasBank g a m = zb (zin a s.nb) := by
  have := hs.nb4
  unfold F1_hasBank; rw [hG.nb]; exact z_has (by omega)
theorem z7_hasBridge (hs : zW s) (hG : zG m g s P) : F1_hasBridge g a m = zb (zin a s.ng) := by
  have := hs.ng4
  unfold F1_hasBridge; rw [hG.ng]; exact z_has (by omega)
theorem z7_hasOne (hs : zW s) (hG : zG m g s P) : F1_hasOne g a m = zb (zin a s.no) := by
  have := hs.no6
  unfold F1_hasOne; rw [hG.no]; exact z_has (by omega)
theorem z8_isBank (hs : zW s) (hE : zE m s) : F8_isBank a m = zb (zin a s.nb) := by
  have := hs.nb4
  unfold F8_isBank; rw [hE.nb]; exact z8_is (by omega)
theorem z8_isBridge (hs : zW s) (hE : zE m s) : F8_isBridge a m = zb (zin a s.ng) := by
  have := hs.ng4
  unfold F8_isBridge; rw [hE.ng]; exact z8_is (by omega)
theorem z8_isOne (hs : zW s) (hE : zE m s) : F8_isOne a m = zb (zin a s.no) := by
  have := hs.no6
  unfold F8_isOne; rw [hE.no]; exact z8_is (by omega)
def ztwo (s : zS) (a b c : Int32) : Bool := zin a s.ng && zin b s.no && zin c s.no && !decide (b = c)
theorem z8_two {b c : Int32} (hs : zW s) (hE : zE m s) : F8_areTwo a b c m = zb (ztwo s a b c) := by
  unfold F8_areTwo ztwo
  rw [z8_isBridge hs hE, z8_isOne hs hE, z8_isOne hs hE]
  cases zin a s.ng <;> cases zin b s.no <;> cases zin c s.no <;> by_cases h : b = c <;> simp [zb, h]
theorem z7_asked {b c i j : Int32} (hs : zW s) (hG : zG m g s P) : F1_isAsked g a b c i j m = zb (ztwo s a b c && zwi i 0 3 && zwi j 0 3) := by
  unfold F1_isAsked ztwo
  rw [z7_hasBridge hs hG, z7_hasOne hs hG, z7_hasOne hs hG, z7_in, z7_in]
  show _ = zb (zin a s.ng && zin b s.no && zin c s.no && !decide (b = c) && zwi i (0 : Int32).toInt (3 : Int32).toInt && zwi j (0 : Int32).toInt (3 : Int32).toInt)
  cases zin a s.ng <;> cases zin b s.no <;> cases zin c s.no <;> by_cases h : b = c <;> cases zwi i (0 : Int32).toInt (3 : Int32).toInt <;> cases zwi j (0 : Int32).toInt (3 : Int32).toInt <;> simp [zb, h]
theorem ztwo_t {b c : Int32} (hs : zW s) (h : ztwo s a b c = true) : ∃ x y z, x < s.ng ∧ y < s.no ∧ z < s.no ∧ y ≠ z ∧ a = nI x ∧ b = nI y ∧ c = nI z := by
  have h1 := hs.ng4
  have h2 := hs.no6
  unfold ztwo at h
  simp only [Bool.and_eq_true, Bool.not_eq_true', decide_eq_false_iff_not] at h
  obtain ⟨⟨⟨ha, hb⟩, hc⟩, hn⟩ := h
  obtain ⟨x, hx, rfl⟩ := zin_t ha (by omega)
  obtain ⟨y, hy, rfl⟩ := zin_t hb (by omega)
  obtain ⟨z, hz, rfl⟩ := zin_t hc (by omega)
  exact ⟨x, y, z, hx, hy, hz, fun e => hn (by rw [e]), rfl, rfl, rfl⟩
theorem ztwo_i {x y z : Nat} (hs : zW s) (hx : x < s.ng) (hy : y < s.no) (hz : z < s.no) (h : y ≠ z) : ztwo s (nI x) (nI y) (nI z) = true := by
  have h1 := hs.ng4
  have h2 := hs.no6
  unfold ztwo
  rw [zin_i hx (by omega), zin_i hy (by omega), zin_i hz (by omega)]
  simp only [Bool.and_self, Bool.true_and, Bool.not_eq_true', decide_eq_false_iff_not]
  rw [z_neq (by omega) (by omega)]
  exact h
end ZC
