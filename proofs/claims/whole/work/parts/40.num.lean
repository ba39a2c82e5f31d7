/-! PURE: numbers -/
theorem z_lit (k : Nat) : (OfNat.ofNat k : Int32) = nI k := rfl
theorem z_lt {a b : Int32} : a < b ↔ a.toInt < b.toInt := Int32.lt_iff_toInt_lt
theorem z_le {a b : Int32} : a ≤ b ↔ a.toInt ≤ b.toInt := Int32.le_iff_toInt_le
theorem z_eq {a b : Int32} : a = b ↔ a.toInt = b.toInt := Int32.toInt_inj.symm
theorem z_lo (a : Int32) : -2147483648 ≤ a.toInt := Int32.le_toInt a
theorem z_hi (a : Int32) : a.toInt < 2147483648 := Int32.toInt_lt a
theorem z_add {a b : Int32} (h1 : -2147483648 ≤ a.toInt + b.toInt) (h2 : a.toInt + b.toInt < 2147483648) : (a + b).toInt = a.toInt + b.toInt := by
  rw [Int32.toInt_add]
  exact Int.bmod_eq_of_le (by omega) (by omega)
theorem z_sub {a b : Int32} (h1 : -2147483648 ≤ a.toInt - b.toInt) (h2 : a.toInt - b.toInt < 2147483648) : (a - b).toInt = a.toInt - b.toInt := by
  rw [Int32.toInt_sub]
  exact Int.bmod_eq_of_le (by omega) (by omega)
theorem z_mul {a b : Int32} (h1 : -2147483648 ≤ a.toInt * b.toInt) (h2 : a.toInt * b.toInt < 2147483648) : (a * b).toInt = a.toInt * b.toInt := by
  rw [Int32.toInt_mul]
  exact Int.bmod_eq_of_le (by omega) (by omega)
theorem z_neg {a : Int32} (h1 : -2147483648 < a.toInt) : (-a).toInt = -a.toInt := by
  have h2 := z_hi a
  rw [Int32.toInt_neg]
  exact Int.bmod_eq_of_le (by omega) (by omega)
theorem z_in (x y z : Int64) (m : ax_M) : F8_in x y z m = if y.toInt ≤ x.toInt ∧ x.toInt ≤ z.toInt then 1 else 0 := by
  unfold F8_in
  by_cases h1 : lg_cmp x y < 0
  · rw [if_pos h1, if_neg]
    have := Int64.lt_iff_toInt_lt.mp ((lg_cmp_lt x y).mp h1)
    omega
  · rw [if_neg h1]
    have h1' : ¬ x < y := fun h => h1 ((lg_cmp_lt x y).mpr h)
    rw [Int64.lt_iff_toInt_lt] at h1'
    by_cases h2 : 0 < lg_cmp x z
    · rw [if_pos h2, if_neg]
      have := Int64.lt_iff_toInt_lt.mp ((lg_cmp_gt x z).mp h2)
      omega
    · rw [if_neg h2, if_pos]
      have h2' : ¬ z < x := fun h => h2 ((lg_cmp_gt x z).mpr h)
      rw [Int64.lt_iff_toInt_lt] at h2'
      omega
theorem z_i64 (x : Int32) : x.toInt64.toInt = x.toInt := Int32.toInt_toInt64 x
theorem z_inL {x : Int32} {y z : Int64} {m : ax_M} (lo hi : Int) (hy : y.toInt = lo) (hz : z.toInt = hi) : F8_in x.toInt64 y z m = if lo ≤ x.toInt ∧ x.toInt ≤ hi then 1 else 0 := by
  rw [z_in, hy, hz, z_i64]
theorem z_is {a : Int32} {n : Nat} {m : ax_M} (hn : n < 1000000) : F8_in a.toInt64 0 (nI n - 1).toInt64 m = if 0 ≤ a.toInt ∧ a.toInt < n then 1 else 0 := by
  have h1 : (nI n - 1).toInt = (n : Int) - 1 := by
    rw [z_sub, nI_toInt (by omega)]
    · rfl
    · rw [nI_toInt (by omega)]; show _ ≤ (n : Int) - 1; omega
    · rw [nI_toInt (by omega)]; show (n : Int) - 1 < _; omega
  rw [z_inL 0 ((n : Int) - 1) rfl (by rw [z_i64]; exact h1)]
  by_cases h : 0 ≤ a.toInt ∧ a.toInt < n
  · rw [if_pos h, if_pos (by omega)]
  · rw [if_neg h, if_neg (by omega)]
theorem z_split (a : Int32) (n : Nat) (hn : n < 1000000) : (a.toInt < 0 ∨ (n : Int) ≤ a.toInt) ∨ ∃ i, i < n ∧ a = nI i := by
  rcases pk_ix a (show n < 2 ^ 31 by omega) with h | h | h
  · exact Or.inl (Or.inl (Int32.lt_iff_toInt_lt.mp h))
  · refine Or.inl (Or.inr ?_)
    have := Int32.le_iff_toInt_le.mp h
    rwa [nI_toInt (by omega)] at this
  · exact Or.inr h
theorem z_at {k n i : Nat} {m : ax_M} (h : i < n) (hn : n < 1000000) : F7_at k n (nI i) m = m k i := by
  unfold F7_at
  rw [if_neg (nI_in h (by omega)), nI_clamp (by omega)]
theorem z_put {k n i : Nat} {v : Int32} {m : ax_M} (h : i < n) (hn : n < 1000000) : F7_put k n (nI i) v m = ax_up m k i v := by
  unfold F7_put
  rw [if_neg (nI_in h (by omega)), nI_clamp (by omega)]
theorem z_up (m : ax_M) (i k : Nat) (x : Int32) (a b : Nat) : ax_up m i k x a b = if a = i ∧ b = k then x else m a b := by
  unfold ax_up upd
  by_cases h : a = i
  · subst h
    rw [if_pos rfl]
    by_cases h2 : b = k
    · rw [if_pos h2, if_pos ⟨rfl, h2⟩]
    · rw [if_neg h2, if_neg (fun q => h2 q.2)]
  · rw [if_neg h, if_neg (fun q => h q.1)]
theorem z_upr {m : ax_M} {i k : Nat} {x : Int32} {a : Nat} (h : a ≠ i) : ax_up m i k x a = m a := by
  unfold ax_up
  rw [if_neg h]
theorem z_cpy {k0 n0 k1 n1 : Nat} {m : ax_M} {a b : Nat} (hn : n1 = n0) : F7_copyRow k0 n0 k1 n1 m a b = if a = k1 ∧ b < n0 then m k0 b else m a b := by
  subst hn
  unfold F7_copyRow
  rw [if_neg (Nat.lt_irrefl _)]
  by_cases h : a = k1
  · subst h
    rw [if_pos rfl]
    by_cases h2 : b < n1
    · rw [if_pos ⟨rfl, h2⟩, sb_cpy0 h2]
    · rw [if_neg (fun q => h2 q.2), pk_cpy_out (Or.inr (by omega))]
  · rw [if_neg h, if_neg (fun q => h q.1)]
/-! PURE: what there is, and a page of it -/
def zS : Type := (Nat × Nat × Nat × Nat) × (Nat → Nat) × (Nat → Nat)
def zS.nb (s : zS) : Nat := s.1.1
def zS.ng (s : zS) : Nat := s.1.2.1
def zS.no (s : zS) : Nat := s.1.2.2.1
def zS.sw (s : zS) : Nat := s.1.2.2.2
def zS.fs (s : zS) : Nat → Nat := s.2.1
def zS.sc (s : zS) : Nat → Nat := s.2.2
def zP : Type := Nat → Nat → Nat
def zP.cr (P : zP) : Nat := P 0 0
def zP.hp (P : zP) : Nat → Nat := P 1
def zP.pl (P : zP) : Nat → Nat := P 2
def zP.kd (P : zP) : Nat → Nat := P 3
def zP.wt (P : zP) : Nat → Nat := P 4
def zP.bk (P : zP) : Nat → Nat := P 5
def zP.gl (P : zP) : Nat → Nat := P 6
def zP.set (P : zP) (f k v : Nat) : zP := fun a b => if a = f ∧ b = k then v else P a b
def zW (s : zS) : Prop := 2 ≤ s.nb ∧ s.nb ≤ 4 ∧ s.ng ≤ 4 ∧ s.no ≤ 6 ∧ 1 ≤ s.sw ∧ s.sw ≤ 9 ∧ (∀ b, b < s.ng → s.fs b < s.nb) ∧ (∀ b, b < s.ng → s.sc b < s.nb) ∧ (∀ b, b < s.ng → s.fs b ≠ s.sc b)
theorem zW.nb2 {s : zS} (h : zW s) : 2 ≤ s.nb := h.1
theorem zW.nb4 {s : zS} (h : zW s) : s.nb ≤ 4 := h.2.1
theorem zW.ng4 {s : zS} (h : zW s) : s.ng ≤ 4 := h.2.2.1
theorem zW.no6 {s : zS} (h : zW s) : s.no ≤ 6 := h.2.2.2.1
theorem zW.sw1 {s : zS} (h : zW s) : 1 ≤ s.sw := h.2.2.2.2.1
theorem zW.sw9 {s : zS} (h : zW s) : s.sw ≤ 9 := h.2.2.2.2.2.1
theorem zW.fs {s : zS} (h : zW s) {b : Nat} (hb : b < s.ng) : s.fs b < s.nb := h.2.2.2.2.2.2.1 b hb
theorem zW.sc {s : zS} (h : zW s) {b : Nat} (hb : b < s.ng) : s.sc b < s.nb := h.2.2.2.2.2.2.2.1 b hb
theorem zW.ne {s : zS} (h : zW s) {b : Nat} (hb : b < s.ng) : s.fs b ≠ s.sc b := h.2.2.2.2.2.2.2.2 b hb
def zV (s : zS) (P : zP) : Prop := (∀ k, k < 4 → P.hp k ≤ 20) ∧ (∀ k, s.nb ≤ k → k < 4 → P.hp k = 0) ∧ (∀ b, b < s.ng → P.pl b ≤ 20) ∧ (∀ p, p < s.no → P.kd p ≤ 4) ∧ (∀ p, p < s.no → 1 ≤ P.wt p ∧ P.wt p ≤ 99) ∧ (∀ p, p < s.no → P.bk p < s.nb) ∧ (∀ p, p < s.no → P.gl p < s.nb)
theorem zV.hp {s : zS} {P : zP} (h : zV s P) {k : Nat} (hk : k < 4) : P.hp k ≤ 20 := h.1 k hk
theorem zV.hp0 {s : zS} {P : zP} (h : zV s P) {k : Nat} (hn : s.nb ≤ k) (hk : k < 4) : P.hp k = 0 := h.2.1 k hn hk
theorem zV.pl {s : zS} {P : zP} (h : zV s P) {b : Nat} (hb : b < s.ng) : P.pl b ≤ 20 := h.2.2.1 b hb
theorem zV.kd {s : zS} {P : zP} (h : zV s P) {p : Nat} (hp : p < s.no) : P.kd p ≤ 4 := h.2.2.2.1 p hp
theorem zV.wt1 {s : zS} {P : zP} (h : zV s P) {p : Nat} (hp : p < s.no) : 1 ≤ P.wt p := (h.2.2.2.2.1 p hp).1
theorem zV.wt {s : zS} {P : zP} (h : zV s P) {p : Nat} (hp : p < s.no) : P.wt p ≤ 99 := (h.2.2.2.2.1 p hp).2
theorem zV.bk {s : zS} {P : zP} (h : zV s P) {p : Nat} (hp : p < s.no) : P.bk p < s.nb := h.2.2.2.2.2.1 p hp
theorem zV.gl {s : zS} {P : zP} (h : zV s P) {p : Nat} (hp : p < s.no) : P.gl p < s.nb := h.2.2.2.2.2.2 p hp
/-- a gorge of the class, at cell g -/
def zG (m : ax_M) (g : Nat) (s : zS) (P : zP) : Prop := m g 0 = nI s.nb ∧ m g 1 = nI s.ng ∧ m g 2 = nI s.no ∧ m g 3 = nI s.sw ∧ m g 4 = nI P.cr ∧ (∀ k, k < 4 → m (g + 1) k = nI (P.hp k)) ∧ (∀ b, b < s.ng → m (g + 2) b = nI (s.fs b)) ∧ (∀ b, b < s.ng → m (g + 3) b = nI (s.sc b)) ∧ (∀ b, b < s.ng → m (g + 4) b = nI (P.pl b)) ∧ (∀ p, p < s.no → m (g + 5) p = nI (P.kd p)) ∧ (∀ p, p < s.no → m (g + 6) p = nI (P.wt p)) ∧ (∀ p, p < s.no → m (g + 7) p = nI (P.bk p)) ∧ (∀ p, p < s.no → m (g + 8) p = nI (P.gl p))
theorem zG.nb {m : ax_M} {g : Nat} {s : zS} {P : zP} (h : zG m g s P) : m g 0 = nI s.nb := h.1
theorem zG.ng {m : ax_M} {g : Nat} {s : zS} {P : zP} (h : zG m g s P) : m g 1 = nI s.ng := h.2.1
theorem zG.no {m : ax_M} {g : Nat} {s : zS} {P : zP} (h : zG m g s P) : m g 2 = nI s.no := h.2.2.1
theorem zG.sw {m : ax_M} {g : Nat} {s : zS} {P : zP} (h : zG m g s P) : m g 3 = nI s.sw := h.2.2.2.1
theorem zG.cr {m : ax_M} {g : Nat} {s : zS} {P : zP} (h : zG m g s P) : m g 4 = nI P.cr := h.2.2.2.2.1
theorem zG.hp {m : ax_M} {g : Nat} {s : zS} {P : zP} (h : zG m g s P) {k : Nat} (hk : k < 4) : m (g + 1) k = nI (P.hp k) := h.2.2.2.2.2.1 k hk
theorem zG.fs {m : ax_M} {g : Nat} {s : zS} {P : zP} (h : zG m g s P) {k : Nat} (hk : k < s.ng) : m (g + 2) k = nI (s.fs k) := h.2.2.2.2.2.2.1 k hk
theorem zG.sc {m : ax_M} {g : Nat} {s : zS} {P : zP} (h : zG m g s P) {k : Nat} (hk : k < s.ng) : m (g + 3) k = nI (s.sc k) := h.2.2.2.2.2.2.2.1 k hk
theorem zG.pl {m : ax_M} {g : Nat} {s : zS} {P : zP} (h : zG m g s P) {k : Nat} (hk : k < s.ng) : m (g + 4) k = nI (P.pl k) := h.2.2.2.2.2.2.2.2.1 k hk
theorem zG.kd {m : ax_M} {g : Nat} {s : zS} {P : zP} (h : zG m g s P) {k : Nat} (hk : k < s.no) : m (g + 5) k = nI (P.kd k) := h.2.2.2.2.2.2.2.2.2.1 k hk
theorem zG.wt {m : ax_M} {g : Nat} {s : zS} {P : zP} (h : zG m g s P) {k : Nat} (hk : k < s.no) : m (g + 6) k = nI (P.wt k) := h.2.2.2.2.2.2.2.2.2.2.1 k hk
theorem zG.bk {m : ax_M} {g : Nat} {s : zS} {P : zP} (h : zG m g s P) {k : Nat} (hk : k < s.no) : m (g + 7) k = nI (P.bk k) := h.2.2.2.2.2.2.2.2.2.2.2.1 k hk
theorem zG.gl {m : ax_M} {g : Nat} {s : zS} {P : zP} (h : zG m g s P) {k : Nat} (hk : k < s.no) : m (g + 8) k = nI (P.gl k) := h.2.2.2.2.2.2.2.2.2.2.2.2 k hk
/-- the same, of the reference: what there is, and a page at place o -/
def zE (m : ax_M) (s : zS) : Prop := m 74 4 = nI s.nb ∧ m 74 2 = nI s.ng ∧ m 74 3 = nI s.no ∧ m 74 5 = nI s.sw ∧ (∀ b, b < s.ng → m 76 (2 * b) = nI (s.fs b)) ∧ (∀ b, b < s.ng → m 76 (2 * b + 1) = nI (s.sc b))
theorem zE.nb {m : ax_M} {s : zS} (h : zE m s) : m 74 4 = nI s.nb := h.1
theorem zE.ng {m : ax_M} {s : zS} (h : zE m s) : m 74 2 = nI s.ng := h.2.1
theorem zE.no {m : ax_M} {s : zS} (h : zE m s) : m 74 3 = nI s.no := h.2.2.1
theorem zE.sw {m : ax_M} {s : zS} (h : zE m s) : m 74 5 = nI s.sw := h.2.2.2.1
theorem zE.fs {m : ax_M} {s : zS} (h : zE m s) {b : Nat} (hb : b < s.ng) : m 76 (2 * b) = nI (s.fs b) := h.2.2.2.2.1 b hb
theorem zE.sc {m : ax_M} {s : zS} (h : zE m s) {b : Nat} (hb : b < s.ng) : m 76 (2 * b + 1) = nI (s.sc b) := h.2.2.2.2.2 b hb
def zQ (m : ax_M) (o : Nat) (s : zS) (P : zP) : Prop := m 75 (o + 32) = nI P.cr ∧ (∀ k, k < 4 → m 75 (o + (24 + k)) = nI (P.hp k)) ∧ (∀ b, b < s.ng → m 75 (o + (28 + b)) = nI (P.pl b)) ∧ (∀ p, p < s.no → m 75 (o + 4 * p) = nI (P.kd p)) ∧ (∀ p, p < s.no → m 75 (o + (4 * p + 1)) = nI (P.wt p)) ∧ (∀ p, p < s.no → m 75 (o + (4 * p + 2)) = nI (P.bk p)) ∧ (∀ p, p < s.no → m 75 (o + (4 * p + 3)) = nI (P.gl p))
theorem zQ.cr {m : ax_M} {s : zS} {P : zP} (h : zQ m 0 s P) : m 75 32 = nI P.cr := h.1
theorem zQ.hp {m : ax_M} {s : zS} {P : zP} (h : zQ m 0 s P) {k : Nat} (hk : k < 4) : m 75 (24 + k) = nI (P.hp k) := by have := h.2.1 k hk; rwa [Nat.zero_add] at this
theorem zQ.pl {m : ax_M} {s : zS} {P : zP} (h : zQ m 0 s P) {k : Nat} (hk : k < s.ng) : m 75 (28 + k) = nI (P.pl k) := by have := h.2.2.1 k hk; rwa [Nat.zero_add] at this
theorem zQ.kd {m : ax_M} {s : zS} {P : zP} (h : zQ m 0 s P) {k : Nat} (hk : k < s.no) : m 75 (4 * k) = nI (P.kd k) := by have := h.2.2.2.1 k hk; rwa [Nat.zero_add] at this
theorem zQ.wt {m : ax_M} {s : zS} {P : zP} (h : zQ m 0 s P) {k : Nat} (hk : k < s.no) : m 75 (4 * k + 1) = nI (P.wt k) := by have := h.2.2.2.2.1 k hk; rwa [Nat.zero_add] at this
theorem zQ.bk {m : ax_M} {s : zS} {P : zP} (h : zQ m 0 s P) {k : Nat} (hk : k < s.no) : m 75 (4 * k + 2) = nI (P.bk k) := by have := h.2.2.2.2.2.1 k hk; rwa [Nat.zero_add] at this
theorem zQ.gl {m : ax_M} {s : zS} {P : zP} (h : zQ m 0 s P) {k : Nat} (hk : k < s.no) : m 75 (4 * k + 3) = nI (P.gl k) := by have := h.2.2.2.2.2.2 k hk; rwa [Nat.zero_add] at this
