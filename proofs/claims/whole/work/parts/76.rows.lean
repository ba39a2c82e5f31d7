/-! PURE: rows of crossings: how many, the first of them; the class's count -/
def zls (f : Nat → Nat) : List Nat → Nat
  | [] => 0
  | v :: l => f v + zls f l
theorem zls_f {f : Nat → Nat} {p : Nat → Bool} (h : ∀ v, p v = false → f v = 0) : ∀ l : List Nat, zls f (l.filter p) = zls f l
  | [] => rfl
  | v :: l => by
    cases e : p v with
    | true => rw [List.filter_cons_of_pos e]; unfold zls; rw [zls_f h l]
    | false => rw [List.filter_cons_of_neg (by rw [e]; simp), zls_f h l]; conv => rhs; unfold zls
               rw [h v e, Nat.zero_add]
theorem zls_le {f : Nat → Nat} {B : Nat} (h : ∀ v, f v ≤ B) : ∀ l : List Nat, zls f l ≤ B * l.length
  | [] => Nat.le_refl _
  | v :: l => by
    have := zls_le h l
    have h1 := h v
    unfold zls
    rw [List.length_cons, Nat.mul_succ]
    omega
theorem zls_0 {f : Nat → Nat} : ∀ l : List Nat, zls f l = 0 → ∀ v, v ∈ l → f v = 0
  | [], _, v, h => by cases h
  | u :: l, h0, v, h => by
    unfold zls at h0
    rcases List.mem_cons.mp h with w | w
    · rw [w]; omega
    · exact zls_0 l (by omega) v w
/-- of rows of t steps from c to g: how many, by the next step -/
def znx (fo : Nat → Nat → Option Nat) (r : Nat → Nat) (c v : Nat) : Nat := match fo c v with
  | none => 0
  | some c' => r c'
def znr (s : zS) (P : zP) (g : Nat) : Nat → Nat → Nat
  | 0, c => if c = g then 1 else 0
  | t + 1, c => zls (znx (zfo s P) (znr s P g t) c) (zvs s P)
theorem znr_le {s : zS} {P : zP} {g : Nat} (hs : zW s) : ∀ t c, znr s P g t c ≤ 120 ^ t
  | 0, c => by unfold znr; split <;> simp
  | t + 1, c => by
    unfold znr
    refine Nat.le_trans (zls_le (B := 120 ^ t) (fun v => ?_) _) ?_
    · unfold znx
      split
      · exact Nat.zero_le _
      · exact znr_le hs t _
    · rw [Nat.pow_succ]
      exact Nat.mul_le_mul_left _ (zvs_l hs)
theorem znr_4 {s : zS} {P : zP} {g t c : Nat} (hs : zW s) (ht : t ≤ 4) : znr s P g t c < 2147483648 := by
  have h1 := znr_le (P := P) (g := g) hs t c
  have h2 : 120 ^ t ≤ 120 ^ 4 := Nat.pow_le_pow_right (by decide) ht
  have h3 : (120 : Nat) ^ 4 = 207360000 := by decide
  omega
section ZE2
variable {m : ax_M} {s : zS} {P : zP} {c0 g : Nat}
/-- what the class knows of the ways and moves, at the end of its survey -/
def z3A (m : ax_M) (s : zS) (P : zP) (c0 : Nat) : Prop := z3M m s (zvs s P) ∧ z3L m (zvs s P) (zst (zfo s P) (zvs s P) c0 180)
theorem z3A.same {m' : ax_M} (h : z3A m s P c0) (e : ∀ d, 59 ≤ d → d ≤ 68 → m' d = m d) : z3A m' s P c0 := by
  unfold z3A z3M z3L at *
  rw [e 59 (by omega) (by omega), e 60 (by omega) (by omega), e 61 (by omega) (by omega), e 62 (by omega) (by omega), e 63 (by omega) (by omega), e 64 (by omega) (by omega), e 65 (by omega) (by omega), e 66 (by omega) (by omega), e 67 (by omega) (by omega), e 68 (by omega) (by omega)]
  exact h
/-- the rows of t steps that are known: of those no deeper than n - t -/
def z3R (m : ax_M) (s : zS) (P : zP) (c0 g n t : Nat) : Prop := ∀ (k : Nat) (e : zEt), (zst (zfo s P) (zvs s P) c0 180)[k]? = some e → e.2.2.2 + t ≤ n → m 69 (t * 180 + k) = nI (znr s P g t e.1)
theorem z7_rowsBy (hs : zW s) (h0 : c0 < 4096) (hA : z3A m s P c0) {n t k j : Nat} {e : zEt} (hn : n ≤ 4) (ht : t + 1 ≤ n) (hR : z3R m s P c0 g n t) (hk : (zst (zfo s P) (zvs s P) c0 180)[k]? = some e) (hd : e.2.2.2 + (t + 1) ≤ n) (hj : j < (zvs s P).length) : F3_rowsBy (nI k) (nI j) (nI (t + 1)) m = nI (znx (zfo s P) (znr s P g t) e.1 ((zvs s P).getD j 0)) := by
  have hB := zst_bi (fo := zfo s P) (vs := zvs s P) (c0 := c0) 180
  have hlen := hB.len hs h0
  have hkl := zlt_of hk
  have hvl := zvs_l (P := P) hs
  have c4 := hB.lt hs h0 hk
  have q1 := (hA.2.2.1 k e hk).1
  obtain ⟨o1, o2⟩ := z7_move hs c4 hA.1 hj
  unfold F3_rowsBy
  rw [z_at (k := 65) (by omega) (by omega), q1, o1]
  unfold znx
  cases ef : zfo s P e.1 ((zvs s P).getD j 0) with
  | none => rw [if_pos (show zb (none : Option Nat).isSome = 0 from rfl)]; rfl
  | some c' =>
    rw [if_neg (show ¬ zb (some c').isSome = 0 from (by decide : ¬ zb true = 0)), o2 c' ef, nI_pred]
    obtain ⟨k', x, x1, x2, x3⟩ := zst_all hlen hk (zgetm _ _ hj) ef
    have hk'l := zlt_of x1
    have hc' := hB.lt hs h0 x1
    have q64 := (hA.2.2.1 k' x x1).2.2.2.2
    rw [x2] at q64 hc'
    unfold F3_indexOf F3_rowsFrom
    rw [z_at hc' (by omega), q64, nI_pred, show nI t * 180 + nI k' = nI (t * 180 + k') by rw [z_lit 180, pk_mul, nI_add], z_at (by omega) (by omega), hR k' x x1 (by omega), x2]
theorem z7_sum (hs : zW s) (h0 : c0 < 4096) (hA : z3A m s P c0) {n t k : Nat} {e : zEt} {v1 v2 : Int32} (hn : n ≤ 4) (ht : t + 1 ≤ n) (hR : z3R m s P c0 g n t) (hk : (zst (zfo s P) (zvs s P) c0 180)[k]? = some e) (hd : e.2.2.2 + (t + 1) ≤ n) : ∀ f j acc, j ≤ (zvs s P).length → (zvs s P).length - j < f → E3_countRows_78 f v1 v2 (nI (t + 1)) (nI k) acc (nI j) m ∧ (L3_countRows_78 f v1 v2 (nI (t + 1)) (nI k) acc (nI j) m).1 = acc + nI (zls (znx (zfo s P) (znr s P g t) e.1) ((zvs s P).drop j)) := by
  have hvl := zvs_l (P := P) hs
  intro f
  induction f with
  | zero => intro j acc _ h; omega
  | succ f ih =>
    intro j acc hj hf
    unfold E3_countRows_78 L3_countRows_78
    rw [hA.1.1]
    by_cases w : j = (zvs s P).length
    · rw [if_pos (z_let (by omega) (by omega)), w, List.drop_length]
      refine ⟨fun x => absurd (z_let (by omega) (by omega)) x, ?_⟩
      show acc = acc + 0
      rw [Int32.add_zero]
    · have hlt : ¬ nI (zvs s P).length ≤ nI j := z_lef (by omega) (by omega)
      rw [if_neg hlt, z7_rowsBy hs h0 hA hn ht hR hk hd (by omega), nI_1 j, zdrop _ _ (show j < (zvs s P).length by omega)]
      obtain ⟨i1, i2⟩ := ih (j + 1) (acc + nI (znx (zfo s P) (znr s P g t) e.1 ((zvs s P).getD j 0))) (by omega) (by omega)
      refine ⟨fun _ => i1, ?_⟩
      rw [i2, Int32.add_assoc, nI_add]
      rfl
theorem z7_r51 (hs : zW s) (h0 : c0 < 4096) {n t : Nat} {v1 : Int32} (hn : n ≤ 4) (ht : t + 1 ≤ n) : ∀ f i m, i ≤ (zst (zfo s P) (zvs s P) c0 180).length → (zst (zfo s P) (zvs s P) c0 180).length - i < f → z3A m s P c0 → z3R m s P c0 g n t → (∀ (k : Nat) (e : zEt), k < i → (zst (zfo s P) (zvs s P) c0 180)[k]? = some e → m 69 ((t + 1) * 180 + k) = nI (znr s P g (t + 1) e.1)) → E3_countRows_51 f v1 (nI n) (nI (t + 1)) (nI i) m ∧ (∀ d, d ≠ 69 → (L3_countRows_51 f v1 (nI n) (nI (t + 1)) (nI i) m).2 d = m d) ∧ (∀ j, j < (t + 1) * 180 → (L3_countRows_51 f v1 (nI n) (nI (t + 1)) (nI i) m).2 69 j = m 69 j) ∧ z3R (L3_countRows_51 f v1 (nI n) (nI (t + 1)) (nI i) m).2 s P c0 g n (t + 1) := by
  have hB := zst_bi (fo := zfo s P) (vs := zvs s P) (c0 := c0) 180
  have hlen := hB.len hs h0
  intro f
  induction f with
  | zero => intro i m _ h; omega
  | succ f ih =>
    intro i m hi hf hA hR hI
    unfold E3_countRows_51 L3_countRows_51
    rw [hA.2.1]
    by_cases w : i = (zst (zfo s P) (zvs s P) c0 180).length
    · rw [if_pos (z_let (by omega) (by omega))]
      exact ⟨fun x => absurd (z_let (by omega) (by omega)) x, fun _ _ => rfl, fun _ _ => rfl, fun k e hk _ => hI k e (by have := zlt_of hk; omega) hk⟩
    · have hlt : ¬ nI (zst (zfo s P) (zvs s P) c0 180).length ≤ nI i := z_lef (by omega) (by omega)
      obtain ⟨e, he⟩ := zget_of (show i < (zst (zfo s P) (zvs s P) c0 180).length by omega)
      have hdk := hB.dk i e he
      have ed : F3_depthOf (nI i) m = nI e.2.2.2 := by
        unfold F3_depthOf; rw [z_at (by omega) (by omega)]; exact (hA.2.2.1 i e he).2.2.2.1
      have en : nI n - nI (t + 1) = nI (n - (t + 1)) := pk_sub (by omega)
      have cd : (nI (n - (t + 1)) < nI e.2.2.2) ↔ n - (t + 1) < e.2.2.2 := z_nlt (by omega) (by omega)
      rw [if_neg hlt, ed, en]
      simp only [cd]
      by_cases wd : n - (t + 1) < e.2.2.2
      · rw [if_pos wd]
        refine ⟨fun _ x => absurd wd x, fun _ _ => rfl, fun _ _ => rfl, fun k x hk hd => ?_⟩
        by_cases hki : k < i
        · exact hI k x hki hk
        · have := hB.2.2.2 i k e x (by omega) he hk
          omega
      · rw [if_neg wd]
        obtain ⟨x1, x2⟩ := z7_sum (v1 := v1) (v2 := nI n) hs h0 hA hn ht hR he (by omega) 200 0 0 (by omega) (by have := zvs_l (P := P) hs; omega)
        rw [show nI 0 = (0 : Int32) from rfl] at x1 x2
        rw [List.drop_zero, Int32.zero_add] at x2
        have x2' : (L3_countRows_78 200 v1 (nI n) (nI (t + 1)) (nI i) 0 0 m).1 = nI (znr s P g (t + 1) e.1) := x2
        rw [x2', show nI (t + 1) * 180 + nI i = nI ((t + 1) * 180 + i) by rw [z_lit 180, pk_mul, nI_add], z_put (by omega) (by omega), nI_1 i]
        obtain ⟨i1, i2, i3, i4⟩ := ih (i + 1) (ax_up m 69 ((t + 1) * 180 + i) (nI (znr s P g (t + 1) e.1))) (by omega) (by omega) (hA.same (fun d _ _ => z_upr (by omega))) (fun k x hk hd => by
          have := zlt_of hk
          rw [z_up, if_neg (by omega)]; exact hR k x hk hd) (fun k x hk hx => by
          rw [z_up]
          by_cases y : k = i
          · rw [y, he] at hx
            cases hx
            rw [if_pos ⟨rfl, by rw [y]⟩]
          · rw [if_neg (by omega)]; exact hI k x (by omega) hx)
        exact ⟨fun _ _ => ⟨x1, i1⟩, fun d hd => by rw [i2 d hd, z_upr hd], fun j hj => by rw [i3 j hj, z_up, if_neg (by omega)], i4⟩
theorem z7_r43 (hs : zW s) (h0 : c0 < 4096) {n : Nat} {v1 : Int32} (hn : n ≤ 4) : ∀ f t m, t ≤ n → n - t < f → z3A m s P c0 → (∀ u, u ≤ t → z3R m s P c0 g n u) → E3_countRows_43 f v1 (nI n) (nI (t + 1)) m ∧ (∀ d, d ≠ 69 → (L3_countRows_43 f v1 (nI n) (nI (t + 1)) m).2 d = m d) ∧ (∀ u, u ≤ n → z3R (L3_countRows_43 f v1 (nI n) (nI (t + 1)) m).2 s P c0 g n u) := by
  have hB := zst_bi (fo := zfo s P) (vs := zvs s P) (c0 := c0) 180
  have hlen := hB.len hs h0
  intro f
  induction f with
  | zero => intro t m _ h; omega
  | succ f ih =>
    intro t m ht hf hA hR
    unfold E3_countRows_43 L3_countRows_43
    by_cases w : t = n
    · have hc : nI n < nI (t + 1) := (z_nlt (by omega) (by omega)).mpr (by omega)
      rw [if_pos hc]
      exact ⟨fun x => absurd hc x, fun _ _ => rfl, fun u hu => hR u (by omega)⟩
    · have hc : ¬ nI n < nI (t + 1) := fun x => by have := (z_nlt (by omega) (by omega)).mp x; omega
      obtain ⟨x1, x2, x3, x4⟩ := z7_r51 (g := g) (P := P) (v1 := v1) hs h0 hn (show t + 1 ≤ n by omega) 200 0 m (by omega) (by omega) hA (hR t (Nat.le_refl _)) (fun k e hk => by omega)
      rw [show nI 0 = (0 : Int32) from rfl] at x1 x2 x3 x4
      rw [if_neg hc, nI_1 (t + 1)]
      obtain ⟨i1, i2, i3⟩ := ih (t + 1) _ (by omega) (by omega) (hA.same (fun d _ _ => x2 d (by omega))) (fun u hu => by
        by_cases y : u = t + 1
        · rw [y]; exact x4
        · intro k e hk hd
          have := zlt_of hk
          have hu' : u * 180 ≤ t * 180 := Nat.mul_le_mul_right _ (by omega)
          rw [x3 _ (by omega)]; exact hR u (by omega) k e hk hd)
      exact ⟨fun _ => ⟨x1, i1⟩, fun d hd => by rw [i2 d hd, x2 d hd], i3⟩
theorem z7_r2 {vs : List Nat} {L : List zEt} {v2 : Int32} (hl : L.length ≤ 180) (hg : g < 4096) (hc : ∀ (k : Nat) (e : zEt), L[k]? = some e → e.1 < 4096) : ∀ f i m, i ≤ L.length → L.length - i < f → z3L m vs L → (∀ (k : Nat) (e : zEt), k < i → L[k]? = some e → m 69 k = nI (if e.1 = g then 1 else 0)) → E3_countRows_2 f (nI g) v2 (nI i) m ∧ (∀ d, d ≠ 69 → (L3_countRows_2 f (nI g) v2 (nI i) m).2 d = m d) ∧ ∀ (k : Nat) (e : zEt), L[k]? = some e → (L3_countRows_2 f (nI g) v2 (nI i) m).2 69 k = nI (if e.1 = g then 1 else 0) := by
  intro f
  induction f with
  | zero => intro t m _ h; omega
  | succ f ih =>
    intro i m hi hf hL hI
    unfold E3_countRows_2 L3_countRows_2
    rw [hL.1]
    by_cases w : i = L.length
    · rw [if_pos (z_let (by omega) (by omega))]
      exact ⟨fun x => absurd (z_let (by omega) (by omega)) x, fun _ _ => rfl, fun k e hk => hI k e (by have := zlt_of hk; omega) hk⟩
    · have hlt : ¬ nI L.length ≤ nI i := z_lef (by omega) (by omega)
      obtain ⟨e, he⟩ := zget_of (show i < L.length by omega)
      have c4 := hc i e he
      have ce : (nI e.1 = nI g) ↔ e.1 = g := z_neq (by omega) (by omega)
      have ev : (if nI e.1 = nI g then (1 : Int32) else 0) = nI (if e.1 = g then 1 else 0) := by
        by_cases y : e.1 = g
        · rw [if_pos (ce.mpr y), if_pos y]; rfl
        · rw [if_neg (fun x => y (ce.mp x)), if_neg y]; rfl
      rw [if_neg hlt, z_at (by omega) (by omega), (hL.2.1 i e he).1, ev, z_put (by omega) (by omega), nI_1 i]
      obtain ⟨i1, i2, i3⟩ := ih (i + 1) (ax_up m 69 i (nI (if e.1 = g then 1 else 0))) (by omega) (by omega) (by unfold z3L; rw [z_upr (by omega), z_upr (by omega), z_upr (by omega), z_upr (by omega), z_upr (by omega), z_upr (by omega)]; exact hL) (fun k x hk hx => by
        rw [z_up]
        by_cases y : k = i
        · rw [y, he] at hx
          cases hx
          rw [if_pos ⟨rfl, y⟩]
        · rw [if_neg (fun z => y z.2)]; exact hI k x (by omega) hx)
      exact ⟨fun _ => i1, fun d hd => by rw [i2 d hd, z_upr hd], i3⟩
theorem z7_count (hs : zW s) (h0 : c0 < 4096) (hg : g < 4096) {n : Nat} (hn : n ≤ 4) (hA : z3A m s P c0) : D3_countRows (nI g) (nI n) m ∧ (∀ d, d ≠ 69 → F3_countRows (nI g) (nI n) m d = m d) ∧ (∀ u, u ≤ n → z3R (F3_countRows (nI g) (nI n) m) s P c0 g n u) := by
  have hB := zst_bi (fo := zfo s P) (vs := zvs s P) (c0 := c0) 180
  have hlen := hB.len hs h0
  obtain ⟨a1, a2, a3⟩ := z7_r2 (v2 := nI n) hlen hg (fun k e he => hB.lt hs h0 he) 200 0 m (by omega) (by omega) hA.2 (fun k e hk => by omega)
  rw [show nI 0 = (0 : Int32) from rfl] at a1 a2 a3
  obtain ⟨b1, b2, b3⟩ := z7_r43 (g := g) (P := P) (v1 := nI g) hs h0 hn 200 0 (L3_countRows_2 200 (nI g) (nI n) 0 m).2 (by omega) (by omega) (hA.same (fun d _ _ => a2 d (by omega))) (fun u hu => by
    have : u = 0 := by omega
    subst this
    intro k e hk _
    rw [Nat.zero_mul, Nat.zero_add, a3 k e hk]; rfl)
  exact ⟨⟨a1, b1⟩, fun d hd => by rw [← a2 d hd]; exact b2 d hd, b3⟩
/-- the first step of rows of t + 1 steps -/
def zfs (s : zS) (P : zP) (g t c : Nat) : List Nat → Option Nat
  | [] => none
  | v :: l => if znx (zfo s P) (znr s P g t) c v = 0 then zfs s P g t c l else some v
theorem zfs_f {t c : Nat} {p : Nat → Bool} (h : ∀ v, p v = false → znx (zfo s P) (znr s P g t) c v = 0) : ∀ l : List Nat, zfs s P g t c (l.filter p) = zfs s P g t c l
  | [] => rfl
  | v :: l => by
    cases e : p v with
    | true => rw [List.filter_cons_of_pos e]; unfold zfs; rw [zfs_f h l]
    | false => rw [List.filter_cons_of_neg (by rw [e]; simp), zfs_f h l]; conv => rhs; unfold zfs
               rw [h v e, if_pos rfl]
theorem zfs_t {t c v : Nat} : ∀ l : List Nat, zfs s P g t c l = some v → v ∈ l ∧ znx (zfo s P) (znr s P g t) c v ≠ 0
  | [], h => by cases h
  | u :: l, h => by
    unfold zfs at h
    by_cases e : znx (zfo s P) (znr s P g t) c u = 0
    · rw [if_pos e] at h
      obtain ⟨a, b⟩ := zfs_t l h
      exact ⟨List.mem_cons_of_mem _ a, b⟩
    · rw [if_neg e] at h
      cases h
      exact ⟨List.mem_cons_self, e⟩
theorem zfs_n {t c : Nat} : ∀ l : List Nat, zfs s P g t c l = none → ∀ v, v ∈ l → znx (zfo s P) (znr s P g t) c v = 0
  | [], _, v, h => by cases h
  | u :: l, h, v, hv => by
    unfold zfs at h
    by_cases e : znx (zfo s P) (znr s P g t) c u = 0
    · rw [if_pos e] at h
      rcases List.mem_cons.mp hv with w | w
      · rw [w]; exact e
      · exact zfs_n l h v w
    · rw [if_neg e] at h; cases h
theorem znx_s {r : Nat → Nat} {c v : Nat} (h : znx (zfo s P) r c v ≠ 0) : ∃ c', zfo s P c v = some c' ∧ r c' ≠ 0 := by
  unfold znx at h
  cases e : zfo s P c v with
  | none => rw [e] at h; exact absurd rfl h
  | some c' => rw [e] at h; exact ⟨c', rfl, h⟩
/-- the k-th step of the first row of t steps -/
def ztr (s : zS) (P : zP) (g : Nat) : Nat → Nat → Nat → Option Nat
  | 0, _, _ => none
  | t + 1, c, k => match zfs s P g t c (zvs s P) with
    | none => none
    | some v => if k = 0 then some v else match zfo s P c v with
      | none => none
      | some c' => ztr s P g t c' (k - 1)
theorem z7_f14 (hs : zW s) (h0 : c0 < 4096) (hA : z3A m s P c0) {n t k : Nat} {e : zEt} {v1 v2 v4 : Int32} (hn : n ≤ 4) (ht : t + 1 ≤ n) (hR : z3R m s P c0 g n t) (hk : (zst (zfo s P) (zvs s P) c0 180)[k]? = some e) (hd : e.2.2.2 + (t + 1) ≤ n) (hv : v1 - v4 = nI (t + 1)) : ∀ f j, j ≤ (zvs s P).length → (zvs s P).length - j < f → E3_stepOfFirstRow_14 f v1 v2 (nI k) v4 (nI j) m ∧ ((zfs s P g t e.1 ((zvs s P).drop j) = none ∧ L3_stepOfFirstRow_14 f v1 v2 (nI k) v4 (nI j) m = nI (zvs s P).length) ∨ ∃ i, i < (zvs s P).length ∧ L3_stepOfFirstRow_14 f v1 v2 (nI k) v4 (nI j) m = nI i ∧ zfs s P g t e.1 ((zvs s P).drop j) = some ((zvs s P).getD i 0)) := by
  have hvl := zvs_l (P := P) hs
  intro f
  induction f with
  | zero => intro j _ h; omega
  | succ f ih =>
    intro j hj hf
    unfold E3_stepOfFirstRow_14 L3_stepOfFirstRow_14
    rw [hA.1.1]
    by_cases w : j = (zvs s P).length
    · rw [if_pos (z_let (by omega) (by omega)), w, List.drop_length]
      exact ⟨fun x => absurd (z_let (by omega) (by omega)) x, Or.inl ⟨rfl, rfl⟩⟩
    · have hlt : ¬ nI (zvs s P).length ≤ nI j := z_lef (by omega) (by omega)
      have hb := znr_4 (P := P) (g := g) (t := t) (c := 0) hs (by omega)
      have hx : znx (zfo s P) (znr s P g t) e.1 ((zvs s P).getD j 0) < 2147483648 := by
        unfold znx
        split
        · omega
        · exact znr_4 hs (by omega)
      have c0' : (nI (znx (zfo s P) (znr s P g t) e.1 ((zvs s P).getD j 0)) = 0) ↔ znx (zfo s P) (znr s P g t) e.1 ((zvs s P).getD j 0) = 0 := z_neq (b := 0) hx (by omega)
      rw [if_neg hlt, hv, z7_rowsBy hs h0 hA hn ht hR hk hd (by omega), zdrop _ _ (show j < (zvs s P).length by omega)]
      simp only [c0']
      have ez : zfs s P g t e.1 ((zvs s P).getD j 0 :: (zvs s P).drop (j + 1)) = if znx (zfo s P) (znr s P g t) e.1 ((zvs s P).getD j 0) = 0 then zfs s P g t e.1 ((zvs s P).drop (j + 1)) else some ((zvs s P).getD j 0) := rfl
      rw [ez, nI_1 j]
      by_cases y : znx (zfo s P) (znr s P g t) e.1 ((zvs s P).getD j 0) = 0
      · rw [if_pos y, if_pos y]
        obtain ⟨i1, i2⟩ := ih (j + 1) (by omega) (by omega)
        exact ⟨fun _ _ => i1, i2⟩
      · rw [if_neg y, if_neg y]
        exact ⟨fun _ x => absurd x y, Or.inr ⟨j, by omega, rfl, rfl⟩⟩
/-- the class's walk along the first row, from its step i at the place k -/
theorem z7_f5 (hs : zW s) (h0 : c0 < 4096) (hA : z3A m s P c0) {n r : Nat} (hn : n ≤ 4) (hr : r < n) (hR : ∀ u, u ≤ n → z3R m s P c0 g n u) : ∀ f i k (e : zEt), i ≤ r → r - i < f → (zst (zfo s P) (zvs s P) c0 180)[k]? = some e → e.2.2.2 ≤ i → E3_stepOfFirstRow_5 f (nI n) (nI r) (nI k) (nI i) m ∧ (L3_stepOfFirstRow_5 f (nI n) (nI r) (nI k) (nI i) m).1 = some (zen (ztr s P g (n - i) e.1 (r - i))) := by
  have hB := zst_bi (fo := zfo s P) (vs := zvs s P) (c0 := c0) 180
  have hlen := hB.len hs h0
  have hvl := zvs_l (P := P) hs
  intro f
  induction f with
  | zero => intro i k e _ h; omega
  | succ f ih =>
    intro i k e hi hf hk hd
    have hkl := zlt_of hk
    unfold E3_stepOfFirstRow_5 L3_stepOfFirstRow_5
    have hni : ¬ nI n ≤ nI i := z_lef (by omega) (by omega)
    rw [if_neg hni]
    obtain ⟨t, ht⟩ : ∃ t, n - i = t + 1 := ⟨n - i - 1, by omega⟩
    have hv : nI n - nI i = nI (t + 1) := by rw [pk_sub (by omega), ht]
    obtain ⟨x1, x2⟩ := z7_f14 (g := g) (v1 := nI n) (v2 := nI r) (v4 := nI i) hs h0 hA hn (show t + 1 ≤ n by omega) (hR t (by omega)) hk (by omega) hv 200 0 (by omega) (by omega)
    rw [show nI 0 = (0 : Int32) from rfl, List.drop_zero] at x2
    rw [show nI 0 = (0 : Int32) from rfl] at x1
    rw [ht, hA.1.1]
    have etr : ztr s P g (t + 1) e.1 (r - i) = match zfs s P g t e.1 (zvs s P) with
      | none => none
      | some v => if r - i = 0 then some v else match zfo s P e.1 v with
        | none => none
        | some c' => ztr s P g t c' (r - i - 1) := rfl
    rw [etr]
    rcases x2 with ⟨y1, y2⟩ | ⟨j, y0, y1, y2⟩
    · rw [y2, y1]
      have hc : ¬ nI (zvs s P).length < nI (zvs s P).length := fun x => by have := (z_nlt (by omega) (by omega)).mp x; omega
      rw [if_neg hc]
      exact ⟨fun _ => ⟨x1, fun x => absurd x hc⟩, rfl⟩
    · rw [y1, y2]
      have hc : nI j < nI (zvs s P).length := (z_nlt (by omega) (by omega)).mpr y0
      have cr : (nI i = nI r) ↔ i = r := z_neq (by omega) (by omega)
      rw [if_pos hc]
      simp only [cr]
      by_cases w : i = r
      · rw [if_pos w, if_pos (by omega), z_at (k := 60) (by omega) (by omega), (hA.1.2 j y0).1]
        exact ⟨fun _ => ⟨x1, fun _ x => absurd w x⟩, rfl⟩
      · rw [if_neg w, if_neg (by omega)]
        obtain ⟨c', z1, z2⟩ := znx_s (zfs_t _ y2).2
        rw [z1]
        dsimp only
        have c4 := hB.lt hs h0 hk
        obtain ⟨_, o2⟩ := z7_move hs c4 hA.1 y0
        obtain ⟨k', x, k1, k2, k3⟩ := zst_all hlen hk (zgetm _ _ y0) z1
        have q64 := (hA.2.2.1 k' x k1).2.2.2.2
        have hc' := hB.lt hs h0 k1
        rw [k2] at q64 hc'
        have eix : F3_indexOf (F7_at 65 180 (nI k) m ^^^ F7_at 63 120 (nI j) m) m = nI k' := by
          unfold F3_indexOf
          rw [z_at (k := 65) (by omega) (by omega), (hA.2.2.1 k e hk).1, o2 c' z1, z_at hc' (by omega), q64, nI_pred]
        rw [eix, nI_1 i]
        obtain ⟨i1, i2⟩ := ih (i + 1) k' x (by omega) (by omega) k1 (by omega)
        rw [k2, show n - (i + 1) = t by omega, show r - (i + 1) = r - i - 1 by omega] at i2
        exact ⟨fun _ => ⟨x1, fun _ _ => i1⟩, i2⟩
end ZE2
