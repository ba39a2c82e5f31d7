/-! PURE: words, numbers, by both -/
def zwl (j : Nat) : Nat := ax_tl.getD j 0
def zwt (j k : Nat) : Int32 := (ax_tb.getD j []).getD k 0
def zcut (j : Nat) : Nat := [0, 5, 10, 14, 20, 23, 27, 32, 37, 44, 49, 54].getD j 0
theorem zwl_7 : ∀ j, j < 11 → 3 ≤ zwl j ∧ zwl j ≤ 7 := by decide
theorem zcut_s : ∀ j, j < 11 → zcut (j + 1) = zcut j + zwl j ∧ zcut (j + 1) ≤ 54 := by decide
theorem zcut_m : ∀ j, j < 12 → mI 82 j = nI (zcut j) := by decide +kernel
theorem zcut_t : ∀ j, j < 11 → ∀ k, k < 7 → k < zwl j → mI 83 (zcut j + k) = zwt j k := by decide +kernel
def zdf (i j : Nat) : Bool := (List.range 7).any (fun k => decide (k < zwl i) && !decide (zwt i k = zwt j k))
theorem zdf_t : ∀ i, i < 11 → ∀ j, j < 11 → i = j ∨ zwl i ≠ zwl j ∨ zdf i j = true := by decide +kernel
theorem zwt_ne {i j : Nat} (hi : i < 11) (hj : j < 11) (h : i ≠ j) : zwl i ≠ zwl j ∨ ∃ k, k < 7 ∧ k < zwl i ∧ zwt i k ≠ zwt j k := by
  rcases zdf_t i hi j hj with w | w | w
  · exact absurd w h
  · exact Or.inl w
  · obtain ⟨k, h1, h2⟩ := List.any_eq_true.mp w
    simp only [Bool.and_eq_true, decide_eq_true_eq, Bool.not_eq_true', decide_eq_false_iff_not] at h2
    exact Or.inr ⟨k, List.mem_range.mp h1, h2.1, h2.2⟩
/-- the word j stands from a to e -/
def zwd (d : Nat → Nat) (j a e : Nat) : Bool := decide (e - a = zwl j ∧ ∀ k, k < zwl j → nI (d (a + k)) = zwt j k)
theorem zwd_u {d : Nat → Nat} {i j a e : Nat} (hi : i < 11) (hj : j < 11) (h1 : zwd d i a e = true) (h2 : zwd d j a e = true) : i = j := by
  apply Classical.byContradiction
  intro h
  have a1 := of_decide_eq_true h1
  have a2 := of_decide_eq_true h2
  rcases zwt_ne hi hj h with w | ⟨k, _, k2, k3⟩
  · omega
  · exact k3 ((a1.2 k k2).symm.trans (a2.2 k (by omega)))
def zfst (p : Nat → Bool) : Nat → Nat → Nat
  | 0, j => j
  | k + 1, j => if p j = true then j else zfst p k (j + 1)
theorem zfst_p {p : Nat → Bool} : ∀ k j, j ≤ zfst p k j ∧ zfst p k j ≤ j + k ∧ (zfst p k j < j + k → p (zfst p k j) = true) ∧ (∀ x, j ≤ x → x < zfst p k j → p x = false)
  | 0, j => ⟨Nat.le_refl _, Nat.le_refl _, fun h => by unfold zfst at h; omega, fun x h1 h2 => by unfold zfst at h2; omega⟩
  | k + 1, j => by
    unfold zfst
    cases e : p j with
    | true => rw [if_pos rfl]; exact ⟨Nat.le_refl _, by omega, fun _ => e, fun x h1 h2 => by omega⟩
    | false =>
      rw [if_neg (by simp)]
      obtain ⟨a1, a2, a3, a4⟩ := zfst_p (p := p) k (j + 1)
      refine ⟨by omega, by omega, fun h => a3 (by omega), fun x h1 h2 => ?_⟩
      by_cases w : x = j
      · rw [w]; exact e
      · exact a4 x (by omega) h2
/-- the name of a token of sort K from a to e; 11: none -/
def znm (d : Nat → Nat) (K a e : Nat) : Nat := if K = 1 then zfst (fun j => zwd d j a e) 11 0 else 11
theorem znm_e {d : Nat → Nat} {K a e j : Nat} (hj : j < 11) : (decide (K = 1) && zwd d j a e) = decide (znm d K a e = j) := by
  unfold znm
  by_cases hK : K = 1
  · rw [if_pos hK, decide_eq_true hK, Bool.true_and]
    obtain ⟨a1, a2, a3, a4⟩ := zfst_p (p := fun j => zwd d j a e) 11 0
    cases w : zwd d j a e with
    | true =>
      have h1 : zfst (fun j => zwd d j a e) 11 0 ≤ j := by
        apply Classical.byContradiction
        intro x
        have := a4 j (by omega) (by omega)
        rw [w] at this; cases this
      exact (decide_eq_true (zwd_u (by omega) hj (a3 (by omega)) w)).symm
    | false =>
      refine (decide_eq_false (fun x => ?_)).symm
      have := a3 (by omega)
      rw [x] at this
      rw [w] at this; cases this
  · rw [if_neg hK, decide_eq_false hK, decide_eq_false (by omega)]; rfl
theorem znm_le {d : Nat → Nat} {K a e : Nat} : znm d K a e ≤ 11 := by
  unfold znm
  split
  · have := (zfst_p (p := fun j => zwd d j a e) 11 0).2.1; omega
  · omega
section ZK2
variable {m : ax_M} {d : Nat → Nat} {n i : Nat}
theorem z4_word {j a e K : Nat} (hn : n ≤ 320) (hT : z4T m n d) (h4 : m 41 4 = nI K) (hK : K < 100) (h3 : m 41 3 = nI e) (h5 : m 41 5 = nI a) (hae : a ≤ e) (hen : e ≤ n) (hj : j < 11) : D4_isWord j m ∧ F4_isWord j m = zb (decide (znm d K a e = j)) := by
  rw [← znm_e hj]
  obtain ⟨l3, l7⟩ := zwl_7 j hj
  unfold D4_isWord F4_isWord
  rw [h4, h3, h5, pk_sub hae]
  have cK : (nI K = 1) ↔ K = 1 := z_neq (b := 1) (by omega) (by omega)
  have cl : (nI (e - a) = nI (ax_tl.getD j 0)) ↔ e - a = zwl j := z_neq (by omega) (show zwl j < 2147483648 by omega)
  simp only [cK, cl]
  have loop : e - a = zwl j → ∀ k x, x ≤ zwl j → zwl j - x < k → E4_isWord_28 j k (nI x) m ∧ (((L4_isWord_28 j k (nI x) m).1 = none ∧ ∀ y, x ≤ y → y < zwl j → nI (d (a + y)) = zwt j y) ∨ ((L4_isWord_28 j k (nI x) m).1 = some 0 ∧ ∃ y, y < zwl j ∧ nI (d (a + y)) ≠ zwt j y)) := fun hl k => by
    induction k with
    | zero => intro x _ h; omega
    | succ k ih =>
      intro x hx hk
      unfold E4_isWord_28 L4_isWord_28
      have cx : (nI (ax_tl.getD j 0) ≤ nI x) ↔ zwl j ≤ x := z_nle (show zwl j < 2147483648 by omega) (by omega)
      simp only [cx]
      by_cases w : zwl j ≤ x
      · rw [if_pos w]
        exact ⟨fun y => absurd w y, Or.inl ⟨rfl, fun y h1 h2 => by omega⟩⟩
      · rw [if_neg w, h5, nI_add, z4_byte hn hT (by omega), if_pos (by omega), z_ncl (show x < 2147483648 by omega), nI_1]
        have vx : vp_in (nI x) (ax_tl.getD j 0) := z_vp (show x < zwl j by omega) (show zwl j < 1000000 by omega)
        have et : (ax_tb.getD j []).getD x 0 = zwt j x := rfl
        rw [et]
        by_cases w2 : nI (d (a + x)) = zwt j x
        · rw [if_pos w2]
          obtain ⟨i1, i2⟩ := ih (x + 1) (by omega) (by omega)
          refine ⟨fun _ => ⟨vx, fun _ => i1⟩, ?_⟩
          rcases i2 with ⟨y1, y2⟩ | y
          · refine Or.inl ⟨y1, fun y h1 h2 => ?_⟩
            by_cases z : y = x
            · rw [z]; exact w2
            · exact y2 y (by omega) h2
          · exact Or.inr y
        · rw [if_neg w2]
          exact ⟨fun _ => ⟨vx, fun y => absurd y w2⟩, Or.inr ⟨rfl, x, by omega, w2⟩⟩
  by_cases hK1 : K = 1
  · rw [if_pos hK1, decide_eq_true hK1, Bool.true_and]
    by_cases hl : e - a = zwl j
    · obtain ⟨x1, x2⟩ := loop hl 64 0 (by omega) (by omega)
      rw [show nI 0 = (0 : Int32) from rfl] at x1 x2
      rw [if_pos hl]
      refine ⟨fun _ _ => x1, ?_⟩
      unfold zwd
      rcases x2 with ⟨y1, y2⟩ | ⟨y1, y, y2, y3⟩
      · rw [y1, if_pos rfl, decide_eq_true ⟨hl, fun k hk => y2 k (by omega) hk⟩]; rfl
      · rw [y1, if_neg (by simp), decide_eq_false (fun x => y3 (x.2 y y2))]; rfl
    · rw [if_neg hl]
      refine ⟨fun _ x => absurd x hl, ?_⟩
      unfold zwd
      rw [decide_eq_false (fun x => hl x.1)]; rfl
  · rw [if_neg hK1, decide_eq_false hK1]
    exact ⟨fun x => absurd x hK1, rfl⟩
/-- the reference's tables of names -/
def z8N (m : ax_M) : Prop := (∀ i, i < 12 → m 82 i = mI 82 i) ∧ (∀ i, i < 54 → m 83 i = mI 83 i)
theorem z8_same {j a e : Nat} (hn : n ≤ 320) (hT : z8T m n d) (hN : z8N m) (h26 : m 74 26 = nI e) (h27 : m 74 27 = nI a) (hae : a ≤ e) (hen : e ≤ n) (hj : j < 11) (hl : e - a = zwl j) : ∀ f k, k ≤ zwl j → zwl j - k < f → E8_nameHere_51 f (nI j) 1 (nI k) m ∧ (((L8_nameHere_51 f (nI j) 1 (nI k) m).1 = 1 ∧ ∀ y, k ≤ y → y < zwl j → nI (d (a + y)) = zwt j y) ∨ ((L8_nameHere_51 f (nI j) 1 (nI k) m).1 = 0 ∧ ∃ y, y < zwl j ∧ nI (d (a + y)) ≠ zwt j y)) := by
  obtain ⟨l3, l7⟩ := zwl_7 j hj
  obtain ⟨c1, c2⟩ := zcut_s j hj
  intro f
  induction f with
  | zero => intro k _ h; omega
  | succ f ih =>
    intro k hk hf
    unfold E8_nameHere_51 L8_nameHere_51
    rw [h26, h27, pk_sub hae, if_neg (show ¬ (1 : Int32) = 0 by decide)]
    have cx : (nI (e - a) ≤ nI k) ↔ e - a ≤ k := z_nle (by omega) (by omega)
    simp only [cx]
    by_cases w : e - a ≤ k
    · rw [if_pos w]
      exact ⟨fun _ y => absurd w y, Or.inl ⟨rfl, fun y h1 h2 => by omega⟩⟩
    · obtain ⟨b1, b2⟩ := z8_byte (i := a + k) hn hT (by omega)
      rw [if_neg w, nI_add, b2, if_pos (show a + k < n by omega), z_ncl (show j < 2147483648 by omega), hN.1 j (by omega), zcut_m j (by omega), nI_add, z_ncl (show zcut j + k < 2147483648 by omega), hN.2 (zcut j + k) (by omega), zcut_t j hj k (by omega) (by omega), nI_1]
      have v1 : vp_in (nI j) 12 := z_vp (by omega) (by omega)
      have v2 : vp_in (nI (zcut j + k)) 54 := z_vp (by omega) (by omega)
      by_cases w2 : nI (d (a + k)) = zwt j k
      · rw [if_pos w2]
        obtain ⟨i1, i2⟩ := ih (k + 1) (by omega) (by omega)
        refine ⟨fun _ _ => ⟨b1, v1, v2, i1⟩, ?_⟩
        rcases i2 with ⟨y1, y2⟩ | y
        · refine Or.inl ⟨y1, fun y h1 h2 => ?_⟩
          by_cases z : y = k
          · rw [z]; exact w2
          · exact y2 y (by omega) h2
        · exact Or.inr y
      · rw [if_neg w2]
        obtain ⟨f', rfl⟩ : ∃ f', f = f' + 1 := ⟨f - 1, by omega⟩
        refine ⟨fun _ _ => ⟨b1, v1, v2, fun y => absurd rfl y⟩, Or.inr ⟨?_, k, by omega, w2⟩⟩
        unfold L8_nameHere_51
        rw [if_pos rfl]
theorem z8_name {a e K : Nat} (hn : n ≤ 320) (hT : z8T m n d) (hN : z8N m) (h28 : m 74 28 = (if K = 4 then 0 else nI K)) (hK : K < 100) (h26 : m 74 26 = nI e) (h27 : m 74 27 = nI a) (hae : a ≤ e) (hen : e ≤ n) : D8_nameHere m ∧ F8_nameHere m = if znm d K a e < 11 then nI (znm d K a e) else -4 := by
  have cK : (m 74 28 = 1) ↔ K = 1 := by
    rw [h28]
    by_cases w : K = 4
    · rw [if_pos w]; exact ⟨fun x => absurd x (by decide), fun x => by omega⟩
    · rw [if_neg w]; exact z_neq (b := 1) (by omega) (by omega)
  have loop : K = 1 → ∀ f j, j ≤ 11 → 11 - j < f → E8_nameHere_2 f (nI j) m ∧ (L8_nameHere_2 f (nI j) m).1 = if zfst (fun j => zwd d j a e) (11 - j) j < 11 then some (nI (zfst (fun j => zwd d j a e) (11 - j) j)) else none := fun hK1 f => by
    induction f with
    | zero => intro j _ h; omega
    | succ f ih =>
      intro j hj hf
      unfold E8_nameHere_2 L8_nameHere_2
      have cj : ((11 : Int32) ≤ nI j) ↔ 11 ≤ j := z_nle (a := 11) (by omega) (by omega)
      simp only [cj]
      by_cases w : 11 ≤ j
      · have : j = 11 := by omega
        subst this
        rw [if_pos (Nat.le_refl 11)]
        exact ⟨fun x => absurd (Nat.le_refl 11) x, rfl⟩
      · obtain ⟨k', hk'⟩ : ∃ k', 11 - j = k' + 1 := ⟨11 - j - 1, by omega⟩
        have es : zfst (fun j => zwd d j a e) (11 - j) j = if zwd d j a e = true then j else zfst (fun j => zwd d j a e) (11 - (j + 1)) (j + 1) := by
          rw [hk', show 11 - (j + 1) = k' by omega]; rfl
        obtain ⟨l3, l7⟩ := zwl_7 j (by omega)
        obtain ⟨c1, c2⟩ := zcut_s j (by omega)
        have ef : (if ((m 74 26) - (m 74 27)) = ((m 82 (Int32.toNatClampNeg (nI j + 1))) - (m 82 (Int32.toNatClampNeg (nI j)))) then (1 : Int32) else 0) = zb (decide (e - a = zwl j)) := by
          rw [h26, h27, pk_sub hae, nI_1, z_ncl (by omega), z_ncl (by omega), hN.1 _ (by omega), hN.1 _ (by omega), zcut_m _ (by omega), zcut_m _ (by omega), pk_sub (by omega), show zcut (j + 1) - zcut j = zwl j by omega, ← z_ite1]
          have : (nI (e - a) = nI (zwl j)) ↔ e - a = zwl j := z_neq (by omega) (by omega)
          simp only [this]
        have inner : E8_nameHere_51 64 (nI j) (zb (decide (e - a = zwl j))) 0 m ∧ ((L8_nameHere_51 64 (nI j) (zb (decide (e - a = zwl j))) 0 m).1 = 0 ↔ zwd d j a e = false) := by
          by_cases hl : e - a = zwl j
          · rw [decide_eq_true hl]
            obtain ⟨x1, x2⟩ := z8_same hn hT hN h26 h27 hae hen (show j < 11 by omega) hl 64 0 (by omega) (by omega)
            refine ⟨x1, ?_⟩
            have x2' : ((L8_nameHere_51 64 (nI j) (zb true) 0 m).1 = 1 ∧ ∀ y, 0 ≤ y → y < zwl j → nI (d (a + y)) = zwt j y) ∨ ((L8_nameHere_51 64 (nI j) (zb true) 0 m).1 = 0 ∧ ∃ y, y < zwl j ∧ nI (d (a + y)) ≠ zwt j y) := x2
            unfold zwd
            rcases x2' with ⟨y1, y2⟩ | ⟨y1, y, y2, y3⟩
            · rw [y1, decide_eq_true ⟨hl, fun k hk => y2 k (by omega) hk⟩]
              exact ⟨fun x => absurd x (by decide), fun x => by cases x⟩
            · rw [y1, decide_eq_false (fun x => y3 (x.2 y y2))]
              exact ⟨fun _ => rfl, fun _ => rfl⟩
          · rw [decide_eq_false hl]
            refine ⟨fun x => absurd rfl x, ?_⟩
            have h0 : (L8_nameHere_51 (63 + 1) (nI j) (zb false) 0 m).1 = 0 := by
              unfold L8_nameHere_51
              rw [if_pos (show zb false = 0 from rfl)]; rfl
            have h0' : (L8_nameHere_51 64 (nI j) (zb false) 0 m).1 = 0 := h0
            rw [h0']
            unfold zwd
            exact ⟨fun _ => decide_eq_false (fun x => hl x.1), fun _ => rfl⟩
        rw [if_neg w, if_pos (cK.mpr hK1), ef, nI_1, es]
        have v1 : vp_in (nI (j + 1)) 12 := z_vp (by omega) (by omega)
        have v2 : vp_in (nI j) 12 := z_vp (by omega) (by omega)
        obtain ⟨i1, i2⟩ := ih (j + 1) (by omega) (by omega)
        cases wd : zwd d j a e with
        | true =>
          have hz : ¬ (L8_nameHere_51 64 (nI j) (zb (decide (e - a = zwl j))) 0 m).1 = 0 := fun x => by rw [inner.2.mp x] at wd; cases wd
          rw [if_neg hz, if_pos rfl, if_pos (by omega)]
          exact ⟨fun _ _ => ⟨v1, v2, inner.1, fun x => absurd x hz⟩, rfl⟩
        | false =>
          rw [if_pos (inner.2.mpr wd), if_neg (show ¬ false = true by simp)]
          exact ⟨fun _ _ => ⟨v1, v2, inner.1, fun _ => i1⟩, i2⟩
  unfold D8_nameHere F8_nameHere znm
  by_cases hK1 : K = 1
  · obtain ⟨x1, x2⟩ := loop hK1 64 0 (by omega) (by omega)
    rw [show nI 0 = (0 : Int32) from rfl] at x1 x2
    rw [if_pos hK1, x2]
    refine ⟨x1, ?_⟩
    by_cases w : zfst (fun j => zwd d j a e) (11 - 0) 0 < 11
    · rw [if_pos w, if_pos w, if_neg (by simp)]; rfl
    · rw [if_neg w, if_neg w, if_pos rfl]
  · have c1 : ¬ m 74 28 = 1 := fun x => hK1 (cK.mp x)
    have h0 : (L8_nameHere_2 (63 + 1) 0 m).1 = none := by
      unfold L8_nameHere_2
      rw [if_neg (show ¬ (11 : Int32) ≤ 0 by decide), if_neg c1]
    have h0' : (L8_nameHere_2 64 0 m).1 = none := h0
    rw [if_neg hK1, h0', if_pos rfl]
    exact ⟨fun _ x => absurd x c1, rfl⟩
/-- a number within lo and hi: fault, place, value, end -/
def zNu (d : Nat → Nat) (n lo hi i : Nat) : Nat × Nat × Nat × Nat := (if (zTk d n i).2.2 = 5 then 1 else if (zTk d n i).2.2 = 2 then (if lo ≤ zvl d (zTk d n i).1 ((zTk d n i).2.1 - (zTk d n i).1) ∧ zvl d (zTk d n i).1 ((zTk d n i).2.1 - (zTk d n i).1) ≤ hi then 0 else 3) else 2, (zTk d n i).1, zvl d (zTk d n i).1 ((zTk d n i).2.1 - (zTk d n i).1), (zTk d n i).2.1)
def zSc (d : Nat → Nat) (n i : Nat) : Nat × Nat × Nat := (if (zTk d n i).2.2 = 5 then 1 else if (zTk d n i).2.2 = 3 then 0 else 2, (zTk d n i).1, (zTk d n i).2.1)
theorem z4_digits {v1 v2 : Int32} {a e : Nat} (hn : n ≤ 320) (hT : z4T m n d) (h3 : m 41 3 = nI e) (hae : a ≤ e) (hen : e ≤ n) (h2 : e - a ≤ 2) (hf : ∀ j, a ≤ j → j < e → zfi d j = true) : ∀ f i, a ≤ i → i ≤ e → e - i < f → E4_takeNumber_40 f v1 v2 (nI (zvl d a (i - a))) (nI i) m ∧ (L4_takeNumber_40 f v1 v2 (nI (zvl d a (i - a))) (nI i) m).1 = nI (zvl d a (e - a)) := by
  intro f
  induction f with
  | zero => intro i _ _ h; omega
  | succ f ih =>
    intro i ha hi hk
    unfold E4_takeNumber_40 L4_takeNumber_40
    rw [h3]
    by_cases w : i = e
    · rw [if_pos (z_let (by omega) (by omega)), w]
      exact ⟨fun x => absurd (z_let (by omega) (by omega)) x, rfl⟩
    · have h1 : ¬ nI e ≤ nI i := z_lef (by omega) (by omega)
      have hfi := of_decide_eq_true (hf i ha (by omega))
      have ev : ((10 * nI (zvl d a (i - a))) + nI (d i)) - 48 = nI (zvl d a (i + 1 - a)) := by
        rw [show i + 1 - a = (i - a) + 1 by omega, zvl_s, show a + (i - a) = i by omega, z_lit 10, pk_mul, nI_add, z_lit 48, pk_sub (by omega)]
        congr 1; omega
      rw [if_neg h1, z4_byte hn hT (by omega), if_pos (by omega), ev, nI_1]
      obtain ⟨i1, i2⟩ := ih (i + 1) (by omega) (by omega) (by omega)
      exact ⟨fun _ => i1, i2⟩
theorem zNu_p {lo hi : Nat} (hi' : i ≤ n) : i ≤ (zNu d n lo hi i).2.1 ∧ (zNu d n lo hi i).2.1 ≤ n ∧ (zNu d n lo hi i).2.2.2 ≤ n ∧ (zNu d n lo hi i).1 ≤ 3 ∧ ((zNu d n lo hi i).1 = 0 → (zTk d n i).2.2 = 2 ∧ lo ≤ (zNu d n lo hi i).2.2.1 ∧ (zNu d n lo hi i).2.2.1 ≤ hi ∧ i < (zNu d n lo hi i).2.2.2) := by
  obtain ⟨p1, p2, p3, p4, p5, p6, p7, p8⟩ := zTk_p (d := d) hi'
  unfold zNu
  dsimp only
  refine ⟨p1, by omega, p3, ?_, ?_⟩
  · split
    · omega
    · split
      · split <;> omega
      · omega
  · intro h
    split at h
    · omega
    · split at h
      · rename_i w
        split at h
        · rename_i w2
          exact ⟨w, w2.1, w2.2, p6 (by omega)⟩
        · omega
      · omega
theorem z4_num {lo hi : Nat} (hn : n ≤ 320) (hd : ∀ i, i < n → d i < 256) (hT : z4T m n d) (h6 : m 41 6 = 0) (h3 : m 41 3 = nI i) (hi' : i ≤ n) (hl : lo < 1000) (hh : hi < 1000) : D4_takeNumber (nI lo) (nI hi) m ∧ z4F m (F4_takeNumber (nI lo) (nI hi) m).2 ∧ ((zNu d n lo hi i).1 = 0 → (F4_takeNumber (nI lo) (nI hi) m).1 = nI (zNu d n lo hi i).2.2.1 ∧ (F4_takeNumber (nI lo) (nI hi) m).2 41 6 = 0 ∧ (F4_takeNumber (nI lo) (nI hi) m).2 41 3 = nI (zNu d n lo hi i).2.2.2 ∧ (F4_takeNumber (nI lo) (nI hi) m).2 41 5 = nI (zNu d n lo hi i).2.1) ∧ ((zNu d n lo hi i).1 ≠ 0 → (F4_takeNumber (nI lo) (nI hi) m).2 41 6 = nI (zNu d n lo hi i).1 ∧ (F4_takeNumber (nI lo) (nI hi) m).2 41 7 = nI (zNu d n lo hi i).2.1) := by
  obtain ⟨t1, t2, t3, t4, t5⟩ := z4_tok hn hd hT h6 h3 hi'
  obtain ⟨p1, p2, p3, p4, p5, p6, p7, p8⟩ := zTk_p (d := d) hi'
  have hT1 := t2.t hT
  unfold D4_takeNumber F4_takeNumber K4_takeNumber_91 zNu
  generalize F4_takeToken m = m1 at *
  generalize (zTk d n i).1 = a at *
  generalize (zTk d n i).2.1 = e at *
  generalize (zTk d n i).2.2 = K at *
  dsimp only
  by_cases w5 : K = 5
  · obtain ⟨u1, u2⟩ := t4 w5
    have n0 : ¬ m1 41 6 = 0 := by rw [u1]; decide
    rw [if_neg n0, if_pos w5]
    exact ⟨⟨t1, fun x => absurd x n0⟩, t2, fun x => absurd x (by omega), fun _ => ⟨u1, u2⟩⟩
  · obtain ⟨u1, u2, u3⟩ := t5 w5
    have c2 : (m1 41 4 = 2) ↔ K = 2 := by rw [u3]; exact z_neq (b := 2) (by omega) (by omega)
    rw [if_pos u1, if_neg w5]
    by_cases w2 : K = 2
    · obtain ⟨g1, g2⟩ := p8 w2
      obtain ⟨x1, x2⟩ := z4_digits (v1 := nI lo) (v2 := nI hi) hn hT1 u2 p2 p3 g1 g2 64 a (Nat.le_refl _) p2 (by omega)
      rw [Nat.sub_self, show nI (zvl d a 0) = (0 : Int32) from rfl] at x1 x2
      have hv := zvl_le (e - a) (fun j h1 h2 => g2 j h1 (by omega)) g1
      have hv2 : (10 : Nat) ^ (e - a) ≤ 10 ^ 2 := Nat.pow_le_pow_right (by decide) g1
      have ew : F7_within (nI (zvl d a (e - a))) (nI lo) (nI hi) m1 = zb (decide (lo ≤ zvl d a (e - a) ∧ zvl d a (e - a) ≤ hi)) := by
        rw [z7_in]
        unfold zwi
        rw [z_nti (by omega), z_nti (by omega), z_nti (by omega)]
        congr 1
        rw [decide_eq_decide]; omega
      rw [if_pos (c2.mpr w2), if_pos w2, t3, x2, ew]
      refine ⟨⟨t1, fun _ _ => x1⟩, ?_⟩
      by_cases wr : lo ≤ zvl d a (e - a) ∧ zvl d a (e - a) ≤ hi
      · rw [decide_eq_true wr, if_neg (show ¬ zb true = 0 by decide), if_pos wr]
        exact ⟨t2, fun _ => ⟨rfl, u1, u2, t3⟩, fun x => absurd rfl x⟩
      · rw [decide_eq_false wr, if_pos (show zb false = 0 from rfl), if_neg wr, z4_fail0 u1]
        exact ⟨(t2.up (by omega) (by omega)).up (by omega) (by omega), fun x => absurd x (by omega), fun _ => ⟨by dsimp only; rw [z_up, if_neg (by omega), z_up, if_pos ⟨rfl, rfl⟩]; rfl, by dsimp only; rw [z_up, if_pos ⟨rfl, rfl⟩]⟩⟩
    · rw [if_neg (fun x => w2 (c2.mp x)), if_neg w2, t3, z4_fail0 u1]
      exact ⟨⟨t1, fun _ x => absurd (c2.mp x) w2⟩, (t2.up (by omega) (by omega)).up (by omega) (by omega), fun x => absurd x (by omega), fun _ => ⟨by dsimp only; rw [z_up, if_neg (by omega), z_up, if_pos ⟨rfl, rfl⟩]; rfl, by dsimp only; rw [z_up, if_pos ⟨rfl, rfl⟩]⟩⟩
theorem z4_numN {lo hi : Int32} (h : m 41 6 ≠ 0) : D4_takeNumber lo hi m ∧ F4_takeNumber lo hi m = (lo, m) := by
  obtain ⟨t1, t2⟩ := z4_tokN h
  unfold D4_takeNumber F4_takeNumber
  rw [t2, if_neg h]
  exact ⟨⟨t1, fun x => absurd x h⟩, rfl⟩
theorem z4_semi (hn : n ≤ 320) (hd : ∀ i, i < n → d i < 256) (hT : z4T m n d) (h6 : m 41 6 = 0) (h3 : m 41 3 = nI i) (hi' : i ≤ n) : D4_takeSemicolon m ∧ z4F m (F4_takeSemicolon m) ∧ ((zSc d n i).1 = 0 → (F4_takeSemicolon m) 41 6 = 0 ∧ (F4_takeSemicolon m) 41 3 = nI (zSc d n i).2.2) ∧ ((zSc d n i).1 ≠ 0 → (F4_takeSemicolon m) 41 6 = nI (zSc d n i).1 ∧ (F4_takeSemicolon m) 41 7 = nI (zSc d n i).2.1) := by
  obtain ⟨t1, t2, t3, t4, t5⟩ := z4_tok hn hd hT h6 h3 hi'
  obtain ⟨p1, p2, p3, p4, p5, p6, p7, p8⟩ := zTk_p (d := d) hi'
  unfold D4_takeSemicolon F4_takeSemicolon zSc
  generalize F4_takeToken m = m1 at *
  generalize (zTk d n i).1 = a at *
  generalize (zTk d n i).2.1 = e at *
  generalize (zTk d n i).2.2 = K at *
  dsimp only
  by_cases w5 : K = 5
  · obtain ⟨u1, u2⟩ := t4 w5
    have n0 : ¬ m1 41 6 = 0 := by rw [u1]; decide
    rw [if_neg n0, if_pos w5]
    exact ⟨t1, t2, fun x => absurd x (by omega), fun _ => ⟨u1, u2⟩⟩
  · obtain ⟨u1, u2, u3⟩ := t5 w5
    have c3 : (m1 41 4 = 3) ↔ K = 3 := by rw [u3]; exact z_neq (b := 3) (by omega) (by omega)
    rw [if_pos u1, if_neg w5]
    by_cases w2 : K = 3
    · rw [if_pos (c3.mpr w2), if_pos w2]
      exact ⟨t1, t2, fun _ => ⟨u1, u2⟩, fun x => absurd rfl x⟩
    · rw [if_neg (fun x => w2 (c3.mp x)), if_neg w2, t3, z4_fail0 u1]
      exact ⟨t1, (t2.up (by omega) (by omega)).up (by omega) (by omega), fun x => absurd x (by omega), fun _ => ⟨by rw [z_up, if_neg (by omega), z_up, if_pos ⟨rfl, rfl⟩]; rfl, by rw [z_up, if_pos ⟨rfl, rfl⟩]⟩⟩
theorem z4_semiN (h : m 41 6 ≠ 0) : D4_takeSemicolon m ∧ F4_takeSemicolon m = m := by
  obtain ⟨t1, t2⟩ := z4_tokN h
  unfold D4_takeSemicolon F4_takeSemicolon
  rw [t2, if_neg h]
  exact ⟨t1, rfl⟩
/-- the reference's number: within lo and hi, and none of some -/
theorem z8_num {lo hi S : Nat} (hn : n ≤ 320) (hd : ∀ i, i < n → d i < 256) (hT : z8T m n d) (hS : z8S m d n i) (hi' : i ≤ n) (hl : lo < 1000) (hh : hi < 1000) (hS2 : S < 2 ^ 31) : D8_other (nI lo) (nI hi) (nI S) m ∧ z8F m (F8_other (nI lo) (nI hi) (nI S) m).2 ∧ ((zNu d n lo hi i).1 = 0 → ¬ ((zNu d n lo hi i).2.2.1 < 31 ∧ S.testBit (zNu d n lo hi i).2.2.1 = true) → (F8_other (nI lo) (nI hi) (nI S) m).1 = nI (zNu d n lo hi i).2.2.1 ∧ z8S (F8_other (nI lo) (nI hi) (nI S) m).2 d n (zNu d n lo hi i).2.2.2) ∧ ((zNu d n lo hi i).1 = 0 → ((zNu d n lo hi i).2.2.1 < 31 ∧ S.testBit (zNu d n lo hi i).2.2.1 = true) → (F8_other (nI lo) (nI hi) (nI S) m).1 = nI lo ∧ (F8_other (nI lo) (nI hi) (nI S) m).2 74 24 = 4 ∧ (F8_other (nI lo) (nI hi) (nI S) m).2 74 25 = nI (zNu d n lo hi i).2.1) ∧ ((zNu d n lo hi i).1 ≠ 0 → (F8_other (nI lo) (nI hi) (nI S) m).1 = nI lo ∧ (F8_other (nI lo) (nI hi) (nI S) m).2 74 24 = nI (zNu d n lo hi i).1 ∧ (F8_other (nI lo) (nI hi) (nI S) m).2 74 25 = nI (zNu d n lo hi i).2.1) := by
  obtain ⟨s1, s2, s3⟩ := hS
  obtain ⟨p1, p2, p3, p4, p5, p6, p7, p8⟩ := zTk_p (d := d) hi'
  unfold D8_other HK8_other_20 HK8_other_47 HK8_other_80 F8_other K8_other_20 K8_other_47 K8_other_80 zNu
  generalize (zTk d n i).1 = a at *
  generalize (zTk d n i).2.1 = e at *
  generalize (zTk d n i).2.2 = K at *
  dsimp only
  have stick : ∀ (f : Nat) (M : ax_M), M 74 24 = nI f → 0 < f → f < 1000 → (¬ M 74 24 = 0) ∧ D8_step M ∧ F8_step M = M := fun f M h1 h2 h3 => ⟨by rw [h1]; exact nI_ne0 h2 (by omega), z8_stepN h1 h2 h3⟩
  by_cases w5 : K = 5
  · obtain ⟨u1, u2⟩ := s2 w5
    obtain ⟨n0, d0, e0⟩ := stick 1 m u1 (by omega) (by omega)
    rw [if_pos w5, if_neg n0, if_neg n0, if_neg n0, if_neg n0, e0]
    exact ⟨d0, z8F.rf, fun x => absurd x (by omega), fun x => absurd x (by omega), fun _ => ⟨rfl, u1, u2⟩⟩
  · obtain ⟨u1, u2, u3, u4⟩ := s3 w5
    have c2 : (m 74 28 = 2) ↔ K = 2 := by
      rw [u3]
      by_cases y : K = 4
      · rw [if_pos y]; exact ⟨fun x => absurd x (by decide), fun x => by omega⟩
      · rw [if_neg y]; exact z_neq (b := 2) (by omega) (by omega)
    rw [if_pos u1, if_neg w5]
    have faulty : ∀ f : Nat, 0 < f → f < 1000 → (¬ (F8_fails (nI f) m) 74 24 = 0) ∧ D8_step (F8_fails (nI f) m) ∧ F8_step (F8_fails (nI f) m) = F8_fails (nI f) m ∧ z8F m (F8_fails (nI f) m) ∧ (F8_fails (nI f) m) 74 24 = nI f ∧ (F8_fails (nI f) m) 74 25 = nI a := fun f h1 h2 => by
      rw [z8_fail0 u1, s1]
      have x1 : (ax_up (ax_up m 74 24 (nI f)) 74 25 (nI a)) 74 24 = nI f := by rw [z_up, if_neg (by omega), z_up, if_pos ⟨rfl, rfl⟩]
      obtain ⟨n0, d0, e0⟩ := stick f _ x1 h1 h2
      exact ⟨n0, d0, e0, (z8F.rf.up (by omega) (by omega)).up (by omega) (by omega), x1, by rw [z_up, if_pos ⟨rfl, rfl⟩]⟩
    by_cases w2 : K = 2
    · have v29 := u4 w2
      obtain ⟨g1, g2⟩ := p8 w2
      have hv := zvl_le (e - a) (fun j h1 h2 => g2 j h1 (by omega)) g1
      have hv2 : (10 : Nat) ^ (e - a) ≤ 10 ^ 2 := Nat.pow_le_pow_right (by decide) g1
      have ew : ∀ M, F8_in (Int32.toInt64 (nI (zvl d a (e - a)))) (Int32.toInt64 (nI lo)) (Int32.toInt64 (nI hi)) M = zb (decide (lo ≤ zvl d a (e - a) ∧ zvl d a (e - a) ≤ hi)) := fun M => by
        rw [z8_in lo hi (by rw [z_i64, z_nti (by omega)]) (by rw [z_i64, z_nti (by omega)])]
        unfold zwi
        rw [z_nti (by omega)]
        congr 1
        rw [decide_eq_decide]; omega
      rw [if_pos (c2.mpr w2), if_pos w2, if_pos u1, v29, ew]
      by_cases wr : lo ≤ zvl d a (e - a) ∧ zvl d a (e - a) ≤ hi
      · rw [decide_eq_true wr, if_neg (show ¬ zb true = 0 by decide), if_pos wr, if_pos u1, v29]
        have c31 : ((31 : Int32) ≤ nI (zvl d a (e - a))) ↔ 31 ≤ zvl d a (e - a) := z_nle (a := 31) (by omega) (by omega)
        simp only [c31]
        obtain ⟨y1, y2, y3⟩ := z8_step hn hd hT u1 u2 p3
        by_cases w31 : 31 ≤ zvl d a (e - a)
        · rw [if_pos w31, if_pos u1, v29]
          exact ⟨y1, y2, fun _ _ => ⟨rfl, y3⟩, fun _ x => by omega, fun x => absurd rfl x⟩
        · rw [if_neg w31]
          have tb := z_tb (t := S) (q := zvl d a (e - a)) (by omega) hS2
          have tb1 : (nI S >>> (nI (zvl d a (e - a)) &&& (31 : Int32)) &&& 1 = 1) ↔ S.testBit (zvl d a (e - a)) = true := by
            rw [z_shr (by omega) hS2, z_lit 1, z_and, show S / 2 ^ zvl d a (e - a) &&& 1 = S / 2 ^ zvl d a (e - a) % 2 from Nat.and_one_is_mod _, z_neq (by omega) (by omega), Nat.testBit_eq_decide_div_mod_eq, decide_eq_true_eq]
          by_cases wb : S.testBit (zvl d a (e - a)) = true
          · obtain ⟨n0, d0, e0, f0, k0, k1⟩ := faulty 4 (by omega) (by omega)
            rw [if_pos (tb1.mpr wb), show (4 : Int32) = nI 4 from rfl, if_neg n0, e0]
            exact ⟨d0, f0, fun _ x => absurd ⟨by omega, wb⟩ x, fun _ _ => ⟨rfl, k0, k1⟩, fun x => absurd rfl x⟩
          · rw [if_neg (fun x => wb (tb1.mp x)), if_pos u1, v29]
            exact ⟨y1, y2, fun _ _ => ⟨rfl, y3⟩, fun _ x => absurd x.2 wb, fun x => absurd rfl x⟩
      · obtain ⟨n0, d0, e0, f0, k0, k1⟩ := faulty 3 (by omega) (by omega)
        rw [decide_eq_false wr, if_pos (show zb false = 0 from rfl), if_neg wr, show (3 : Int32) = nI 3 from rfl, if_neg n0, if_neg n0, e0]
        exact ⟨d0, f0, fun x => absurd x (by omega), fun x => absurd x (by omega), fun _ => ⟨rfl, k0, k1⟩⟩
    · obtain ⟨n0, d0, e0, f0, k0, k1⟩ := faulty 2 (by omega) (by omega)
      rw [if_neg (fun x => w2 (c2.mp x)), if_neg w2, show (2 : Int32) = nI 2 from rfl, if_neg n0, if_neg n0, if_neg n0, e0]
      exact ⟨d0, f0, fun x => absurd x (by omega), fun x => absurd x (by omega), fun _ => ⟨rfl, k0, k1⟩⟩
theorem z8_numN {f : Nat} {lo hi S : Int32} (h : m 74 24 = nI f) (h0 : 0 < f) (h1 : f < 1000) : D8_other lo hi S m ∧ F8_other lo hi S m = (lo, m) := by
  have n0 : ¬ m 74 24 = 0 := by rw [h]; exact nI_ne0 h0 (by omega)
  obtain ⟨d0, e0⟩ := z8_stepN h h0 h1
  unfold D8_other HK8_other_20 HK8_other_47 HK8_other_80 F8_other K8_other_20 K8_other_47 K8_other_80
  rw [if_neg n0, if_neg n0, if_neg n0, if_neg n0, e0]
  exact ⟨d0, rfl⟩
end ZK2
