/-! PURE: tokens of a text, by both -/
def zrn (f : Nat → Bool) (n : Nat) : Nat → Nat → Nat
  | 0, i => i
  | k + 1, i => if i < n ∧ f i = true then zrn f n k (i + 1) else i
theorem zrn_le {f : Nat → Bool} {n : Nat} : ∀ k i, i ≤ n → i ≤ zrn f n k i ∧ zrn f n k i ≤ n
  | 0, i, h => ⟨Nat.le_refl _, h⟩
  | k + 1, i, h => by
    unfold zrn
    split
    · rename_i w
      have := zrn_le (f := f) (n := n) k (i + 1) (by omega)
      omega
    · omega
theorem zrn_all {f : Nat → Bool} {n : Nat} : ∀ k i j, i ≤ j → j < zrn f n k i → f j = true
  | 0, i, j, h1, h2 => by unfold zrn at h2; omega
  | k + 1, i, j, h1, h2 => by
    unfold zrn at h2
    split at h2
    · rename_i w
      by_cases e : j = i
      · rw [e]; exact w.2
      · exact zrn_all k (i + 1) j (by omega) h2
    · omega
def zsp (d : Nat → Nat) (i : Nat) : Bool := decide (d i = 32)
def zle (d : Nat → Nat) (i : Nat) : Bool := decide (97 ≤ d i ∧ d i ≤ 122)
def zfi (d : Nat → Nat) (i : Nat) : Bool := decide (48 ≤ d i ∧ d i ≤ 57)
/-- start, end and sort of the token from i on: 1 a name, 2 a number, 3 a semicolon, 4 the end, 5 none -/
def zTk (d : Nat → Nat) (n i : Nat) : Nat × Nat × Nat :=
  if n ≤ zrn (zsp d) n 330 i then (zrn (zsp d) n 330 i, zrn (zsp d) n 330 i, 4)
  else if d (zrn (zsp d) n 330 i) = 59 then (zrn (zsp d) n 330 i, zrn (zsp d) n 330 i + 1, 3)
  else if zle d (zrn (zsp d) n 330 i) = true then (zrn (zsp d) n 330 i, zrn (zle d) n 330 (zrn (zsp d) n 330 i), 1)
  else if zfi d (zrn (zsp d) n 330 i) = true then (zrn (zsp d) n 330 i, zrn (zfi d) n 330 (zrn (zsp d) n 330 i), if zrn (zfi d) n 330 (zrn (zsp d) n 330 i) - zrn (zsp d) n 330 i ≤ 2 then 2 else 5)
  else (zrn (zsp d) n 330 i, zrn (zsp d) n 330 i, 5)
def zvl (d : Nat → Nat) (a : Nat) : Nat → Nat
  | 0 => 0
  | t + 1 => 10 * zvl d a t + (d (a + t) - 48)
/-- the first two figures of so many -/
def z2m (x : Nat) : Nat := if x ≤ 2 then x else 2
theorem z2m_l {x : Nat} (h : x ≤ 2) : z2m x = x := if_pos h
theorem z2m_g {x : Nat} (h : 2 ≤ x) : z2m x = 2 := by unfold z2m; split <;> omega
theorem zvl_s (d : Nat → Nat) (a t : Nat) : zvl d a (t + 1) = 10 * zvl d a t + (d (a + t) - 48) := rfl
theorem z_uid {m : ax_M} {a b : Nat} {x : Int32} (h : m a b = x) : ax_up m a b x = m := by
  funext c e
  rw [z_up]
  split
  · rename_i w; rw [w.1, w.2, h]
  · rfl
theorem z_uu {m : ax_M} {a b : Nat} {x y : Int32} : ax_up (ax_up m a b x) a b y = ax_up m a b y := by
  funext c e
  rw [z_up, z_up, z_up]
  split <;> rfl
section ZI2
variable {m : ax_M} {d : Nat → Nat} {n i : Nat}
def z4T (m : ax_M) (n : Nat) (d : Nat → Nat) : Prop := m 42 1 = nI n ∧ ∀ i, i < n → m 43 i = nI (d i)
def z8T (m : ax_M) (n : Nat) (d : Nat → Nat) : Prop := m 74 22 = nI n ∧ ∀ i, i < n → m 81 i = nI (d i)
theorem z4_byte (hn : n ≤ 320) (hT : z4T m n d) (hi : i < 2000) : F6_byteAt (nI i) m = if i < n then nI (d i) else -1 := by
  unfold F6_byteAt
  rw [if_neg (nI_pos (by omega)), hT.1]
  by_cases w : i < n
  · have h3 : ¬ (320 : Int32) ≤ nI i := z_lef (a := 320) (by omega) (by omega)
    rw [if_neg (z_lef w (by omega)), if_pos w, if_neg h3, z_ncl (by omega), hT.2 i w]
  · rw [if_pos (z_let (by omega) (by omega)), if_neg w]
theorem z8_byte (hn : n ≤ 320) (hT : z8T m n d) (hi : i < 2000) : D8_byteAt (nI i) m ∧ F8_byteAt (nI i) m = if i < n then nI (d i) else -4 := by
  unfold D8_byteAt F8_byteAt
  rw [hT.1]
  by_cases w : i < n
  · rw [if_neg (z_lef w (by omega)), if_pos w, z_ncl (by omega), hT.2 i w]
    exact ⟨fun _ => z_vp (by omega) (by omega), rfl⟩
  · have h1 : nI n ≤ nI i := z_let (by omega) (by omega)
    rw [if_pos h1, if_neg w]
    exact ⟨fun x => absurd h1 x, rfl⟩
theorem z4_let (hd : d i < 256) : F4_isLetter (nI (d i)) m = zb (zle d i) := by
  unfold F4_isLetter zle
  have c1 : (nI (d i) < 97) ↔ d i < 97 := z_nlt (b := 97) (by omega) (by omega)
  have c2 : (122 < nI (d i)) ↔ 122 < d i := z_nlt (a := 122) (by omega) (by omega)
  simp only [c1, c2]
  by_cases w1 : d i < 97
  · rw [if_pos w1, decide_eq_false (by omega)]; rfl
  · rw [if_neg w1]
    by_cases w2 : 122 < d i
    · rw [if_pos w2, decide_eq_false (by omega)]; rfl
    · rw [if_neg w2, decide_eq_true (by omega)]; rfl
theorem z4_fig (hd : d i < 256) : F4_isFigure (nI (d i)) m = zb (zfi d i) := by
  unfold F4_isFigure zfi
  have c1 : (nI (d i) < 48) ↔ d i < 48 := z_nlt (b := 48) (by omega) (by omega)
  have c2 : (57 < nI (d i)) ↔ 57 < d i := z_nlt (a := 57) (by omega) (by omega)
  simp only [c1, c2]
  by_cases w1 : d i < 48
  · rw [if_pos w1, decide_eq_false (by omega)]; rfl
  · rw [if_neg w1]
    by_cases w2 : 57 < d i
    · rw [if_pos w2, decide_eq_false (by omega)]; rfl
    · rw [if_neg w2, decide_eq_true (by omega)]; rfl
theorem z8_let (hd : d i < 256) : F8_in (Int32.toInt64 (nI (d i))) 97 122 m = zb (zle d i) := by
  rw [z8_in 97 122 rfl rfl]
  unfold zwi zle
  rw [z_nti (by omega)]
  congr 1
  rw [decide_eq_decide]; omega
theorem z8_fig (hd : d i < 256) : F8_in (Int32.toInt64 (nI (d i))) 48 57 m = zb (zfi d i) := by
  rw [z8_in 48 57 rfl rfl]
  unfold zwi zfi
  rw [z_nti (by omega)]
  congr 1
  rw [decide_eq_decide]; omega
theorem z4T.up (h : z4T m n d) {j : Nat} {x : Int32} : z4T (ax_up m 41 j x) n d := by
  unfold z4T; rw [z_upr (by omega), z_upr (by omega)]; exact h
theorem z8T.up (h : z8T m n d) {j : Nat} {x : Int32} (hj : j ≠ 22) : z8T (ax_up m 74 j x) n d := by
  unfold z8T; rw [z_up, if_neg (by omega), z_upr (by omega)]; exact h
theorem z4_spaces (hn : n ≤ 320) (hd : ∀ i, i < n → d i < 256) : ∀ k i m, i ≤ n → n - i < k → z4T m n d → m 41 3 = nI i → E4_takeToken_8 k m ∧ L4_takeToken_8 k m = ax_up m 41 3 (nI (zrn (zsp d) n k i)) := by
  intro k
  induction k with
  | zero => intro i m _ h; omega
  | succ k ih =>
    intro i m hi hk hT h3
    unfold E4_takeToken_8 L4_takeToken_8 zrn
    rw [hT.1, h3]
    by_cases w : i < n
    · have h1 : ¬ nI n ≤ nI i := z_lef w (by omega)
      have h256 := hd i w
      rw [if_neg h1, z4_byte hn hT (by omega), if_pos w]
      have ce : (nI (d i) = 32) ↔ d i = 32 := z_neq (b := 32) (by omega) (by omega)
      by_cases w2 : d i = 32
      · rw [if_pos (ce.mpr w2), if_pos ⟨w, decide_eq_true w2⟩, nI_1]
        obtain ⟨i1, i2⟩ := ih (i + 1) (ax_up m 41 3 (nI (i + 1))) (by omega) (by omega) hT.up (by rw [z_up, if_pos ⟨rfl, rfl⟩])
        rw [i2, z_uu]
        exact ⟨fun _ _ => i1, rfl⟩
      · have h2 : ¬ nI (d i) = 32 := fun x => w2 (ce.mp x)
        rw [if_neg h2, if_neg (fun x => w2 (of_decide_eq_true x.2)), z_uid h3]
        exact ⟨fun _ x => absurd x h2, rfl⟩
    · have h1 : nI n ≤ nI i := z_let (by omega) (by omega)
      rw [if_pos h1, if_neg (fun x => w x.1), z_uid h3]
      exact ⟨fun x => absurd h1 x, rfl⟩
theorem z8_spaces (hn : n ≤ 320) (hd : ∀ i, i < n → d i < 256) : ∀ k i m, i ≤ n → n - i < k → z8T m n d → m 74 26 = nI i → E8_step_8 k m ∧ L8_step_8 k m = ax_up m 74 26 (nI (zrn (zsp d) n k i)) := by
  intro k
  induction k with
  | zero => intro i m _ h; omega
  | succ k ih =>
    intro i m hi hk hT h3
    unfold E8_step_8 L8_step_8 zrn
    obtain ⟨b1, b2⟩ := z8_byte (i := i) hn hT (by omega)
    rw [h3, b2]
    by_cases w : i < n
    · have h256 := hd i w
      rw [if_pos w]
      have ce : (nI (d i) = 32) ↔ d i = 32 := z_neq (b := 32) (by omega) (by omega)
      by_cases w2 : d i = 32
      · rw [if_pos (ce.mpr w2), if_pos ⟨w, decide_eq_true w2⟩, nI_1]
        obtain ⟨i1, i2⟩ := ih (i + 1) (ax_up m 74 26 (nI (i + 1))) (by omega) (by omega) (hT.up (by omega)) (by rw [z_up, if_pos ⟨rfl, rfl⟩])
        rw [i2, z_uu]
        exact ⟨⟨b1, fun _ => i1⟩, rfl⟩
      · have h2 : ¬ nI (d i) = 32 := fun x => w2 (ce.mp x)
        rw [if_neg h2, if_neg (fun x => w2 (of_decide_eq_true x.2)), z_uid h3]
        exact ⟨⟨b1, fun x => absurd x h2⟩, rfl⟩
    · rw [if_neg w, if_neg (show ¬ (-4 : Int32) = 32 by decide), if_neg (fun x => w x.1), z_uid h3]
      exact ⟨⟨b1, fun x => absurd x (by decide)⟩, rfl⟩
theorem z4_letters {v1 : Int32} (hn : n ≤ 320) (hd : ∀ i, i < n → d i < 256) : ∀ k i m, i ≤ n → n - i < k → z4T m n d → m 41 3 = nI i → E4_takeToken_119 k v1 m ∧ L4_takeToken_119 k v1 m = ax_up m 41 3 (nI (zrn (zle d) n k i)) := by
  intro k
  induction k with
  | zero => intro i m _ h; omega
  | succ k ih =>
    intro i m hi hk hT h3
    unfold E4_takeToken_119 L4_takeToken_119 zrn
    rw [hT.1, h3]
    by_cases w : i < n
    · have h1 : ¬ nI n ≤ nI i := z_lef w (by omega)
      rw [if_neg h1, z4_byte hn hT (by omega), if_pos w, z4_let (hd i w)]
      cases w2 : zle d i with
      | true =>
        rw [if_neg (show ¬ zb true = 0 by decide), if_pos ⟨w, rfl⟩, nI_1]
        obtain ⟨i1, i2⟩ := ih (i + 1) (ax_up m 41 3 (nI (i + 1))) (by omega) (by omega) hT.up (by rw [z_up, if_pos ⟨rfl, rfl⟩])
        rw [i2, z_uu]
        exact ⟨fun _ _ => i1, rfl⟩
      | false =>
        rw [if_pos (show zb false = 0 from rfl), if_neg (fun x => by cases x.2), z_uid h3]
        exact ⟨fun _ x => absurd rfl x, rfl⟩
    · have h1 : nI n ≤ nI i := z_let (by omega) (by omega)
      rw [if_pos h1, if_neg (fun x => w x.1), z_uid h3]
      exact ⟨fun x => absurd h1 x, rfl⟩
theorem z4_figures {v1 : Int32} (hn : n ≤ 320) (hd : ∀ i, i < n → d i < 256) : ∀ k i m, i ≤ n → n - i < k → z4T m n d → m 41 3 = nI i → E4_takeToken_175 k v1 m ∧ L4_takeToken_175 k v1 m = ax_up m 41 3 (nI (zrn (zfi d) n k i)) := by
  intro k
  induction k with
  | zero => intro i m _ h; omega
  | succ k ih =>
    intro i m hi hk hT h3
    unfold E4_takeToken_175 L4_takeToken_175 zrn
    rw [hT.1, h3]
    by_cases w : i < n
    · have h1 : ¬ nI n ≤ nI i := z_lef w (by omega)
      rw [if_neg h1, z4_byte hn hT (by omega), if_pos w, z4_fig (hd i w)]
      cases w2 : zfi d i with
      | true =>
        rw [if_neg (show ¬ zb true = 0 by decide), if_pos ⟨w, rfl⟩, nI_1]
        obtain ⟨i1, i2⟩ := ih (i + 1) (ax_up m 41 3 (nI (i + 1))) (by omega) (by omega) hT.up (by rw [z_up, if_pos ⟨rfl, rfl⟩])
        rw [i2, z_uu]
        exact ⟨fun _ _ => i1, rfl⟩
      | false =>
        rw [if_pos (show zb false = 0 from rfl), if_neg (fun x => by cases x.2), z_uid h3]
        exact ⟨fun _ x => absurd rfl x, rfl⟩
    · have h1 : nI n ≤ nI i := z_let (by omega) (by omega)
      rw [if_pos h1, if_neg (fun x => w x.1), z_uid h3]
      exact ⟨fun x => absurd h1 x, rfl⟩
theorem z8_letters {v1 : Int32} (hn : n ≤ 320) (hd : ∀ i, i < n → d i < 256) : ∀ k i m, i ≤ n → n - i < k → z8T m n d → m 74 26 = nI i → E8_step_84 k v1 m ∧ L8_step_84 k v1 m = ax_up m 74 26 (nI (zrn (zle d) n k i)) := by
  intro k
  induction k with
  | zero => intro i m _ h; omega
  | succ k ih =>
    intro i m hi hk hT h3
    unfold E8_step_84 L8_step_84 zrn
    obtain ⟨b1, b2⟩ := z8_byte (i := i) hn hT (by omega)
    rw [h3, b2]
    by_cases w : i < n
    · rw [if_pos w, z8_let (hd i w)]
      cases w2 : zle d i with
      | true =>
        rw [if_neg (show ¬ zb true = 0 by decide), if_pos ⟨w, rfl⟩, nI_1]
        obtain ⟨i1, i2⟩ := ih (i + 1) (ax_up m 74 26 (nI (i + 1))) (by omega) (by omega) (hT.up (by omega)) (by rw [z_up, if_pos ⟨rfl, rfl⟩])
        rw [i2, z_uu]
        exact ⟨⟨b1, fun _ => i1⟩, rfl⟩
      | false =>
        rw [if_pos (show zb false = 0 from rfl), if_neg (fun x => by cases x.2), z_uid h3]
        exact ⟨⟨b1, fun x => absurd rfl x⟩, rfl⟩
    · have hz : F8_in (Int32.toInt64 (-4)) 97 122 m = 0 := (z8_in 97 122 rfl rfl).trans rfl
      rw [if_neg w, if_pos hz, if_neg (fun x => w x.1), z_uid h3]
      exact ⟨⟨b1, fun x => absurd hz x⟩, rfl⟩
theorem zvl_le {a : Nat} : ∀ t, (∀ j, a ≤ j → j < a + t → zfi d j = true) → t ≤ 2 → zvl d a t < 10 ^ t
  | 0, _, _ => Nat.zero_lt_one
  | t + 1, h, ht => by
    have ih := zvl_le t (fun j h1 h2 => h j h1 (by omega)) (by omega)
    have h1 := of_decide_eq_true (h (a + t) (by omega) (by omega))
    unfold zvl
    rw [Nat.pow_succ]
    omega
/-- the reference's number: its value by its first two figures -/
theorem z8_figures {v1 : Int32} {a : Nat} (hn : n ≤ 320) (hd : ∀ i, i < n → d i < 256) : ∀ k i m, a ≤ i → i ≤ n → n - i < k → z8T m n d → m 74 26 = nI i → m 74 27 = nI a → m 74 29 = nI (zvl d a (z2m (i - a))) → (∀ j, a ≤ j → j < i → zfi d j = true) → E8_step_140 k v1 m ∧ L8_step_140 k v1 m = ax_up (ax_up m 74 29 (nI (zvl d a (z2m (zrn (zfi d) n k i - a))))) 74 26 (nI (zrn (zfi d) n k i)) := by
  intro k
  induction k with
  | zero => intro i m _ _ h; omega
  | succ k ih =>
    intro i m ha hi hk hT h3 h27 h29 hall
    unfold E8_step_140 L8_step_140 zrn
    obtain ⟨b1, b2⟩ := z8_byte (i := i) hn hT (by omega)
    rw [h3, b2, h27]
    by_cases w : i < n
    · rw [if_pos w, z8_fig (hd i w), pk_sub ha]
      cases w2 : zfi d i with
      | true =>
        have hf := of_decide_eq_true w2
        have c2 : ((2 : Int32) ≤ nI (i - a)) ↔ 2 ≤ i - a := z_nle (a := 2) (by omega) (by omega)
        have ev : (if (2 : Int32) ≤ nI (i - a) then (m 74 29 : Int32) else ((10 * (m 74 29)) + nI (d i)) - 48) = nI (zvl d a (z2m (i + 1 - a))) := by
          rw [h29]
          simp only [c2]
          by_cases y : 2 ≤ i - a
          · rw [if_pos y, z2m_g y, z2m_g (by omega)]
          · rw [if_neg y, z2m_l (by omega), z2m_l (by omega), show i + 1 - a = (i - a) + 1 by omega, zvl_s, show a + (i - a) = i by omega, z_lit 10, pk_mul, nI_add, z_lit 48, pk_sub (by omega)]
            congr 1; omega
        rw [if_neg (show ¬ zb true = 0 by decide), ev, z_up _ 74 29, if_neg (by omega), h3, nI_1, if_pos (show i < n ∧ true = true from ⟨w, rfl⟩)]
        obtain ⟨i1, i2⟩ := ih (i + 1) (ax_up (ax_up m 74 29 (nI (zvl d a (z2m (i + 1 - a))))) 74 26 (nI (i + 1))) (by omega) (by omega) (by omega) ((hT.up (by omega)).up (by omega)) (by rw [z_up, if_pos ⟨rfl, rfl⟩]) (by rw [z_up, if_neg (by omega), z_up, if_neg (by omega)]; exact h27) (by rw [z_up, if_neg (by omega), z_up, if_pos ⟨rfl, rfl⟩]) (fun j j1 j2 => by
          by_cases y : j = i
          · rw [y]; exact w2
          · exact hall j j1 (by omega))
        refine ⟨⟨b1, fun _ => ⟨fun _ => b1, i1⟩⟩, ?_⟩
        rw [i2]
        funext x y
        simp only [z_up]
        by_cases y1 : x = 74 ∧ y = 26
        · simp only [if_pos y1]
        · simp only [if_neg y1]
          by_cases y2 : x = 74 ∧ y = 29
          · simp only [if_pos y2]
          · simp only [if_neg y2]
      | false =>
        rw [if_pos (show zb false = 0 from rfl), if_neg (fun x : (i < n ∧ false = true) => by cases x.2), z_uid h29, z_uid h3]
        exact ⟨⟨b1, fun x => absurd rfl x⟩, rfl⟩
    · have hz : F8_in (Int32.toInt64 (-4)) 48 57 m = 0 := (z8_in 48 57 rfl rfl).trans rfl
      rw [if_neg w, if_pos hz, if_neg (fun x : (i < n ∧ zfi d i = true) => w x.1), z_uid h29, z_uid h3]
      exact ⟨⟨b1, fun x => absurd hz x⟩, rfl⟩
end ZI2
