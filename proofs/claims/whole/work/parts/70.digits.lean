/-! PURE: ways to stand, digit by digit; a crossing swaps two; how many ways there are at most -/
def zdg (c k : Nat) : Nat := c / 2 ^ (2 * k) % 4
theorem zdg_lt (c k : Nat) : zdg c k < 4 := Nat.mod_lt _ (by decide)
theorem zdg_and {a b k : Nat} : zdg (a &&& b) k = zdg a k &&& zdg b k := by
  unfold zdg; rw [Nat.and_div_two_pow]; exact Nat.and_mod_two_pow (n := 2)
theorem zdg_or {a b k : Nat} : zdg (a ||| b) k = zdg a k ||| zdg b k := by
  unfold zdg; rw [Nat.or_div_two_pow]; exact Nat.or_mod_two_pow (n := 2)
theorem zdg_xor {a b k : Nat} : zdg (a ^^^ b) k = zdg a k ^^^ zdg b k := by
  unfold zdg; rw [Nat.xor_div_two_pow]; exact Nat.xor_mod_two_pow (n := 2)
theorem zdg_mul {x p k : Nat} (hx : x < 4) : zdg (x * 2 ^ (2 * p)) k = if k = p then x else 0 := by
  unfold zdg
  by_cases e : k = p
  · rw [if_pos e, e, Nat.mul_div_cancel _ (Nat.two_pow_pos _), Nat.mod_eq_of_lt hx]
  · rw [if_neg e]
    by_cases e2 : p < k
    · have : x * 2 ^ (2 * p) < 2 ^ (2 * k) := by
        have h1 : x * 2 ^ (2 * p) < 4 * 2 ^ (2 * p) := Nat.mul_lt_mul_of_pos_right hx (Nat.two_pow_pos _)
        have h2 : 4 * 2 ^ (2 * p) = 2 ^ (2 * p + 2) := by rw [Nat.pow_add, Nat.mul_comm]
        have h3 : 2 ^ (2 * p + 2) ≤ 2 ^ (2 * k) := Nat.pow_le_pow_right (by decide) (by omega)
        omega
      rw [Nat.div_eq_of_lt this]
    · have e1 : x * 2 ^ (2 * p) = (x * 2 ^ (2 * (p - k - 1))) * 4 * 2 ^ (2 * k) := by
        rw [show 2 * p = 2 * (p - k - 1) + 2 + 2 * k by omega, Nat.pow_add, Nat.pow_add]
        simp only [Nat.mul_assoc]
      rw [e1, Nat.mul_div_cancel _ (Nat.two_pow_pos _), Nat.mul_mod_left]
theorem zdg_ones : ∀ k, k < 6 → zdg 4294967295 k = 3 := by decide
theorem zdg_ext {a b : Nat} (ha : a < 4096) (hb : b < 4096) (h : ∀ k, k < 6 → zdg a k = zdg b k) : a = b := by
  have h0 : a / 1 % 4 = b / 1 % 4 := h 0 (by omega)
  have h1 : a / 4 % 4 = b / 4 % 4 := h 1 (by omega)
  have h2 : a / 16 % 4 = b / 16 % 4 := h 2 (by omega)
  have h3 : a / 64 % 4 = b / 64 % 4 := h 3 (by omega)
  have h4 : a / 256 % 4 = b / 256 % 4 := h 4 (by omega)
  have h5 : a / 1024 % 4 = b / 1024 % 4 := h 5 (by omega)
  omega
def zfg (c p q f s : Nat) : Nat → Nat := fun k => if k = p then s else if k = q then f else zdg c k
def zfc (c p q f s : Nat) : Nat := zcode (zfg c p q f s) 6
section ZY
variable {c p q f s : Nat}
theorem zfg_lt (hf : f < 4) (hs : s < 4) : ∀ k, k < 6 → zfg c p q f s k < 4 := fun k _ => by
  unfold zfg
  have := zdg_lt c k
  split
  · exact hs
  · split
    · exact hf
    · exact this
theorem zfc_lt (hf : f < 4) (hs : s < 4) : zfc c p q f s < 4096 := zcode_6 (Nat.le_refl _) (zfg_lt hf hs)
theorem zfc_dg (hf : f < 4) (hs : s < 4) {k : Nat} (hk : k < 6) : zdg (zfc c p q f s) k = zfg c p q f s k := zcode_dig 6 k (zfg_lt hf hs) hk
theorem z_m4 {x p : Nat} (hx : x < 4) (hp : p < 6) : x * 2 ^ (2 * p) < 4096 := by
  have h2 : x * 2 ^ (2 * p) ≤ 3 * 2 ^ 10 := Nat.mul_le_mul (by omega) (Nat.pow_le_pow_right (by decide) (by omega))
  omega
theorem z_bit4 : ∀ x, x < 4 → x &&& 3 = x ∧ x &&& 0 = 0 ∧ x ||| 0 = x ∧ 0 ||| x = x ∧ x ^^^ 0 = x ∧ 0 ^^^ x = x ∧ (x &&& (3 ^^^ 3)) = 0 ∧ (x &&& (0 ^^^ 3)) = x := by decide
theorem z_bit44 : ∀ x, x < 4 → ∀ y, y < 4 → x ^^^ (x ^^^ y) = y ∧ y ^^^ (x ^^^ y) = x ∧ x ^^^ y < 4 := by decide
/-- the reference's next way to stand -/
theorem z8_fc (hc : c < 4096) (hp : p < 6) (hq : q < 6) (hpq : p ≠ q) (hf : f < 4) (hs : s < 4) : (((nI c &&& (((3 : Int32) <<< ((2 * nI p) &&& (31 : Int32))) ^^^ (-1))) &&& (((3 : Int32) <<< ((2 * nI q) &&& (31 : Int32))) ^^^ (-1))) ||| (nI s <<< ((2 * nI p) &&& (31 : Int32)))) ||| (nI f <<< ((2 * nI q) &&& (31 : Int32))) = nI (zfc c p q f s) := by
  rw [show (3 : Int32) = nI 3 from rfl, z_cshl hp (by omega), z_cshl hq (by omega), z_cshl hp hs, z_cshl hq hf, z_m1, z_xor, z_xor, z_and, z_and, z_or, z_or]
  congr 1
  have b1 : c &&& (3 * 2 ^ (2 * p) ^^^ 4294967295) &&& (3 * 2 ^ (2 * q) ^^^ 4294967295) < 2 ^ 12 := Nat.lt_of_le_of_lt Nat.and_le_left (Nat.lt_of_le_of_lt Nat.and_le_left hc)
  refine zdg_ext (Nat.or_lt_two_pow (n := 12) (Nat.or_lt_two_pow (n := 12) b1 (z_m4 hs hp)) (z_m4 hf hq)) (zfc_lt hf hs) (fun k hk => ?_)
  rw [zfc_dg hf hs hk, zdg_or, zdg_or, zdg_and, zdg_and, zdg_xor, zdg_xor, zdg_ones k hk, zdg_mul (by omega), zdg_mul (by omega), zdg_mul hs, zdg_mul hf]
  unfold zfg
  have hd := z_bit4 _ (zdg_lt c k)
  by_cases e1 : k = p
  · have e2 : ¬ k = q := by omega
    simp only [if_pos e1, if_neg e2]
    rw [hd.2.2.2.2.2.2.1]
    simp
  · by_cases e2 : k = q
    · simp only [if_neg e1, if_pos e2]
      rw [hd.2.2.2.2.2.2.2, hd.2.2.2.2.2.2.1]
      simp
    · simp only [if_neg e1, if_neg e2]
      rw [hd.2.2.2.2.2.2.2, hd.2.2.2.2.2.2.2]
      simp
/-- the class's look whether a move is open -/
theorem z7_op (hc : c < 4096) (hp : p < 6) (hq : q < 6) (hpq : p ≠ q) (hf : f < 4) (hs : s < 4) : (nI c &&& nI (3 * 2 ^ (2 * p) ||| 3 * 2 ^ (2 * q)) = nI (f * 2 ^ (2 * p) ||| s * 2 ^ (2 * q))) ↔ (zdg c p = f ∧ zdg c q = s) := by
  have b1 : c &&& (3 * 2 ^ (2 * p) ||| 3 * 2 ^ (2 * q)) < 4096 := Nat.lt_of_le_of_lt Nat.and_le_left hc
  have b2 : f * 2 ^ (2 * p) ||| s * 2 ^ (2 * q) < 4096 := Nat.or_lt_two_pow (n := 12) (z_m4 hf hp) (z_m4 hs hq)
  rw [z_and, z_neq (by omega) (by omega)]
  have L : ∀ k, zdg (c &&& (3 * 2 ^ (2 * p) ||| 3 * 2 ^ (2 * q))) k = zdg c k &&& ((if k = p then 3 else 0) ||| (if k = q then 3 else 0)) := fun k => by
    rw [zdg_and, zdg_or, zdg_mul (by omega), zdg_mul (by omega)]
  have R : ∀ k, zdg (f * 2 ^ (2 * p) ||| s * 2 ^ (2 * q)) k = ((if k = p then f else 0) ||| (if k = q then s else 0)) := fun k => by
    rw [zdg_or, zdg_mul hf, zdg_mul hs]
  constructor
  · intro h
    have hP := L p
    have hQ := L q
    rw [h, R] at hP hQ
    have d1 := z_bit4 _ (zdg_lt c p)
    have d2 := z_bit4 _ (zdg_lt c q)
    simp only [if_true, if_neg hpq, Nat.or_zero] at hP
    simp only [if_true, if_neg (Ne.symm hpq), Nat.zero_or] at hQ
    rw [d1.1] at hP
    rw [d2.1] at hQ
    exact ⟨hP.symm, hQ.symm⟩
  · rintro ⟨h1, h2⟩
    refine zdg_ext b1 b2 (fun k hk => ?_)
    rw [L, R]
    have d1 := z_bit4 _ (zdg_lt c k)
    by_cases e1 : k = p
    · have e2 : ¬ k = q := by omega
      simp only [if_pos e1, if_neg e2, Nat.or_zero]
      rw [d1.1, e1, h1]
    · by_cases e2 : k = q
      · simp only [if_neg e1, if_pos e2, Nat.zero_or]
        rw [d1.1, e2, h2]
      · simp only [if_neg e1, if_neg e2, Nat.or_zero, Nat.and_zero]
theorem z7_fl (hc : c < 4096) (hp : p < 6) (hq : q < 6) (hpq : p ≠ q) (hf : f < 4) (hs : s < 4) (h1 : zdg c p = f) (h2 : zdg c q = s) : nI c ^^^ nI ((f ^^^ s) * 2 ^ (2 * p) ||| (f ^^^ s) * 2 ^ (2 * q)) = nI (zfc c p q f s) := by
  obtain ⟨x1, x2, x3⟩ := z_bit44 f hf s hs
  rw [z_xor]
  congr 1
  refine zdg_ext (Nat.xor_lt_two_pow (n := 12) hc (Nat.or_lt_two_pow (n := 12) (z_m4 x3 hp) (z_m4 x3 hq))) (zfc_lt hf hs) (fun k hk => ?_)
  rw [zfc_dg hf hs hk, zdg_xor, zdg_or, zdg_mul x3, zdg_mul x3]
  unfold zfg
  by_cases e1 : k = p
  · have e2 : ¬ k = q := by omega
    simp only [if_pos e1, if_neg e2, Nat.or_zero]
    rw [e1, h1, x1]
  · by_cases e2 : k = q
    · simp only [if_neg e1, if_pos e2, Nat.zero_or]
      rw [e2, h2, x2]
    · simp only [if_neg e1, if_neg e2, Nat.or_zero, Nat.xor_zero]
end ZY
/-- how many of the first n digits are x -/
def zct (x : Nat) : Nat → (Nat → Nat) → Nat
  | 0, _ => 0
  | n + 1, f => zct x n f + (if f n = x then 1 else 0)
theorem zct_e {x : Nat} {f g : Nat → Nat} : ∀ n, (∀ k, k < n → f k = g k) → zct x n f = zct x n g
  | 0, _ => rfl
  | n + 1, h => by
    unfold zct
    rw [zct_e n (fun k hk => h k (by omega)), h n (by omega)]
theorem zct_u {x p v : Nat} {g : Nat → Nat} : ∀ n, p < n → zct x n (fun k => if k = p then v else g k) + (if g p = x then 1 else 0) = zct x n g + (if v = x then 1 else 0)
  | 0, h => by omega
  | n + 1, h => by
    unfold zct
    dsimp only
    by_cases e : p = n
    · subst e
      rw [zct_e (f := fun k => if k = p then v else g k) (g := g) p (fun k hk => if_neg (by omega))]
      simp only [if_true]
      omega
    · have := zct_u (x := x) (v := v) (g := g) n (show p < n by omega)
      have e9 : (if n = p then v else g n) = g n := if_neg (by omega)
      simp only [e9]
      omega
theorem zct_6 {x : Nat} {f : Nat → Nat} : ∀ n, zct 0 n f + zct 1 n f + zct 2 n f + zct 3 n f ≤ n ∧ ((∀ k, k < n → f k < 4) → zct 0 n f + zct 1 n f + zct 2 n f + zct 3 n f = n)
  | 0 => ⟨Nat.le_refl _, fun _ => rfl⟩
  | n + 1 => by
    have ih := zct_6 (x := x) (f := f) n
    unfold zct
    constructor
    · have := ih.1
      by_cases e0 : f n = 0 <;> by_cases e1 : f n = 1 <;> by_cases e2 : f n = 2 <;> by_cases e3 : f n = 3 <;> simp only [e0, e1, e2, e3, if_true, if_false] <;> first | omega | (simp; omega)
    · intro h
      have := ih.2 (fun k hk => h k (by omega))
      have h4 := h n (by omega)
      rcases (show f n = 0 ∨ f n = 1 ∨ f n = 2 ∨ f n = 3 by omega) with e | e | e | e <;> rw [e] <;> simp <;> omega
/-- all numbers of n digits with a zeros, b ones, c twos, d threes -/
def zEN : Nat → Nat → Nat → Nat → Nat → List Nat
  | 0, _, _, _, _ => [0]
  | n + 1, a, b, c, d => (if 0 < a then zEN n (a - 1) b c d else []) ++ ((if 0 < b then (zEN n a (b - 1) c d).map (fun x => x + 1 * 2 ^ (2 * n)) else []) ++ ((if 0 < c then (zEN n a b (c - 1) d).map (fun x => x + 2 * 2 ^ (2 * n)) else []) ++ (if 0 < d then (zEN n a b c (d - 1)).map (fun x => x + 3 * 2 ^ (2 * n)) else [])))
theorem zEN_m {f : Nat → Nat} : ∀ n, (∀ k, k < n → f k < 4) → zcode f n ∈ zEN n (zct 0 n f) (zct 1 n f) (zct 2 n f) (zct 3 n f)
  | 0, _ => List.mem_cons_self
  | n + 1, h => by
    have ih := zEN_m n (fun k hk => h k (by omega))
    have h4 := h n (by omega)
    have s0 : ∀ x, zct x (n + 1) f = zct x n f + (if f n = x then 1 else 0) := fun x => rfl
    have sy : ∀ x, f n = x → zct x (n + 1) f = zct x n f + 1 := fun x hx => by rw [s0, if_pos hx]
    have sn : ∀ x, f n ≠ x → zct x (n + 1) f = zct x n f := fun x hx => by rw [s0, if_neg hx, Nat.add_zero]
    have sc : zcode f (n + 1) = zcode f n + f n * 2 ^ (2 * n) := rfl
    rcases (show f n = 0 ∨ f n = 1 ∨ f n = 2 ∨ f n = 3 by omega) with e | e | e | e
    · rw [sy 0 e, sn 1 (by omega), sn 2 (by omega), sn 3 (by omega), sc, e, Nat.zero_mul, Nat.add_zero]
      unfold zEN
      rw [if_pos (show 0 < zct 0 n f + 1 by omega), Nat.add_sub_cancel]
      exact List.mem_append_left _ ih
    · rw [sn 0 (by omega), sy 1 e, sn 2 (by omega), sn 3 (by omega), sc, e]
      unfold zEN
      apply List.mem_append_right
      rw [if_pos (show 0 < zct 1 n f + 1 by omega), Nat.add_sub_cancel]
      exact List.mem_append_left _ (List.mem_map_of_mem (f := fun x => x + 1 * 2 ^ (2 * n)) ih)
    · rw [sn 0 (by omega), sn 1 (by omega), sy 2 e, sn 3 (by omega), sc, e]
      unfold zEN
      apply List.mem_append_right
      apply List.mem_append_right
      rw [if_pos (show 0 < zct 2 n f + 1 by omega), Nat.add_sub_cancel]
      exact List.mem_append_left _ (List.mem_map_of_mem (f := fun x => x + 2 * 2 ^ (2 * n)) ih)
    · rw [sn 0 (by omega), sn 1 (by omega), sn 2 (by omega), sy 3 e, sc, e]
      unfold zEN
      apply List.mem_append_right
      apply List.mem_append_right
      apply List.mem_append_right
      rw [if_pos (show 0 < zct 3 n f + 1 by omega), Nat.add_sub_cancel]
      exact List.mem_map_of_mem (f := fun x => x + 3 * 2 ^ (2 * n)) ih
theorem zEN_180 : ∀ a, a < 7 → ∀ b, b < 7 → ∀ c, c < 7 → a + b + c ≤ 6 → (zEN 6 a b c (6 - a - b - c)).length ≤ 180 := by decide +kernel
/-- what stays over a crossing -/
def zSm (c0 c : Nat) : Prop := c < 4096 ∧ ∀ x, zct x 6 (zdg c) = zct x 6 (zdg c0)
theorem z_code {c : Nat} (h : c < 4096) : zcode (zdg c) 6 = c := zdg_ext (zcode_6 (Nat.le_refl _) (fun k _ => zdg_lt c k)) h (fun k hk => zcode_dig 6 k (fun k _ => zdg_lt c k) hk)
theorem zSm_le {c0 : Nat} {l : List Nat} (hn : l.Nodup) (h : ∀ c, c ∈ l → zSm c0 c) : l.length ≤ 180 := by
  have hs := (zct_6 (x := 0) (f := zdg c0) 6).2 (fun k _ => zdg_lt c0 k)
  have h1 := zEN_180 (zct 0 6 (zdg c0)) (by omega) (zct 1 6 (zdg c0)) (by omega) (zct 2 6 (zdg c0)) (by omega) (by omega)
  rw [show 6 - zct 0 6 (zdg c0) - zct 1 6 (zdg c0) - zct 2 6 (zdg c0) = zct 3 6 (zdg c0) by omega] at h1
  refine Nat.le_trans (hn.length_le_of_subset (fun c hc => ?_)) h1
  obtain ⟨k1, k2⟩ := h c hc
  have := zEN_m (f := zdg c) 6 (fun k _ => zdg_lt c k)
  rw [z_code k1, k2, k2, k2, k2] at this
  exact this
theorem zSm_f {c0 c p q f s : Nat} (hp : p < 6) (hq : q < 6) (hpq : p ≠ q) (hf : f < 4) (hs : s < 4) (h1 : zdg c p = f) (h2 : zdg c q = s) (h : zSm c0 c) : zSm c0 (zfc c p q f s) := by
  refine ⟨zfc_lt hf hs, fun x => ?_⟩
  rw [← h.2 x, zct_e 6 (fun k hk => zfc_dg (c := c) (p := p) (q := q) hf hs hk)]
  have e1 := zct_u (x := x) (p := q) (v := f) (g := zdg c) 6 hq
  have e2 := zct_u (x := x) (p := p) (v := s) (g := fun k => if k = q then f else zdg c k) 6 hp
  rw [if_neg hpq, h1] at e2
  rw [h2] at e1
  have e4 : zct x 6 (fun k => zfg c p q f s k) = zct x 6 (zfg c p q f s) := rfl
  have e3 : zct x 6 (zfg c p q f s) = zct x 6 (fun k => if k = p then s else if k = q then f else zdg c k) := rfl
  omega
