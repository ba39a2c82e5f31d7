/-! PURE: the best pairs: what they are, and how the class finds them -/
/-- of f 0 .. f (n - 1) the greatest, and the first place where it stands -/
def zam (f : Nat → Option Nat) : Nat → Option (Nat × Nat)
  | 0 => none
  | n + 1 => match zam f n, f n with
    | none, none => none
    | none, some w => some (w, n)
    | some x, none => some x
    | some x, some w => if x.1 < w then some (w, n) else some x
def zav (c : Nat → Nat → Option Nat) (r : Nat → Nat) (p t q : Nat) : Option Nat := if t.testBit q = true then none else (c p q).map (fun x => 1000 - x + r (t ||| 2 ^ q))
/-- the worth of the best choice for rows, where some are taken -/
def zfv (c : Nat → Nat → Option Nat) : List Nat → Nat → Nat
  | [], _ => 0
  | p :: l, t => match zam (zav c (zfv c l) p t) 7 with
    | none => zfv c l t
    | some x => if zfv c l t ≤ x.1 then x.1 else zfv c l t
/-- the first best choice -/
def zcf (c : Nat → Nat → Option Nat) : List Nat → Nat → Nat → Option Nat
  | [], _, _ => none
  | p :: l, t, r => match zam (zav c (zfv c l) p t) 7 with
    | none => if r = p then none else zcf c l t r
    | some x => if zfv c l t ≤ x.1 then (if r = p then some x.2 else zcf c l (t ||| 2 ^ x.2) r) else (if r = p then none else zcf c l t r)
theorem zam_n {f : Nat → Option Nat} : ∀ n, zam f n = none → ∀ q, q < n → f q = none
  | 0, _, q, h => by omega
  | n + 1, h, q, hq => by
    unfold zam at h
    split at h
    · rename_i h1 h2
      by_cases e : q = n
      · rw [e]; exact h2
      · exact zam_n n h1 q (by omega)
    · cases h
    · cases h
    · split at h <;> cases h
theorem zam_s {f : Nat → Option Nat} : ∀ n w q, zam f n = some (w, q) → q < n ∧ f q = some w ∧ ∀ q' w', q' < n → f q' = some w' → w' ≤ w ∧ (q' < q → w' < w)
  | 0, w, q, h => by cases h
  | n + 1, w, q, h => by
    unfold zam at h
    split at h
    · cases h
    · rename_i w0 h1 h2
      cases h
      refine ⟨by omega, h2, fun q' w' a b => ?_⟩
      by_cases e : q' = n
      · rw [e, h2] at b; cases b; omega
      · rw [zam_n n h1 q' (by omega)] at b; cases b
    · rename_i x h1 h2
      cases h
      obtain ⟨a1, a2, a3⟩ := zam_s n w q h1
      refine ⟨by omega, a2, fun q' w' a b => ?_⟩
      by_cases e : q' = n
      · rw [e, h2] at b; cases b
      · exact a3 q' w' (by omega) b
    · rename_i x w0 h1 h2
      obtain ⟨a1, a2, a3⟩ := zam_s n x.1 x.2 h1
      split at h
      · rename_i h3
        cases h
        refine ⟨by omega, h2, fun q' w' a b => ?_⟩
        by_cases e : q' = n
        · rw [e, h2] at b; cases b; omega
        · have := (a3 q' w' (by omega) b).1; omega
      · rename_i h3
        cases h
        refine ⟨by omega, a2, fun q' w' a b => ?_⟩
        by_cases e : q' = n
        · rw [e, h2] at b; cases b; dsimp only at *; omega
        · exact a3 q' w' (by omega) b
theorem zfv_le {c : Nat → Nat → Option Nat} : ∀ (l : List Nat) t, zfv c l t ≤ 1000 * l.length
  | [], _ => Nat.le_refl _
  | p :: l, t => by
    have h0 := zfv_le (c := c) l t
    unfold zfv
    rw [List.length_cons]
    split
    · omega
    · rename_i x h
      obtain ⟨a1, a2, _⟩ := zam_s 7 x.1 x.2 h
      unfold zav at a2
      have : x.1 ≤ 1000 * (l.length + 1) := by
        split at a2
        · cases a2
        · cases e : c p x.2 with
          | none => rw [e] at a2; cases a2
          | some y =>
            rw [e] at a2
            have h1 := zfv_le (c := c) l (t ||| 2 ^ x.2)
            simp only [Option.map_some, Option.some.injEq] at a2
            omega
      split <;> omega
def zeo (v : Option Nat) : Int32 := match v with
  | none => -1
  | some q => nI q
def zCur (m : ax_M) (C : Nat) : Prop := (C = 0 ∧ m 55 3 = -1 ∧ m 55 4 = 0) ∨ ∃ X, C = X + 1 ∧ X ≤ 7000 ∧ m 55 3 = nI ((X + 999) / 1000) ∧ m 55 4 = nI (1000 * ((X + 999) / 1000) - X)
def zC56 (m : ax_M) (c : Nat → Nat → Option Nat) : Prop := ∀ p q, p < 7 → q < 7 → m 56 (p * 7 + q) = zeo (c p q)
/-- the last n of the seven rows -/
def zrw : Nat → List Nat
  | 0 => []
  | n + 1 => (6 - n) :: zrw n
theorem zrw_l : ∀ n, (zrw n).length = n
  | 0 => rfl
  | n + 1 => by unfold zrw; rw [List.length_cons, zrw_l n]
def zUp (m m' : ax_M) (C X : Nat) (f : Nat → Int32) : Prop := (C < X + 1 ∧ zCur m' (X + 1) ∧ ∀ r, r < 7 → m' 58 r = f r) ∨ (X + 1 ≤ C ∧ zCur m' C ∧ ∀ r, r < 7 → m' 58 r = m 58 r)
def zRes (c : Nat → Nat → Option Nat) (n t a sx : Nat) (m : ax_M) (C : Nat) (m' : ax_M) : Prop := (∀ d, d ≠ 55 → d ≠ 57 → d ≠ 58 → m' d = m d) ∧ (∀ r, r < 7 - n → m' 57 r = m 57 r) ∧ zUp m m' C (1000 * a - sx + zfv c (zrw n) t) (fun r => if r < 7 - n then m 57 r else zeo (zcf c (zrw n) t r))
def zSp (c : Nat → Nat → Option Nat) (n : Nat) (rc : Int32 → Int32 → Int32 → Int32 → ax_M → ax_M) : Prop := ∀ t a sx m C, t < 128 → a + n ≤ 7 → sx ≤ 6 * a → zC56 m c → zCur m C → zRes c n t a sx m C (rc (nI (7 - n)) (nI t) (nI a) (nI sx) m)
theorem z_tb {t q : Nat} (hq : q < 31) (ht : t < 2 ^ 31) : (nI t >>> (nI q &&& (31 : Int32)) &&& 1 = 0) ↔ t.testBit q = false := by
  rw [z_shr (by omega) ht, z_lit 1, z_and, Nat.testBit_eq_decide_div_mod_eq]
  rw [show t / 2 ^ q &&& 1 = t / 2 ^ q % 2 from Nat.and_one_is_mod _]
  show nI _ = nI 0 ↔ _
  rw [z_neq (by omega) (by omega)]
  simp only [decide_eq_false_iff_not]
  omega
theorem z_tor {t q : Nat} (hq : q < 31) : nI t ||| (1 : Int32) <<< (nI q &&& (31 : Int32)) = nI (t ||| 2 ^ q) := by
  have h2 : (2 : Nat) ^ q < 2 ^ 32 := Nat.pow_lt_pow_right (by decide) (by omega)
  rw [z_lit 1, z_shl (by omega) (by rw [Nat.one_mul]; exact h2), z_or, Nat.one_mul]
theorem z_t7 {t q : Nat} (ht : t < 128) (hq : q < 7) : t ||| 2 ^ q < 128 := Nat.or_lt_two_pow (n := 7) ht (Nat.pow_lt_pow_right (by decide) hq)
theorem zCur.same {m m' : ax_M} {C : Nat} (h : zCur m C) (e : m' 55 = m 55) : zCur m' C := by
  unfold zCur; rw [e]; exact h
theorem zC56.same {m m' : ax_M} {c : Nat → Nat → Option Nat} (h : zC56 m c) (e : m' 56 = m 56) : zC56 m' c := by
  unfold zC56; rw [e]; exact h
theorem zeo_neg {v : Option Nat} (h : ∀ x, v = some x → x ≤ 6) : (zeo v < 0) ↔ v = none := by
  cases v with
  | none => exact ⟨fun _ => rfl, fun _ => by decide⟩
  | some x =>
    have := h x rfl
    exact ⟨fun w => absurd w (nI_pos (by omega)), fun w => by cases w⟩
section ZR
variable {c : Nat → Nat → Option Nat}
theorem z2_cmp {m : ax_M} {a sx C : Nat} (ha : a ≤ 7) (hs : sx ≤ 6 * a) (hC : zCur m C) : (∀ d, d ≠ 55 → d ≠ 58 → F2_compare (nI a) (nI sx) m d = m d) ∧ zUp m (F2_compare (nI a) (nI sx) m) C (1000 * a - sx) (m 57) := by
  have hnew : zCur (F7_copyRow 57 7 58 7 (ax_up (ax_up m 55 3 (nI a)) 55 4 (nI sx))) (1000 * a - sx + 1) := by
    refine Or.inr ⟨1000 * a - sx, rfl, by omega, ?_, ?_⟩
    · rw [z_cpy rfl, if_neg (by omega), z_up, if_neg (by omega), z_up, if_pos ⟨rfl, rfl⟩]
      congr 1; omega
    · rw [z_cpy rfl, if_neg (by omega), z_up, if_pos ⟨rfl, rfl⟩]
      congr 1; omega
  have hfr : ∀ d, d ≠ 55 → d ≠ 58 → F7_copyRow 57 7 58 7 (ax_up (ax_up m 55 3 (nI a)) 55 4 (nI sx)) d = m d := fun d h1 h2 => by
    funext j
    rw [z_cpy rfl, if_neg (by omega), z_up, if_neg (by omega), z_up, if_neg (by omega)]
  have h58 : ∀ r, r < 7 → F7_copyRow 57 7 58 7 (ax_up (ax_up m 55 3 (nI a)) 55 4 (nI sx)) 58 r = m 57 r := fun r hr => by
    rw [z_cpy rfl, if_pos ⟨rfl, hr⟩, z_up, if_neg (by omega), z_up, if_neg (by omega)]
  unfold F2_compare
  rcases id hC with ⟨h0, h1, h2⟩ | ⟨X, h0, hX, h1, h2⟩
  · have c1 : ¬ nI a < (-1 : Int32) := by
      rw [z_lt, z_nti (by omega)]; rw [show (-1 : Int32).toInt = -1 from rfl]; omega
    have c2 : ¬ nI a = (-1 : Int32) := by
      rw [z_eq, z_nti (by omega)]; rw [show (-1 : Int32).toInt = -1 from rfl]; omega
    rw [h1, if_neg c1, if_neg c2]
    exact ⟨hfr, Or.inl ⟨by omega, hnew, h58⟩⟩
  · have c1 : (nI a < nI ((X + 999) / 1000)) ↔ a < (X + 999) / 1000 := z_nlt (by omega) (by omega)
    have c2 : (nI a = nI ((X + 999) / 1000)) ↔ a = (X + 999) / 1000 := z_neq (by omega) (by omega)
    have c3 : (nI sx < nI (1000 * ((X + 999) / 1000) - X)) ↔ sx < 1000 * ((X + 999) / 1000) - X := z_nlt (by omega) (by omega)
    rw [h1, h2]
    simp only [c1, c2, c3]
    by_cases e1 : a < (X + 999) / 1000
    · rw [if_pos e1]
      exact ⟨fun _ _ _ => rfl, Or.inr ⟨by omega, hC, fun _ _ => rfl⟩⟩
    · rw [if_neg e1]
      by_cases e2 : a = (X + 999) / 1000
      · rw [if_pos e2]
        by_cases e3 : sx < 1000 * ((X + 999) / 1000) - X
        · rw [if_pos e3]
          exact ⟨hfr, Or.inl ⟨by omega, hnew, h58⟩⟩
        · rw [if_neg e3]
          exact ⟨fun _ _ _ => rfl, Or.inr ⟨by omega, hC, fun _ _ => rfl⟩⟩
      · rw [if_neg e2]
        exact ⟨hfr, Or.inl ⟨by omega, hnew, h58⟩⟩
/-- where the loop of one row stands, before its fellow q -/
def zLp (c : Nat → Nat → Option Nat) (n t a sx : Nat) (m0 : ax_M) (C0 q : Nat) (m : ax_M) : Prop := (∀ d, d ≠ 55 → d ≠ 57 → d ≠ 58 → m d = m0 d) ∧ (∀ r, r < 6 - n → m 57 r = m0 57 r) ∧ (zam (zav c (zfv c (zrw n)) (6 - n) t) q = none → zCur m C0 ∧ ∀ r, r < 7 → m 58 r = m0 58 r) ∧ (∀ x, zam (zav c (zfv c (zrw n)) (6 - n) t) q = some x → zUp m0 m C0 (1000 * a - sx + x.1) (fun r => if r < 6 - n then m0 57 r else if r = 6 - n then nI x.2 else zeo (zcf c (zrw n) (t ||| 2 ^ x.2) r)))
theorem zLp.cur {n t a sx C0 q : Nat} {m0 m : ax_M} (h : zLp c n t a sx m0 C0 q m) : ∃ C, zCur m C := by
  obtain ⟨_, _, h3, h4⟩ := h
  cases e : zam (zav c (zfv c (zrw n)) (6 - n) t) q with
  | none => exact ⟨_, (h3 e).1⟩
  | some x => rcases h4 x e with ⟨_, a, _⟩ | ⟨_, a, _⟩ <;> exact ⟨_, a⟩
theorem z2_lp {n t a sx C0 : Nat} {m0 : ax_M} {rc : Int32 → Int32 → Int32 → Int32 → ax_M → ax_M} (hc6 : ∀ p q x, c p q = some x → x ≤ 6) (hn : n ≤ 6) (ht : t < 128) (ha : a + n ≤ 6) (hsx : sx ≤ 6 * a) (h56 : zC56 m0 c) (hrc : zSp c n rc) : ∀ k q m, q ≤ 7 → 7 - q < k → zLp c n t a sx m0 C0 q m → zLp c n t a sx m0 C0 7 (F2_chl rc (nI (6 - n)) (nI t) (nI a) (nI sx) k (nI q) m) := by
  intro k
  induction k with
  | zero => intro q m _ h; omega
  | succ k ih =>
    intro q m hq hk hL
    unfold F2_chl
    by_cases e : q = 7
    · subst e
      rw [if_pos (show (7 : Int32) ≤ nI 7 by decide)]; exact hL
    · have hlt : ¬ (7 : Int32) ≤ nI q := z_lef (a := 7) (by omega) (by omega)
      rw [if_neg hlt, z_lit 1, nI_add]
      apply ih (q + 1) _ (by omega) (by omega)
      have h56m : zC56 m c := h56.same (hL.1 56 (by omega) (by omega) (by omega))
      have eix : nI (6 - n) * 7 + nI q = nI ((6 - n) * 7 + q) := by rw [z_lit 7, pk_mul, nI_add]
      rw [eix, z_at (by omega) (by omega), h56m (6 - n) q (by omega) (by omega), ← z_lit 1]
      have hfq : zav c (zfv c (zrw n)) (6 - n) t q = if t.testBit q = true then none else (c (6 - n) q).map (fun x => 1000 - x + zfv c (zrw n) (t ||| 2 ^ q)) := rfl
      have skip : zav c (zfv c (zrw n)) (6 - n) t q = none → zLp c n t a sx m0 C0 (q + 1) m := fun hf => by
        have e2 : zam (zav c (zfv c (zrw n)) (6 - n) t) (q + 1) = zam (zav c (zfv c (zrw n)) (6 - n) t) q := by
          conv => lhs; unfold zam
          rw [hf]
          cases zam (zav c (zfv c (zrw n)) (6 - n) t) q <;> rfl
        unfold zLp; rw [e2]; exact hL
      by_cases e1 : c (6 - n) q = none
      · rw [if_pos ((zeo_neg (hc6 _ _)).mpr e1)]
        apply skip
        rw [hfq, e1]; split <;> rfl
      · rw [if_neg (fun w => e1 ((zeo_neg (hc6 _ _)).mp w))]
        have ctb := z_tb (t := t) (q := q) (by omega) (by omega)
        by_cases e2 : t.testBit q = true
        · rw [if_neg (fun w => by rw [ctb.mp w] at e2; cases e2)]
          apply skip
          rw [hfq, if_pos e2]
        · rw [if_pos (ctb.mpr (by cases w : t.testBit q with | false => rfl | true => exact absurd w e2))]
          cases e3 : c (6 - n) q with
          | none => exact absurd e3 e1
          | some x =>
            have hx6 := hc6 _ _ _ e3
            have hf : zav c (zfv c (zrw n)) (6 - n) t q = some (1000 - x + zfv c (zrw n) (t ||| 2 ^ q)) := by
              rw [hfq, if_neg e2, e3]; rfl
            rw [show zeo (some x) = nI x from rfl, z_tor (by omega), nI_add, z_lit 1, nI_add, nI_add, show 6 - n + 1 = 7 - n by omega, z_put (by omega) (by omega)]
            obtain ⟨C, hC⟩ := hL.cur
            have hC1 : zCur (ax_up m 57 (6 - n) (nI q)) C := hC.same (z_upr (by omega))
            obtain ⟨r1, r2, r3⟩ := hrc (t ||| 2 ^ q) (a + 1) (sx + x) (ax_up m 57 (6 - n) (nI q)) C (z_t7 ht (by omega)) (by omega) (by omega) (h56m.same (z_upr (by omega))) hC1
            obtain ⟨l1, l2, l3, l4⟩ := hL
            rw [show 1000 * (a + 1) - (sx + x) + zfv c (zrw n) (t ||| 2 ^ q) = 1000 * a - sx + (1000 - x + zfv c (zrw n) (t ||| 2 ^ q)) by omega] at r3
            have g57 : ∀ r, r < 6 - n → ax_up m 57 (6 - n) (nI q) 57 r = m0 57 r := fun r hr => by
              rw [z_up, if_neg (by omega), l2 r hr]
            have gf : ∀ r, r < 7 → (if r < 7 - n then ax_up m 57 (6 - n) (nI q) 57 r else zeo (zcf c (zrw n) (t ||| 2 ^ q) r)) = (if r < 6 - n then m0 57 r else if r = 6 - n then nI q else zeo (zcf c (zrw n) (t ||| 2 ^ q) r)) := fun r hr => by
              by_cases w1 : r < 6 - n
              · rw [if_pos (by omega), if_pos w1, g57 r w1]
              · rw [if_neg w1]
                by_cases w2 : r = 6 - n
                · rw [if_pos (by omega), if_pos w2, z_up, if_pos ⟨rfl, w2⟩]
                · rw [if_neg (by omega), if_neg w2]
            have g58 : ∀ r, ax_up m 57 (6 - n) (nI q) 58 r = m 58 r := fun r => by rw [z_upr (by omega)]
            generalize hw : 1000 - x + zfv c (zrw n) (t ||| 2 ^ q) = w at *
            have hz : zam (zav c (zfv c (zrw n)) (6 - n) t) (q + 1) = match zam (zav c (zfv c (zrw n)) (6 - n) t) q with
              | none => some (w, q)
              | some x => if x.1 < w then some (w, q) else some x := by
              conv => lhs; unfold zam
              rw [hf]
              cases zam (zav c (zfv c (zrw n)) (6 - n) t) q <;> rfl
            refine ⟨fun d h1 h2 h3 => by rw [r1 d h1 h2 h3, z_upr h2, l1 d h1 h2 h3], fun r hr => by rw [r2 r (by omega), g57 r hr], fun h => ?_, fun y hy => ?_⟩
            · rw [hz] at h
              cases e4 : zam (zav c (zfv c (zrw n)) (6 - n) t) q with
              | none => rw [e4] at h; cases h
              | some z => rw [e4] at h; dsimp only at h; split at h <;> cases h
            · rw [hz] at hy
              have fin : ∀ C1, C1 = C → C1 < 1000 * a - sx + w + 1 → zUp m0 (rc (nI (7 - n)) (nI (t ||| 2 ^ q)) (nI (a + 1)) (nI (sx + x)) (ax_up m 57 (6 - n) (nI q))) C0 (1000 * a - sx + w) (fun r => if r < 6 - n then m0 57 r else if r = 6 - n then nI q else zeo (zcf c (zrw n) (t ||| 2 ^ q) r)) → True := fun _ _ _ _ => trivial
              cases e4 : zam (zav c (zfv c (zrw n)) (6 - n) t) q with
              | none =>
                rw [e4] at hy
                dsimp only at hy
                injection hy with hy
                subst hy
                obtain ⟨k1, k2⟩ := l3 e4
                have hCC : C = C0 ∨ True := Or.inr trivial
                obtain ⟨r1', r2', r3'⟩ := hrc (t ||| 2 ^ q) (a + 1) (sx + x) (ax_up m 57 (6 - n) (nI q)) C0 (z_t7 ht (by omega)) (by omega) (by omega) (h56m.same (z_upr (by omega))) (k1.same (z_upr (by omega)))
                rw [show 1000 * (a + 1) - (sx + x) + zfv c (zrw n) (t ||| 2 ^ q) = 1000 * a - sx + w by omega] at r3'
                rcases r3' with ⟨b1, b2, b3⟩ | ⟨b1, b2, b3⟩
                · exact Or.inl ⟨b1, b2, fun r hr => by rw [b3 r hr]; exact gf r hr⟩
                · exact Or.inr ⟨b1, b2, fun r hr => by rw [b3 r hr, g58, k2 r hr]⟩
              | some z =>
                rw [e4] at hy
                dsimp only at hy
                rcases l4 z e4 with ⟨k0, k1, k2⟩ | ⟨k0, k1, k2⟩
                · obtain ⟨r1', r2', r3'⟩ := hrc (t ||| 2 ^ q) (a + 1) (sx + x) (ax_up m 57 (6 - n) (nI q)) _ (z_t7 ht (by omega)) (by omega) (by omega) (h56m.same (z_upr (by omega))) (k1.same (z_upr (by omega)))
                  rw [show 1000 * (a + 1) - (sx + x) + zfv c (zrw n) (t ||| 2 ^ q) = 1000 * a - sx + w by omega] at r3'
                  by_cases e5 : z.1 < w
                  · rw [if_pos e5] at hy
                    injection hy with hy
                    subst hy
                    rcases r3' with ⟨b1, b2, b3⟩ | ⟨b1, b2, b3⟩
                    · exact Or.inl ⟨by dsimp only; omega, b2, fun r hr => by rw [b3 r hr]; exact gf r hr⟩
                    · omega
                  · rw [if_neg e5] at hy
                    injection hy with hy
                    subst hy
                    rcases r3' with ⟨b1, b2, b3⟩ | ⟨b1, b2, b3⟩
                    · omega
                    · exact Or.inl ⟨k0, b2, fun r hr => by rw [b3 r hr, g58, k2 r hr]⟩
                · obtain ⟨r1', r2', r3'⟩ := hrc (t ||| 2 ^ q) (a + 1) (sx + x) (ax_up m 57 (6 - n) (nI q)) _ (z_t7 ht (by omega)) (by omega) (by omega) (h56m.same (z_upr (by omega))) (k1.same (z_upr (by omega)))
                  rw [show 1000 * (a + 1) - (sx + x) + zfv c (zrw n) (t ||| 2 ^ q) = 1000 * a - sx + w by omega] at r3'
                  by_cases e5 : z.1 < w
                  · rw [if_pos e5] at hy
                    injection hy with hy
                    subst hy
                    rcases r3' with ⟨b1, b2, b3⟩ | ⟨b1, b2, b3⟩
                    · exact Or.inl ⟨b1, b2, fun r hr => by rw [b3 r hr]; exact gf r hr⟩
                    · exact Or.inr ⟨b1, b2, fun r hr => by rw [b3 r hr, g58, k2 r hr]⟩
                  · rw [if_neg e5] at hy
                    injection hy with hy
                    subst hy
                    rcases r3' with ⟨b1, b2, b3⟩ | ⟨b1, b2, b3⟩
                    · omega
                    · exact Or.inr ⟨k0, b2, fun r hr => by rw [b3 r hr, g58, k2 r hr]⟩
theorem z2_ch (hc6 : ∀ p q x, c p q = some x → x ≤ 6) : ∀ n, n ≤ 7 → zSp c n (F2_ch (n + 1)) := by
  intro n
  induction n with
  | zero =>
    intro _ t a sx m C ht ha hsx h56 hC
    unfold F2_ch
    rw [if_neg (show ¬ nI (7 - 0) < 7 by decide)]
    obtain ⟨c1, c2⟩ := z2_cmp (m := m) (by omega) hsx hC
    refine ⟨fun d h1 _ h3 => c1 d h1 h3, fun r _ => by rw [c1 57 (by omega) (by omega)], ?_⟩
    rw [show zfv c (zrw 0) t = 0 from rfl, Nat.add_zero]
    rcases c2 with ⟨b1, b2, b3⟩ | ⟨b1, b2, b3⟩
    · exact Or.inl ⟨b1, b2, fun r hr => (b3 r hr).trans (if_pos (by omega)).symm⟩
    · exact Or.inr ⟨b1, b2, b3⟩
  | succ n ih =>
    intro hn t a sx m C ht ha hsx h56 hC
    have hrc := ih (by omega)
    unfold F2_ch
    rw [show 7 - (n + 1) = 6 - n by omega, if_pos (show nI (6 - n) < 7 from (z_nlt (b := 7) (by omega) (by omega)).mpr (by omega))]
    have hL0 : zLp c n t a sx m C 0 m := ⟨fun _ _ _ _ => rfl, fun _ _ => rfl, fun _ => ⟨hC, fun _ _ => rfl⟩, fun x hx => by cases hx⟩
    have hL := z2_lp hc6 (by omega) ht (by omega) hsx h56 hrc 8 0 m (by omega) (by omega) hL0
    rw [show nI 0 = (0 : Int32) from rfl] at hL
    generalize F2_chl (F2_ch (n + 1)) (nI (6 - n)) (nI t) (nI a) (nI sx) 8 0 m = m1 at *
    obtain ⟨C1, hC1⟩ := hL.cur
    obtain ⟨l1, l2, l3, l4⟩ := hL
    have h561 : zC56 m1 c := h56.same (l1 56 (by omega) (by omega) (by omega))
    rw [z_put (by omega) (by omega), show nI (6 - n) + 1 = nI (7 - n) by rw [nI_1]; congr 1; omega]
    have main : ∀ C2, zCur m1 C2 → zRes c n t a sx (ax_up m1 57 (6 - n) (-1)) C2 (F2_ch (n + 1) (nI (7 - n)) (nI t) (nI a) (nI sx) (ax_up m1 57 (6 - n) (-1))) := fun C2 h2 => hrc t a sx (ax_up m1 57 (6 - n) (-1)) C2 ht (by omega) hsx (h561.same (z_upr (by omega))) (h2.same (z_upr (by omega)))
    generalize F2_ch (n + 1) (nI (7 - n)) (nI t) (nI a) (nI sx) (ax_up m1 57 (6 - n) (-1)) = m2 at *
    have g57 : ∀ r, r < 6 - n → ax_up m1 57 (6 - n) (-1) 57 r = m 57 r := fun r hr => by
      rw [z_up, if_neg (by omega), l2 r hr]
    have g58 : ∀ r, ax_up m1 57 (6 - n) (-1) 58 r = m1 58 r := fun r => by rw [z_upr (by omega)]
    have gf : ∀ r, r < 7 → (if r < 7 - n then ax_up m1 57 (6 - n) (-1) 57 r else zeo (zcf c (zrw n) t r)) = (if r < 6 - n then m 57 r else zeo (if r = 6 - n then none else zcf c (zrw n) t r)) := fun r hr => by
      by_cases w1 : r < 6 - n
      · rw [if_pos (by omega), if_pos w1, g57 r w1]
      · rw [if_neg w1]
        by_cases w2 : r = 6 - n
        · rw [if_pos (by omega), if_pos w2, z_up, if_pos ⟨rfl, w2⟩]; rfl
        · rw [if_neg (by omega), if_neg w2]
    obtain ⟨r1, r2, _⟩ := main C1 hC1
    refine ⟨fun d h1 h2 h3 => by rw [r1 d h1 h2 h3, z_upr h2, l1 d h1 h2 h3], fun r hr => by rw [r2 r (by omega), g57 r (by omega)], ?_⟩
    rw [show 7 - (n + 1) = 6 - n by omega]
    have ev : zfv c (zrw (n + 1)) t = match zam (zav c (zfv c (zrw n)) (6 - n) t) 7 with
      | none => zfv c (zrw n) t
      | some x => if zfv c (zrw n) t ≤ x.1 then x.1 else zfv c (zrw n) t := rfl
    have ef : ∀ r, zcf c (zrw (n + 1)) t r = match zam (zav c (zfv c (zrw n)) (6 - n) t) 7 with
      | none => if r = 6 - n then none else zcf c (zrw n) t r
      | some x => if zfv c (zrw n) t ≤ x.1 then (if r = 6 - n then some x.2 else zcf c (zrw n) (t ||| 2 ^ x.2) r) else (if r = 6 - n then none else zcf c (zrw n) t r) := fun r => rfl
    cases e4 : zam (zav c (zfv c (zrw n)) (6 - n) t) 7 with
    | none =>
      rw [e4] at ev
      simp only [e4] at ef
      obtain ⟨k1, k2⟩ := l3 e4
      obtain ⟨_, _, r3⟩ := main C k1
      dsimp only at ev
      rw [ev]
      rcases r3 with ⟨b1, b2, b3⟩ | ⟨b1, b2, b3⟩
      · exact Or.inl ⟨b1, b2, fun r hr => (b3 r hr).trans ((gf r hr).trans (by dsimp only; rw [ef r]))⟩
      · exact Or.inr ⟨b1, b2, fun r hr => by rw [b3 r hr, g58, k2 r hr]⟩
    | some z =>
      rw [e4] at ev
      simp only [e4] at ef
      dsimp only at ev
      by_cases e5 : zfv c (zrw n) t ≤ z.1
      · rw [if_pos e5] at ev
        simp only [if_pos e5] at ef
        rw [ev]
        rcases l4 z e4 with ⟨k0, k1, k2⟩ | ⟨k0, k1, k2⟩
        · obtain ⟨_, _, r3⟩ := main _ k1
          rcases r3 with ⟨b1, b2, b3⟩ | ⟨b1, b2, b3⟩
          · omega
          · refine Or.inl ⟨k0, b2, fun r hr => ?_⟩
            rw [b3 r hr, g58, k2 r hr]
            dsimp only
            rw [ef r]
            by_cases w1 : r < 6 - n
            · rw [if_pos w1, if_pos w1]
            · rw [if_neg w1, if_neg w1]
              by_cases w2 : r = 6 - n
              · rw [if_pos w2, if_pos w2]; rfl
              · rw [if_neg w2, if_neg w2]
        · obtain ⟨_, _, r3⟩ := main _ k1
          rcases r3 with ⟨b1, b2, b3⟩ | ⟨b1, b2, b3⟩
          · omega
          · exact Or.inr ⟨k0, b2, fun r hr => by rw [b3 r hr, g58, k2 r hr]⟩
      · rw [if_neg e5] at ev
        simp only [if_neg e5] at ef
        rw [ev]
        rcases l4 z e4 with ⟨k0, k1, k2⟩ | ⟨k0, k1, k2⟩
        · obtain ⟨_, _, r3⟩ := main _ k1
          rcases r3 with ⟨b1, b2, b3⟩ | ⟨b1, b2, b3⟩
          · exact Or.inl ⟨by omega, b2, fun r hr => (b3 r hr).trans ((gf r hr).trans (by dsimp only; rw [ef r]))⟩
          · omega
        · obtain ⟨_, _, r3⟩ := main _ k1
          rcases r3 with ⟨b1, b2, b3⟩ | ⟨b1, b2, b3⟩
          · exact Or.inl ⟨b1, b2, fun r hr => (b3 r hr).trans ((gf r hr).trans (by dsimp only; rw [ef r]))⟩
          · exact Or.inr ⟨b1, b2, fun r hr => by rw [b3 r hr, g58, k2 r hr]⟩
/-- what the class's search leaves -/
theorem z2_solve {m : ax_M} (hc6 : ∀ p q x, c p q = some x → x ≤ 6) (h56 : zC56 m c) : D2_solve m ∧ (∀ d, d ≠ 55 → d ≠ 57 → d ≠ 58 → F2_solve m d = m d) ∧ F2_solve m 55 3 = nI ((zfv c (zrw 7) 0 + 999) / 1000) ∧ F2_solve m 55 4 = nI (1000 * ((zfv c (zrw 7) 0 + 999) / 1000) - zfv c (zrw 7) 0) ∧ ∀ r, r < 7 → F2_solve m 58 r = zeo (zcf c (zrw 7) 0 r) := by
  have e55 : ∀ d, d ≠ 55 → ax_up (ax_up m 55 3 (-1)) 55 4 0 d = m d := fun d hd => by rw [z_upr hd, z_upr hd]
  obtain ⟨r1, r2, r3⟩ := z2_ch hc6 7 (Nat.le_refl _) 0 0 0 (ax_up (ax_up m 55 3 (-1)) 55 4 0) 0 (by omega) (by omega) (by omega) (h56.same (e55 56 (by omega))) (Or.inl ⟨rfl, by rw [z_up, if_neg (by omega), z_up, if_pos ⟨rfl, rfl⟩], by rw [z_up, if_pos ⟨rfl, rfl⟩]⟩)
  refine ⟨rfl, fun d h1 h2 h3 => ?_, ?_⟩
  · exact (r1 d h1 h2 h3).trans (e55 d h1)
  · rcases r3 with ⟨b1, b2, b3⟩ | ⟨b1, b2, b3⟩
    · rcases b2 with ⟨b4, _⟩ | ⟨X, b4, _, b5, b6⟩
      · omega
      · have : X = zfv c (zrw 7) 0 := by omega
        subst this
        exact ⟨b5, b6, fun r hr => (b3 r hr).trans (if_neg (by omega))⟩
    · omega
end ZR
