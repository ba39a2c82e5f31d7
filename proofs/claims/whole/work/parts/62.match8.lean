/-! PURE: the best pairs, by the reference -/
theorem zdrop : ∀ (l : List Nat) (k : Nat), k < l.length → l.drop k = l.getD k 0 :: l.drop (k + 1)
  | [], _, h => absurd h (Nat.not_lt_zero _)
  | _ :: _, 0, _ => rfl
  | _ :: l, k + 1, h => zdrop l k (Nat.lt_of_succ_lt_succ h)
theorem zgetm : ∀ (l : List Nat) (k : Nat), k < l.length → l.getD k 0 ∈ l
  | [], _, h => absurd h (Nat.not_lt_zero _)
  | _ :: _, 0, _ => List.mem_cons_self
  | _ :: l, k + 1, h => List.mem_cons_of_mem _ (zgetm l k (Nat.lt_of_succ_lt_succ h))
theorem zgete : ∀ (l : List Nat) (r : Nat), r ∈ l → ∃ k, k < l.length ∧ l.getD k 0 = r
  | [], _, h => by cases h
  | a :: l, r, h => by
    rcases List.mem_cons.mp h with e | e
    · exact ⟨0, Nat.zero_lt_succ _, e.symm⟩
    · obtain ⟨k, h1, h2⟩ := zgete l r e
      exact ⟨k + 1, Nat.succ_lt_succ h1, h2⟩
theorem zgeti : ∀ (l : List Nat) (j k : Nat), l.Nodup → j < k → k < l.length → l.getD j 0 ≠ l.getD k 0
  | [], _, _, _, _, h => absurd h (Nat.not_lt_zero _)
  | a :: l, 0, k + 1, hn, _, h => fun e => by
    have h1 := List.nodup_cons.mp hn
    have h2 := zgetm l k (Nat.lt_of_succ_lt_succ h)
    have e' : a = l.getD k 0 := e
    rw [← e'] at h2
    exact h1.1 h2
  | a :: l, j + 1, k + 1, hn, h1, h => zgeti l j k (List.nodup_cons.mp hn).2 (Nat.lt_of_succ_lt_succ h1) (Nat.lt_of_succ_lt_succ h)
def zK (m0 m : ax_M) : Prop := m 75 = m0 75 ∧ m 76 = m0 76 ∧ ∀ j, j ≠ 35 → j ≠ 36 → m 74 j = m0 74 j
theorem zK.up {m0 m m' : ax_M} (h : zK m0 m) (e1 : m' 74 = m 74) (e2 : m' 75 = m 75) (e3 : m' 76 = m 76) : zK m0 m' := by
  unfold zK; rw [e1, e2, e3]; exact h
def zew (v : Option Nat) : Int32 := match v with
  | none => -4
  | some x => nI (1000 - x)
def zen (v : Option Nat) : Int32 := match v with
  | none => -4
  | some x => nI x
def zHw (m0 : ax_M) (c : Nat → Nat → Option Nat) (fl : List Nat) (S : Nat) (b hv : Int32) : Prop := ∀ m, zK m0 m → ∀ p q, p ∈ fl → q < 7 → S.testBit q = true → D8_worthOf b (nI p) (nI q) hv m ∧ F8_worthOf b (nI p) (nI q) hv m = zew (c p q)
def zLay (m0 m : ax_M) (fl : List Nat) (S : Nat) : Prop := zK m0 m ∧ m 74 35 = nI fl.length ∧ m 74 36 = nI S ∧ ∀ k, k < fl.length → m 84 k = nI (fl.getD k 0)
theorem zLay.up {m0 m m' : ax_M} {fl : List Nat} {S : Nat} (h : zLay m0 m fl S) (e : ∀ d, d ≠ 85 → d ≠ 86 → m' d = m d) : zLay m0 m' fl S := by
  obtain ⟨h1, h2, h3, h4⟩ := h
  have e74 := e 74 (by omega) (by omega)
  refine ⟨h1.up e74 (e 75 (by omega) (by omega)) (e 76 (by omega) (by omega)), by rw [e74]; exact h2, by rw [e74]; exact h3, by rw [e 84 (by omega) (by omega)]; exact h4⟩
theorem z_m1 : (-1 : Int32) = nI 4294967295 := by decide
theorem z_sb {S u q : Nat} (hS : S < 128) (hq : q < 7) : (((nI S &&& (nI u ^^^ (-1))) >>> (nI q &&& (31 : Int32))) &&& 1 = 0) ↔ ¬ (S.testBit q = true ∧ u.testBit q = false) := by
  have hb : S &&& (u ^^^ 4294967295) < 2 ^ 31 := Nat.lt_of_le_of_lt Nat.and_le_left (by omega)
  rw [z_m1, z_xor, z_and, z_tb (by omega) hb, Nat.testBit_and, Nat.testBit_xor, show (4294967295 : Nat) = 2 ^ 32 - 1 from rfl, Nat.testBit_two_pow_sub_one, decide_eq_true (show q < 32 by omega)]
  cases S.testBit q <;> cases u.testBit q <;> simp
theorem zen_n4 {v : Option Nat} (h : ∀ x, v = some x → x ≤ 100000) : zen v = -4 ↔ v = none := by
  cases v with
  | none => exact ⟨fun _ => rfl, fun _ => rfl⟩
  | some x =>
    have := h x rfl
    refine ⟨fun w => ?_, fun w => by cases w⟩
    have w' : nI x = -4 := w
    rw [z_eq, z_nti (by omega), show (-4 : Int32).toInt = -4 from rfl] at w'
    omega
theorem zew_n4 {v : Option Nat} : zew v = -4 ↔ v = none := by
  cases v with
  | none => exact ⟨fun _ => rfl, fun _ => rfl⟩
  | some x =>
    refine ⟨fun w => ?_, fun w => by cases w⟩
    have w' : nI (1000 - x) = -4 := w
    rw [z_eq, z_nti (by omega), show (-4 : Int32).toInt = -4 from rfl] at w'
    omega
section ZS
variable {c : Nat → Nat → Option Nat} {m0 m : ax_M} {fl : List Nat} {S : Nat} {b hv : Int32}
theorem z8_ap (hx : ∀ p q x, c p q = some x → x ≤ 6) (hS7 : S < 128) (hl : fl.length ≤ 7) (hS : ∀ p q, p ∈ fl → S.testBit q = false → c p q = none) (hw : zHw m0 c fl S b hv) (hL : zLay m0 m fl S) {k u q : Nat} (hk : k < fl.length) (hu : u < 128) (hq : q < 7) (hb : ∀ u, u < 128 → m 85 (128 * (k + 1) + u) = nI (zfv c (fl.drop (k + 1)) u)) : D8_afterPair b (nI k) (nI q) (nI u) hv m ∧ F8_afterPair b (nI k) (nI q) (nI u) hv m = zen (zav c (zfv c (fl.drop (k + 1))) (fl.getD k 0) u q) := by
  have hm := zgetm fl k hk
  unfold D8_afterPair F8_afterPair
  rw [hL.2.2.1]
  have cb := z_sb (S := S) (u := u) (q := q) hS7 hq
  by_cases e : S.testBit q = true ∧ u.testBit q = false
  · have e' := fun w => cb.mp w e
    rw [if_neg e', z_ncl (by omega), hL.2.2.2 k hk]
    obtain ⟨d1, d2⟩ := hw m hL.1 _ q hm hq e.1
    rw [d2]
    have eix : (128 * (nI k + 1)) + (nI u ||| ((1 : Int32) <<< (nI q &&& (31 : Int32)))) = nI (128 * (k + 1) + (u ||| 2 ^ q)) := by
      rw [z_tor (by omega), nI_1, z_lit 128, pk_mul, nI_add]
    have ht := z_t7 hu hq
    rw [eix, z_ncl (by omega), hb _ ht]
    have ez : zav c (zfv c (fl.drop (k + 1))) (fl.getD k 0) u q = (c (fl.getD k 0) q).map (fun x => 1000 - x + zfv c (fl.drop (k + 1)) (u ||| 2 ^ q)) := by
      unfold zav; rw [e.2]; rfl
    rw [ez]
    refine ⟨fun _ => ⟨z_vp (by omega) (by omega), d1, fun _ => z_vp (by omega) (by omega)⟩, ?_⟩
    cases e1 : c (fl.getD k 0) q with
    | none => exact if_pos rfl
    | some x =>
      have := hx _ _ _ e1
      rw [if_neg (fun w => by cases zew_n4.mp w)]
      show nI (1000 - x) + _ = nI _
      rw [nI_add]
  · have e' := cb.mpr e
    rw [if_pos e']
    refine ⟨fun w => absurd e' w, ?_⟩
    unfold zav
    cases e1 : u.testBit q with
    | true => rfl
    | false =>
      cases e2 : S.testBit q with
      | true => exact absurd ⟨e2, e1⟩ e
      | false => rw [hS _ _ hm e2]; rfl
def zmv (V : Nat) (v : Option (Nat × Nat)) : Nat := match v with
  | none => V
  | some x => if V ≤ x.1 then x.1 else V
def zfq (V : Nat) (v : Option (Nat × Nat)) : Nat := match v with
  | none => 7
  | some x => if V ≤ x.1 then x.2 else 7
theorem zfv_c {p : Nat} {l : List Nat} {t : Nat} : zfv c (p :: l) t = zmv (zfv c l t) (zam (zav c (zfv c l) p t) 7) := by
  unfold zmv
  conv => lhs; unfold zfv
  rfl
theorem zfq_le {V : Nat} {f : Nat → Option Nat} : zfq V (zam f 7) ≤ 7 := by
  unfold zfq
  cases e : zam f 7 with
  | none => exact Nat.le_refl _
  | some x => have := (zam_s 7 x.1 x.2 e).1; dsimp only; split <;> omega
theorem zcf_c {p : Nat} {l : List Nat} {t r : Nat} : zcf c (p :: l) t r = if zfq (zfv c l t) (zam (zav c (zfv c l) p t) 7) = 7 then (if r = p then none else zcf c l t r) else (if r = p then some (zfq (zfv c l t) (zam (zav c (zfv c l) p t) 7)) else zcf c l (t ||| 2 ^ zfq (zfv c l t) (zam (zav c (zfv c l) p t) 7)) r) := by
  conv => lhs; unfold zcf
  unfold zfq
  cases e : zam (zav c (zfv c l) p t) 7 with
  | none => dsimp only; rw [if_pos rfl]
  | some x =>
    have := (zam_s 7 x.1 x.2 e).1
    dsimp only
    by_cases e2 : zfv c l t ≤ x.1
    · simp only [if_pos e2, if_neg (show ¬ x.2 = 7 by omega)]
    · simp only [if_neg e2, if_true]
theorem z8_mx {f : Nat → Option Nat} {v2 v3 v5 v6 : Int32} {V : Nat} (hap : ∀ q, q < 7 → D8_afterPair b v5 (nI q) v6 hv m ∧ F8_afterPair b v5 (nI q) v6 hv m = zen (f q)) (hb : ∀ q w, f q = some w → w ≤ 8000) (hV : V ≤ 8000) : ∀ n q, q ≤ 7 → 7 - q < n → E8_layPairs_270 n b v2 v3 hv v5 v6 (nI (zmv V (zam f q))) (nI q) m ∧ (L8_layPairs_270 n b v2 v3 hv v5 v6 (nI (zmv V (zam f q))) (nI q) m).1 = nI (zmv V (zam f 7)) := by
  have hbz : ∀ q, zmv V (zam f q) ≤ 8000 := fun q => by
    unfold zmv
    cases e : zam f q with
    | none => exact hV
    | some x =>
      have := hb _ _ (zam_s q x.1 x.2 e).2.1
      dsimp only; split <;> omega
  intro n
  induction n with
  | zero => intro q _ h; omega
  | succ n ih =>
    intro q hq hn
    unfold E8_layPairs_270 L8_layPairs_270
    by_cases e : q = 7
    · subst e
      rw [if_pos (show (7 : Int32) ≤ nI 7 by decide)]
      exact ⟨fun w => absurd (show (7 : Int32) ≤ nI 7 by decide) w, rfl⟩
    · have hlt : ¬ (7 : Int32) ≤ nI q := z_lef (a := 7) (by omega) (by omega)
      obtain ⟨a1, a2⟩ := hap q (by omega)
      rw [if_neg hlt, a2, nI_1]
      have key : (if zen (f q) ≤ nI (zmv V (zam f q)) then nI (zmv V (zam f q)) else zen (f q)) = nI (zmv V (zam f (q + 1))) := by
        have hz := hbz q
        cases e1 : f q with
        | none =>
          have : zam f (q + 1) = zam f q := by
            conv => lhs; unfold zam
            rw [e1]; cases zam f q <;> rfl
          rw [this, if_pos]
          show (-4 : Int32) ≤ _
          rw [z_le, z_nti (by omega), show (-4 : Int32).toInt = -4 from rfl]; omega
        | some w =>
          have hw := hb _ _ e1
          have e2 : zam f (q + 1) = match zam f q with
            | none => some (w, q)
            | some x => if x.1 < w then some (w, q) else some x := by
            conv => lhs; unfold zam
            rw [e1]; cases zam f q <;> rfl
          rw [e2]
          show (if nI w ≤ _ then _ else nI w) = _
          have hc : ∀ Z, Z ≤ 8000 → ((nI w ≤ nI Z) ↔ w ≤ Z) := fun Z hZ => z_nle (by omega) (by omega)
          simp only [hc _ hz]
          cases e3 : zam f q with
          | none =>
            unfold zmv; dsimp only
            by_cases e4 : w ≤ V
            · rw [if_pos e4]; split
              · have : w = V := by omega
                rw [this]
              · rfl
            · rw [if_neg e4, if_pos (by omega)]
          | some x =>
            unfold zmv; dsimp only
            by_cases e5 : x.1 < w
            · rw [if_pos e5]; dsimp only
              by_cases e6 : V ≤ x.1
              · simp only [if_pos e6]; rw [if_neg (by omega), if_pos (by omega)]
              · simp only [if_neg e6]
                by_cases e7 : w ≤ V
                · rw [if_pos e7]; split
                  · have : w = V := by omega
                    rw [this]
                  · rfl
                · rw [if_neg e7, if_pos (by omega)]
            · rw [if_neg e5]; dsimp only
              rw [if_pos]; split <;> omega
      rw [key]
      obtain ⟨i1, i2⟩ := ih (q + 1) (by omega) (by omega)
      exact ⟨fun _ => ⟨a1, i1⟩, i2⟩
theorem zav_le {l : List Nat} {p t q w : Nat} (h : zav c (zfv c l) p t q = some w) : w ≤ 1000 * (l.length + 1) := by
  unfold zav at h
  split at h
  · cases h
  · cases e : c p q with
    | none => rw [e] at h; cases h
    | some y =>
      rw [e] at h
      have h1 := zfv_le (c := c) l (t ||| 2 ^ q)
      simp only [Option.map_some, Option.some.injEq] at h
      omega
theorem z8_row (hx : ∀ p q x, c p q = some x → x ≤ 6) (hS7 : S < 128) (hl : fl.length ≤ 7) (hS : ∀ p q, p ∈ fl → S.testBit q = false → c p q = none) (hw : zHw m0 c fl S b hv) {v2 v3 : Int32} {k : Nat} (hk : k < fl.length) : ∀ n u m, u ≤ 128 → 128 - u < n → zLay m0 m fl S → (∀ u, u < 128 → m 85 (128 * (k + 1) + u) = nI (zfv c (fl.drop (k + 1)) u)) → (∀ u', u' < u → m 85 (128 * k + u') = nI (zfv c (fl.drop k) u')) → E8_layPairs_241 n b v2 v3 hv (nI k) (nI u) m ∧ (∀ d, d ≠ 85 → (L8_layPairs_241 n b v2 v3 hv (nI k) (nI u) m).2 d = m d) ∧ (∀ i, 128 * (k + 1) ≤ i → (L8_layPairs_241 n b v2 v3 hv (nI k) (nI u) m).2 85 i = m 85 i) ∧ (∀ u', u' < 128 → (L8_layPairs_241 n b v2 v3 hv (nI k) (nI u) m).2 85 (128 * k + u') = nI (zfv c (fl.drop k) u')) := by
  intro n
  induction n with
  | zero => intro u m _ h; omega
  | succ n ih =>
    intro u m hu hn hL hb hd
    unfold E8_layPairs_241 L8_layPairs_241
    by_cases e : u = 128
    · subst e
      rw [if_pos (show (128 : Int32) ≤ nI 128 by decide)]
      exact ⟨fun w => absurd (show (128 : Int32) ≤ nI 128 by decide) w, fun _ _ => rfl, fun _ _ => rfl, hd⟩
    · have hlt : ¬ (128 : Int32) ≤ nI u := z_lef (a := 128) (by omega) (by omega)
      have e1 : (128 * (nI k + 1)) + nI u = nI (128 * (k + 1) + u) := by rw [nI_1, z_lit 128, pk_mul, nI_add]
      have e2 : (128 * nI k) + nI u = nI (128 * k + u) := by rw [z_lit 128, pk_mul, nI_add]
      rw [if_neg hlt, e1, e2, z_ncl (by omega), z_ncl (by omega), hb u (by omega), nI_1]
      have hlen : (fl.drop (k + 1)).length ≤ 6 := by rw [List.length_drop]; omega
      have hV := zfv_le (c := c) (fl.drop (k + 1)) u
      obtain ⟨x1, x2⟩ := z8_mx (v2 := v2) (v3 := v3) (v5 := nI k) (v6 := nI u) (V := zfv c (fl.drop (k + 1)) u) (fun q hq => z8_ap hx hS7 hl hS hw hL hk (by omega) hq hb) (fun q w h => by have := zav_le h; omega) (by omega) 130 0 (by omega) (by omega)
      rw [show zmv (zfv c (fl.drop (k + 1)) u) (zam (zav c (zfv c (fl.drop (k + 1))) (fl.getD k 0) u) 0) = zfv c (fl.drop (k + 1)) u from rfl, show nI 0 = (0 : Int32) from rfl] at x1 x2
      rw [← zfv_c, ← zdrop fl k hk] at x2
      rw [x2]
      have hL' : zLay m0 (ax_up m 85 (128 * k + u) (nI (zfv c (fl.drop k) u))) fl S := hL.up (fun d h1 _ => z_upr h1)
      obtain ⟨i1, i2, i3, i4⟩ := ih (u + 1) (ax_up m 85 (128 * k + u) (nI (zfv c (fl.drop k) u))) (by omega) (by omega) hL' (fun u' hu' => by rw [z_up, if_neg (by omega), hb u' hu']) (fun u' hu' => by
        rw [z_up]
        by_cases w : u' = u
        · rw [if_pos ⟨rfl, by omega⟩, w]
        · rw [if_neg (by omega), hd u' (by omega)])
      exact ⟨fun _ => ⟨z_vp (by omega) (by omega), x1, z_vp (by omega) (by omega), i1⟩, fun d h1 => by rw [i2 d h1, z_upr h1], fun i hi => by rw [i3 i hi, z_up, if_neg (by omega)], i4⟩
/-- the worth of all rows from i on, as the reference lays it -/
def zBs (c : Nat → Nat → Option Nat) (fl : List Nat) (m : ax_M) (i : Nat) : Prop := ∀ j, i ≤ j → j ≤ fl.length → ∀ u, u < 128 → m 85 (128 * j + u) = nI (zfv c (fl.drop j) u)
theorem z8_rows (hx : ∀ p q x, c p q = some x → x ≤ 6) (hS7 : S < 128) (hl : fl.length ≤ 7) (hS : ∀ p q, p ∈ fl → S.testBit q = false → c p q = none) (hw : zHw m0 c fl S b hv) {v2 v3 : Int32} : ∀ n i m, i ≤ fl.length → i < n → zLay m0 m fl S → zBs c fl m i → E8_layPairs_233 n b v2 v3 hv (nI i - 1) m ∧ (∀ d, d ≠ 85 → (L8_layPairs_233 n b v2 v3 hv (nI i - 1) m).2 d = m d) ∧ zBs c fl (L8_layPairs_233 n b v2 v3 hv (nI i - 1) m).2 0 := by
  intro n
  induction n with
  | zero => intro u m _ h; omega
  | succ n ih =>
    intro i m hi hn hL hB
    unfold E8_layPairs_233 L8_layPairs_233
    cases i with
    | zero =>
      rw [if_pos (show nI 0 - 1 < 0 by decide)]
      exact ⟨fun w => absurd (show nI 0 - 1 < 0 by decide) w, fun _ _ => rfl, hB⟩
    | succ k =>
      rw [nI_pred, if_neg (nI_pos (by omega))]
      obtain ⟨r1, r2, r3, r4⟩ := z8_row hx hS7 hl hS hw (v2 := v2) (v3 := v3) (k := k) (by omega) 130 0 m (by omega) (by omega) hL (hB (k + 1) (by omega) hi) (fun u' h => by omega)
      rw [show nI 0 = (0 : Int32) from rfl] at r1 r2 r3 r4
      generalize (L8_layPairs_241 130 b v2 v3 hv (nI k) 0 m).2 = m1 at *
      rw [show nI k + (-1) = nI k - 1 from (Int32.sub_eq_add_neg _ _).symm]
      obtain ⟨i1, i2, i3⟩ := ih k m1 (by omega) (by omega) (hL.up (fun d h1 _ => r2 d h1)) (fun j h1 h2 u hu => by
        by_cases w : j = k
        · rw [w]; exact r4 u hu
        · rw [r3 _ (by omega)]; exact hB j (by omega) h2 u hu)
      exact ⟨fun _ => ⟨r1, i1⟩, fun d h => by rw [i2 d h, r2 d h], i3⟩
theorem z8_zero {v2 v3 : Int32} (hl : fl.length ≤ 7) : ∀ n u m, u ≤ 128 → 128 - u < n → m 74 35 = nI fl.length → (∀ u', u' < u → m 85 (128 * fl.length + u') = 0) → E8_layPairs_194 n b v2 v3 hv (nI u) m ∧ (∀ d, d ≠ 85 → (L8_layPairs_194 n b v2 v3 hv (nI u) m).2 d = m d) ∧ (∀ u', u' < 128 → (L8_layPairs_194 n b v2 v3 hv (nI u) m).2 85 (128 * fl.length + u') = 0) := by
  intro n
  induction n with
  | zero => intro u m _ h; omega
  | succ n ih =>
    intro u m hu hn hL hd
    unfold E8_layPairs_194 L8_layPairs_194
    by_cases e : u = 128
    · subst e
      rw [if_pos (show (128 : Int32) ≤ nI 128 by decide)]
      exact ⟨fun w => absurd (show (128 : Int32) ≤ nI 128 by decide) w, fun _ _ => rfl, hd⟩
    · have hlt : ¬ (128 : Int32) ≤ nI u := z_lef (a := 128) (by omega) (by omega)
      have e2 : (128 * nI fl.length) + nI u = nI (128 * fl.length + u) := by rw [z_lit 128, pk_mul, nI_add]
      rw [if_neg hlt, hL, e2, z_ncl (by omega), nI_1]
      obtain ⟨i1, i2, i3⟩ := ih (u + 1) (ax_up m 85 (128 * fl.length + u) 0) (by omega) (by omega) (by rw [z_up, if_neg (by omega), hL]) (fun u' hu' => by
        rw [z_up]
        by_cases w : u' = u
        · rw [if_pos ⟨rfl, by omega⟩]
        · rw [if_neg (by omega), hd u' (by omega)])
      exact ⟨fun _ => ⟨z_vp (by omega) (by omega), i1⟩, fun d h1 => by rw [i2 d h1, z_upr h1], i3⟩
theorem z8_dp (hx : ∀ p q x, c p q = some x → x ≤ 6) (hS7 : S < 128) (hl : fl.length ≤ 7) (hS : ∀ p q, p ∈ fl → S.testBit q = false → c p q = none) (hw : zHw m0 c fl S b hv) {v2 v3 v5 : Int32} (hL : zLay m0 m fl S) : HK8_layPairs_191 b v2 v3 hv v5 m ∧ (K8_layPairs_191 b v2 v3 hv v5 m).1 = nI (zfv c fl 0) ∧ (∀ d, d ≠ 85 → (K8_layPairs_191 b v2 v3 hv v5 m).2 d = m d) ∧ zBs c fl (K8_layPairs_191 b v2 v3 hv v5 m).2 0 := by
  unfold HK8_layPairs_191 K8_layPairs_191 K8_layPairs_342
  obtain ⟨a1, a2, a3⟩ := z8_zero (b := b) (hv := hv) (v2 := v2) (v3 := v3) hl 130 0 m (by omega) (by omega) hL.2.1 (fun u' h => by omega)
  rw [show nI 0 = (0 : Int32) from rfl] at a1 a2 a3
  generalize (L8_layPairs_194 130 b v2 v3 hv 0 m).2 = m1 at *
  have hL1 : zLay m0 m1 fl S := hL.up (fun d h1 _ => a2 d h1)
  rw [hL1.2.1]
  obtain ⟨b1, b2, b3⟩ := z8_rows hx hS7 hl hS hw (v2 := v2) (v3 := v3) 130 fl.length m1 (Nat.le_refl _) (by omega) hL1 (fun j h1 h2 u hu => by
    have : j = fl.length := by omega
    rw [this, a3 u hu, List.drop_length]; rfl)
  refine ⟨⟨a1, b1⟩, ?_, fun d h => by dsimp only; rw [b2 d h, a2 d h], b3⟩
  dsimp only
  rw [sb_cl0]
  exact b3 0 (by omega) (by omega) 0 (by omega)
end ZS
