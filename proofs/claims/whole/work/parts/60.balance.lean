/-! PURE: the lightest loads -/
def zlo (s : zS) (P : zP) (b p q i j : Nat) : Bool := decide (i ≤ zcar (P.kd p)) && decide (j ≤ zcar (P.kd q)) && zlev s P b p q i j
def zmn (ok : Nat → Nat → Bool) (v : Option (Nat × Nat)) : Prop := (v = none ∧ ∀ i j, ok i j = false) ∨ ∃ i j, v = some (i, j) ∧ ok i j = true ∧ ∀ i' j', ok i' j' = true → i + j < i' + j' ∨ (i + j = i' + j' ∧ i ≤ i')
theorem zmn_u {ok : Nat → Nat → Bool} {v w : Option (Nat × Nat)} (h1 : zmn ok v) (h2 : zmn ok w) : v = w := by
  rcases h1 with ⟨rfl, h1⟩ | ⟨i, j, rfl, h1, h1'⟩ <;> rcases h2 with ⟨rfl, h2⟩ | ⟨i', j', rfl, h2, h2'⟩
  · rfl
  · rw [h1] at h2; cases h2
  · rw [h2] at h1; cases h1
  · have a := h1' i' j' h2
    have b := h2' i j h1
    have : i = i' ∧ j = j' := by omega
    rw [this.1, this.2]
noncomputable def zbal (ok : Nat → Nat → Bool) : Option (Nat × Nat) := Classical.epsilon (zmn ok)
theorem zbal_e {ok : Nat → Nat → Bool} {v : Option (Nat × Nat)} (h : zmn ok v) : v = zbal ok := zmn_u h (Classical.epsilon_spec ⟨v, h⟩)
def zen7 (v : Option (Nat × Nat)) : Int32 := match v with
  | none => -1
  | some (i, j) => nI (10 * i + j)
def zen8 (v : Option (Nat × Nat)) : Int32 := match v with
  | none => -4
  | some (i, j) => nI (10 * i + j)
theorem zlo_le {s : zS} {P : zP} {b p q i j : Nat} (h : zlo s P b p q i j = true) : i ≤ 3 ∧ j ≤ 3 := by
  unfold zlo at h
  simp only [Bool.and_eq_true, decide_eq_true_eq] at h
  have h1 := zcar_le (P.kd p)
  have h2 := zcar_le (P.kd q)
  omega
section ZQ
variable {m : ax_M} {g : Nat} {s : zS} {P : zP} {b p q : Nat}
theorem z7_load_i (hs : zW s) (hP : zV s P) (hG : zG m g s P) (hb : b < s.ng) (hp : p < s.no) (hq : q < s.no) {al : Nat} (ha : al ≤ 6) : ∀ n i, i ≤ al + 1 → al + 1 - i < n → E1_lightestLoad_13 g n (nI b) (nI p) (nI q) (nI al) (nI i) m ∧ (((L1_lightestLoad_13 g n (nI b) (nI p) (nI q) (nI al) (nI i) m).1 = none ∧ ∀ x, i ≤ x → x ≤ al → zlo s P b p q x (al - x) = false) ∨ ∃ x, i ≤ x ∧ x ≤ al ∧ (L1_lightestLoad_13 g n (nI b) (nI p) (nI q) (nI al) (nI i) m).1 = some (nI (10 * x + (al - x))) ∧ zlo s P b p q x (al - x) = true ∧ ∀ y, i ≤ y → y < x → zlo s P b p q y (al - y) = false) := by
  have k1 := zcar_le (P.kd p)
  have k2 := zcar_le (P.kd q)
  intro n
  induction n with
  | zero => intro i _ h; omega
  | succ n ih =>
    intro i hi hn
    unfold L1_lightestLoad_13 E1_lightestLoad_13
    have c1 : (nI al < nI i) ↔ al < i := z_nlt (by omega) (by omega)
    by_cases e : al < i
    · rw [if_pos (c1.mpr e)]
      exact ⟨fun w => absurd (c1.mpr e) w, Or.inl ⟨rfl, fun x h1 h2 => by omega⟩⟩
    · have hc : F1_carries g (nI p) m = nI (zcar (P.kd p)) := z7_carries hs hP hG hp
      have hd : F1_carries g (nI q) m = nI (zcar (P.kd q)) := z7_carries hs hP hG hq
      have hl := z7_level (i := i) (j := al - i) hs hP hG hb hp hq (by omega) (by omega)
      rw [if_neg (fun w => e (c1.mp w)), hc, hd, pk_sub (show i ≤ al by omega), hl, show nI i + 1 = nI (i + 1) by rw [z_lit 1, nI_add], show 10 * nI i + nI (al - i) = nI (10 * i + (al - i)) by rw [z_lit 10, pk_mul, nI_add]]
      have c2 : (nI (zcar (P.kd p)) < nI i) ↔ zcar (P.kd p) < i := z_nlt (by omega) (by omega)
      have c3 : (nI (al - i) ≤ nI (zcar (P.kd q))) ↔ al - i ≤ zcar (P.kd q) := z_nle (by omega) (by omega)
      simp only [c2, c3, zb_0]
      obtain ⟨i1, i2⟩ := ih (i + 1) (by omega) (by omega)
      have key : zlo s P b p q i (al - i) = false → (((L1_lightestLoad_13 g n (nI b) (nI p) (nI q) (nI al) (nI (i + 1)) m).1 = none ∧ ∀ x, i ≤ x → x ≤ al → zlo s P b p q x (al - x) = false) ∨ ∃ x, i ≤ x ∧ x ≤ al ∧ (L1_lightestLoad_13 g n (nI b) (nI p) (nI q) (nI al) (nI (i + 1)) m).1 = some (nI (10 * x + (al - x))) ∧ zlo s P b p q x (al - x) = true ∧ ∀ y, i ≤ y → y < x → zlo s P b p q y (al - y) = false) := fun h0 => by
        rcases i2 with ⟨a1, a2⟩ | ⟨x, a1, a2, a3, a4, a5⟩
        · refine Or.inl ⟨a1, fun x h1 h2 => ?_⟩
          by_cases w : x = i
          · rw [w]; exact h0
          · exact a2 x (by omega) h2
        · refine Or.inr ⟨x, by omega, a2, a3, a4, fun y h1 h2 => ?_⟩
          by_cases w : y = i
          · rw [w]; exact h0
          · exact a5 y (by omega) h2
      by_cases q1 : zcar (P.kd p) < i
      · rw [if_pos q1]
        refine ⟨fun _ => ⟨fun _ => i1, fun w => absurd q1 w⟩, key ?_⟩
        unfold zlo; rw [decide_eq_false (by omega)]; rfl
      · rw [if_neg q1]
        by_cases q2 : al - i ≤ zcar (P.kd q)
        · rw [if_pos q2]
          cases q3 : zlev s P b p q i (al - i) with
          | false =>
            rw [if_pos rfl]
            refine ⟨fun _ => ⟨fun w => absurd w q1, fun _ => ⟨fun _ _ => i1, fun w => absurd q2 w⟩⟩, key ?_⟩
            unfold zlo; rw [q3, Bool.and_false]
          | true =>
            rw [if_neg (by decide)]
            refine ⟨fun _ => ⟨fun w => absurd w q1, fun _ => ⟨fun _ w => (by cases w), fun w => absurd q2 w⟩⟩, Or.inr ⟨i, Nat.le_refl _, by omega, rfl, ?_, fun y h1 h2 => by omega⟩⟩
            unfold zlo; rw [q3, decide_eq_true (by omega), decide_eq_true q2]; rfl
        · rw [if_neg q2]
          refine ⟨fun _ => ⟨fun w => absurd w q1, fun _ => ⟨fun w => absurd w q2, fun _ => i1⟩⟩, key ?_⟩
          unfold zlo; rw [decide_eq_false q2, Bool.and_false]; rfl
theorem z7_load_o (hs : zW s) (hP : zV s P) (hG : zG m g s P) (hb : b < s.ng) (hp : p < s.no) (hq : q < s.no) : ∀ n al, al ≤ 7 → 7 - al < n → E1_lightestLoad_3 g n (nI b) (nI p) (nI q) (nI al) m ∧ (((L1_lightestLoad_3 g n (nI b) (nI p) (nI q) (nI al) m).1 = none ∧ ∀ x y, al ≤ x + y → zlo s P b p q x y = false) ∨ ∃ x y, al ≤ x + y ∧ (L1_lightestLoad_3 g n (nI b) (nI p) (nI q) (nI al) m).1 = some (nI (10 * x + y)) ∧ zlo s P b p q x y = true ∧ ∀ x' y', al ≤ x' + y' → zlo s P b p q x' y' = true → x + y < x' + y' ∨ (x + y = x' + y' ∧ x ≤ x')) := by
  intro n
  induction n with
  | zero => intro i _ h; omega
  | succ n ih =>
    intro al hi hn
    unfold L1_lightestLoad_3 E1_lightestLoad_3
    have c1 : ((6 : Int32) < nI al) ↔ 6 < al := z_nlt (a := 6) (by omega) (by omega)
    by_cases e : 6 < al
    · rw [if_pos (c1.mpr e)]
      refine ⟨fun w => absurd (c1.mpr e) w, Or.inl ⟨rfl, fun x y h1 => ?_⟩⟩
      cases w : zlo s P b p q x y with
      | false => rfl
      | true => have := zlo_le w; omega
    · obtain ⟨a1, a2⟩ := z7_load_i hs hP hG hb hp hq (al := al) (by omega) 64 0 (by omega) (by omega)
      rw [show nI 0 = (0 : Int32) from rfl] at a1 a2
      rw [if_neg (fun w => e (c1.mp w)), show nI al + 1 = nI (al + 1) by rw [z_lit 1, nI_add]]
      obtain ⟨i1, i2⟩ := ih (al + 1) (by omega) (by omega)
      rcases a2 with ⟨b1, b2⟩ | ⟨x, _, b2, b3, b4, b5⟩
      · rw [b1, if_pos rfl]
        refine ⟨fun _ => ⟨a1, fun _ => i1⟩, ?_⟩
        have h0 : ∀ x y, x + y = al → zlo s P b p q x y = false := fun x y h => by
          have := b2 x (by omega) (by omega)
          rw [show al - x = y by omega] at this; exact this
        rcases i2 with ⟨d1, d2⟩ | ⟨x, y, d1, d2, d3, d4⟩
        · refine Or.inl ⟨d1, fun x y h => ?_⟩
          by_cases w : x + y = al
          · exact h0 x y w
          · exact d2 x y (by omega)
        · refine Or.inr ⟨x, y, by omega, d2, d3, fun x' y' h1 h2 => ?_⟩
          by_cases w : x' + y' = al
          · rw [h0 x' y' w] at h2; cases h2
          · exact d4 x' y' (by omega) h2
      · rw [b3, if_neg (by simp)]
        refine ⟨fun _ => ⟨a1, fun w => by cases w⟩, Or.inr ⟨x, al - x, by omega, rfl, b4, fun x' y' h1 h2 => ?_⟩⟩
        by_cases w : x' + y' = al
        · by_cases w2 : x' < x
          · have := b5 x' (by omega) w2
            rw [show al - x' = y' by omega, h2] at this; cases this
          · omega
        · omega
theorem z7_load (hs : zW s) (hP : zV s P) (hG : zG m g s P) (hb : b < s.ng) (hp : p < s.no) (hq : q < s.no) : D1_lightestLoad g (nI b) (nI p) (nI q) m ∧ F1_lightestLoad g (nI b) (nI p) (nI q) m = zen7 (zbal (zlo s P b p q)) ∧ zmn (zlo s P b p q) (zbal (zlo s P b p q)) := by
  obtain ⟨a1, a2⟩ := z7_load_o hs hP hG hb hp hq 64 0 (by omega) (by omega)
  have a1' : E1_lightestLoad_3 g 64 (nI b) (nI p) (nI q) 0 m := a1
  have : ∃ v, zmn (zlo s P b p q) v ∧ F1_lightestLoad g (nI b) (nI p) (nI q) m = zen7 v := by
    unfold F1_lightestLoad
    rw [show (0 : Int32) = nI 0 from rfl]
    rcases a2 with ⟨b1, b2⟩ | ⟨x, y, _, b2, b3, b4⟩
    · exact ⟨none, Or.inl ⟨rfl, fun i j => b2 i j (by omega)⟩, by rw [b1, if_pos rfl]; rfl⟩
    · exact ⟨some (x, y), Or.inr ⟨x, y, rfl, b3, fun i j h => b4 i j (by omega) h⟩, by rw [b2, if_neg (by simp)]; rfl⟩
  obtain ⟨v, h1, h2⟩ := this
  rw [← zbal_e h1]
  exact ⟨a1', h2, h1⟩
/-- of the first k of sixteen: the best -/
def zJ (ok : Nat → Nat → Bool) (k : Nat) (v : Option (Nat × Nat)) : Prop := (v = none ∧ ∀ i j, j < 4 → 4 * i + j < k → ok i j = false) ∨ ∃ i j, v = some (i, j) ∧ i ≤ 3 ∧ j ≤ 3 ∧ 4 * i + j < k ∧ ok i j = true ∧ ∀ i' j', j' < 4 → 4 * i' + j' < k → ok i' j' = true → i + j < i' + j' ∨ (i + j = i' + j' ∧ i ≤ i')
theorem zJ_s {ok : Nat → Nat → Bool} {k : Nat} {v : Option (Nat × Nat)} (hk : k < 16) (h : zJ ok k v) : ∃ v', zJ ok (k + 1) v' ∧ (if (zb (ok (k / 4) (k % 4))) = 0 then zen8 v else if zen8 v = -4 then nI (10 * (k / 4) + k % 4) else if zen8 v / 10 + (zen8 v - zen8 v / 10 * 10) ≤ nI (k / 4 + k % 4) then zen8 v else nI (10 * (k / 4) + k % 4)) = zen8 v' := by
  have hu : ∀ i' j', j' < 4 → 4 * i' + j' < k + 1 → ¬ 4 * i' + j' < k → i' = k / 4 ∧ j' = k % 4 := fun i' j' h1 h2 h3 => by omega
  cases hc : ok (k / 4) (k % 4) with
  | false =>
    refine ⟨v, ?_, by rw [if_pos (show zb false = 0 from rfl)]⟩
    rcases h with ⟨rfl, h⟩ | ⟨i, j, rfl, h1, h2, h3, h4, h5⟩
    · refine Or.inl ⟨rfl, fun i j h1 h2 => ?_⟩
      by_cases w : 4 * i + j < k
      · exact h i j h1 w
      · obtain ⟨rfl, rfl⟩ := hu i j h1 h2 w
        exact hc
    · refine Or.inr ⟨i, j, rfl, h1, h2, by omega, h4, fun i' j' q1 q2 q3 => ?_⟩
      by_cases w : 4 * i' + j' < k
      · exact h5 i' j' q1 w q3
      · obtain ⟨rfl, rfl⟩ := hu i' j' q1 q2 w
        rw [hc] at q3; cases q3
  | true =>
    rw [if_neg (show ¬ zb true = 0 by decide)]
    rcases h with ⟨rfl, h⟩ | ⟨i, j, rfl, h1, h2, h3, h4, h5⟩
    · refine ⟨some (k / 4, k % 4), Or.inr ⟨k / 4, k % 4, rfl, by omega, by omega, by omega, hc, fun i' j' q1 q2 q3 => ?_⟩, ?_⟩
      · by_cases w : 4 * i' + j' < k
        · rw [h i' j' q1 w] at q3; cases q3
        · obtain ⟨rfl, rfl⟩ := hu i' j' q1 q2 w
          exact Or.inr ⟨rfl, Nat.le_refl _⟩
      · rw [if_pos (show zen8 none = -4 from rfl)]; rfl
    · have hne : ¬ zen8 (some (i, j)) = -4 := fun w => by
        have := z_eq.mp w
        rw [show zen8 (some (i, j)) = nI (10 * i + j) from rfl, z_nti (by omega)] at this
        have h4 : (-4 : Int32).toInt = -4 := rfl
        omega
      have hsum : zen8 (some (i, j)) / 10 + (zen8 (some (i, j)) - zen8 (some (i, j)) / 10 * 10) = nI (i + j) := by
        rw [show zen8 (some (i, j)) = nI (10 * i + j) from rfl, show (10 : Int32) = nI 10 from rfl, pk_rem (by omega) (by omega) (by omega), pk_div (by omega) (by omega) (by omega), nI_add]
        congr 1; omega
      rw [if_neg hne, hsum]
      by_cases w0 : i + j ≤ k / 4 + k % 4
      · rw [if_pos ((z_nle (by omega) (by omega)).mpr w0)]
        refine ⟨some (i, j), Or.inr ⟨i, j, rfl, h1, h2, by omega, h4, fun i' j' q1 q2 q3 => ?_⟩, rfl⟩
        by_cases w : 4 * i' + j' < k
        · exact h5 i' j' q1 w q3
        · obtain ⟨rfl, rfl⟩ := hu i' j' q1 q2 w
          omega
      · rw [if_neg (fun q => w0 ((z_nle (by omega) (by omega)).mp q))]
        refine ⟨some (k / 4, k % 4), Or.inr ⟨k / 4, k % 4, rfl, by omega, by omega, by omega, hc, fun i' j' q1 q2 q3 => ?_⟩, rfl⟩
        by_cases w : 4 * i' + j' < k
        · have := h5 i' j' q1 w q3; omega
        · obtain ⟨rfl, rfl⟩ := hu i' j' q1 q2 w
          exact Or.inr ⟨rfl, Nat.le_refl _⟩
theorem z8_bal_l (hs : zW s) (hP : zV s P) (hE : zE m s) (hQ : zQ m 0 s P) (hb : b < s.ng) (hp : p < s.no) (hq : q < s.no) : ∀ n k v, k ≤ 16 → 16 - k < n → zJ (zlo s P b p q) k v → E8_balanced_7 n (nI b) (nI p) (nI q) (zen8 v) (nI k) m ∧ ∃ v', zJ (zlo s P b p q) 16 v' ∧ (L8_balanced_7 n (nI b) (nI p) (nI q) (zen8 v) (nI k) m).1 = zen8 v' := by
  have k1 := zcar_le (P.kd p)
  have k2 := zcar_le (P.kd q)
  intro n
  induction n with
  | zero => intro i _ _ h; omega
  | succ n ih =>
    intro k v hk hn hJ
    unfold L8_balanced_7 E8_balanced_7
    have c1 : ((16 : Int32) ≤ nI k) ↔ 16 ≤ k := z_nle (a := 16) (by omega) (by omega)
    by_cases e : k = 16
    · rw [if_pos (c1.mpr (by omega))]
      rw [e] at hJ
      exact ⟨fun w => absurd (c1.mpr (by omega)) w, v, hJ, rfl⟩
    · have hc : F8_carries (nI p) m = nI (zcar (P.kd p)) := z8_carries hs hP hQ hp
      have hd : F8_carries (nI q) m = nI (zcar (P.kd q)) := z8_carries hs hP hQ hq
      have hl := z8_level (i := k / 4) (j := k % 4) hs hP hE hQ hb hp hq (by omega) (by omega)
      have d4 : nI k / 4 = nI (k / 4) := pk_div (d := 4) (by omega) (by omega) (by omega)
      have r4 : nI k - nI k / 4 * 4 = nI (k % 4) := pk_rem (d := 4) (by omega) (by omega) (by omega)
      rw [if_neg (show ¬ (16 : Int32) ≤ nI k from fun w => by have := c1.mp w; omega), hc, hd, r4, d4, hl, show nI k + 1 = nI (k + 1) by rw [z_lit 1, nI_add], show 10 * nI (k / 4) + nI (k % 4) = nI (10 * (k / 4) + k % 4) by rw [z_lit 10, pk_mul, nI_add], nI_add]
      have c2 : (nI (zcar (P.kd p)) < nI (k / 4)) ↔ zcar (P.kd p) < k / 4 := z_nlt (by omega) (by omega)
      have c3 : (nI (zcar (P.kd q)) < nI (k % 4)) ↔ zcar (P.kd q) < k % 4 := z_nlt (by omega) (by omega)
      have hz : (if nI (zcar (P.kd p)) < nI (k / 4) then (0 : Int32) else if nI (zcar (P.kd q)) < nI (k % 4) then (0 : Int32) else if zb (zlev s P b p q (k / 4) (k % 4)) = 0 then (0 : Int32) else 1) = zb (zlo s P b p q (k / 4) (k % 4)) := by
        simp only [c2, c3]
        unfold zlo
        by_cases q1 : zcar (P.kd p) < k / 4
        · rw [if_pos q1, decide_eq_false (show ¬ k / 4 ≤ zcar (P.kd p) by omega)]; rfl
        · rw [if_neg q1, decide_eq_true (show k / 4 ≤ zcar (P.kd p) by omega)]
          by_cases q2 : zcar (P.kd q) < k % 4
          · rw [if_pos q2, decide_eq_false (show ¬ k % 4 ≤ zcar (P.kd q) by omega)]; rfl
          · rw [if_neg q2, decide_eq_true (show k % 4 ≤ zcar (P.kd q) by omega)]
            cases zlev s P b p q (k / 4) (k % 4) <;> rfl
      rw [hz]
      obtain ⟨v', j1, j2⟩ := zJ_s (show k < 16 by omega) hJ
      rw [j2]
      obtain ⟨i1, i2⟩ := ih (k + 1) v' (by omega) (by omega) j1
      exact ⟨fun _ => ⟨z8_dkind hs hp, fun _ => ⟨z8_dkind hs hq, fun _ => z8_dlevel hs hb hp hq⟩, i1⟩, i2⟩
theorem z8_bal (hs : zW s) (hP : zV s P) (hE : zE m s) (hQ : zQ m 0 s P) (hb : b < s.ng) (hp : p < s.no) (hq : q < s.no) : D8_balanced (nI b) (nI p) (nI q) m ∧ F8_balanced (nI b) (nI p) (nI q) m = zen8 (zbal (zlo s P b p q)) := by
  obtain ⟨a1, v, a2, a3⟩ := z8_bal_l hs hP hE hQ hb hp hq 64 0 none (by omega) (by omega) (Or.inl ⟨rfl, fun i j _ h => by omega⟩)
  have hm : zmn (zlo s P b p q) v := by
    rcases a2 with ⟨rfl, h⟩ | ⟨i, j, rfl, h1, h2, h3, h4, h5⟩
    · refine Or.inl ⟨rfl, fun i j => ?_⟩
      cases w : zlo s P b p q i j with
      | false => rfl
      | true =>
        have := zlo_le w
        rw [h i j (by omega) (by omega)] at w; cases w
    · refine Or.inr ⟨i, j, rfl, h4, fun i' j' w => ?_⟩
      have := zlo_le w
      exact h5 i' j' (by omega) (by omega) w
  rw [← zbal_e hm]
  exact ⟨a1, a3⟩
theorem zok15 (h : zI m) : OK15 zI m := by
  obtain ⟨T, hT, h7, h8⟩ := id h
  intro a1 a2 a3 a4
  have hw := hT.w
  have asked : F1_isAsked 1 a1 a2 a3 0 0 m = zb (ztwo T.s a1 a2 a3) := by
    rw [z7_asked hw h7.g, show zwi 0 0 3 = true by decide]
    cases ztwo T.s a1 a2 a3 <;> rfl
  have i4 : F7_within a4 0 2 m = zb (zwi a4 0 2) := z7_in
  have j4 : F8_in a4.toInt64 0 2 m = zb (zwi a4 0 2) := z8_in 0 2 rfl rfl
  cases e1 : ztwo T.s a1 a2 a3 with
  | false =>
    refine ⟨?_, ?_, ?_, h⟩
    · unfold D7_balance; rw [asked, e1]; exact fun q => absurd rfl q
    · unfold D8_balance; rw [z8_two hw h8.e, e1]; exact fun q => absurd rfl q
    · unfold F7_balance F8_balance; rw [asked, z8_two hw h8.e, e1, if_pos (show zb false = 0 from rfl), if_pos (show zb false = 0 from rfl)]
  | true =>
    cases e4 : zwi a4 0 2 with
    | false =>
      refine ⟨?_, ?_, ?_, h⟩
      · unfold D7_balance; rw [i4, e4]; exact fun _ q => absurd rfl q
      · unfold D8_balance; rw [j4, e4]; exact fun _ q => absurd rfl q
      · unfold F7_balance F8_balance; rw [asked, z8_two hw h8.e, e1, i4, j4, e4, if_neg (show ¬ zb true = 0 by decide), if_neg (show ¬ zb true = 0 by decide), if_pos (show zb false = 0 from rfl), if_pos (show zb false = 0 from rfl)]
    | true =>
      obtain ⟨b, p, q, hb, hp, hq, hn, rfl, rfl, rfl⟩ := ztwo_t hw e1
      obtain ⟨l1, l2, l3⟩ := z7_load hw hT.v h7.g hb hp hq
      obtain ⟨r1, r2⟩ := z8_bal hw hT.v h8.e h8.q hb hp hq
      refine ⟨fun _ _ _ _ => l1, fun _ _ => ⟨z8_dpair hw hb hp hq, fun _ => ⟨z8_dmay hw hb hp hq, fun _ => r1⟩⟩, ?_, h⟩
      unfold F7_balance F8_balance
      rw [asked, z8_two hw h8.e, e1, i4, j4, e4, z7_pair hw hT.v h7.g hb hp hq, z8_pair hw hT.v h8.e h8.q hb hp hq, z7_exile hw hT.v h7.g hb hp hq, z8_may hw hT.v h8.e h8.q hb hp hq, l2, r2, decide_eq_true hn, Bool.true_and, if_neg (show ¬ zb true = 0 by decide), if_neg (show ¬ zb true = 0 by decide), if_neg (show ¬ zb true = 0 by decide), if_neg (show ¬ zb true = 0 by decide)]
      cases zpair T.s T.P b p q with
      | false => rw [if_pos (show zb false = 0 from rfl), if_pos (show zb false = 0 from rfl)]
      | true =>
        rw [if_neg (show ¬ zb true = 0 by decide), if_neg (show ¬ zb true = 0 by decide)]
        cases zgo1 T.s T.P b p q with
        | false => rw [if_neg (show ¬ zb (!false) = 0 by decide), if_pos (show zb false = 0 from rfl)]
        | true =>
          rw [if_pos (show zb (!true) = 0 from rfl), if_neg (show ¬ zb true = 0 by decide)]
          rcases l3 with ⟨e, _⟩ | ⟨i, j, e, o, _⟩
          · rw [e, if_neg (show ¬ (0 : Int32) ≤ zen7 none by decide), if_pos (show zen8 none = -4 from rfl)]
          · have := zlo_le o
            have hne : ¬ zen8 (some (i, j)) = -4 := fun w => by
              have := z_eq.mp w
              rw [show zen8 (some (i, j)) = nI (10 * i + j) from rfl, z_nti (by omega)] at this
              have h4 : (-4 : Int32).toInt = -4 := rfl
              omega
            rw [e, if_neg hne, if_pos (show (0 : Int32) ≤ zen7 (some (i, j)) from z_let (a := 0) (b := 10 * i + j) (by omega) (by omega))]; rfl
end ZQ
