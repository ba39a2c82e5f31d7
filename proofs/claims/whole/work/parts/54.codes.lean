/-! PURE: where all stand as one number; a trial -/
def zcode (f : Nat → Nat) : Nat → Nat
  | 0 => 0
  | n + 1 => zcode f n + f n * 2 ^ (2 * n)
theorem zcode_lt {f : Nat → Nat} : ∀ n, (∀ k, k < n → f k < 4) → zcode f n < 2 ^ (2 * n)
  | 0, _ => Nat.zero_lt_one
  | n + 1, h => by
    have h1 := zcode_lt n (fun k hk => h k (by omega))
    have h2 : f n * 2 ^ (2 * n) ≤ 3 * 2 ^ (2 * n) := Nat.mul_le_mul_right _ (by have := h n (by omega); omega)
    unfold zcode
    rw [show 2 * (n + 1) = 2 * n + 2 by omega, Nat.pow_add]
    omega
theorem zcode_6 {f : Nat → Nat} {n : Nat} (hn : n ≤ 6) (h : ∀ k, k < n → f k < 4) : zcode f n < 4096 := by
  have h1 := zcode_lt n h
  have h2 : (2 : Nat) ^ (2 * n) ≤ 2 ^ 12 := Nat.pow_le_pow_right (by decide) (by omega)
  omega
theorem zcode_dig {f : Nat → Nat} : ∀ n k, (∀ k, k < n → f k < 4) → k < n → zcode f n / 2 ^ (2 * k) % 4 = f k
  | 0, _, _, h => by omega
  | n + 1, k, h, hk => by
    unfold zcode
    by_cases e : k = n
    · subst e
      have h1 := zcode_lt k (fun j hj => h j (by omega))
      have h2 := h k (by omega)
      rw [Nat.add_mul_div_right _ _ (Nat.two_pow_pos _), Nat.div_eq_of_lt h1, Nat.zero_add, Nat.mod_eq_of_lt h2]
    · have e1 : f n * 2 ^ (2 * n) = (f n * 2 ^ (2 * (n - k - 1))) * 4 * 2 ^ (2 * k) := by
        rw [show 2 * n = 2 * (n - k - 1) + 2 + 2 * k by omega, Nat.pow_add, Nat.pow_add]
        simp only [Nat.mul_assoc]
      rw [e1, Nat.add_mul_div_right _ _ (Nat.two_pow_pos _), Nat.add_mul_mod_self_right]
      exact zcode_dig n k (fun j hj => h j (by omega)) (by omega)
theorem zcode_ext {f g : Nat → Nat} : ∀ n, (∀ k, k < n → f k = g k) → zcode f n = zcode g n
  | 0, _ => rfl
  | n + 1, h => by
    unfold zcode
    rw [zcode_ext n (fun k hk => h k (by omega)), h n (by omega)]
theorem z_cshl {x p : Nat} (hp : p < 6) (hx : x < 4) : nI x <<< ((2 * nI p) &&& (31 : Int32)) = nI (x * 2 ^ (2 * p)) := by
  have h2 : x * 2 ^ (2 * p) ≤ 3 * 2 ^ 10 := Nat.mul_le_mul (by omega) (Nat.pow_le_pow_right (by decide) (by omega))
  rw [z_lit 2, pk_mul, z_shl (by omega) (by omega)]
theorem z_cor {f : Nat → Nat} {p : Nat} (hp : p < 6) (h : ∀ k, k < p → f k < 4) (hx : f p < 4) : nI (zcode f p) ||| (nI (f p) <<< ((2 * nI p) &&& (31 : Int32))) = nI (zcode f (p + 1)) := by
  have h1 := zcode_lt p h
  rw [z_cshl hp hx, z_or]
  have h2 := Nat.two_pow_add_eq_or_of_lt h1 (f p)
  rw [Nat.mul_comm (f p), Nat.or_comm, ← h2]
  show nI _ = nI (zcode f p + f p * 2 ^ (2 * p))
  rw [Nat.add_comm, Nat.mul_comm]
theorem z_cdig {c p : Nat} (hp : p < 16) (hc : c < 2 ^ 31) : (nI c >>> ((2 * nI p) &&& (31 : Int32))) &&& 3 = nI (c / 2 ^ (2 * p) % 4) := by
  rw [z_lit 2, pk_mul, z_shr (by omega) hc, z_lit 3, z_and]
  congr 1
  exact Nat.and_two_pow_sub_one_eq_mod _ 2
section ZK
variable {m : ax_M} {g : Nat} {s : zS} {P : zP} {b p q : Nat}
theorem zV.bk4 (hs : zW s) (hP : zV s P) (hp : p < s.no) : P.bk p < 4 := by
  have h1 := hP.bk hp
  have h2 := hs.nb4
  omega
theorem zV.gl4 (hs : zW s) (hP : zV s P) (hp : p < s.no) : P.gl p < 4 := by
  have h1 := hP.gl hp
  have h2 := hs.nb4
  omega
theorem z7_standing (hs : zW s) (hP : zV s P) (hG : zG m g s P) : ∀ n p, p ≤ s.no → s.no - p < n → E1_standing_4 g n (nI (zcode P.bk p)) (nI p) m ∧ (L1_standing_4 g n (nI (zcode P.bk p)) (nI p) m).1 = nI (zcode P.bk s.no) := by
  have a1 := hs.no6
  intro n
  induction n with
  | zero => intro p _ h; omega
  | succ n ih =>
    intro p hp hn
    unfold L1_standing_4 E1_standing_4
    rw [hG.no]
    by_cases e : p = s.no
    · rw [if_pos (z_let (by omega) (by omega)), e]
      exact ⟨fun q => absurd (z_let (by omega) (by omega)) q, rfl⟩
    · have hlt : ¬ nI s.no ≤ nI p := z_lef (by omega) (by omega)
      rw [if_neg hlt, z7_bank hs hG (by omega), z_cor (by omega) (fun k hk => hP.bk4 hs (by omega)) (hP.bk4 hs (by omega)), z_lit 1, nI_add]
      obtain ⟨i1, i2⟩ := ih (p + 1) (by omega) (by omega)
      exact ⟨fun _ => i1, i2⟩
theorem z7_wished (hs : zW s) (hP : zV s P) (hG : zG m g s P) : ∀ n p, p ≤ s.no → s.no - p < n → E1_wished_4 g n (nI (zcode P.gl p)) (nI p) m ∧ (L1_wished_4 g n (nI (zcode P.gl p)) (nI p) m).1 = nI (zcode P.gl s.no) := by
  have a1 := hs.no6
  intro n
  induction n with
  | zero => intro p _ h; omega
  | succ n ih =>
    intro p hp hn
    unfold L1_wished_4 E1_wished_4
    rw [hG.no]
    by_cases e : p = s.no
    · rw [if_pos (z_let (by omega) (by omega)), e]
      exact ⟨fun q => absurd (z_let (by omega) (by omega)) q, rfl⟩
    · have hlt : ¬ nI s.no ≤ nI p := z_lef (by omega) (by omega)
      rw [if_neg hlt, z7_goal hs hG (by omega), z_cor (by omega) (fun k hk => hP.gl4 hs (by omega)) (hP.gl4 hs (by omega)), z_lit 1, nI_add]
      obtain ⟨i1, i2⟩ := ih (p + 1) (by omega) (by omega)
      exact ⟨fun _ => i1, i2⟩
theorem z8_codeL (hs : zW s) (hP : zV s P) (hE : zE m s) (hQ : zQ m 0 s P) : ∀ n p, p ≤ s.no → s.no - p < n → E8_codeNow_4 n (nI (zcode P.bk p)) (nI p) m ∧ (L8_codeNow_4 n (nI (zcode P.bk p)) (nI p) m).1 = nI (zcode P.bk s.no) := by
  have a1 := hs.no6
  intro n
  induction n with
  | zero => intro p _ h; omega
  | succ n ih =>
    intro p hp hn
    unfold L8_codeNow_4 E8_codeNow_4
    rw [hE.no]
    by_cases e : p = s.no
    · rw [if_pos (z_let (by omega) (by omega)), e]
      exact ⟨fun q => absurd (z_let (by omega) (by omega)) q, rfl⟩
    · have hlt : ¬ nI s.no ≤ nI p := z_lef (by omega) (by omega)
      rw [if_neg hlt, z8_bank hs hQ (by omega), z_cor (by omega) (fun k hk => hP.bk4 hs (by omega)) (hP.bk4 hs (by omega)), z_lit 1, nI_add]
      obtain ⟨i1, i2⟩ := ih (p + 1) (by omega) (by omega)
      exact ⟨fun _ => ⟨z8_dbank hs (by omega), i1⟩, i2⟩
theorem z8_goalL (hs : zW s) (hP : zV s P) (hE : zE m s) (hQ : zQ m 0 s P) : ∀ n p, p ≤ s.no → s.no - p < n → E8_goalCode_4 n (nI (zcode P.gl p)) (nI p) m ∧ (L8_goalCode_4 n (nI (zcode P.gl p)) (nI p) m).1 = nI (zcode P.gl s.no) := by
  have a1 := hs.no6
  intro n
  induction n with
  | zero => intro p _ h; omega
  | succ n ih =>
    intro p hp hn
    unfold L8_goalCode_4 E8_goalCode_4
    rw [hE.no]
    by_cases e : p = s.no
    · rw [if_pos (z_let (by omega) (by omega)), e]
      exact ⟨fun q => absurd (z_let (by omega) (by omega)) q, rfl⟩
    · have hlt : ¬ nI s.no ≤ nI p := z_lef (by omega) (by omega)
      rw [if_neg hlt, z8_goal hs hQ (by omega), z_cor (by omega) (fun k hk => hP.gl4 hs (by omega)) (hP.gl4 hs (by omega)), show nI p + 1 = nI (p + 1) by rw [z_lit 1, nI_add]]
      obtain ⟨i1, i2⟩ := ih (p + 1) (by omega) (by omega)
      exact ⟨fun _ => ⟨z8_v4 (c := 3) hs (by omega) (by omega), i1⟩, i2⟩
theorem z7_stand (hs : zW s) (hP : zV s P) (hG : zG m g s P) : D1_standing g m ∧ F1_standing g m = nI (zcode P.bk s.no) := z7_standing hs hP hG 64 0 (by omega) (by have := hs.no6; omega)
theorem z7_wish (hs : zW s) (hP : zV s P) (hG : zG m g s P) : D1_wished g m ∧ F1_wished g m = nI (zcode P.gl s.no) := z7_wished hs hP hG 64 0 (by omega) (by have := hs.no6; omega)
theorem z8_code (hs : zW s) (hP : zV s P) (hE : zE m s) (hQ : zQ m 0 s P) : D8_codeNow m ∧ F8_codeNow m = nI (zcode P.bk s.no) := z8_codeL hs hP hE hQ 64 0 (by omega) (by have := hs.no6; omega)
theorem z8_goalC (hs : zW s) (hP : zV s P) (hE : zE m s) (hQ : zQ m 0 s P) : D8_goalCode m ∧ F8_goalCode m = nI (zcode P.gl s.no) := z8_goalL hs hP hE hQ 64 0 (by omega) (by have := hs.no6; omega)
theorem z8_standL {c : Nat} (hs : zW s) (hc : c < 4096) : ∀ (n p : Nat) (m : ax_M), m 74 3 = nI s.no → p ≤ s.no → s.no - p < n → E8_stand_2 n (nI c) (nI p) m ∧ (∀ a, a ≠ 75 → (L8_stand_2 n (nI c) (nI p) m).2 a = m a) ∧ (∀ j, (∀ q, p ≤ q → q < s.no → j ≠ 4 * q + 2) → (L8_stand_2 n (nI c) (nI p) m).2 75 j = m 75 j) ∧ (∀ q, p ≤ q → q < s.no → (L8_stand_2 n (nI c) (nI p) m).2 75 (4 * q + 2) = nI (c / 2 ^ (2 * q) % 4)) := by
  have a1 := hs.no6
  intro n
  induction n with
  | zero => intro p m _ _ h; omega
  | succ n ih =>
    intro p m hm hp hn
    unfold L8_stand_2 E8_stand_2
    rw [hm]
    by_cases e : p = s.no
    · rw [if_pos (z_let (by omega) (by omega))]
      exact ⟨fun q => absurd (z_let (by omega) (by omega)) q, fun _ _ => rfl, fun _ _ => rfl, fun q _ _ => by omega⟩
    · have hlt : ¬ nI s.no ≤ nI p := z_lef (by omega) (by omega)
      have x2 : Int32.toNatClampNeg ((4 : Int32) * nI p + 2) = 4 * p + 2 := by rw [z_lit 4, z_lit 2, pk_mul, nI_add, z_ncl (by omega)]
      rw [if_neg hlt, x2, z_cdig (by omega) (by omega), show nI p + 1 = nI (p + 1) by rw [z_lit 1, nI_add]]
      obtain ⟨i1, i2, i3, i4⟩ := ih (p + 1) (ax_up m 75 (4 * p + 2) (nI (c / 2 ^ (2 * p) % 4))) (by rw [z_upr (by omega)]; exact hm) (by omega) (by omega)
      refine ⟨fun _ => ⟨z8_v4 (c := 2) hs (by omega) (by omega), i1⟩, fun a ha => by rw [i2 a ha, z_upr ha], fun j hj => ?_, fun q h1 h2 => ?_⟩
      · rw [i3 j (fun q h1 h2 => hj q (by omega) h2), z_up, if_neg (fun x => hj p (Nat.le_refl _) (by omega) x.2)]
      · by_cases e2 : q = p
        · subst e2
          rw [i3 _ (fun q' h3 h4 => by omega), z_up, if_pos ⟨rfl, rfl⟩]
        · exact i4 q (by omega) h2
/-- all but the banks is the same -/
def zeqb (P P' : zP) : Prop := ∀ a c, a ≠ 5 → P' a c = P a c
theorem zeqb.refl (P : zP) : zeqb P P := fun _ _ _ => rfl
theorem zeqb.sw {P' : zP} (h : zeqb P P') : zeqb P (zsw s P' b p q) := fun a c ha => by
  unfold zsw zP.set
  rw [if_neg (fun x => ha x.1), if_neg (fun x => ha x.1)]
  exact h a c ha
theorem z8_stands {P' : zP} (hs : zW s) (hP : zV s P) (hE : zE m s) (hQ : zQ m 0 s P') (he : zeqb P P') : D8_stand (nI (zcode P.bk s.no)) m ∧ zQ (F8_stand (nI (zcode P.bk s.no)) m) 0 s P ∧ (∀ a, a ≠ 75 → F8_stand (nI (zcode P.bk s.no)) m a = m a) ∧ (∀ k, 33 ≤ k → F8_stand (nI (zcode P.bk s.no)) m 75 k = m 75 k) := by
  have a1 := hs.no6
  have a2 := hs.ng4
  obtain ⟨i1, i2, i3, i4⟩ := z8_standL hs (zcode_6 hs.no6 (fun k hk => hP.bk4 hs hk)) 64 0 m hE.no (by omega) (by omega)
  refine ⟨i1, ?_, i2, fun k hk => i3 k (fun q _ h => by omega)⟩
  obtain ⟨q0, q1, q2, q3, q4, q5, q6⟩ := hQ
  unfold F8_stand
  refine ⟨?_, fun k hk => ?_, fun k hk => ?_, fun k hk => ?_, fun k hk => ?_, fun k hk => ?_, fun k hk => ?_⟩
  · rw [show (0 : Int32) = nI 0 from rfl, i3 _ (fun q _ h => by omega), q0]; exact congrArg nI (he 0 0 (by omega))
  · rw [show (0 : Int32) = nI 0 from rfl, i3 _ (fun q _ h => by omega), q1 k hk]; exact congrArg nI (he 1 k (by omega))
  · rw [show (0 : Int32) = nI 0 from rfl, i3 _ (fun q _ h => by omega), q2 k hk]; exact congrArg nI (he 2 k (by omega))
  · rw [show (0 : Int32) = nI 0 from rfl, i3 _ (fun q _ h => by omega), q3 k hk]; exact congrArg nI (he 3 k (by omega))
  · rw [show (0 : Int32) = nI 0 from rfl, i3 _ (fun q _ h => by omega), q4 k hk]; exact congrArg nI (he 4 k (by omega))
  · rw [show (0 : Int32) = nI 0 from rfl, Nat.zero_add, i4 k (by omega) hk, zcode_dig _ _ (fun k hk => hP.bk4 hs hk) hk]
  · rw [show (0 : Int32) = nI 0 from rfl, i3 _ (fun q _ h => by omega), q6 k hk]; exact congrArg nI (he 6 k (by omega))
/-- a gorge whose number of crossings is not looked at -/
def zGx (m : ax_M) (g : Nat) (s : zS) (P : zP) : Prop := ∃ c, zG m g s (P.set 0 0 c)
theorem zP.set00 (P : zP) : P.set 0 0 P.cr = P := by
  funext a c
  unfold zP.set
  by_cases h : a = 0 ∧ c = 0
  · rw [if_pos h, h.1, h.2]; rfl
  · rw [if_neg h]
theorem zG.x (h : zG m g s P) : zGx m g s P := ⟨P.cr, by rw [zP.set00]; exact h⟩
theorem zV.x {c : Nat} (h : zV s P) : zV s (P.set 0 0 c) := zV.set0 h
theorem zcan_x {c i j : Nat} : zcan s (P.set 0 0 c) b p q i j = zcan s P b p q i j := rfl
theorem zgo_x {c : Nat} : zgo s (P.set 0 0 c) b p q 0 0 = (zsw s P b p q).set 0 0 (c + 1) := by
  rw [zgo_sw]
  funext a d
  unfold zsw zP.set
  by_cases h : a = 0
  · subst h; simp [zP.cr]
    by_cases e : d = 0 <;> simp [e]
  · simp [h]
theorem z7_pg (hs : zW s) (hP : zV s P) (hG : zGx m g s P) (hb : b < s.ng) (hp : p < s.no) (hq : q < s.no) : (F1_passesAndGoes g (nI b) (nI p) (nI q) m).1 = zb (decide (p ≠ q) && zcan s P b p q 0 0) ∧ zGx (F1_passesAndGoes g (nI b) (nI p) (nI q) m).2 g s (if (decide (p ≠ q) && zcan s P b p q 0 0) = true then zsw s P b p q else P) ∧ ∀ c, (c < g ∨ g + 8 < c) → (F1_passesAndGoes g (nI b) (nI p) (nI q) m).2 c = m c := by
  obtain ⟨c0, hG⟩ := hG
  unfold F1_passesAndGoes
  rw [show F1_passes g (nI b) (nI p) (nI q) 0 0 m = _ from z7_passes (i := 0) (j := 0) hs hP.x hG hb hp hq (by omega) (by omega), zcan_x]
  cases e : decide (p ≠ q) && zcan s P b p q 0 0 with
  | false => exact ⟨rfl, ⟨c0, hG⟩, fun _ _ => rfl⟩
  | true =>
    obtain ⟨G1, K1⟩ := z7_go (i := 0) (j := 0) hs hG hb hp hq (Nat.zero_le _) (Nat.zero_le _)
    rw [zgo_x] at G1
    exact ⟨rfl, ⟨_, G1⟩, K1⟩
theorem z8_sws (hs : zW s) (hE : zE m s) (hQ : zQ m 0 s P) (hb : b < s.ng) (hp : p < s.no) (hq : q < s.no) : D8_swaps (nI b) (nI p) (nI q) m ∧ zQ (F8_swaps (nI b) (nI p) (nI q) m) 0 s (zsw s P b p q) ∧ (∀ c, c ≠ 75 → F8_swaps (nI b) (nI p) (nI q) m c = m c) ∧ (∀ k, 33 ≤ k → F8_swaps (nI b) (nI p) (nI q) m 75 k = m 75 k) := by
  have a1 := hs.no6
  obtain ⟨w1, w2⟩ := z8_swp hs hE hb hp hq
  rw [w1]
  refine ⟨w2, zQ.set5 hs (zQ.set5 hs hQ hp) hq, fun c hc => by rw [z_upr hc, z_upr hc], fun k hk => by rw [z_up, if_neg (by omega), z_up, if_neg (by omega)]⟩
theorem zE.k (h : zE m s) {m' : ax_M} (e : ∀ c, c ≠ 75 → m' c = m c) : zE m' s := h.same (by rw [e 74 (by omega)]) (by rw [e 74 (by omega)]) (by rw [e 74 (by omega)]) (by rw [e 74 (by omega)]) (e 76 (by omega))
end ZK
