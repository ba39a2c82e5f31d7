/-! PURE: counts, bits, and the calls that go once through the people -/
theorem z_or (a b : Nat) : nI a ||| nI b = nI (a ||| b) := by
  apply Int32.toBitVec_inj.1
  show BitVec.ofNat 32 a ||| BitVec.ofNat 32 b = BitVec.ofNat 32 (a ||| b)
  apply BitVec.eq_of_getLsbD_eq
  intro i hi
  simp [hi]
theorem z_and (a b : Nat) : nI a &&& nI b = nI (a &&& b) := by
  apply Int32.toBitVec_inj.1
  show BitVec.ofNat 32 a &&& BitVec.ofNat 32 b = BitVec.ofNat 32 (a &&& b)
  apply BitVec.eq_of_getLsbD_eq
  intro i hi
  simp [hi]
theorem z_xor (a b : Nat) : nI a ^^^ nI b = nI (a ^^^ b) := by
  apply Int32.toBitVec_inj.1
  show BitVec.ofNat 32 a ^^^ BitVec.ofNat 32 b = BitVec.ofNat 32 (a ^^^ b)
  apply BitVec.eq_of_getLsbD_eq
  intro i hi
  simp [hi]
theorem z_shm : ∀ k, k < 32 → ((nI k &&& (31 : Int32)).toBitVec.smod 32).toNat = k := by decide
theorem z_shl {n k : Nat} (hk : k < 32) (h : n * 2 ^ k < 2 ^ 32) : nI n <<< (nI k &&& (31 : Int32)) = nI (n * 2 ^ k) := pk_shlN _ k (z_shm k hk) h
theorem z_shr {n k : Nat} (hk : k < 32) (h : n < 2 ^ 31) : nI n >>> (nI k &&& (31 : Int32)) = nI (n / 2 ^ k) := pk_shrN h _ k (z_shm k hk)
theorem z_let {a b : Nat} (h : a ≤ b) (hb : b < 1000000) : nI a ≤ nI b := nI_le h (by omega)
theorem z_lef {a b : Nat} (h : b < a) (hb : a < 1000000) : ¬ nI a ≤ nI b := nI_ge h (by omega)
def zcnt (f : Nat → Bool) : Nat → Nat
  | 0 => 0
  | n + 1 => zcnt f n + (if f n = true then 1 else 0)
def zbits (f : Nat → Bool) : Nat → Nat
  | 0 => 0
  | n + 1 => zbits f n + (if f n = true then 2 ^ n else 0)
def zsum (f : Nat → Nat) : Nat → Nat
  | 0 => 0
  | n + 1 => zsum f n + f n
theorem zcnt_le (f : Nat → Bool) : ∀ n, zcnt f n ≤ n
  | 0 => Nat.le_refl _
  | n + 1 => by
    have := zcnt_le f n
    unfold zcnt
    split <;> omega
theorem zbits_lt (f : Nat → Bool) : ∀ n, zbits f n < 2 ^ n
  | 0 => Nat.zero_lt_one
  | n + 1 => by
    have := zbits_lt f n
    unfold zbits
    rw [Nat.pow_succ]
    split <;> omega
theorem z_bit {f : Nat → Bool} {n : Nat} (hn : n < 31) : nI (zbits f n) ||| ((1 : Int32) <<< (nI n &&& (31 : Int32))) = nI (zbits f n + 2 ^ n) := by
  have h2 : (2 : Nat) ^ n < 2 ^ 32 := Nat.pow_lt_pow_right (by decide) (by omega)
  rw [z_lit 1, z_shl (by omega) (by rw [Nat.one_mul]; exact h2), z_or, Nat.one_mul, Nat.or_comm]
  have := Nat.two_pow_add_eq_or_of_lt (zbits_lt f n) 1
  rw [Nat.mul_one] at this
  rw [← this, Nat.add_comm]
section ZH
variable {m : ax_M} {g : Nat} {s : zS} {P : zP} {b p q : Nat}
def zat (P : zP) : Nat → Bool := fun p => decide (P.bk p = P.gl p)
theorem z7_goals (hs : zW s) (hP : zV s P) (hG : zG m g s P) : ∀ n p, p ≤ s.no → s.no - p < n → E1_atGoals_4 g n (nI (zcnt (zat P) p)) (nI p) m ∧ (L1_atGoals_4 g n (nI (zcnt (zat P) p)) (nI p) m).1 = nI (zcnt (zat P) s.no) := by
  have a1 := hs.no6
  have a2 := hs.nb4
  intro n
  induction n with
  | zero => intro p _ h; omega
  | succ n ih =>
    intro p hp hn
    unfold L1_atGoals_4 E1_atGoals_4
    rw [hG.no]
    by_cases e : p = s.no
    · rw [if_pos (z_let (by omega) (by omega)), e]
      exact ⟨fun q => absurd (z_let (by omega) (by omega)) q, rfl⟩
    · have hlt : ¬ nI s.no ≤ nI p := z_lef (by omega) (by omega)
      have h1 := hP.bk (show p < s.no by omega)
      have h2 := hP.gl (show p < s.no by omega)
      have h3 := zcnt_le (zat P) p
      rw [if_neg hlt, z7_bank hs hG (by omega), z7_goal hs hG (by omega), z_lit 1, nI_add, nI_add]
      have ev : (if nI (P.bk p) = nI (P.gl p) then nI (zcnt (zat P) p + 1) else nI (zcnt (zat P) p)) = nI (zcnt (zat P) (p + 1)) := by
        show _ = nI (zcnt (zat P) p + (if zat P p = true then 1 else 0))
        unfold zat
        by_cases e2 : P.bk p = P.gl p
        · rw [e2]; simp
        · rw [if_neg (fun q => e2 ((z_neq (by omega) (by omega)).mp q))]; simp [e2]
      rw [ev]
      obtain ⟨i1, i2⟩ := ih (p + 1) (by omega) (by omega)
      exact ⟨fun _ => i1, i2⟩
theorem z8_goals (hs : zW s) (hP : zV s P) (hE : zE m s) (hQ : zQ m 0 s P) : ∀ n p, p ≤ s.no → s.no - p < n → E8_atGoals_4 n (nI (zcnt (zat P) p)) (nI p) m ∧ (L8_atGoals_4 n (nI (zcnt (zat P) p)) (nI p) m).1 = nI (zcnt (zat P) s.no) := by
  have a1 := hs.no6
  have a2 := hs.nb4
  intro n
  induction n with
  | zero => intro p _ h; omega
  | succ n ih =>
    intro p hp hn
    unfold L8_atGoals_4 E8_atGoals_4
    rw [hE.no]
    by_cases e : p = s.no
    · rw [if_pos (z_let (by omega) (by omega)), e]
      exact ⟨fun q => absurd (z_let (by omega) (by omega)) q, rfl⟩
    · have hlt : ¬ nI s.no ≤ nI p := z_lef (by omega) (by omega)
      have h1 := hP.bk (show p < s.no by omega)
      have h2 := hP.gl (show p < s.no by omega)
      have h3 := zcnt_le (zat P) p
      rw [if_neg hlt, z8_bank hs hQ (by omega), z8_goal hs hQ (by omega)]
      have ev : nI (zcnt (zat P) p) + (if nI (P.bk p) = nI (P.gl p) then (1 : Int32) else 0) = nI (zcnt (zat P) (p + 1)) := by
        show _ = nI (zcnt (zat P) p + (if zat P p = true then 1 else 0))
        unfold zat
        by_cases e2 : P.bk p = P.gl p
        · rw [e2]; simp; rw [z_lit 1, nI_add]
        · rw [if_neg (fun q => e2 ((z_neq (by omega) (by omega)).mp q))]; simp [e2]
      rw [ev, z_lit 1, nI_add]
      obtain ⟨i1, i2⟩ := ih (p + 1) (by omega) (by omega)
      exact ⟨fun _ => ⟨z8_dbank hs (by omega), z8_v4 (c := 3) hs (by omega) (by omega), i1⟩, i2⟩
theorem zsum_le {f : Nat → Nat} : ∀ n, (∀ k, k < n → f k ≤ 20) → zsum f n ≤ 20 * n
  | 0, _ => Nat.le_refl _
  | n + 1, h => by
    have h1 := zsum_le n (fun k hk => h k (by omega))
    have h2 := h n (by omega)
    unfold zsum
    omega
theorem z7_stoneSum (hs : zW s) (hG : zG m g s P) : ∀ n k, k ≤ s.nb → s.nb - k < n → E1_allStones_4 g n (nI (zsum P.hp k)) (nI k) m ∧ (L1_allStones_4 g n (nI (zsum P.hp k)) (nI k) m).1 = nI (zsum P.hp s.nb) := by
  have a2 := hs.nb4
  intro n
  induction n with
  | zero => intro p _ h; omega
  | succ n ih =>
    intro p hp hn
    unfold L1_allStones_4 E1_allStones_4
    rw [hG.nb]
    by_cases e : p = s.nb
    · rw [if_pos (z_let (by omega) (by omega)), e]
      exact ⟨fun q => absurd (z_let (by omega) (by omega)) q, rfl⟩
    · have hlt : ¬ nI s.nb ≤ nI p := z_lef (by omega) (by omega)
      rw [if_neg hlt, z7_stones hG (by omega), nI_add, z_lit 1, nI_add]
      obtain ⟨i1, i2⟩ := ih (p + 1) (by omega) (by omega)
      exact ⟨fun _ => i1, i2⟩
theorem z8_stoneSum {a : Int32} (hQ : zQ m 0 s P) : ∀ n k, k ≤ 4 → 4 - k < n → E8_count_4 n a (nI (zsum P.hp k)) (nI k) m ∧ (L8_count_4 n a (nI (zsum P.hp k)) (nI k) m).1 = nI (zsum P.hp 4) := by
  intro n
  induction n with
  | zero => intro p _ h; omega
  | succ n ih =>
    intro p hp hn
    unfold L8_count_4 E8_count_4
    by_cases e : p = 4
    · subst e
      rw [if_pos (show (4 : Int32) ≤ nI 4 by decide)]
      exact ⟨fun q => absurd (show (4 : Int32) ≤ nI 4 by decide) q, rfl⟩
    · have hlt : ¬ (4 : Int32) ≤ nI p := z_lef (a := 4) (by omega) (by omega)
      rw [if_neg hlt, z8_stones hQ (by omega), nI_add, z_lit 1, nI_add]
      obtain ⟨i1, i2⟩ := ih (p + 1) (by omega) (by omega)
      exact ⟨fun _ => ⟨z8_vstones (by omega), i1⟩, i2⟩
theorem zsum_nb (hs : zW s) (hP : zV s P) : zsum P.hp s.nb = zsum P.hp 4 := by
  have a1 := hs.nb2
  have a2 := hs.nb4
  have h2 : s.nb ≤ 2 → P.hp 2 = 0 := fun h => hP.hp0 h (by omega)
  have h3 : s.nb ≤ 3 → P.hp 3 = 0 := fun h => hP.hp0 h (by omega)
  rcases (show s.nb = 2 ∨ s.nb = 3 ∨ s.nb = 4 by omega) with e | e | e <;> rw [e] <;> simp only [zsum]
  · rw [h2 (by omega), h3 (by omega)]; rfl
  · rw [h3 (by omega)]; rfl
theorem zok36 (h : zI m) : OK36 zI m := by
  obtain ⟨T, hT, h7, h8⟩ := id h
  intro a1
  have hw := hT.w
  obtain ⟨g1, g2⟩ := z7_goals hw hT.v h7.g 64 0 (by omega) (by have := hw.no6; omega)
  obtain ⟨g3, g4⟩ := z8_goals hw hT.v h8.e h8.q 64 0 (by omega) (by have := hw.no6; omega)
  obtain ⟨s1, s2⟩ := z7_stoneSum hw h7.g 64 0 (by omega) (by have := hw.nb4; omega)
  obtain ⟨s3, s4⟩ := z8_stoneSum (a := a1) h8.q 64 0 (by omega) (by omega)
  obtain ⟨k1, k2⟩ := z7_kept h7 (show 0 < 2 by omega)
  obtain ⟨k3, k4⟩ := z7_kept h7 (show 1 < 2 by omega)
  have hln := z7_lane h7 hT (k := 0) (by omega)
  have hsz := z7_size h7 (k := 0) (by omega)
  have c0 : Int32.toNatClampNeg 0 = 0 := z_ncl (a := 0) (by omega)
  have c1 : Int32.toNatClampNeg 1 = 1 := z_ncl (a := 1) (by omega)
  obtain ⟨t1, t2⟩ := hT.sh (k := 0) (by omega)
  refine ⟨?_, ?_, ?_, h⟩
  · unfold D7_count
    exact ⟨fun _ => g1, fun _ _ => ⟨fun _ => ⟨k2, k4⟩, fun _ _ _ _ => s1⟩⟩
  · exact ⟨s3, fun _ => g3⟩
  · unfold F7_count F8_count F1_atGoals F8_atGoals F1_allStones
    rw [show (F7_isKept 0 m) = zb (T.kp 0) from k1, show (F7_isKept 1 m) = zb (T.kp 1) from k3, c0, c1, h8.kp (by omega), h8.kp (by omega), h7.dn, h8.dn, h7.tn, h8.tn, h8.ln (by omega), h8.sz (by omega), show F5_laneOf 0 m = _ from hln, show F5_sizeOf 0 m = _ from hsz]
    rw [show (L1_atGoals_4 1 64 0 0 m).1 = _ from g2, show (L8_atGoals_4 64 0 0 m).1 = _ from g4, show (L1_allStones_4 1 64 0 0 m).1 = _ from s2, show (L8_count_4 64 a1 0 0 m).1 = _ from s4, zsum_nb hw hT.v]
    have e4 : (if (0 : Int32) ≤ (if T.ln 0 = 0 then -1 else nI (T.ln 0 - 1)) then nI (T.sz 0) else (-4)) = (if zLane (T.ln 0) = (-4) then (-4) else nI (T.sz 0)) := by
      by_cases e : T.ln 0 = 0
      · rw [if_pos e, if_pos ((zLane_n (by omega)).mpr e), if_neg (by decide)]
      · rw [if_neg e, if_neg (fun q => e ((zLane_n (by omega)).mp q)), if_pos (show (0 : Int32) ≤ nI (T.ln 0 - 1) from z_let (a := 0) (by omega) (by omega))]
    rw [e4]
end ZH
