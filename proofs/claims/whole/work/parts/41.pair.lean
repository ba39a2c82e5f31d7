/-! PURE: pairs -/
theorem z_nlt {a b : Nat} (ha : a < 2147483648) (hb : b < 2147483648) : nI a < nI b ↔ a < b := nI_ltI ha hb
theorem z_nle {a b : Nat} (ha : a < 2147483648) (hb : b < 2147483648) : nI a ≤ nI b ↔ a ≤ b := nI_leI ha hb
theorem z_neq {a b : Nat} (ha : a < 2147483648) (hb : b < 2147483648) : nI a = nI b ↔ a = b := nI_eq ha hb
theorem z_ncl {a : Nat} (ha : a < 2147483648) : (nI a).toNatClampNeg = a := nI_clamp ha
theorem z_nti {a : Nat} (ha : a < 2147483648) : (nI a).toInt = (a : Int) := nI_toInt ha
def zb (b : Bool) : Int32 := if b = true then 1 else 0
theorem zb_t : zb true = 1 := rfl
theorem zb_f : zb false = 0 := rfl
theorem zb_0 {b : Bool} : zb b = 0 ↔ b = false := by cases b <;> decide
theorem zb_n {b : Bool} : ¬ zb b = 0 ↔ b = true := by cases b <;> decide
theorem zb_1 {b : Bool} : zb b = 1 ↔ b = true := by cases b <;> decide
theorem z_ite0 {b : Bool} {α : Type} {x y : α} : (if zb b = 0 then x else y) = if b = true then y else x := by cases b <;> rfl
theorem z_ite1 {p : Prop} [Decidable p] : (if p then (1 : Int32) else 0) = zb (decide p) := by unfold zb; by_cases h : p <;> simp [h]
theorem z_iten {p : Prop} [Decidable p] : (if p then (0 : Int32) else 1) = zb (!decide p) := by unfold zb; by_cases h : p <;> simp [h]
def zpf (pl k1 k2 : Nat) : Nat := if k1 = 3 ∨ k2 = 3 then pl / 2 else if k1 = 4 ∨ k2 = 4 then 2 * pl else pl
theorem zpf_le {pl k1 k2 : Nat} (h : pl ≤ 20) : zpf pl k1 k2 ≤ 40 := by
  unfold zpf
  split
  · omega
  · split <;> omega
def zlv (pl sw k1 w1 k2 w2 i j : Nat) : Bool := decide (w1 + i * sw ≤ w2 + j * sw + zpf pl k1 k2 ∧ w2 + j * sw ≤ w1 + i * sw + zpf pl k1 k2)
def zlev (s : zS) (P : zP) (b p q i j : Nat) : Bool := zlv (P.pl b) s.sw (P.kd p) (P.wt p) (P.kd q) (P.wt q) i j
def zmay (f c k1 k2 : Nat) : Bool := !decide (k1 = 1 ∧ c = 0) && !decide (k2 = 1 ∧ f = 0)
def zcar (k : Nat) : Nat := if k = 2 then 3 else 1
def zpair (s : zS) (P : zP) (b p q : Nat) : Bool := decide (P.bk p = s.fs b ∧ P.bk q = s.sc b)
def zgo1 (s : zS) (P : zP) (b p q : Nat) : Bool := zmay (s.fs b) (s.sc b) (P.kd p) (P.kd q)
def zcan (s : zS) (P : zP) (b p q i j : Nat) : Bool := zpair s P b p q && zgo1 s P b p q && decide (i ≤ zcar (P.kd p) ∧ j ≤ zcar (P.kd q) ∧ i ≤ P.hp (s.fs b) ∧ j ≤ P.hp (s.sc b)) && zlev s P b p q i j
theorem zcar_le (k : Nat) : zcar k ≤ 3 := by unfold zcar; split <;> omega
section ZA
variable {m : ax_M} {g : Nat} {s : zS} {P : zP} {b p q i j : Nat}
theorem z7_first (hs : zW s) (hG : zG m g s P) (hb : b < s.ng) : F1_firstBank g (nI b) m = nI (s.fs b) := by
  have := hs.ng4
  unfold F1_firstBank; rw [z_at (by omega) (by omega), hG.fs hb]
theorem z7_second (hs : zW s) (hG : zG m g s P) (hb : b < s.ng) : F1_secondBank g (nI b) m = nI (s.sc b) := by
  have := hs.ng4
  unfold F1_secondBank; rw [z_at (by omega) (by omega), hG.sc hb]
theorem z7_play (hs : zW s) (hG : zG m g s P) (hb : b < s.ng) : F1_playOf g (nI b) m = nI (P.pl b) := by
  have := hs.ng4
  unfold F1_playOf; rw [z_at (by omega) (by omega), hG.pl hb]
theorem z7_kind (hs : zW s) (hG : zG m g s P) (hp : p < s.no) : F1_kindOf g (nI p) m = nI (P.kd p) := by
  have := hs.no6
  unfold F1_kindOf; rw [z_at (by omega) (by omega), hG.kd hp]
theorem z7_weight (hs : zW s) (hG : zG m g s P) (hp : p < s.no) : F1_weightOf g (nI p) m = nI (P.wt p) := by
  have := hs.no6
  unfold F1_weightOf; rw [z_at (by omega) (by omega), hG.wt hp]
theorem z7_bank (hs : zW s) (hG : zG m g s P) (hp : p < s.no) : F1_bankOf g (nI p) m = nI (P.bk p) := by
  have := hs.no6
  unfold F1_bankOf; rw [z_at (by omega) (by omega), hG.bk hp]
theorem z7_goal (hs : zW s) (hG : zG m g s P) (hp : p < s.no) : F1_goalOf g (nI p) m = nI (P.gl p) := by
  have := hs.no6
  unfold F1_goalOf; rw [z_at (by omega) (by omega), hG.gl hp]
theorem z7_stones (hG : zG m g s P) {k : Nat} (hk : k < 4) : F1_stonesOn g (nI k) m = nI (P.hp k) := by
  unfold F1_stonesOn; rw [z_at (by omega) (by omega), hG.hp hk]
theorem z7_carries (hs : zW s) (hP : zV s P) (hG : zG m g s P) (hp : p < s.no) : F1_carries g (nI p) m = nI (zcar (P.kd p)) := by
  have := hP.kd hp
  unfold F1_carries zcar; rw [z7_kind hs hG hp]
  by_cases h : P.kd p = 2
  · rw [h]; rfl
  · rw [if_neg h, if_neg]; rfl
    show ¬ nI (P.kd p) = nI 2
    rw [z_neq (by omega) (by omega)]; exact h
theorem z7_pf {k1 k2 : Nat} (hs : zW s) (hP : zV s P) (hG : zG m g s P) (hb : b < s.ng) (h1 : k1 ≤ 4) (h2 : k2 ≤ 4) : F1_playFor g (nI b) (nI k1) (nI k2) m = nI (zpf (P.pl b) k1 k2) := by
  have h3 := hP.pl hb
  unfold F1_playFor zpf
  rw [z7_play hs hG hb]
  simp (disch := omega) only [z_lit, z_neq, pk_mul]
  rw [pk_div (by omega) (by omega) (by omega), Nat.mul_comm (P.pl b) 2]
  by_cases e1 : k1 = 3
  · simp [e1]
  · by_cases e2 : k2 = 3
    · simp [e2]
    · by_cases e3 : k1 = 4
      · simp [e2, e3]
      · simp [e1, e2, e3]
        split <;> rfl
theorem z_abs {A B F : Nat} (hA : A < 100000) (hB : B < 100000) (hF : F < 100000) : (if nI F < (if 0 ≤ nI A - nI B then nI A - nI B else 0 - (nI A - nI B)) then (0 : Int32) else 1) = zb (decide (A ≤ B + F ∧ B ≤ A + F)) := by
  have hx : (nI A - nI B).toInt = (A : Int) - B := pk_sub_toInt (by omega) (by omega)
  have hy : (0 - (nI A - nI B)).toInt = (B : Int) - A := by
    rw [z_sub, hx]
    · show (0 : Int) - _ = _; omega
    · rw [hx]; show _ ≤ (0 : Int) - _; omega
    · rw [hx]; show (0 : Int) - _ < _; omega
  rw [z_iten]
  congr 1
  rw [← decide_not, decide_eq_decide, z_lt, z_nti (by omega)]
  by_cases h : 0 ≤ nI A - nI B
  · rw [if_pos h, hx]
    rw [z_le, hx] at h
    have h0 : (0 : Int32).toInt = 0 := rfl
    omega
  · rw [if_neg h, hy]
    rw [z_le, hx] at h
    have h0 : (0 : Int32).toInt = 0 := rfl
    omega
theorem z_ml {w i sw : Nat} : nI w + nI i * nI sw = nI (w + i * sw) := by rw [pk_mul, nI_add]
theorem z_sm {i sw : Nat} (hi : i ≤ 9) (hs : sw ≤ 9) : i * sw ≤ 81 := Nat.le_trans (Nat.mul_le_mul hi hs) (by omega)
theorem z7_level (hs : zW s) (hP : zV s P) (hG : zG m g s P) (hb : b < s.ng) (hp : p < s.no) (hq : q < s.no) (hi : i ≤ 9) (hj : j ≤ 9) : F1_isLevel g (nI b) (nI p) (nI q) (nI i) (nI j) m = zb (zlev s P b p q i j) := by
  have h1 := hP.wt hp
  have h2 := hP.wt hq
  have h3 := z_sm hi hs.sw9
  have h4 := z_sm hj hs.sw9
  have h5 := zpf_le (k1 := P.kd p) (k2 := P.kd q) (hP.pl hb)
  unfold F1_isLevel zlev zlv
  rw [z7_kind hs hG hp, z7_kind hs hG hq, z7_weight hs hG hp, z7_weight hs hG hq, hG.sw, z7_pf hs hP hG hb (hP.kd hp) (hP.kd hq), z_ml, z_ml]
  exact z_abs (by omega) (by omega) (by omega)
theorem z7_pair (hs : zW s) (hP : zV s P) (hG : zG m g s P) (hb : b < s.ng) (hp : p < s.no) (hq : q < s.no) : F1_isPair g (nI b) (nI p) (nI q) m = zb (decide (p ≠ q) && zpair s P b p q) := by
  have h1 := hP.bk hp
  have h2 := hP.bk hq
  have h3 := hs.fs hb
  have h4 := hs.sc hb
  have h5 := hs.nb4
  have h6 := hs.no6
  unfold F1_isPair zpair
  rw [z7_bank hs hG hp, z7_bank hs hG hq, z7_first hs hG hb, z7_second hs hG hb]
  simp (disch := omega) only [z_neq]
  by_cases e1 : p = q
  · simp [e1, zb]
  · by_cases e2 : P.bk p = s.fs b
    · by_cases e3 : P.bk q = s.sc b <;> simp [e1, e2, e3, zb]
    · simp [e1, e2, zb]
theorem z7_exile (hs : zW s) (hP : zV s P) (hG : zG m g s P) (hb : b < s.ng) (hp : p < s.no) (hq : q < s.no) : F1_isExileAgainst g (nI b) (nI p) (nI q) m = zb (!zgo1 s P b p q) := by
  have h1 := hP.kd hp
  have h2 := hP.kd hq
  have h3 := hs.fs hb
  have h4 := hs.sc hb
  have h5 := hs.nb4
  unfold F1_isExileAgainst zgo1 zmay
  rw [z7_kind hs hG hp, z7_kind hs hG hq, z7_first hs hG hb, z7_second hs hG hb]
  simp (disch := omega) only [z_lit, z_neq]
  by_cases e1 : P.kd p = 1 <;> by_cases e2 : s.sc b = 0 <;> by_cases e3 : P.kd q = 1 <;> by_cases e4 : s.fs b = 0 <;> simp [e1, e2, e3, e4, zb] <;> rfl
theorem z7_carriesSo (hs : zW s) (hP : zV s P) (hG : zG m g s P) (hp : p < s.no) (hi : i ≤ 9) : F1_carriesSo g (nI p) (nI i) m = zb (decide (i ≤ zcar (P.kd p) ∧ i ≤ P.hp (P.bk p))) := by
  have h1 := hP.bk hp
  have h5 := hs.nb4
  have h6 := zcar_le (P.kd p)
  have h7 := hP.hp (show P.bk p < 4 by omega)
  unfold F1_carriesSo
  rw [z7_carries hs hP hG hp, z7_bank hs hG hp, z7_stones hG (by omega)]
  simp (disch := omega) only [z_nlt]
  by_cases e1 : zcar (P.kd p) < i
  · rw [if_pos e1]; simp [zb]; omega
  · rw [if_neg e1]
    by_cases e2 : P.hp (P.bk p) < i
    · rw [if_pos e2]; simp [zb]; omega
    · rw [if_neg e2]; simp [zb]; omega
theorem z7_passes (hs : zW s) (hP : zV s P) (hG : zG m g s P) (hb : b < s.ng) (hp : p < s.no) (hq : q < s.no) (hi : i ≤ 9) (hj : j ≤ 9) : F1_passes g (nI b) (nI p) (nI q) (nI i) (nI j) m = zb (decide (p ≠ q) && zcan s P b p q i j) := by
  unfold F1_passes
  rw [z7_pair hs hP hG hb hp hq, z7_carriesSo hs hP hG hp hi, z7_carriesSo hs hP hG hq hj, z7_exile hs hP hG hb hp hq, z7_level hs hP hG hb hp hq hi hj]
  unfold zcan
  by_cases e1 : p = q
  · simp [e1, zb]
  · cases e2 : zpair s P b p q with
    | false => simp [e1, e2, zb]
    | true =>
      have e3 : P.bk p = s.fs b ∧ P.bk q = s.sc b := by
        unfold zpair at e2
        simpa using e2
      rw [e3.1, e3.2]
      cases e4 : zgo1 s P b p q <;> cases e5 : zlev s P b p q i j <;> simp [e1, zb]
      · by_cases e6 : i ≤ zcar (P.kd p) <;> by_cases e7 : i ≤ P.hp (s.fs b) <;> by_cases e8 : j ≤ zcar (P.kd q) <;> by_cases e9 : j ≤ P.hp (s.sc b) <;> simp [e6, e7, e8, e9]
        rw [if_neg (by omega), if_neg (by omega)]
end ZA
