/-! PURE: pairs, by the reference -/
section ZB
variable {m : ax_M} {s : zS} {P : zP} {b p q i j : Nat}
theorem z_vp {a n : Nat} (h : a < n) (hn : n < 1000000) : vp_in (nI a) n := vp_in_nI h (by omega)
theorem z8_first (hs : zW s) (hE : zE m s) (hb : b < s.ng) : m 76 (Int32.toNatClampNeg (2 * nI b)) = nI (s.fs b) := by
  have := hs.ng4
  rw [z_lit 2, pk_mul, z_ncl (by omega), hE.fs hb]
theorem z8_second (hs : zW s) (hE : zE m s) (hb : b < s.ng) : m 76 (Int32.toNatClampNeg ((2 * nI b) + 1)) = nI (s.sc b) := by
  have := hs.ng4
  rw [z_lit 2, pk_mul, z_lit 1, nI_add, z_ncl (by omega), hE.sc hb]
theorem z8_vf (hs : zW s) (hb : b < s.ng) : vp_in (2 * nI b) 8 := by
  have := hs.ng4
  rw [z_lit 2, pk_mul]; exact z_vp (by omega) (by omega)
theorem z8_vs (hs : zW s) (hb : b < s.ng) : vp_in ((2 * nI b) + 1) 8 := by
  have := hs.ng4
  rw [z_lit 2, pk_mul, z_lit 1, nI_add]; exact z_vp (by omega) (by omega)
theorem z8_play (hs : zW s) (hQ : zQ m 0 s P) (hb : b < s.ng) : m 75 (Int32.toNatClampNeg (28 + nI b)) = nI (P.pl b) := by
  have := hs.ng4
  rw [z_lit 28, nI_add, z_ncl (by omega), hQ.pl hb]
theorem z8_vplay (hs : zW s) (hb : b < s.ng) : vp_in (28 + nI b) 132 := by
  have := hs.ng4
  rw [z_lit 28, nI_add]; exact z_vp (by omega) (by omega)
theorem z8_stones (hQ : zQ m 0 s P) {k : Nat} (hk : k < 4) : m 75 (Int32.toNatClampNeg (24 + nI k)) = nI (P.hp k) := by
  rw [z_lit 24, nI_add, z_ncl (by omega), hQ.hp hk]
theorem z8_vstones {k : Nat} (hk : k < 4) : vp_in (24 + nI k) 132 := by
  rw [z_lit 24, nI_add]; exact z_vp (by omega) (by omega)
theorem z8_ix {c : Nat} (hp : p < 6) (hc : c < 10) : ((4 * nI p) + nI c : Int32) = nI (4 * p + c) := by
  rw [z_lit 4, pk_mul, nI_add]
theorem z8_ne6 (hs : zW s) (hp : p < s.no) : ¬ nI p = 6 := by
  have := hs.no6
  show ¬ nI p = nI 6
  rw [z_neq (by omega) (by omega)]; omega
theorem z8_kind (hs : zW s) (hQ : zQ m 0 s P) (hp : p < s.no) : F8_kindOf (nI p) m = nI (P.kd p) := by
  have := hs.no6
  unfold F8_kindOf
  rw [if_neg (z8_ne6 hs hp), z_lit 4, pk_mul, z_ncl (by omega), hQ.kd hp]
theorem z8_weight (hs : zW s) (hQ : zQ m 0 s P) (hp : p < s.no) : F8_weightOf (nI p) m = nI (P.wt p) := by
  have := hs.no6
  unfold F8_weightOf
  rw [if_neg (z8_ne6 hs hp), z_lit 4, z_lit 1, pk_mul, nI_add, z_ncl (by omega), hQ.wt hp]
theorem z8_bank (hs : zW s) (hQ : zQ m 0 s P) (hp : p < s.no) : F8_bankOf (nI p) m = nI (P.bk p) := by
  have := hs.no6
  unfold F8_bankOf
  rw [if_neg (z8_ne6 hs hp), z_lit 4, z_lit 2, pk_mul, nI_add, z_ncl (by omega), hQ.bk hp]
theorem z8_goal (hs : zW s) (hQ : zQ m 0 s P) (hp : p < s.no) : m 75 (Int32.toNatClampNeg ((4 * nI p) + 3)) = nI (P.gl p) := by
  have := hs.no6
  rw [z_lit 4, z_lit 3, pk_mul, nI_add, z_ncl (by omega), hQ.gl hp]
theorem z8_v4 {c : Nat} (hs : zW s) (hp : p < s.no) (hc : c ≤ 3) : vp_in ((4 * nI p) + nI c) 132 := by
  have := hs.no6
  rw [z_lit 4, pk_mul, nI_add]; exact z_vp (by omega) (by omega)
theorem z8_v0 (hs : zW s) (hp : p < s.no) : vp_in (4 * nI p) 132 := by
  have := hs.no6
  rw [z_lit 4, pk_mul]; exact z_vp (by omega) (by omega)
theorem z8_dkind (hs : zW s) (hp : p < s.no) : D8_kindOf (nI p) m := fun _ => z8_v0 hs hp
theorem z8_dweight (hs : zW s) (hp : p < s.no) : D8_weightOf (nI p) m := fun _ => z8_v4 (c := 1) hs hp (by omega)
theorem z8_dbank (hs : zW s) (hp : p < s.no) : D8_bankOf (nI p) m := fun _ => z8_v4 (c := 2) hs hp (by omega)
/-- what isLevel says, of any two seats whose kind and weight are known -/
theorem z8_lv {k1 w1 k2 w2 : Nat} {x y : Int32} (hs : zW s) (hP : zV s P) (hE : zE m s) (hQ : zQ m 0 s P) (hb : b < s.ng) (hk1 : F8_kindOf x m = nI k1) (hk2 : F8_kindOf y m = nI k2) (hw1 : F8_weightOf x m = nI w1) (hw2 : F8_weightOf y m = nI w2) (h1 : k1 ≤ 4) (h2 : k2 ≤ 4) (h3 : w1 ≤ 99) (h4 : w2 ≤ 99) (hi : i ≤ 9) (hj : j ≤ 9) : F8_isLevel (nI b) x y (nI i) (nI j) m = zb (zlv (P.pl b) s.sw k1 w1 k2 w2 i j) := by
  have h5 := z_sm hi hs.sw9
  have h6 := z_sm hj hs.sw9
  have h7 := zpf_le (k1 := k1) (k2 := k2) (hP.pl hb)
  have h8 := hP.pl hb
  have e : (if (if nI k1 = 3 then (1 : Int32) else if nI k2 = 3 then (1 : Int32) else 0) = 0 then (if (if nI k1 = 4 then (1 : Int32) else if nI k2 = 4 then (1 : Int32) else 0) = 0 then (nI (P.pl b) : Int32) else 2 * nI (P.pl b) : Int32) else nI (P.pl b) / 2) = nI (zpf (P.pl b) k1 k2) := by
    unfold zpf
    have c1 : (nI k1 = 3) ↔ k1 = 3 := by show nI k1 = nI 3 ↔ _; exact z_neq (by omega) (by omega)
    have c2 : (nI k2 = 3) ↔ k2 = 3 := by show nI k2 = nI 3 ↔ _; exact z_neq (by omega) (by omega)
    have c3 : (nI k1 = 4) ↔ k1 = 4 := by show nI k1 = nI 4 ↔ _; exact z_neq (by omega) (by omega)
    have c4 : (nI k2 = 4) ↔ k2 = 4 := by show nI k2 = nI 4 ↔ _; exact z_neq (by omega) (by omega)
    have c5 : nI (P.pl b) / 2 = nI (P.pl b / 2) := by show _ / nI 2 = _; exact pk_div (by omega) (by omega) (by omega)
    have c6 : 2 * nI (P.pl b) = nI (2 * P.pl b) := by show nI 2 * _ = _; exact pk_mul _ _
    simp only [c1, c2, c3, c4, c5, c6]
    by_cases e1 : k1 = 3 <;> by_cases e2 : k2 = 3 <;> by_cases e3 : k1 = 4 <;> by_cases e4 : k2 = 4 <;> simp [e1, e2, e3, e4] <;> omega
  unfold F8_isLevel zlv
  rw [hk1, hk2, hw1, hw2, hE.sw, z8_play hs hQ hb, e, pk_mul, pk_mul, nI_add]
  have t1 : (nI (w1 + i * s.sw) - nI w2).toInt = ((w1 + i * s.sw : Nat) : Int) - w2 := pk_sub_toInt (by omega) (by omega)
  have t2 : (nI (w1 + i * s.sw) - nI w2 - nI (j * s.sw)).toInt = ((w1 + i * s.sw : Nat) : Int) - w2 - (j * s.sw : Nat) := by
    rw [z_sub, t1, z_nti (by omega)]
    · rw [t1, z_nti (by omega)]; omega
    · rw [t1, z_nti (by omega)]; omega
  have t3 : (-nI (zpf (P.pl b) k1 k2)).toInt = -((zpf (P.pl b) k1 k2 : Nat) : Int) := sb_negT (by omega)
  rw [z_inL _ _ (z_i64 _) (z_i64 _), t2, t3, z_nti (by omega), z_ite1]
  congr 1
  rw [decide_eq_decide]
  omega
theorem z8_level (hs : zW s) (hP : zV s P) (hE : zE m s) (hQ : zQ m 0 s P) (hb : b < s.ng) (hp : p < s.no) (hq : q < s.no) (hi : i ≤ 9) (hj : j ≤ 9) : F8_isLevel (nI b) (nI p) (nI q) (nI i) (nI j) m = zb (zlev s P b p q i j) :=
  z8_lv hs hP hE hQ hb (z8_kind hs hQ hp) (z8_kind hs hQ hq) (z8_weight hs hQ hp) (z8_weight hs hQ hq) (hP.kd hp) (hP.kd hq) (hP.wt hp) (hP.wt hq) hi hj
theorem z8_dlevel {i j : Int32} (hs : zW s) (hb : b < s.ng) (hp : p < s.no) (hq : q < s.no) : D8_isLevel (nI b) (nI p) (nI q) i j m :=
  ⟨z8_vplay hs hb, z8_dkind hs hp, fun _ => z8_dkind hs hq, z8_dkind hs hp, fun _ => z8_dkind hs hq, z8_dweight hs hp, z8_dweight hs hq⟩
theorem z8_pair (hs : zW s) (hP : zV s P) (hE : zE m s) (hQ : zQ m 0 s P) (hb : b < s.ng) (hp : p < s.no) (hq : q < s.no) : F8_isPair (nI b) (nI p) (nI q) m = zb (zpair s P b p q) := by
  have h1 := hP.bk hp
  have h2 := hP.bk hq
  have h3 := hs.fs hb
  have h4 := hs.sc hb
  have h5 := hs.nb4
  unfold F8_isPair zpair
  rw [z8_bank hs hQ hp, z8_bank hs hQ hq, z8_first hs hE hb, z8_second hs hE hb]
  simp (disch := omega) only [z_neq]
  by_cases e2 : P.bk p = s.fs b
  · by_cases e3 : P.bk q = s.sc b <;> simp [e2, e3, zb]
  · simp [e2, zb]
theorem z8_dpair (hs : zW s) (hb : b < s.ng) (hp : p < s.no) (hq : q < s.no) : D8_isPair (nI b) (nI p) (nI q) m :=
  ⟨z8_dbank hs hp, z8_vf hs hb, fun _ => ⟨z8_dbank hs hq, z8_vs hs hb⟩⟩
theorem z8_my {k1 k2 : Nat} {x y : Int32} (hs : zW s) (hE : zE m s) (hb : b < s.ng) (hk1 : F8_kindOf x m = nI k1) (hk2 : F8_kindOf y m = nI k2) (h1 : k1 ≤ 4) (h2 : k2 ≤ 4) : F8_mayGo (nI b) x y m = zb (zmay (s.fs b) (s.sc b) k1 k2) := by
  have h3 := hs.fs hb
  have h4 := hs.sc hb
  have h5 := hs.nb4
  have c1 : (nI k1 = 1) ↔ k1 = 1 := by show nI k1 = nI 1 ↔ _; exact z_neq (by omega) (by omega)
  have c2 : (nI k2 = 1) ↔ k2 = 1 := by show nI k2 = nI 1 ↔ _; exact z_neq (by omega) (by omega)
  have c3 : (nI (s.fs b) = 0) ↔ s.fs b = 0 := by show nI _ = nI 0 ↔ _; exact z_neq (by omega) (by omega)
  have c4 : (nI (s.sc b) = 0) ↔ s.sc b = 0 := by show nI _ = nI 0 ↔ _; exact z_neq (by omega) (by omega)
  unfold F8_mayGo zmay
  rw [hk1, hk2, z8_first hs hE hb, z8_second hs hE hb]
  simp only [c1, c2, c3, c4]
  by_cases e1 : k1 = 1 <;> by_cases e2 : s.sc b = 0 <;> by_cases e3 : k2 = 1 <;> by_cases e4 : s.fs b = 0 <;> simp [e1, e2, e3, e4, zb]
theorem z8_may (hs : zW s) (hP : zV s P) (hE : zE m s) (hQ : zQ m 0 s P) (hb : b < s.ng) (hp : p < s.no) (hq : q < s.no) : F8_mayGo (nI b) (nI p) (nI q) m = zb (zgo1 s P b p q) :=
  z8_my hs hE hb (z8_kind hs hQ hp) (z8_kind hs hQ hq) (hP.kd hp) (hP.kd hq)
theorem z8_dmay (hs : zW s) (hb : b < s.ng) (hp : p < s.no) (hq : q < s.no) : D8_mayGo (nI b) (nI p) (nI q) m :=
  ⟨z8_dkind hs hp, fun _ => ⟨z8_vs hs hb, fun _ => ⟨z8_dkind hs hq, fun _ => z8_vf hs hb⟩⟩, fun _ => ⟨z8_dkind hs hq, fun _ => z8_vf hs hb⟩⟩
theorem z8_carries (hs : zW s) (hP : zV s P) (hQ : zQ m 0 s P) (hp : p < s.no) : F8_carries (nI p) m = nI (zcar (P.kd p)) := by
  have := hP.kd hp
  unfold F8_carries zcar; rw [z8_kind hs hQ hp]
  by_cases h : P.kd p = 2
  · rw [h]; rfl
  · rw [if_neg h, if_neg]; rfl
    show ¬ nI (P.kd p) = nI 2
    rw [z_neq (by omega) (by omega)]; exact h
theorem z8_can (hs : zW s) (hP : zV s P) (hE : zE m s) (hQ : zQ m 0 s P) (hb : b < s.ng) (hp : p < s.no) (hq : q < s.no) (hi : i ≤ 9) (hj : j ≤ 9) : F8_canCross (nI b) (nI p) (nI q) (nI i) (nI j) m = zb (zcan s P b p q i j) := by
  have h3 := hs.fs hb
  have h4 := hs.sc hb
  have h5 := hs.nb4
  have h6 := zcar_le (P.kd p)
  have h7 := zcar_le (P.kd q)
  have h8 := hP.hp (show s.fs b < 4 by omega)
  have h9 := hP.hp (show s.sc b < 4 by omega)
  unfold F8_canCross
  rw [z8_pair hs hP hE hQ hb hp hq, z8_may hs hP hE hQ hb hp hq, z8_carries hs hP hQ hp, z8_carries hs hP hQ hq, z8_first hs hE hb, z8_second hs hE hb, z8_stones hQ (by omega), z8_stones hQ (by omega), z8_level hs hP hE hQ hb hp hq hi hj]
  unfold zcan
  simp (disch := omega) only [z_nlt]
  cases e2 : zpair s P b p q <;> cases e4 : zgo1 s P b p q <;> cases e5 : zlev s P b p q i j <;> simp [zb]
  by_cases e6 : i ≤ zcar (P.kd p) <;> by_cases e7 : i ≤ P.hp (s.fs b) <;> by_cases e8 : j ≤ zcar (P.kd q) <;> by_cases e9 : j ≤ P.hp (s.sc b) <;> simp [e6, e7, e8, e9]
  all_goals first | omega | skip
  rw [if_neg (by omega), if_neg (by omega), if_neg (by omega), if_neg (by omega)]
theorem z8_dcan {i j : Int32} (hs : zW s) (hE : zE m s) (hb : b < s.ng) (hp : p < s.no) (hq : q < s.no) : D8_canCross (nI b) (nI p) (nI q) i j m := by
  have h3 := hs.fs hb
  have h4 := hs.sc hb
  have h5 := hs.nb4
  refine ⟨z8_dpair hs hb hp hq, fun _ => ⟨z8_dmay hs hb hp hq, fun _ => ⟨z8_dkind hs hp, fun _ => ⟨z8_dkind hs hq, fun _ => ⟨z8_vf hs hb, ?_, fun _ => ⟨z8_vs hs hb, ?_, fun _ => z8_dlevel hs hb hp hq⟩⟩⟩⟩⟩⟩
  · rw [z8_first hs hE hb]; exact z8_vstones (by omega)
  · rw [z8_second hs hE hb]; exact z8_vstones (by omega)
end ZB
