/-! PURE: worth, hire -/
section ZX1
variable {m : ax_M} {T : zT} {b : Nat} {s : zS} {P : zP}
theorem z_lay8 {wo : Nat} {hv : Bool} (hT : zWF T) (h8 : z8 m T) (hb : b < T.s.ng) (hwo : wo < 2 ^ 31) (hz : ∀ p q, p < T.s.no → q < T.s.no → zmn (zlo T.s T.P b p q) (zbal (zlo T.s T.P b p q))) : D8_layPairs (nI b) (nI wo) (-4) (zb hv) m ∧ (F8_layPairs (nI b) (nI wo) (-4) (zb hv) m).1 = nI (zfv (zcb T.s T.P b wo hv) (zrw 7) 0) ∧ z8 (F8_layPairs (nI b) (nI wo) (-4) (zb hv) m).2 T ∧ ∀ d, d < 74 → (F8_layPairs (nI b) (nI wo) (-4) (zb hv) m).2 d = m d := by
  have hw := hT.w
  obtain ⟨l1, l2, l3, l4, l5⟩ := z8_lay (m := m) (wo := wo) (sd := 2) (v3 := -4) (hv := zb hv) hw hT.v h8.e h8.q hb hwo (by decide) (by decide) (zcb_6 hz) (zcb_S hw) (zHw_b hw hT.v h8.e h8.q hb hz)
  rw [zval.1] at l2
  refine ⟨l1, l2, ?_, fun d hd => l5 d (by omega) (by omega) (by omega)⟩
  exact h8.of (fun k hk => l3.1.2.2 k (by unfold zsl at hk; omega) (by unfold zsl at hk; omega)) (fun c h1 h2 h3 => l5 c (by omega) (by unfold zsr at h3; omega) (by unfold zsr at h3; omega))
theorem zok19 (h : zI m) : OK19 zI m := by
  obtain ⟨T, hT, h7, h8⟩ := id h
  have hw := hT.w
  have n4 := hw.ng4
  have n6 := hw.no6
  intro a1 a2
  cases e1 : zin a1 T.s.ng with
  | false =>
    have e7 : F7_worth a1 a2 m = (-1, m) := by unfold F7_worth; rw [z7_hasBridge hw h7.g, e1]; rfl
    have e8 : F8_worth a1 a2 m = (-1, m) := by unfold F8_worth; rw [z8_isBridge hw h8.e, e1]; rfl
    rw [e7, e8]
    refine ⟨?_, ?_, rfl, h⟩
    · unfold D7_worth; rw [z7_hasBridge hw h7.g, e1]; exact fun q => absurd rfl q
    · unfold D8_worth; rw [z8_isBridge hw h8.e, e1]; exact fun q => absurd rfl q
  | true =>
    obtain ⟨b, hb, rfl⟩ := zin_t e1 (by omega)
    cases e2 : zin a2 T.s.no with
    | false =>
      have e7 : F7_worth (nI b) a2 m = (-1, m) := by unfold F7_worth; rw [z7_hasBridge hw h7.g, e1, z7_hasOne hw h7.g, e2]; rfl
      have e8 : F8_worth (nI b) a2 m = (-1, m) := by unfold F8_worth; rw [z8_isBridge hw h8.e, e1, z8_isOne hw h8.e, e2]; rfl
      rw [e7, e8]
      refine ⟨?_, ?_, rfl, h⟩
      · unfold D7_worth; rw [z7_hasOne hw h7.g, e2]; exact fun _ q => absurd rfl q
      · unfold D8_worth; rw [z8_isOne hw h8.e, e2]; exact fun _ q => absurd rfl q
    | true =>
      obtain ⟨p, hp, rfl⟩ := zin_t e2 (by omega)
      have hz : ∀ p q, p < T.s.no → q < T.s.no → zmn (zlo T.s T.P b p q) (zbal (zlo T.s T.P b p q)) := fun p q hp hq => (z7_load hw hT.v h7.g hb hp hq).2.2
      obtain ⟨g1, g2, g3⟩ := z2_gather (hv := false) hw hT.v h7.g hb
      rw [show zb false = (0 : Int32) from rfl] at g1 g2 g3
      obtain ⟨s1, s2, s3, s4, s5⟩ := z2_solve (zcb_6 hz) g3
      have d7 : D2_leaveOut (nI p) (F2_solve (F2_gather 1 (nI b) 0 m)) → D2_solve (F2_leaveOut (nI p) (F2_solve (F2_gather 1 (nI b) 0 m))) → D7_worth (nI b) (nI p) m := fun x y _ _ => ⟨g1, s1, x, y⟩
      have e7 : F7_worth (nI b) (nI p) m = (nI ((zfv (zcb T.s T.P b 0 false) (zrw 7) 0 + 999) / 1000) - (F2_solve (F2_leaveOut (nI p) (F2_solve (F2_gather 1 (nI b) 0 m)))) 55 3, F2_solve (F2_leaveOut (nI p) (F2_solve (F2_gather 1 (nI b) 0 m)))) := by
        unfold F7_worth; rw [z7_hasBridge hw h7.g, e1, z7_hasOne hw h7.g, e2, if_neg (show ¬ zb true = 0 by decide), if_neg (show ¬ zb true = 0 by decide), s3]
      rw [e7]
      have fr1 : ∀ d, (d < 55 ∨ 58 < d) → F2_solve (F2_gather 1 (nI b) 0 m) d = m d := fun d hd => by rw [s2 d (by omega) (by omega) (by omega), g2 d (by omega)]
      have g3' : zC56 (F2_solve (F2_gather 1 (nI b) 0 m)) (zcb T.s T.P b 0 false) := g3.same (s2 56 (by omega) (by omega) (by omega))
      generalize F2_solve (F2_gather 1 (nI b) 0 m) = m1 at *
      obtain ⟨o1, o2, o3⟩ := z2_leave (x := p) (by omega) g3'
      obtain ⟨t1, t2, t3, t4, t5⟩ := z2_solve (zcb_6 hz) o3
      rw [t3]
      have fr2 : ∀ d, (d < 55 ∨ 58 < d) → F2_solve (F2_leaveOut (nI p) m1) d = m d := fun d hd => by rw [t2 d (by omega) (by omega) (by omega), o2 d (by omega), fr1 d hd]
      have d7' := d7 o1 t1
      dsimp only
      generalize F2_solve (F2_leaveOut (nI p) m1) = m2 at *
      have h7' : z7 m2 T := h7.of (fun c _ hc => fr2 c (by unfold zsc at hc; omega))
      have h8' : z8 m2 T := h8.keep (fun c hc => fr2 c (by omega))
      obtain ⟨l1, l2, l3, l4⟩ := z_lay8 (wo := 0) (hv := false) hT h8' hb (by omega) hz
      rw [show nI 0 = (0 : Int32) from rfl, show zb false = (0 : Int32) from rfl] at l1 l2 l3 l4
      have hp2 : (2 : Nat) ^ p < 2 ^ 31 := Nat.pow_lt_pow_right (by decide) (by omega)
      obtain ⟨k1, k2, k3, k4⟩ := z_lay8 (wo := 2 ^ p) (hv := false) hT l3 hb hp2 hz
      rw [show zb false = (0 : Int32) from rfl] at k1 k2 k3 k4
      have esh : (1 : Int32) <<< (nI p &&& (31 : Int32)) = nI (2 ^ p) := by
        rw [z_lit 1, z_shl (by omega) (by omega), Nat.one_mul]
      have hV1 := zfv_le (c := zcb T.s T.P b 0 false) (zrw 7) 0
      have hV2 := zfv_le (c := zcb T.s T.P b (2 ^ p) false) (zrw 7) 0
      rw [zrw_l] at hV1 hV2
      have e8 : F8_worth (nI b) (nI p) m2 = (nI ((zfv (zcb T.s T.P b 0 false) (zrw 7) 0 + 999) / 1000) - nI ((zfv (zcb T.s T.P b (2 ^ p) false) (zrw 7) 0 + 999) / 1000), (F8_layPairs (nI b) (nI (2 ^ p)) (-4) 0 (F8_layPairs (nI b) 0 (-4) 0 m2).2).2) := by
        unfold F8_worth K8_worth_43
        rw [z8_isBridge hw h8'.e, e1, z8_isOne hw h8'.e, e2, if_neg (show ¬ zb true = 0 by decide), if_neg (show ¬ zb true = 0 by decide), l2, esh, k2, z8_po (by omega), z8_po (by omega)]
      have d8 : D8_worth (nI b) (nI p) m2 := fun _ _ => ⟨l1, by rw [esh]; exact k1⟩
      rw [e8]
      dsimp only
      exact ⟨d7', d8, rfl, zI.step hT h7' (fun c hc => (k4 c hc).trans (l4 c hc)) k3⟩
/-- with whom a new one of weight w could run his errand -/
def znf (s : zS) (P : zP) (b fr to w x : Nat) : Bool := decide (P.bk x = to ∧ P.gl x = fr) && !decide (P.kd x = 1 ∧ fr = 0) && decide (w ≤ P.wt x + zpf (P.pl b) 0 (P.kd x) ∧ P.wt x ≤ w + zpf (P.pl b) 0 (P.kd x))
theorem z_ablt {A B F : Nat} (hA : A < 100000) (hB : B < 100000) (hF : F < 100000) : (nI F < (if 0 ≤ nI A - nI B then nI A - nI B else 0 - (nI A - nI B))) ↔ ¬ (A ≤ B + F ∧ B ≤ A + F) := by
  have h := z_abs hA hB hF
  by_cases e : A ≤ B + F ∧ B ≤ A + F
  · rw [decide_eq_true e] at h
    refine ⟨fun w => ?_, fun w => absurd e w⟩
    rw [if_pos w] at h; exact absurd h (by decide)
  · rw [decide_eq_false e] at h
    refine ⟨fun _ => e, fun _ => ?_⟩
    apply Classical.byContradiction
    intro w
    rw [if_neg w] at h; exact absurd h (by decide)
theorem z7_fn {g fr to w : Nat} {v2 : Int32} (hs : zW s) (hP : zV s P) (hG : zG m g s P) (hb : b < s.ng) (hf : fr < 4) (ht : to < 4) (hw : w ≤ 99) : ∀ n x, x ≤ s.no → s.no - x < n → E1_fellowsOfNew_44 g n (nI b) v2 (nI w) (nI fr) (nI to) (nI (zbits (znf s P b fr to w) x)) (nI x) m ∧ (L1_fellowsOfNew_44 g n (nI b) v2 (nI w) (nI fr) (nI to) (nI (zbits (znf s P b fr to w) x)) (nI x) m).1 = nI (zbits (znf s P b fr to w) s.no) := by
  have a1 := hs.no6
  have a2 := hs.nb4
  intro n
  induction n with
  | zero => intro p _ h; omega
  | succ n ih =>
    intro p hp hn
    unfold L1_fellowsOfNew_44 E1_fellowsOfNew_44
    rw [hG.no]
    by_cases e : p = s.no
    · rw [if_pos (z_let (by omega) (by omega)), e]
      exact ⟨fun q => absurd (z_let (by omega) (by omega)) q, rfl⟩
    · have hlt : ¬ nI s.no ≤ nI p := z_lef (by omega) (by omega)
      have hp' : p < s.no := by omega
      have h1 := hP.bk hp'
      have h2 := hP.gl hp'
      have h3 := hP.kd hp'
      have h4 := hP.wt hp'
      have h5 := zpf_le (k1 := 0) (k2 := P.kd p) (hP.pl hb)
      have hpf : F1_playFor g (nI b) 0 (nI (P.kd p)) m = nI (zpf (P.pl b) 0 (P.kd p)) := z7_pf (k1 := 0) hs hP hG hb (by omega) h3
      rw [if_neg hlt, z7_bank hs hG hp', z7_goal hs hG hp', z7_kind hs hG hp', z7_weight hs hG hp', hpf]
      have c1 : (nI (P.bk p) = nI to) ↔ P.bk p = to := z_neq (by omega) (by omega)
      have c2 : (nI (P.gl p) = nI fr) ↔ P.gl p = fr := z_neq (by omega) (by omega)
      have c3 : (nI (P.kd p) = 1) ↔ P.kd p = 1 := z_neq (b := 1) (by omega) (by omega)
      have c4 : (nI fr = 0) ↔ fr = 0 := z_neq (b := 0) (by omega) (by omega)
      have c5 := z_ablt (A := w) (B := P.wt p) (F := zpf (P.pl b) 0 (P.kd p)) (by omega) (by omega) (by omega)
      simp only [c1, c2, c3, c4, c5]
      have ev : (if P.bk p = to then (if P.gl p = fr then (if P.kd p = 1 then (if fr = 0 then nI (zbits (znf s P b fr to w) p) else if ¬ (w ≤ P.wt p + zpf (P.pl b) 0 (P.kd p) ∧ P.wt p ≤ w + zpf (P.pl b) 0 (P.kd p)) then nI (zbits (znf s P b fr to w) p) else nI (zbits (znf s P b fr to w) p) ||| ((1 : Int32) <<< (nI p &&& (31 : Int32)))) else if ¬ (w ≤ P.wt p + zpf (P.pl b) 0 (P.kd p) ∧ P.wt p ≤ w + zpf (P.pl b) 0 (P.kd p)) then nI (zbits (znf s P b fr to w) p) else nI (zbits (znf s P b fr to w) p) ||| ((1 : Int32) <<< (nI p &&& (31 : Int32)))) else nI (zbits (znf s P b fr to w) p)) else nI (zbits (znf s P b fr to w) p)) = nI (zbits (znf s P b fr to w) (p + 1)) := by
        have hzn : znf s P b fr to w p = (decide (P.bk p = to ∧ P.gl p = fr) && !decide (P.kd p = 1 ∧ fr = 0) && decide (w ≤ P.wt p + zpf (P.pl b) 0 (P.kd p) ∧ P.wt p ≤ w + zpf (P.pl b) 0 (P.kd p))) := rfl
        rw [z_bit (by omega), zbits_s, hzn]
        generalize zpf (P.pl b) 0 (P.kd p) = F
        generalize zbits (znf s P b fr to w) p = Z
        by_cases e1 : P.bk p = to <;> by_cases e2 : P.gl p = fr <;> by_cases e3 : P.kd p = 1 <;> by_cases e4 : fr = 0 <;> by_cases e5 : (w ≤ P.wt p + F ∧ P.wt p ≤ w + F) <;> first | (simp [e1, e2, e3, e4, e5]; done) | (subst e4; simp [e1, e2, e3, e5]; done)
      rw [ev, nI_1]
      obtain ⟨i1, i2⟩ := ih (p + 1) (by omega) (by omega)
      exact ⟨fun _ => i1, i2⟩
noncomputable def zcn (s : zS) (P : zP) (b sd B p q : Nat) : Option Nat := if p = 6 ∧ sd = 0 then (if q < 6 ∧ B.testBit q = true then some 0 else none) else if q = 6 ∧ sd = 1 then (if p < 6 ∧ B.testBit p = true then some 0 else none) else zcb s P b 0 false p q
theorem z2_sn {sd B X : Nat} {v1 : Int32} (h01 : sd = 0 ∨ sd = 1) (h10 : v1 = 0 ↔ sd = 0) (hB : B < 64) : ∀ n x m, x ≤ 6 → 6 - x < n → (∀ p q, p < 7 → q < 7 → m 56 (p * 7 + q) = zeo (if (p = 6 ∧ sd = 0 ∧ q < x) ∨ (q = 6 ∧ sd = 1 ∧ p < x) then zcn s P b sd B p q else zcn s P b sd X p q)) → E2_seatNew_2 n v1 (nI B) (nI x) m ∧ (∀ d, d ≠ 56 → (L2_seatNew_2 n v1 (nI B) (nI x) m).2 d = m d) ∧ zC56 (L2_seatNew_2 n v1 (nI B) (nI x) m).2 (zcn s P b sd B) := by
  intro n
  induction n with
  | zero => intro q m _ h; omega
  | succ n ih =>
    intro x m hx hn h56
    unfold E2_seatNew_2 L2_seatNew_2
    by_cases e : x = 6
    · subst e
      rw [if_pos (show (6 : Int32) ≤ nI 6 by decide)]
      refine ⟨fun w => absurd (show (6 : Int32) ≤ nI 6 by decide) w, fun _ _ => rfl, fun p q hp hq => ?_⟩
      refine (h56 p q hp hq).trans ?_
      congr 1
      by_cases w : (p = 6 ∧ sd = 0 ∧ q < 6) ∨ (q = 6 ∧ sd = 1 ∧ p < 6)
      · rw [if_pos w]
      · rw [if_neg w]
        unfold zcn
        by_cases w1 : p = 6 ∧ sd = 0
        · rw [if_pos w1, if_pos w1, if_neg (by omega), if_neg (by omega)]
        · rw [if_neg w1, if_neg w1]
          by_cases w2 : q = 6 ∧ sd = 1
          · rw [if_pos w2, if_pos w2, if_neg (by omega), if_neg (by omega)]
          · rw [if_neg w2, if_neg w2]
    · have hlt : ¬ (6 : Int32) ≤ nI x := z_lef (a := 6) (by omega) (by omega)
      have hx6 : x < 6 := by omega
      have hbit : ((nI B >>> (nI x &&& (31 : Int32))) &&& 1) - 1 = zeo (if B.testBit x = true then some 0 else none) := by
        rw [z_shr (by omega) (by omega), z_lit 1, z_and, show B / 2 ^ x &&& 1 = B / 2 ^ x % 2 from Nat.and_one_is_mod _, Nat.testBit_eq_decide_div_mod_eq]
        by_cases w : B / 2 ^ x % 2 = 1
        · rw [w, decide_eq_true rfl]; rfl
        · rw [show B / 2 ^ x % 2 = 0 by omega]; rfl
      have hix : (if v1 = 0 then (42 + nI x : Int32) else (nI x * 7) + 6) = nI (if sd = 0 then 42 + x else x * 7 + 6) := by
        rcases h01 with w | w
        · rw [if_pos (h10.mpr w), if_pos w, z_lit 42, nI_add]
        · rw [if_neg (fun y => by have := h10.mp y; omega), if_neg (by omega), z_lit 7, pk_mul, z_lit 6, nI_add]
      have hii : (if sd = 0 then 42 + x else x * 7 + 6) < 49 := by split <;> omega
      rw [if_neg hlt, hbit, hix, z_put hii (by omega), nI_1]
      obtain ⟨i1, i2, i3⟩ := ih (x + 1) (ax_up m 56 (if sd = 0 then 42 + x else x * 7 + 6) (zeo (if B.testBit x = true then some 0 else none))) (by omega) (by omega) (fun p q hp hq => by
        rw [z_up, h56 p q hp hq]
        rcases h01 with w | w
        · rw [if_pos w]
          by_cases w1 : p = 6 ∧ q = x
          · have wv : (p = 6 ∧ sd = 0 ∧ q < x + 1) ∨ (q = 6 ∧ sd = 1 ∧ p < x + 1) := by omega
            have hcn : zcn s P b sd B p q = if B.testBit x = true then some 0 else none := by
              unfold zcn
              rw [if_pos ⟨w1.1, w⟩, w1.2]
              cases B.testBit x <;> simp [hx6]
            rw [if_pos ⟨rfl, by omega⟩, if_pos wv, hcn]
          · rw [if_neg (by omega)]
            congr 1
            by_cases w2 : (p = 6 ∧ sd = 0 ∧ q < x) ∨ (q = 6 ∧ sd = 1 ∧ p < x)
            · rw [if_pos w2, if_pos (by omega)]
            · rw [if_neg w2, if_neg (by omega)]
        · rw [if_neg (show ¬ sd = 0 by omega)]
          by_cases w1 : q = 6 ∧ p = x
          · have wv : (p = 6 ∧ sd = 0 ∧ q < x + 1) ∨ (q = 6 ∧ sd = 1 ∧ p < x + 1) := by omega
            have hcn : zcn s P b sd B p q = if B.testBit x = true then some 0 else none := by
              unfold zcn
              rw [if_neg (show ¬ (p = 6 ∧ sd = 0) by omega), if_pos ⟨w1.1, w⟩, w1.2]
              cases B.testBit x <;> simp [hx6]
            rw [if_pos ⟨rfl, by omega⟩, if_pos wv, hcn]
          · rw [if_neg (by omega)]
            congr 1
            by_cases w2 : (p = 6 ∧ sd = 0 ∧ q < x) ∨ (q = 6 ∧ sd = 1 ∧ p < x)
            · rw [if_pos w2, if_pos (by omega)]
            · rw [if_neg w2, if_neg (by omega)])
      exact ⟨fun _ => i1, fun d hd => by rw [i2 d hd, z_upr hd], i3⟩
theorem zcn_6 {sd B : Nat} (hz : ∀ p q, p < s.no → q < s.no → zmn (zlo s P b p q) (zbal (zlo s P b p q))) : ∀ p q x, zcn s P b sd B p q = some x → x ≤ 6 := fun p q x h => by
  unfold zcn at h
  split at h
  · split at h
    · cases h; omega
    · cases h
  · split at h
    · split at h
      · cases h; omega
      · cases h
    · exact zcb_6 hz p q x h
theorem zcn_0 {sd : Nat} (hs : zW s) {p q : Nat} : zcb s P b 0 false p q = zcn s P b sd 0 p q := by
  have n6 := hs.no6
  unfold zcn
  by_cases w1 : p = 6 ∧ sd = 0
  · rw [if_pos w1, if_neg (by rw [Nat.zero_testBit]; simp)]
    unfold zcb
    rw [if_neg]
    rintro ⟨h1, _⟩
    have := (zFi2.mp h1).1
    omega
  · rw [if_neg w1]
    by_cases w2 : q = 6 ∧ sd = 1
    · rw [if_pos w2, if_neg (by rw [Nat.zero_testBit]; simp)]
      unfold zcb
      rw [if_neg]
      rintro ⟨_, h1⟩
      have := (zSe2.mp h1).1
      omega
    · rw [if_neg w2]
/-- the bits of a new one's fellows, by side and weight -/
def znb (s : zS) (P : zP) (b sd w : Nat) : Nat := zbits (znf s P b (if sd = 0 then s.fs b else s.sc b) (if sd = 0 then s.sc b else s.fs b) w) s.no
theorem znb_lt {sd w : Nat} (hs : zW s) : znb s P b sd w < 64 := by
  have h1 := zbits_lt (znf s P b (if sd = 0 then s.fs b else s.sc b) (if sd = 0 then s.sc b else s.fs b) w) s.no
  have h2 : (2 : Nat) ^ s.no ≤ 2 ^ 6 := Nat.pow_le_pow_right (by decide) hs.no6
  unfold znb
  omega
theorem znb_t {sd w x : Nat} (h : (znb s P b sd w).testBit x = true) : x < s.no ∧ (znf s P b (if sd = 0 then s.fs b else s.sc b) (if sd = 0 then s.sc b else s.fs b) w x) = true := by
  unfold znb at h
  rw [zbits_tb, Bool.and_eq_true, decide_eq_true_eq] at h
  exact h
theorem znf_e {fr to w x : Nat} (h : znf s P b fr to w x = true) : P.bk x = to ∧ P.gl x = fr := by
  unfold znf at h
  simp only [Bool.and_eq_true, decide_eq_true_eq] at h
  exact h.1.1
theorem zFi_o {wo sd p : Nat} : zFi s P b wo sd p = true ↔ (p < s.no ∧ zerr P wo (s.fs b) (s.sc b) p = true) ∨ (p = 6 ∧ sd = 0) := by
  unfold zFi; simp
theorem zSe_o {wo sd p : Nat} : zSe s P b wo sd p = true ↔ (p < s.no ∧ zerr P wo (s.sc b) (s.fs b) p = true) ∨ (p = 6 ∧ sd = 1) := by
  unfold zSe; simp
/-- where a new one's costs are some, he has an errand, and so has his fellow -/
theorem zcn_fs {sd w p q : Nat} (hs : zW s) (h01 : sd = 0 ∨ sd = 1) (h : zcn s P b sd (znb s P b sd w) p q ≠ none) : zFi s P b 0 sd p = true ∧ zSe s P b 0 sd q = true ∧ q < 7 := by
  have n6 := hs.no6
  unfold zcn at h
  by_cases w1 : p = 6 ∧ sd = 0
  · rw [if_pos w1] at h
    by_cases w2 : q < 6 ∧ (znb s P b sd w).testBit q = true
    · obtain ⟨k1, k2⟩ := znb_t w2.2
      rw [if_pos w1.2, if_pos w1.2] at k2
      have := znf_e k2
      exact ⟨zFi_o.mpr (Or.inr w1), zSe_o.mpr (Or.inl ⟨k1, zerr0.mpr this⟩), by omega⟩
    · rw [if_neg w2] at h; exact absurd rfl h
  · rw [if_neg w1] at h
    by_cases w3 : q = 6 ∧ sd = 1
    · rw [if_pos w3] at h
      by_cases w2 : p < 6 ∧ (znb s P b sd w).testBit p = true
      · obtain ⟨k1, k2⟩ := znb_t w2.2
        rw [if_neg (by omega), if_neg (by omega)] at k2
        have := znf_e k2
        exact ⟨zFi_o.mpr (Or.inl ⟨k1, zerr0.mpr this⟩), zSe_o.mpr (Or.inr w3), by omega⟩
      · rw [if_neg w2] at h; exact absurd rfl h
    · rw [if_neg w3] at h
      unfold zcb at h
      by_cases w4 : zFi s P b 0 2 p = true ∧ zSe s P b 0 2 q = true
      · have h1 := zFi2.mp w4.1
        have h2 := zSe2.mp w4.2
        exact ⟨zFi_o.mpr (Or.inl h1), zSe_o.mpr (Or.inl h2), by omega⟩
      · rw [if_neg w4] at h; exact absurd rfl h
theorem zlv_sym {pl sw w1 w2 k : Nat} : zlv pl sw k w1 0 w2 0 0 = decide (w2 ≤ w1 + zpf pl 0 k ∧ w1 ≤ w2 + zpf pl 0 k) := by
  have : zpf pl k 0 = zpf pl 0 k := by unfold zpf; simp
  unfold zlv
  rw [this, decide_eq_decide]; omega
theorem zHw_n {sd w : Nat} (hs : zW s) (hP : zV s P) (hE : zE m s) (hQ : zQ m 0 s P) (hb : b < s.ng) (h01 : sd = 0 ∨ sd = 1) (hz : ∀ p q, p < s.no → q < s.no → zmn (zlo s P b p q) (zbal (zlo s P b p q))) (hw : w ≤ 99) (h32 : m 74 32 = nI w) : zHw m (zcn s P b sd (znb s P b sd w)) ((List.range 7).filter (zFi s P b 0 sd)) (zbits (zSe s P b 0 sd) 7) (nI b) 0 := fun m' hK p q hp hq hS => by
  have n6 := hs.no6
  have n4 := hs.nb4
  have h1 := (List.mem_filter.mp hp).2
  rw [zbits_tb, Bool.and_eq_true] at hS
  have hS2 := hS.2
  have h32' : m' 74 32 = nI w := by rw [hK.2.2 32 (by omega) (by omega)]; exact h32
  have k6 : F8_kindOf 6 m' = nI 0 := by unfold F8_kindOf; rw [if_pos rfl]; rfl
  have w6 : F8_weightOf 6 m' = nI w := by unfold F8_weightOf; rw [if_pos rfl]; exact h32'
  have d6 : D8_kindOf 6 m' := fun x => absurd rfl x
  have dw6 : D8_weightOf 6 m' := fun x => absurd rfl x
  have E' := hK.e hE
  have Q' := hK.qq hQ
  have fin : ∀ (Bo : Bool), (if zb Bo = 0 then ((-4) : Int32) else 0 : Int32) = zen (if Bo = true then some 0 else none) := fun Bo => by cases Bo <;> rfl
  rcases zFi_o.mp h1 with f1 | f1
  · rcases zSe_o.mp hS2 with f2 | f2
    · have := z8_wo (hv := false) hs hP E' Q' hb f1.1 f2.1 (hz p q f1.1 f2.1)
      rw [show zb false = (0 : Int32) from rfl] at this
      refine ⟨this.1, this.2.trans ?_⟩
      unfold zcn zcb
      rw [if_neg (by omega), if_neg (by omega), if_pos ⟨zFi2.mpr f1, zSe2.mpr f2⟩]
    · obtain ⟨rfl, rfl⟩ := f2
      have hp' := f1.1
      have er := zerr0.mp f1.2
      have kd := hP.kd hp'
      have wt := hP.wt hp'
      have my := z8_my (x := nI p) (y := 6) hs E' hb (z8_kind hs Q' hp') k6 kd (by omega)
      have lv : F8_isLevel (nI b) (nI p) 6 0 0 m' = _ := z8_lv (i := 0) (j := 0) (x := nI p) (y := 6) hs hP E' Q' hb (z8_kind hs Q' hp') k6 (z8_weight hs Q' hp') w6 kd (by omega) wt hw (by omega) (by omega)
      rw [zlv_sym] at lv
      show D8_worthOf (nI b) (nI p) 6 0 m' ∧ F8_worthOf (nI b) (nI p) 6 0 m' = _
      unfold D8_worthOf F8_worthOf
      rw [my, lv]
      refine ⟨⟨⟨z8_dkind hs hp', fun _ => ⟨z8_vs hs hb, fun _ => ⟨d6, fun _ => z8_vf hs hb⟩⟩, fun _ => ⟨d6, fun _ => z8_vf hs hb⟩⟩, fun _ => ⟨fun _ => ⟨z8_vplay hs hb, z8_dkind hs hp', fun _ => d6, z8_dkind hs hp', fun _ => d6, z8_dweight hs hp', dw6⟩, fun x => absurd rfl x⟩⟩, ?_⟩
      have hb2 : (znb s P b 1 w).testBit p = (zmay (s.fs b) (s.sc b) (P.kd p) 0 && decide (w ≤ P.wt p + zpf (P.pl b) 0 (P.kd p) ∧ P.wt p ≤ w + zpf (P.pl b) 0 (P.kd p))) := by
        unfold znb
        rw [zbits_tb, decide_eq_true hp', Bool.true_and]
        unfold znf zmay
        rw [if_neg (show ¬ 1 = 0 by omega), if_neg (show ¬ 1 = 0 by omega), decide_eq_true er]
        simp
      have hp6 : p < 6 := by omega
      have hcn : zcn s P b 1 (znb s P b 1 w) p 6 = if (zmay (s.fs b) (s.sc b) (P.kd p) 0 && decide (w ≤ P.wt p + zpf (P.pl b) 0 (P.kd p) ∧ P.wt p ≤ w + zpf (P.pl b) 0 (P.kd p))) = true then some 0 else none := by
        unfold zcn
        rw [if_neg (show ¬ (p = 6 ∧ 1 = 0) by omega), if_pos (show 6 = 6 ∧ 1 = 1 from ⟨rfl, rfl⟩), hb2]
        simp only [hp6, true_and]
      rw [hcn, if_pos (show (0 : Int32) = 0 from rfl)]
      generalize zmay (s.fs b) (s.sc b) (P.kd p) 0 = B1
      generalize decide (w ≤ P.wt p + zpf (P.pl b) 0 (P.kd p) ∧ P.wt p ≤ w + zpf (P.pl b) 0 (P.kd p)) = B2
      cases B1 <;> cases B2 <;> rfl
  · obtain ⟨rfl, rfl⟩ := f1
    rcases zSe_o.mp hS2 with f2 | f2
    · have hq' := f2.1
      have er := zerr0.mp f2.2
      have kd := hP.kd hq'
      have wt := hP.wt hq'
      have my := z8_my (x := 6) (y := nI q) hs E' hb k6 (z8_kind hs Q' hq') (by omega) kd
      have lv : F8_isLevel (nI b) 6 (nI q) 0 0 m' = _ := z8_lv (i := 0) (j := 0) (x := 6) (y := nI q) hs hP E' Q' hb k6 (z8_kind hs Q' hq') w6 (z8_weight hs Q' hq') (by omega) kd hw wt (by omega) (by omega)
      show D8_worthOf (nI b) 6 (nI q) 0 m' ∧ F8_worthOf (nI b) 6 (nI q) 0 m' = _
      unfold D8_worthOf F8_worthOf
      rw [my, lv]
      refine ⟨⟨⟨d6, fun _ => ⟨z8_vs hs hb, fun _ => ⟨z8_dkind hs hq', fun _ => z8_vf hs hb⟩⟩, fun _ => ⟨z8_dkind hs hq', fun _ => z8_vf hs hb⟩⟩, fun _ => ⟨fun _ => ⟨z8_vplay hs hb, d6, fun _ => z8_dkind hs hq', d6, fun _ => z8_dkind hs hq', dw6, z8_dweight hs hq'⟩, fun x => absurd rfl x⟩⟩, ?_⟩
      have hb2 : (znb s P b 0 w).testBit q = (zmay (s.fs b) (s.sc b) 0 (P.kd q) && zlv (P.pl b) s.sw 0 w (P.kd q) (P.wt q) 0 0) := by
        unfold znb
        rw [zbits_tb, decide_eq_true hq', Bool.true_and]
        unfold znf zmay zlv
        rw [if_pos rfl, if_pos rfl, decide_eq_true er]
        simp
      have hq6 : q < 6 := by omega
      have hcn : zcn s P b 0 (znb s P b 0 w) 6 q = if (zmay (s.fs b) (s.sc b) 0 (P.kd q) && zlv (P.pl b) s.sw 0 w (P.kd q) (P.wt q) 0 0) = true then some 0 else none := by
        unfold zcn
        rw [if_pos (show 6 = 6 ∧ 0 = 0 from ⟨rfl, rfl⟩), hb2]
        simp only [hq6, true_and]
      rw [hcn, if_pos (show (0 : Int32) = 0 from rfl)]
      generalize zmay (s.fs b) (s.sc b) 0 (P.kd q) = B1
      generalize zlv (P.pl b) s.sw 0 w (P.kd q) (P.wt q) 0 0 = B2
      cases B1 <;> cases B2 <;> rfl
    · omega
/-- the pairs with a new one whose fellows are B -/
noncomputable def zNn (s : zS) (P : zP) (b sd B : Nat) : Nat := (zfv (zcn s P b sd B) (zrw 7) 0 + 999) / 1000
theorem zNn_le {sd B : Nat} : zNn s P b sd B ≤ 7 ∧ zfv (zcn s P b sd B) (zrw 7) 0 ≤ 7000 := by
  have := zfv_le (c := zcn s P b sd B) (zrw 7) 0
  rw [zrw_l] at this
  unfold zNn
  omega
/-- the first weight that makes the most pairs: one more than the most, and the weight -/
noncomputable def zhr (s : zS) (P : zP) (b sd : Nat) : Nat → Nat × Nat
  | 0 => (0, 0)
  | k + 1 => if zNn s P b sd (znb s P b sd (k + 1)) + 1 ≤ (zhr s P b sd k).1 then zhr s P b sd k else (zNn s P b sd (znb s P b sd (k + 1)) + 1, k + 1)
theorem zhr_le {sd : Nat} : ∀ k, (zhr s P b sd k).1 ≤ 8 ∧ (zhr s P b sd k).2 ≤ k ∧ (0 < k → 0 < (zhr s P b sd k).1)
  | 0 => ⟨by show 0 ≤ 8; omega, Nat.le_refl _, fun h => by omega⟩
  | k + 1 => by
    have ih := zhr_le (sd := sd) k
    have := (zNn_le (s := s) (P := P) (b := b) (sd := sd) (B := znb s P b sd (k + 1))).1
    unfold zhr
    split
    · refine ⟨ih.1, by omega, fun _ => by omega⟩
    · refine ⟨by dsimp only; omega, by dsimp only; omega, fun _ => by dsimp only; omega⟩
def zhm (d : Int32) (n : Nat) : Int32 := if n = 0 then d else nI (n - 1)
theorem zhm_le {d : Int32} (hd : d = -1 ∨ d = -4) {n x : Nat} (hn : n ≤ 8) (hx : x ≤ 7) : (nI x ≤ zhm d n) ↔ x + 1 ≤ n := by
  unfold zhm
  by_cases e : n = 0
  · rw [if_pos e, z_le, z_nti (by omega)]
    rcases hd with rfl | rfl
    · rw [show (-1 : Int32).toInt = -1 from rfl]; omega
    · rw [show (-4 : Int32).toInt = -4 from rfl]; omega
  · rw [if_neg e, z_nle (by omega) (by omega)]; omega
theorem z7_fnew {sd w : Nat} (hs : zW s) (hP : zV s P) (hG : zG m 1 s P) (hb : b < s.ng) (h01 : sd = 0 ∨ sd = 1) (hw : w ≤ 99) : D1_fellowsOfNew 1 (nI b) (nI sd) (nI w) m ∧ F1_fellowsOfNew 1 (nI b) (nI sd) (nI w) m = nI (znb s P b sd w) := by
  have n4 := hs.nb4
  have f1 := hs.fs hb
  have f2 := hs.sc hb
  have n6 := hs.no6
  unfold D1_fellowsOfNew F1_fellowsOfNew znb
  rw [z7_first hs hG hb, z7_second hs hG hb]
  have c0 : (nI sd = 0) ↔ sd = 0 := z_neq (b := 0) (by omega) (by omega)
  simp only [c0]
  rcases h01 with e | e
  · rw [if_pos e, if_pos e, if_pos e, if_pos e]
    have := z7_fn (v2 := nI sd) (fr := s.fs b) (to := s.sc b) hs hP hG hb (by omega) (by omega) hw 64 0 (by omega) (by omega)
    exact this
  · rw [if_neg (by omega), if_neg (by omega), if_neg (by omega), if_neg (by omega)]
    have := z7_fn (v2 := nI sd) (fr := s.sc b) (to := s.fs b) hs hP hG hb (by omega) (by omega) hw 64 0 (by omega) (by omega)
    exact this
theorem z2_seat {sd B X : Nat} (h01 : sd = 0 ∨ sd = 1) (hB : B < 64) (h56 : zC56 m (zcn s P b sd X)) : D2_seatNew (nI sd) (nI B) m ∧ (∀ d, d ≠ 56 → F2_seatNew (nI sd) (nI B) m d = m d) ∧ zC56 (F2_seatNew (nI sd) (nI B) m) (zcn s P b sd B) :=
  z2_sn (v1 := nI sd) (X := X) h01 (z_neq (b := 0) (by omega) (by omega)) hB 64 0 m (by omega) (by omega) (fun p q hp hq => by rw [h56 p q hp hq, if_neg (by omega)])
theorem z7_hire {sd : Nat} {v3 : Int32} (hs : zW s) (hP : zV s P) (hb : b < s.ng) (h01 : sd = 0 ∨ sd = 1) (hz : ∀ p q, p < s.no → q < s.no → zmn (zlo s P b p q) (zbal (zlo s P b p q))) : ∀ n k v6 m, k ≤ 99 → 99 - k < n → zG m 1 s P → (∃ X, zC56 m (zcn s P b sd X)) → (v6 = -1 ∨ ∃ y, y < 64 ∧ v6 = nI y ∧ zNn s P b sd y + 1 ≤ (zhr s P b sd k).1) → E7_hire_56 n (nI b) (nI sd) v3 (zhm (-1) (zhr s P b sd k).1) (nI (zhr s P b sd k).2) v6 (nI (k + 1)) m ∧ (L7_hire_56 n (nI b) (nI sd) v3 (zhm (-1) (zhr s P b sd k).1) (nI (zhr s P b sd k).2) v6 (nI (k + 1)) m).1 = zhm (-1) (zhr s P b sd 99).1 ∧ (L7_hire_56 n (nI b) (nI sd) v3 (zhm (-1) (zhr s P b sd k).1) (nI (zhr s P b sd k).2) v6 (nI (k + 1)) m).2.1 = nI (zhr s P b sd 99).2 ∧ ∀ d, (d < 55 ∨ 58 < d) → (L7_hire_56 n (nI b) (nI sd) v3 (zhm (-1) (zhr s P b sd k).1) (nI (zhr s P b sd k).2) v6 (nI (k + 1)) m).2.2.2.2 d = m d := by
  intro n
  induction n with
  | zero => intro k v6 m _ h; omega
  | succ n ih =>
    intro k v6 m hk hn hG hX hv
    unfold E7_hire_56 L7_hire_56
    by_cases e : k = 99
    · subst e
      rw [if_pos (show (99 : Int32) < nI (99 + 1) by decide)]
      refine ⟨fun w => absurd (show (99 : Int32) < nI (99 + 1) by decide) w, ?_, ?_, fun _ _ => rfl⟩ <;> dsimp only
    · have hlt : ¬ (99 : Int32) < nI (k + 1) := fun w => by
        have := (z_nlt (a := 99) (by omega) (by omega)).mp w
        omega
      obtain ⟨d1, d2⟩ := z7_fnew (w := k + 1) hs hP hG hb h01 (by omega)
      have hB := znb_lt (P := P) (b := b) (sd := sd) (w := k + 1) hs
      obtain ⟨X, hX⟩ := hX
      obtain ⟨t1, t2, t3⟩ := z2_seat (B := znb s P b sd (k + 1)) h01 hB hX
      obtain ⟨u1, u2, u3, _, _⟩ := z2_solve (zcn_6 hz) t3
      have hle := zhr_le (s := s) (P := P) (b := b) (sd := sd) k
      have hN := (zNn_le (s := s) (P := P) (b := b) (sd := sd) (B := znb s P b sd (k + 1))).1
      rw [if_neg hlt, d2, nI_1]
      have e3 : F2_solve (F2_seatNew (nI sd) (nI (znb s P b sd (k + 1))) m) 55 3 = nI (zNn s P b sd (znb s P b sd (k + 1))) := u3
      have cle := zhm_le (d := -1) (Or.inl rfl) hle.1 hN
      have step : zhr s P b sd (k + 1) = if zNn s P b sd (znb s P b sd (k + 1)) + 1 ≤ (zhr s P b sd k).1 then zhr s P b sd k else (zNn s P b sd (znb s P b sd (k + 1)) + 1, k + 1) := rfl
      by_cases e6 : nI (znb s P b sd (k + 1)) = v6
      · have hy : zNn s P b sd (znb s P b sd (k + 1)) + 1 ≤ (zhr s P b sd k).1 := by
          rcases hv with hv | ⟨y, y1, y2, y3⟩
          · rw [hv, z_eq, z_nti (by omega), show (-1 : Int32).toInt = -1 from rfl] at e6; omega
          · rw [y2, z_neq (by omega) (by omega)] at e6
            rw [e6]; exact y3
        rw [if_pos hy] at step
        rw [if_pos e6, if_pos e6, if_pos e6, if_pos e6]
        rw [← step] at hv ⊢
        obtain ⟨i1, i2, i3, i4⟩ := ih (k + 1) v6 m (by omega) (by omega) hG ⟨X, hX⟩ hv
        exact ⟨fun _ => ⟨d1, fun w => absurd e6 w, i1⟩, i2, i3, i4⟩
      · rw [if_neg e6, if_neg e6, if_neg e6, if_neg e6, e3]
        simp only [cle]
        generalize F2_solve (F2_seatNew (nI sd) (nI (znb s P b sd (k + 1))) m) = m1 at *
        have fr : ∀ d, (d < 55 ∨ 58 < d) → m1 d = m d := fun d hd => by rw [u2 d (by omega) (by omega) (by omega), t2 d (by omega)]
        have hG1 : zG m1 1 s P := hG.same (fun c h1 h2 => fr c (by omega))
        have h56 : ∃ X, zC56 m1 (zcn s P b sd X) := ⟨_, t3.same (u2 56 (by omega) (by omega) (by omega))⟩
        have st1 : (if zNn s P b sd (znb s P b sd (k + 1)) + 1 ≤ (zhr s P b sd k).1 then zhm (-1) (zhr s P b sd k).1 else nI (zNn s P b sd (znb s P b sd (k + 1)))) = zhm (-1) (zhr s P b sd (k + 1)).1 := by
          rw [step]; split
          · rfl
          · show _ = zhm (-1) (zNn s P b sd (znb s P b sd (k + 1)) + 1)
            unfold zhm; rw [if_neg (by omega)]; rfl
        have st2 : (if zNn s P b sd (znb s P b sd (k + 1)) + 1 ≤ (zhr s P b sd k).1 then nI (zhr s P b sd k).2 else nI (k + 1)) = nI (zhr s P b sd (k + 1)).2 := by
          rw [step]; split <;> rfl
        rw [st1, st2]
        obtain ⟨i1, i2, i3, i4⟩ := ih (k + 1) (nI (znb s P b sd (k + 1))) m1 (by omega) (by omega) hG1 h56 (Or.inr ⟨_, hB, rfl, by
          rw [step]; split
          · assumption
          · exact Nat.le_refl _⟩)
        exact ⟨fun _ => ⟨d1, fun _ => ⟨t1, u1⟩, i1⟩, i2, i3, fun d hd => by rw [i4 d hd, fr d hd]⟩
theorem zval_n {sd w : Nat} (hs : zW s) (h01 : sd = 0 ∨ sd = 1) : zfv (zcn s P b sd (znb s P b sd w)) ((List.range 7).filter (zFi s P b 0 sd)) 0 = zfv (zcn s P b sd (znb s P b sd w)) (zrw 7) 0 := by
  rw [zrw7]
  refine (zskip (List.range 7) List.nodup_range (fun p _ hf q => ?_) 0).1
  apply Classical.byContradiction
  intro w
  rw [(zcn_fs hs h01 w).1] at hf
  cases hf
theorem z8_hire {sd : Nat} {v3 : Int32} (hT : zWF T) (hb : b < T.s.ng) (h01 : sd = 0 ∨ sd = 1) (hz : ∀ p q, p < T.s.no → q < T.s.no → zmn (zlo T.s T.P b p q) (zbal (zlo T.s T.P b p q))) : ∀ n k m, k ≤ 99 → 99 - k < n → z8 m T → E8_hire_55 n (nI b) (nI sd) v3 (zhm (-4) (zhr T.s T.P b sd k).1) (if k = 0 then -4 else nI (zhr T.s T.P b sd k).2) (nI (k + 1)) m ∧ (L8_hire_55 n (nI b) (nI sd) v3 (zhm (-4) (zhr T.s T.P b sd k).1) (if k = 0 then -4 else nI (zhr T.s T.P b sd k).2) (nI (k + 1)) m).1 = zhm (-4) (zhr T.s T.P b sd 99).1 ∧ (L8_hire_55 n (nI b) (nI sd) v3 (zhm (-4) (zhr T.s T.P b sd k).1) (if k = 0 then -4 else nI (zhr T.s T.P b sd k).2) (nI (k + 1)) m).2.1 = nI (zhr T.s T.P b sd 99).2 ∧ z8 (L8_hire_55 n (nI b) (nI sd) v3 (zhm (-4) (zhr T.s T.P b sd k).1) (if k = 0 then -4 else nI (zhr T.s T.P b sd k).2) (nI (k + 1)) m).2.2.2 T ∧ ∀ d, d < 74 → (L8_hire_55 n (nI b) (nI sd) v3 (zhm (-4) (zhr T.s T.P b sd k).1) (if k = 0 then -4 else nI (zhr T.s T.P b sd k).2) (nI (k + 1)) m).2.2.2 d = m d := by
  have hs := hT.w
  intro n
  induction n with
  | zero => intro k m _ h; omega
  | succ n ih =>
    intro k m hk hn h8
    unfold E8_hire_55 L8_hire_55
    by_cases e : k = 99
    · subst e
      rw [if_pos (show (100 : Int32) ≤ nI (99 + 1) by decide)]
      refine ⟨fun w => absurd (show (100 : Int32) ≤ nI (99 + 1) by decide) w, ?_, ?_, h8, fun _ _ => rfl⟩
      · dsimp only
      · dsimp only; rw [if_neg (by omega)]
    · have hlt : ¬ (100 : Int32) ≤ nI (k + 1) := z_lef (a := 100) (by omega) (by omega)
      have h8a : z8 (ax_up m 74 32 (nI (k + 1))) T := h8.of (fun j hj => by rw [z_up, if_neg (by unfold zsl at hj; omega)]) (fun c h1 _ _ => z_upr (by omega))
      obtain ⟨l1, l2, l3, l4, l5⟩ := z8_lay (m := ax_up m 74 32 (nI (k + 1))) (wo := 0) (sd := sd) (v3 := nI sd) (hv := 0) hs hT.v h8a.e h8a.q hb (by omega) (z_neq (b := 0) (by omega) (by omega)) (z_neq (b := 1) (by omega) (by omega)) (zcn_6 hz) (fun p q _ h => by
        apply Classical.byContradiction
        intro w
        obtain ⟨_, h2, h3⟩ := zcn_fs hs h01 w
        rw [zbits_tb, h2, decide_eq_true h3] at h
        cases h) (zHw_n (w := k + 1) hs hT.v h8a.e h8a.q hb h01 hz (by omega) (by rw [z_up, if_pos ⟨rfl, rfl⟩]))
      rw [show nI 0 = (0 : Int32) from rfl] at l1 l2 l3 l4 l5
      rw [zval_n hs h01] at l2
      have hV := (zNn_le (s := T.s) (P := T.P) (b := b) (sd := sd) (B := znb T.s T.P b sd (k + 1))).2
      have hN := (zNn_le (s := T.s) (P := T.P) (b := b) (sd := sd) (B := znb T.s T.P b sd (k + 1))).1
      have hle := zhr_le (s := T.s) (P := T.P) (b := b) (sd := sd) k
      have cle := zhm_le (d := -4) (Or.inr rfl) hle.1 hN
      have step : zhr T.s T.P b sd (k + 1) = if zNn T.s T.P b sd (znb T.s T.P b sd (k + 1)) + 1 ≤ (zhr T.s T.P b sd k).1 then zhr T.s T.P b sd k else (zNn T.s T.P b sd (znb T.s T.P b sd (k + 1)) + 1, k + 1) := rfl
      have ep : ∀ M, F8_pairsOf (F8_layPairs (nI b) 0 (nI sd) 0 (ax_up m 74 32 (nI (k + 1)))).1 M = nI (zNn T.s T.P b sd (znb T.s T.P b sd (k + 1))) := fun M => by
        rw [l2, z8_po (by omega)]; rfl
      rw [if_neg hlt, ep, nI_1]
      simp only [cle]
      have h8b : z8 (F8_layPairs (nI b) 0 (nI sd) 0 (ax_up m 74 32 (nI (k + 1)))).2 T := h8a.of (fun j hj => l3.1.2.2 j (by unfold zsl at hj; omega) (by unfold zsl at hj; omega)) (fun c h1 h2 h3 => l5 c (by omega) (by unfold zsr at h3; omega) (by unfold zsr at h3; omega))
      have st1 : (if zNn T.s T.P b sd (znb T.s T.P b sd (k + 1)) + 1 ≤ (zhr T.s T.P b sd k).1 then zhm (-4) (zhr T.s T.P b sd k).1 else nI (zNn T.s T.P b sd (znb T.s T.P b sd (k + 1)))) = zhm (-4) (zhr T.s T.P b sd (k + 1)).1 := by
        rw [step]; split
        · rfl
        · show _ = zhm (-4) (zNn T.s T.P b sd (znb T.s T.P b sd (k + 1)) + 1)
          unfold zhm; rw [if_neg (by omega)]; rfl
      have st2 : (if zNn T.s T.P b sd (znb T.s T.P b sd (k + 1)) + 1 ≤ (zhr T.s T.P b sd k).1 then (if k = 0 then -4 else nI (zhr T.s T.P b sd k).2) else nI (k + 1)) = (if k + 1 = 0 then -4 else nI (zhr T.s T.P b sd (k + 1)).2) := by
        rw [step, if_neg (show ¬ k + 1 = 0 by omega)]
        by_cases w : zNn T.s T.P b sd (znb T.s T.P b sd (k + 1)) + 1 ≤ (zhr T.s T.P b sd k).1
        · rw [if_pos w, if_pos w]
          by_cases w0 : k = 0
          · subst w0
            have : (zhr T.s T.P b sd 0).1 = 0 := rfl
            omega
          · rw [if_neg w0]
        · rw [if_neg w, if_neg w]
      rw [st1, st2]
      obtain ⟨i1, i2, i3, i4, i5⟩ := ih (k + 1) (F8_layPairs (nI b) 0 (nI sd) 0 (ax_up m 74 32 (nI (k + 1)))).2 (by omega) (by omega) h8b
      exact ⟨fun _ => ⟨l1, i1⟩, i2, i3, i4, fun d hd => by rw [i5 d hd, l5 d (by omega) (by omega) (by omega), z_upr (by omega)]⟩
theorem zok20 (h : zI m) : OK20 zI m := by
  obtain ⟨T, hT, h7, h8⟩ := id h
  have hw := hT.w
  have n4 := hw.ng4
  have n6 := hw.no6
  intro a1 a2 a3
  have i2 : ∀ m', F7_within a2 0 1 m' = zb (zwi a2 0 1) := fun m' => z7_in
  have j2 : ∀ m', F8_in a2.toInt64 0 1 m' = zb (zwi a2 0 1) := fun m' => z8_in 0 1 rfl rfl
  have i3 : ∀ m', F7_within a3 0 1 m' = zb (zwi a3 0 1) := fun m' => z7_in
  have j3 : ∀ m', F8_in a3.toInt64 0 1 m' = zb (zwi a3 0 1) := fun m' => z8_in 0 1 rfl rfl
  cases e1 : zin a1 T.s.ng with
  | false =>
    have e7 : F7_hire a1 a2 a3 m = (-1, m) := by unfold F7_hire; rw [z7_hasBridge hw h7.g, e1]; rfl
    have e8 : F8_hire a1 a2 a3 m = (-1, m) := by unfold F8_hire; rw [z8_isBridge hw h8.e, e1]; rfl
    rw [e7, e8]
    refine ⟨?_, ?_, rfl, h⟩
    · unfold D7_hire; rw [z7_hasBridge hw h7.g, e1]; exact fun q => absurd rfl q
    · unfold D8_hire; rw [z8_isBridge hw h8.e, e1]; exact fun q => absurd rfl q
  | true =>
    obtain ⟨b, hb, rfl⟩ := zin_t e1 (by omega)
    cases e2 : zwi a2 0 1 with
    | false =>
      have e7 : F7_hire (nI b) a2 a3 m = (-1, m) := by unfold F7_hire; rw [z7_hasBridge hw h7.g, e1, i2, e2]; rfl
      have e8 : F8_hire (nI b) a2 a3 m = (-1, m) := by unfold F8_hire; rw [z8_isBridge hw h8.e, e1, j2, e2]; rfl
      rw [e7, e8]
      refine ⟨?_, ?_, rfl, h⟩
      · unfold D7_hire; rw [i2, e2]; exact fun _ q => absurd rfl q
      · unfold D8_hire; rw [j2, e2]; exact fun _ q => absurd rfl q
    | true =>
      cases e3 : zwi a3 0 1 with
      | false =>
        have e7 : F7_hire (nI b) a2 a3 m = (-1, m) := by unfold F7_hire; rw [z7_hasBridge hw h7.g, e1, i2, e2, i3, e3]; rfl
        have e8 : F8_hire (nI b) a2 a3 m = (-1, m) := by unfold F8_hire; rw [z8_isBridge hw h8.e, e1, j2, e2, j3, e3]; rfl
        rw [e7, e8]
        refine ⟨?_, ?_, rfl, h⟩
        · unfold D7_hire; rw [i3, e3]; exact fun _ _ q => absurd rfl q
        · unfold D8_hire; rw [j3, e3]; exact fun _ _ q => absurd rfl q
      | true =>
        obtain ⟨sd, _, s2, rfl⟩ := zwi_t (lo := 0) (hi := 1) e2 (by omega)
        have h01 : sd = 0 ∨ sd = 1 := by omega
        have hz : ∀ p q, p < T.s.no → q < T.s.no → zmn (zlo T.s T.P b p q) (zbal (zlo T.s T.P b p q)) := fun p q hp hq => (z7_load hw hT.v h7.g hb hp hq).2.2
        obtain ⟨g1, g2, g3⟩ := z2_gather (hv := false) hw hT.v h7.g hb
        rw [show zb false = (0 : Int32) from rfl] at g1 g2 g3
        have g3' : zC56 (F2_gather 1 (nI b) 0 m) (zcn T.s T.P b sd 0) := fun p q hp hq => by rw [← zcn_0 hw]; exact g3 p q hp hq
        obtain ⟨x1, x2, x3, x4⟩ := z7_hire (v3 := a3) hw hT.v hb h01 hz 130 0 (-1) (F2_gather 1 (nI b) 0 m) (by omega) (by omega) (h7.g.same (fun c _ _ => g2 c (by omega))) ⟨0, g3'⟩ (Or.inl rfl)
        rw [show zhm (-1) (zhr T.s T.P b sd 0).1 = -1 from rfl, show nI (zhr T.s T.P b sd 0).2 = 0 from rfl, show nI (0 + 1) = (1 : Int32) from rfl] at x1 x2 x3 x4
        have x1' : E7_hire_56 130 (nI b) (nI sd) a3 (-1) 0 (-1) 1 (F2_gather 1 (nI b) 0 m) := x1
        have x2' : (L7_hire_56 130 (nI b) (nI sd) a3 (-1) 0 (-1) 1 (F2_gather 1 (nI b) 0 m)).1 = zhm (-1) (zhr T.s T.P b sd 99).1 := x2
        have x3' : (L7_hire_56 130 (nI b) (nI sd) a3 (-1) 0 (-1) 1 (F2_gather 1 (nI b) 0 m)).2.1 = nI (zhr T.s T.P b sd 99).2 := x3
        have x4' : ∀ d, (d < 55 ∨ 58 < d) → (L7_hire_56 130 (nI b) (nI sd) a3 (-1) 0 (-1) 1 (F2_gather 1 (nI b) 0 m)).2.2.2.2 d = m d := fun d hd => (x4 d hd).trans (g2 d (by omega))
        have d7 : D7_hire (nI b) (nI sd) a3 m := fun _ _ _ => ⟨g1, x1'⟩
        have e7 : F7_hire (nI b) (nI sd) a3 m = (if a3 = 0 then nI (zhr T.s T.P b sd 99).2 else zhm (-1) (zhr T.s T.P b sd 99).1, (L7_hire_56 130 (nI b) (nI sd) a3 (-1) 0 (-1) 1 (F2_gather 1 (nI b) 0 m)).2.2.2.2) := by
          unfold F7_hire K7_hire_138
          rw [z7_hasBridge hw h7.g, e1, i2, e2, i3, e3, if_neg (show ¬ zb true = 0 by decide), if_neg (show ¬ zb true = 0 by decide), if_neg (show ¬ zb true = 0 by decide), x2', x3']
          by_cases w : a3 = 0
          · rw [if_pos w, if_pos w]
          · rw [if_neg w, if_neg w]
        rw [e7]
        dsimp only
        generalize (L7_hire_56 130 (nI b) (nI sd) a3 (-1) 0 (-1) 1 (F2_gather 1 (nI b) 0 m)).2.2.2.2 = m1 at *
        have h7' : z7 m1 T := h7.of (fun c _ hc => x4' c (by unfold zsc at hc; omega))
        have h8' : z8 m1 T := h8.keep (fun c hc => x4' c (by omega))
        generalize hnb : m1 76 (Int32.toNatClampNeg ((2 * nI b) + nI sd)) = nb
        have h8a : z8 (ax_up m1 74 33 nb) T := h8'.of (fun j hj => by rw [z_up, if_neg (by unfold zsl at hj; omega)]) (fun c h1 _ _ => z_upr (by omega))
        obtain ⟨y1, y2, y3, y4, y5⟩ := z8_hire (v3 := a3) hT hb h01 hz 130 0 (ax_up m1 74 33 nb) (by omega) (by omega) h8a
        rw [show zhm (-4) (zhr T.s T.P b sd 0).1 = -4 from rfl, if_pos (show 0 = 0 from rfl), show nI (0 + 1) = (1 : Int32) from rfl] at y1 y2 y3 y4 y5
        have y1' : E8_hire_55 130 (nI b) (nI sd) a3 (-4) (-4) 1 (ax_up m1 74 33 nb) := y1
        have y2' : (L8_hire_55 130 (nI b) (nI sd) a3 (-4) (-4) 1 (ax_up m1 74 33 nb)).1 = zhm (-4) (zhr T.s T.P b sd 99).1 := y2
        have y3' : (L8_hire_55 130 (nI b) (nI sd) a3 (-4) (-4) 1 (ax_up m1 74 33 nb)).2.1 = nI (zhr T.s T.P b sd 99).2 := y3
        have y4' : z8 (L8_hire_55 130 (nI b) (nI sd) a3 (-4) (-4) 1 (ax_up m1 74 33 nb)).2.2.2 T := y4
        have y5' : ∀ d, d < 74 → (L8_hire_55 130 (nI b) (nI sd) a3 (-4) (-4) 1 (ax_up m1 74 33 nb)).2.2.2 d = m1 d := fun d hd => (y5 d hd).trans (z_upr (by omega))
        have d8 : D8_hire (nI b) (nI sd) a3 m1 := fun _ _ _ => ⟨by rw [z_lit 2, pk_mul, nI_add]; exact z_vp (by omega) (by omega), by rw [hnb]; exact y1'⟩
        have e8 : F8_hire (nI b) (nI sd) a3 m1 = (if a3 = 0 then nI (zhr T.s T.P b sd 99).2 else zhm (-4) (zhr T.s T.P b sd 99).1, (L8_hire_55 130 (nI b) (nI sd) a3 (-4) (-4) 1 (ax_up m1 74 33 nb)).2.2.2) := by
          unfold F8_hire K8_hire_119
          rw [z8_isBridge hw h8'.e, e1, j2, e2, j3, e3, if_neg (show ¬ zb true = 0 by decide), if_neg (show ¬ zb true = 0 by decide), if_neg (show ¬ zb true = 0 by decide), hnb, y2', y3']
          by_cases w : a3 = 0
          · rw [if_pos w, if_pos w]
          · rw [if_neg w, if_neg w]
        rw [e8]
        dsimp only
        have hpos := (zhr_le (s := T.s) (P := T.P) (b := b) (sd := sd) 99).2.2 (by omega)
        have em : zhm (-1) (zhr T.s T.P b sd 99).1 = zhm (-4) (zhr T.s T.P b sd 99).1 := by
          unfold zhm; rw [if_neg (by omega), if_neg (by omega)]
        exact ⟨d7, d8, by rw [em], zI.step hT h7' y5' y4'⟩
end ZX1
