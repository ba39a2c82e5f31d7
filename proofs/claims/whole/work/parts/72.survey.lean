/-! PURE: the class's survey of the ways to stand -/
def zab (s : zS) (P : zP) (v : Nat) : Bool := decide (v / 100 < s.ng ∧ v / 10 % 10 < s.no ∧ v % 10 < s.no ∧ v / 10 % 10 ≠ v % 10) && zgo1 s P (v / 100) (v / 10 % 10) (v % 10) && zlev s P (v / 100) (v / 10 % 10) (v % 10) 0 0
def zfo (s : zS) (P : zP) (c v : Nat) : Option Nat := if zab s P v = true ∧ zdg c (v / 10 % 10) = s.fs (v / 100) ∧ zdg c (v % 10) = s.sc (v / 100) then some (zfc c (v / 10 % 10) (v % 10) (s.fs (v / 100)) (s.sc (v / 100))) else none
def zvs (s : zS) (P : zP) : List Nat := (List.range (100 * s.ng)).filter (zab s P)
def zmk (v : Nat) : Nat := 3 * 2 ^ (2 * (v / 10 % 10)) ||| 3 * 2 ^ (2 * (v % 10))
def zwn (s : zS) (v : Nat) : Nat := s.fs (v / 100) * 2 ^ (2 * (v / 10 % 10)) ||| s.sc (v / 100) * 2 ^ (2 * (v % 10))
def zfp (s : zS) (v : Nat) : Nat := (s.fs (v / 100) ^^^ s.sc (v / 100)) * 2 ^ (2 * (v / 10 % 10)) ||| (s.fs (v / 100) ^^^ s.sc (v / 100)) * 2 ^ (2 * (v % 10))
def z3M (m : ax_M) (s : zS) (l : List Nat) : Prop := m 59 4 = nI l.length ∧ ∀ j, j < l.length → m 60 j = nI (l.getD j 0) ∧ m 61 j = nI (zmk (l.getD j 0)) ∧ m 62 j = nI (zwn s (l.getD j 0)) ∧ m 63 j = nI (zfp s (l.getD j 0))
theorem zab_120 : ((List.range 400).filter (fun v => decide (v / 10 % 10 < 6 ∧ v % 10 < 6 ∧ v / 10 % 10 ≠ v % 10))).length ≤ 120 := by decide +kernel
section ZA2
variable {m : ax_M} {s : zS} {P : zP} {b p q c v : Nat}
theorem zab_t (h : zab s P v = true) : v / 100 < s.ng ∧ v / 10 % 10 < s.no ∧ v % 10 < s.no ∧ v / 10 % 10 ≠ v % 10 := by
  unfold zab at h
  simp only [Bool.and_eq_true, decide_eq_true_eq] at h
  exact h.1.1
theorem zab_l (hs : zW s) {n : Nat} (hn : n ≤ 400) : ((List.range n).filter (zab s P)).length ≤ 120 := by
  have n6 := hs.no6
  rw [← List.countP_eq_length_filter]
  refine Nat.le_trans (List.countP_mono_left (q := fun v => decide (v / 10 % 10 < 6 ∧ v % 10 < 6 ∧ v / 10 % 10 ≠ v % 10)) (fun v _ h => ?_)) ?_
  · have := zab_t h
    exact decide_eq_true ⟨by omega, by omega, this.2.2.2⟩
  · refine Nat.le_trans (List.Sublist.countP_le (List.range_sublist.mpr hn)) ?_
    rw [List.countP_eq_length_filter]
    exact zab_120
theorem zvs_l (hs : zW s) : (zvs s P).length ≤ 120 := zab_l hs (by have := hs.ng4; omega)
theorem zvs_m : v ∈ zvs s P ↔ (v < 100 * s.ng ∧ zab s P v = true) := by
  unfold zvs
  rw [List.mem_filter, List.mem_range]
theorem zfo_t {c' : Nat} (h : zfo s P c v = some c') : zab s P v = true ∧ zdg c (v / 10 % 10) = s.fs (v / 100) ∧ zdg c (v % 10) = s.sc (v / 100) ∧ c' = zfc c (v / 10 % 10) (v % 10) (s.fs (v / 100)) (s.sc (v / 100)) := by
  unfold zfo at h
  split at h
  · rename_i w
    injection h with h
    exact ⟨w.1, w.2.1, w.2.2, h.symm⟩
  · cases h
theorem zfo_q {c0 c' : Nat} (hs : zW s) (hc : zSm c0 c) (h : zfo s P c v = some c') : zSm c0 c' := by
  have n6 := hs.no6
  have n4 := hs.nb4
  obtain ⟨h1, h2, h3, rfl⟩ := zfo_t h
  obtain ⟨a1, a2, a3, a4⟩ := zab_t h1
  have f1 := hs.fs a1
  have f2 := hs.sc a1
  exact zSm_f (by omega) (by omega) a4 (by omega) (by omega) h2 h3 hc
theorem z7_add (hs : zW s) (hG : zG m 1 s P) (hb : b < s.ng) (hp : p < s.no) (hq : q < s.no) {n : Nat} (h4 : m 59 4 = nI n) (hn : n < 120) : F3_addMove 1 (nI b) (nI p) (nI q) m = ax_up (ax_up (ax_up (ax_up (ax_up m 60 n (nI (100 * b + 10 * p + q))) 61 n (nI (zmk (100 * b + 10 * p + q)))) 62 n (nI (zwn s (100 * b + 10 * p + q)))) 63 n (nI (zfp s (100 * b + 10 * p + q)))) 59 4 (nI (n + 1)) := by
  have n6 := hs.no6
  have n4 := hs.nb4
  have f1 := hs.fs hb
  have f2 := hs.sc hb
  have g4 := hs.ng4
  have e1 : (100 * b + 10 * p + q) / 100 = b := by omega
  have e2 : (100 * b + 10 * p + q) / 10 % 10 = p := by omega
  have e3 : (100 * b + 10 * p + q) % 10 = q := by omega
  have hx := (z_bit44 (s.fs b) (by omega) (s.sc b) (by omega)).2.2
  unfold F3_addMove
  rw [h4, if_pos (show nI n < 120 from (z_nlt (b := 120) (by omega) (by omega)).mpr hn)]
  have ev : ((100 * nI b) + (10 * nI p)) + nI q = nI (100 * b + 10 * p + q) := by
    rw [z_lit 100, pk_mul, z_lit 10, pk_mul, nI_add, nI_add]
  have em : (((3 : Int32) <<< ((2 * nI p) &&& (31 : Int32))) ||| ((3 : Int32) <<< ((2 * nI q) &&& (31 : Int32)))) = nI (zmk (100 * b + 10 * p + q)) := by
    unfold zmk
    rw [show (3 : Int32) = nI 3 from rfl, z_cshl (by omega) (by omega), z_cshl (by omega) (by omega), z_or, e2, e3]
  rw [ev, em, z_put hn (by omega), z_upr (show 59 ≠ 60 by omega), h4, z_put hn (by omega), z7_first hs hG hb, z7_second hs hG hb, z_xor]
  have G1 : zG (ax_up (ax_up m 60 n (nI (100 * b + 10 * p + q))) 61 n (nI (zmk (100 * b + 10 * p + q)))) 1 s P := hG.same (fun c _ _ => by rw [z_upr (by omega), z_upr (by omega)])
  unfold K3_addMove_69
  rw [z7_first hs G1 hb, z7_second hs G1 hb, z_cshl (by omega) (by omega), z_cshl (by omega) (by omega), z_or, z_upr (show 59 ≠ 61 by omega), z_upr (show 59 ≠ 60 by omega), h4, z_put hn (by omega)]
  unfold K3_addMove_100
  rw [z_cshl (by omega) hx, z_cshl (by omega) hx, z_or, z_upr (show 59 ≠ 62 by omega), z_upr (show 59 ≠ 61 by omega), z_upr (show 59 ≠ 60 by omega), h4, z_put hn (by omega)]
  unfold K3_addMove_125
  rw [z_upr (show 59 ≠ 63 by omega), z_upr (show 59 ≠ 62 by omega), z_upr (show 59 ≠ 61 by omega), z_upr (show 59 ≠ 60 by omega), h4, nI_1]
  unfold zwn zfp
  rw [e1, e2, e3]
theorem z3M_add {l : List Nat} {v : Nat} (h : z3M m s l) : z3M (ax_up (ax_up (ax_up (ax_up (ax_up m 60 l.length (nI v)) 61 l.length (nI (zmk v))) 62 l.length (nI (zwn s v))) 63 l.length (nI (zfp s v))) 59 4 (nI (l.length + 1))) s (l ++ [v]) := by
  obtain ⟨h1, h2⟩ := h
  refine ⟨by rw [z_up, if_pos ⟨rfl, rfl⟩, List.length_append]; rfl, fun j hj => ?_⟩
  rw [List.length_append] at hj
  have hj' : j ≤ l.length := by simp at hj; omega
  rw [zget_app l v j hj']
  by_cases w : j < l.length
  · obtain ⟨k1, k2, k3, k4⟩ := h2 j w
    rw [if_pos w]
    refine ⟨?_, ?_, ?_, ?_⟩
    · rw [z_upr (by omega), z_upr (by omega), z_upr (by omega), z_upr (by omega), z_up, if_neg (by omega)]; exact k1
    · rw [z_upr (by omega), z_upr (by omega), z_upr (by omega), z_up, if_neg (by omega), z_upr (by omega)]; exact k2
    · rw [z_upr (by omega), z_upr (by omega), z_up, if_neg (by omega), z_upr (by omega), z_upr (by omega)]; exact k3
    · rw [z_upr (by omega), z_up, if_neg (by omega), z_upr (by omega), z_upr (by omega), z_upr (by omega)]; exact k4
  · rw [if_neg w]
    have e : j = l.length := by omega
    refine ⟨?_, ?_, ?_, ?_⟩
    · rw [z_upr (by omega), z_upr (by omega), z_upr (by omega), z_upr (by omega), z_up, if_pos ⟨rfl, e⟩]
    · rw [z_upr (by omega), z_upr (by omega), z_upr (by omega), z_up, if_pos ⟨rfl, e⟩]
    · rw [z_upr (by omega), z_upr (by omega), z_up, if_pos ⟨rfl, e⟩]
    · rw [z_upr (by omega), z_up, if_pos ⟨rfl, e⟩]
/-- what listing the moves leaves as it was -/
def z3F (m m' : ax_M) : Prop := (∀ d, d ≠ 59 → ¬ (60 ≤ d ∧ d ≤ 63) → m' d = m d) ∧ ∀ j, j ≠ 4 → m' 59 j = m 59 j
theorem z3F.tr {m1 m2 m3 : ax_M} (h : z3F m1 m2) (h' : z3F m2 m3) : z3F m1 m3 := ⟨fun d h1 h2 => by rw [h'.1 d h1 h2, h.1 d h1 h2], fun j hj => by rw [h'.2 j hj, h.2 j hj]⟩
theorem z3F.g {m1 m2 : ax_M} (h : z3F m1 m2) (hG : zG m1 1 s P) : zG m2 1 s P := hG.same (fun c _ _ => h.1 c (by omega) (by omega))
theorem z7_m28 (hs : zW s) (hP : zV s P) (hb : b < s.ng) (hp : p < s.no) : ∀ n q m, q ≤ s.no → s.no - q < n → zG m 1 s P → z3M m s ((List.range (100 * b + 10 * p + q)).filter (zab s P)) → E3_listMoves_28 1 n (nI b) (nI p) (nI q) m ∧ z3F m (L3_listMoves_28 1 n (nI b) (nI p) (nI q) m).2 ∧ z3M (L3_listMoves_28 1 n (nI b) (nI p) (nI q) m).2 s ((List.range (100 * b + 10 * p + 10)).filter (zab s P)) := by
  have n6 := hs.no6
  have g4 := hs.ng4
  intro n
  induction n with
  | zero => intro q m _ h; omega
  | succ n ih =>
    intro q m hq hn hG hM
    unfold E3_listMoves_28 L3_listMoves_28
    rw [hG.no]
    by_cases e : q = s.no
    · rw [if_pos (z_let (by omega) (by omega))]
      refine ⟨fun w => absurd (z_let (by omega) (by omega)) w, ⟨fun _ _ _ => rfl, fun _ _ => rfl⟩, ?_⟩
      have := (zflt_k (f := zab s P) (n := 100 * b + 10 * p + q) (10 - q) (fun v h1 h2 => by
        cases w : zab s P v with
        | false => rfl
        | true => have := zab_t w; omega)).1
      rw [show 100 * b + 10 * p + q + (10 - q) = 100 * b + 10 * p + 10 by omega] at this
      rw [this]; exact hM
    · have hlt : ¬ nI s.no ≤ nI q := z_lef (by omega) (by omega)
      have hq' : q < s.no := by omega
      have e1 : (100 * b + 10 * p + q) / 100 = b := by omega
      have e2 : (100 * b + 10 * p + q) / 10 % 10 = p := by omega
      have e3 : (100 * b + 10 * p + q) % 10 = q := by omega
      rw [if_neg hlt, z7_exile hs hP hG hb hp hq', show F1_isLevel 1 (nI b) (nI p) (nI q) 0 0 m = _ from z7_level (i := 0) (j := 0) hs hP hG hb hp hq' (by omega) (by omega), nI_1]
      have hcase : (if nI p = nI q then m else (if zb (!zgo1 s P b p q) = 0 then (if zb (zlev s P b p q 0 0) = 0 then m else (F3_addMove 1 (nI b) (nI p) (nI q) m)) else m)) = (if zab s P (100 * b + 10 * p + q) = true then F3_addMove 1 (nI b) (nI p) (nI q) m else m) := by
        have c0 : (nI p = nI q) ↔ p = q := z_neq (by omega) (by omega)
        simp only [c0]
        unfold zab
        rw [e1, e2, e3]
        by_cases w1 : p = q
        · rw [if_pos w1, if_neg (by simp [w1])]
        · rw [if_neg w1, decide_eq_true (show b < s.ng ∧ p < s.no ∧ q < s.no ∧ p ≠ q from ⟨hb, hp, hq', w1⟩)]
          cases zgo1 s P b p q with
          | false => rw [if_neg (show ¬ zb (!false) = 0 by decide), if_neg (by simp)]
          | true =>
            rw [if_pos (show zb (!true) = 0 from rfl)]
            cases zlev s P b p q 0 0 with
            | false => rw [if_pos (show zb false = 0 from rfl), if_neg (by simp)]
            | true => rw [if_neg (show ¬ zb true = 0 by decide)]; rfl
      rw [hcase]
      have ff := zflt_s (zab s P) (100 * b + 10 * p + q)
      by_cases w : zab s P (100 * b + 10 * p + q) = true
      · rw [if_pos w] at ff ⊢
        have hlen := zab_l (P := P) (n := 100 * b + 10 * p + q + 1) hs (by omega)
        rw [ff, List.length_append] at hlen
        have hlen' : ((List.range (100 * b + 10 * p + q)).filter (zab s P)).length < 120 := by simp at hlen; omega
        rw [z7_add hs hG hb hp hq' hM.1 hlen']
        have hM1 := z3M_add (v := 100 * b + 10 * p + q) hM
        rw [← ff] at hM1
        have fr : z3F m (ax_up (ax_up (ax_up (ax_up (ax_up m 60 ((List.range (100 * b + 10 * p + q)).filter (zab s P)).length (nI (100 * b + 10 * p + q))) 61 ((List.range (100 * b + 10 * p + q)).filter (zab s P)).length (nI (zmk (100 * b + 10 * p + q)))) 62 ((List.range (100 * b + 10 * p + q)).filter (zab s P)).length (nI (zwn s (100 * b + 10 * p + q)))) 63 ((List.range (100 * b + 10 * p + q)).filter (zab s P)).length (nI (zfp s (100 * b + 10 * p + q)))) 59 4 (nI (((List.range (100 * b + 10 * p + q)).filter (zab s P)).length + 1))) := ⟨fun d h1 h2 => by rw [z_upr h1, z_upr (by omega), z_upr (by omega), z_upr (by omega), z_upr (by omega)], fun j hj => by rw [z_up, if_neg (by omega), z_upr (by omega), z_upr (by omega), z_upr (by omega), z_upr (by omega)]⟩
        obtain ⟨i1, i2, i3⟩ := ih (q + 1) _ (by omega) (by omega) (fr.g hG) hM1
        exact ⟨fun _ => i1, fr.tr i2, i3⟩
      · rw [if_neg w] at ff ⊢
        rw [← ff] at hM
        obtain ⟨i1, i2, i3⟩ := ih (q + 1) m (by omega) (by omega) hG hM
        exact ⟨fun _ => i1, i2, i3⟩
theorem z7_m17 (hs : zW s) (hP : zV s P) (hb : b < s.ng) : ∀ n p m, p ≤ s.no → s.no - p < n → zG m 1 s P → z3M m s ((List.range (100 * b + 10 * p)).filter (zab s P)) → E3_listMoves_17 1 n (nI b) (nI p) m ∧ z3F m (L3_listMoves_17 1 n (nI b) (nI p) m).2 ∧ z3M (L3_listMoves_17 1 n (nI b) (nI p) m).2 s ((List.range (100 * b + 100)).filter (zab s P)) := by
  have n6 := hs.no6
  intro n
  induction n with
  | zero => intro q m _ h; omega
  | succ n ih =>
    intro p m hp hn hG hM
    unfold E3_listMoves_17 L3_listMoves_17
    rw [hG.no]
    by_cases e : p = s.no
    · rw [if_pos (z_let (by omega) (by omega))]
      refine ⟨fun w => absurd (z_let (by omega) (by omega)) w, ⟨fun _ _ _ => rfl, fun _ _ => rfl⟩, ?_⟩
      have := (zflt_k (f := zab s P) (n := 100 * b + 10 * p) (100 - 10 * p) (fun v h1 h2 => by
        cases w : zab s P v with
        | false => rfl
        | true => have := zab_t w; omega)).1
      rw [show 100 * b + 10 * p + (100 - 10 * p) = 100 * b + 100 by omega] at this
      rw [this]; exact hM
    · have hlt : ¬ nI s.no ≤ nI p := z_lef (by omega) (by omega)
      obtain ⟨x1, x2, x3⟩ := z7_m28 hs hP hb (show p < s.no by omega) 200 0 m (by omega) (by omega) hG hM
      rw [show nI 0 = (0 : Int32) from rfl] at x1 x2 x3
      rw [if_neg hlt, nI_1]
      obtain ⟨i1, i2, i3⟩ := ih (p + 1) _ (by omega) (by omega) (x2.g hG) (by rw [show 100 * b + 10 * (p + 1) = 100 * b + 10 * p + 10 by omega]; exact x3)
      exact ⟨fun _ => ⟨x1, i1⟩, x2.tr i2, i3⟩
theorem z7_m7 (hs : zW s) (hP : zV s P) : ∀ n b m, b ≤ s.ng → s.ng - b < n → zG m 1 s P → z3M m s ((List.range (100 * b)).filter (zab s P)) → E3_listMoves_7 1 n (nI b) m ∧ z3F m (L3_listMoves_7 1 n (nI b) m).2 ∧ z3M (L3_listMoves_7 1 n (nI b) m).2 s (zvs s P) := by
  have g4 := hs.ng4
  have n6 := hs.no6
  intro n
  induction n with
  | zero => intro q m _ h; omega
  | succ n ih =>
    intro b m hb hn hG hM
    unfold E3_listMoves_7 L3_listMoves_7
    rw [hG.ng]
    by_cases e : b = s.ng
    · rw [if_pos (z_let (by omega) (by omega))]
      refine ⟨fun w => absurd (z_let (by omega) (by omega)) w, ⟨fun _ _ _ => rfl, fun _ _ => rfl⟩, ?_⟩
      unfold zvs
      rw [← e]; exact hM
    · have hlt : ¬ nI s.ng ≤ nI b := z_lef (by omega) (by omega)
      obtain ⟨x1, x2, x3⟩ := z7_m17 hs hP (show b < s.ng by omega) 200 0 m (by omega) (by omega) hG hM
      rw [show nI 0 = (0 : Int32) from rfl] at x1 x2 x3
      rw [if_neg hlt, nI_1]
      obtain ⟨i1, i2, i3⟩ := ih (b + 1) _ (by omega) (by omega) (x2.g hG) (by rw [show 100 * (b + 1) = 100 * b + 100 by omega]; exact x3)
      exact ⟨fun _ => ⟨x1, i1⟩, x2.tr i2, i3⟩
theorem z7_moves (hs : zW s) (hP : zV s P) (hG : zG m 1 s P) : D3_listMoves 1 m ∧ z3F m (F3_listMoves 1 m) ∧ z3M (F3_listMoves 1 m) s (zvs s P) := by
  have fr : z3F m (ax_up m 59 4 0) := ⟨fun d h1 _ => z_upr h1, fun j hj => by rw [z_up, if_neg (by omega)]⟩
  obtain ⟨i1, i2, i3⟩ := z7_m7 hs hP 200 0 (ax_up m 59 4 0) (by omega) (by have := hs.ng4; omega) (fr.g hG) ⟨by rw [z_up, if_pos ⟨rfl, rfl⟩]; rfl, fun j hj => by cases hj⟩
  exact ⟨i1, fr.tr i2, i3⟩
end ZA2
