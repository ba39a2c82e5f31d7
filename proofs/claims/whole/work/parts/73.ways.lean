/-! PURE: the class's survey, its ways -/
def z3L (m : ax_M) (vs : List Nat) (L : List zEt) : Prop := m 59 10 = nI L.length ∧ (∀ (k : Nat) (e : zEt), L[k]? = some e → m 65 k = nI e.1 ∧ m 66 k = (if k = 0 then -1 else nI e.2.1) ∧ (0 < k → ∃ j, j < vs.length ∧ m 67 k = nI j ∧ vs.getD j 0 = e.2.2.1) ∧ m 68 k = nI e.2.2.2 ∧ m 64 e.1 = nI (k + 1)) ∧ ∀ c, c < 4096 → c ∉ zcs L → m 64 c = 0
/-- what a survey leaves as it was -/
def z3W (m m' : ax_M) : Prop := (∀ d, d ≠ 59 → ¬ (64 ≤ d ∧ d ≤ 68) → m' d = m d) ∧ ∀ j, j ≠ 10 → m' 59 j = m 59 j
theorem z3W.tr {m1 m2 m3 : ax_M} (h : z3W m1 m2) (h' : z3W m2 m3) : z3W m1 m3 := ⟨fun d h1 h2 => by rw [h'.1 d h1 h2, h.1 d h1 h2], fun j hj => by rw [h'.2 j hj, h.2 j hj]⟩
theorem z3W.rf {m : ax_M} : z3W m m := ⟨fun _ _ _ => rfl, fun _ _ => rfl⟩
section ZB2
variable {m : ax_M} {s : zS} {P : zP} {c v c0 i : Nat}
theorem z3W.mm {m1 m2 : ax_M} {l : List Nat} (h : z3W m1 m2) (hM : z3M m1 s l) : z3M m2 s l := by
  obtain ⟨h1, h2⟩ := hM
  refine ⟨by rw [h.2 4 (by omega)]; exact h1, ?_⟩
  rw [h.1 60 (by omega) (by omega), h.1 61 (by omega) (by omega), h.1 62 (by omega) (by omega), h.1 63 (by omega) (by omega)]
  exact h2
theorem z3W.g {m1 m2 : ax_M} (h : z3W m1 m2) (hG : zG m1 1 s P) : zG m2 1 s P := hG.same (fun c _ _ => h.1 c (by omega) (by omega))
/-- a way is added at the end -/
theorem z7_put {vs : List Nat} {L : List zEt} {d : Nat} {a2 a3 : Int32} (hc : c < 4096) (h : z3L m vs L) (hn : c ∉ zcs L) (hl : L.length < 180) (h2 : a2 = if L.length = 0 then -1 else nI i) (h3 : 0 < L.length → ∃ j, j < vs.length ∧ a3 = nI j ∧ vs.getD j 0 = v) (hd : (if 0 ≤ a2 then (F7_at 68 180 a2 m) + 1 else 0) = nI d) (hi : L.length = 0 ∨ i < 180) : z3L (F3_add (nI c) a2 a3 m) vs (L ++ [(c, i, v, d)]) ∧ z3W m (F3_add (nI c) a2 a3 m) := by
  obtain ⟨p1, p2, p3⟩ := h
  have e0 : F7_at 64 4096 (nI c) m = 0 := by rw [z_at hc (by omega)]; exact p3 c hc hn
  have ea : F3_add (nI c) a2 a3 m = ax_up (ax_up (ax_up (ax_up (ax_up (ax_up m 65 L.length (nI c)) 66 L.length a2) 67 L.length a3) 68 L.length (nI d)) 59 10 (nI (L.length + 1))) 64 c (nI (L.length + 1)) := by
    unfold F3_add
    rw [p1, if_neg (show ¬ (180 : Int32) ≤ nI L.length from z_lef (a := 180) (by omega) (by omega)), e0, if_pos rfl, z_put hl (by omega), z_upr (show 59 ≠ 65 by omega), p1, z_put hl (by omega)]
    unfold K3_add_46
    rw [z_upr (show 59 ≠ 66 by omega), z_upr (show 59 ≠ 65 by omega), p1, z_put hl (by omega), z_upr (show 59 ≠ 67 by omega), z_upr (show 59 ≠ 66 by omega), z_upr (show 59 ≠ 65 by omega), p1, z_put hl (by omega)]
    have ed : (if 0 ≤ a2 then ((F7_at 68 180 a2 (ax_up (ax_up (ax_up m 65 L.length (nI c)) 66 L.length a2) 67 L.length a3)) + 1 : Int32) else 0) = nI d := by
      rw [← hd]
      unfold F7_at
      rw [z_upr (show 68 ≠ 67 by omega), z_upr (show 68 ≠ 66 by omega), z_upr (show 68 ≠ 65 by omega)]
    rw [ed]
    unfold K3_add_87
    rw [z_upr (show 59 ≠ 68 by omega), z_upr (show 59 ≠ 67 by omega), z_upr (show 59 ≠ 66 by omega), z_upr (show 59 ≠ 65 by omega), p1, nI_1, z_up _ 59 10, if_pos ⟨rfl, rfl⟩, z_put hc (by omega)]
  rw [ea]
  refine ⟨⟨?_, fun k e hk => ?_, fun x hx hxn => ?_⟩, fun d h1 h2 => ?_, fun j hj => ?_⟩
  · rw [z_upr (by omega), z_up, if_pos ⟨rfl, rfl⟩, List.length_append]; rfl
  · rcases zapp_g.mp hk with w | ⟨w1, w2⟩
    · have hlt := zlt_of w
      obtain ⟨k1, k2, k3, k4, k5⟩ := p2 k e w
      refine ⟨?_, ?_, ?_, ?_, ?_⟩
      · rw [z_upr (by omega), z_upr (by omega), z_upr (by omega), z_upr (by omega), z_upr (by omega), z_up, if_neg (by omega)]; exact k1
      · rw [z_upr (by omega), z_upr (by omega), z_upr (by omega), z_upr (by omega), z_up, if_neg (by omega), z_upr (by omega)]; exact k2
      · rw [z_upr (by omega), z_upr (by omega), z_upr (by omega), z_up, if_neg (by omega), z_upr (by omega), z_upr (by omega)]; exact k3
      · rw [z_upr (by omega), z_upr (by omega), z_up, if_neg (by omega), z_upr (by omega), z_upr (by omega), z_upr (by omega)]; exact k4
      · have hne : e.1 ≠ c := fun x => hn (x ▸ zcs_m.mpr ⟨k, e, w, rfl⟩)
        rw [z_up, if_neg (fun x => hne x.2), z_upr (by omega), z_upr (by omega), z_upr (by omega), z_upr (by omega), z_upr (by omega)]; exact k5
    · subst w2
      refine ⟨?_, ?_, ?_, ?_, ?_⟩
      · rw [z_upr (by omega), z_upr (by omega), z_upr (by omega), z_upr (by omega), z_upr (by omega), z_up, if_pos ⟨rfl, w1⟩]
      · rw [z_upr (by omega), z_upr (by omega), z_upr (by omega), z_upr (by omega), z_up, if_pos ⟨rfl, w1⟩, w1]; exact h2
      · intro h0
        obtain ⟨j, j1, j2, j3⟩ := h3 (by omega)
        refine ⟨j, j1, ?_, j3⟩
        rw [z_upr (by omega), z_upr (by omega), z_upr (by omega), z_up, if_pos ⟨rfl, w1⟩]; exact j2
      · rw [z_upr (by omega), z_upr (by omega), z_up, if_pos ⟨rfl, w1⟩]
      · rw [z_up, if_pos ⟨rfl, rfl⟩, w1]
  · have h1 : x ∉ zcs L := fun w => hxn (by
      obtain ⟨k, e, k1, k2⟩ := zcs_m.mp w
      exact zcs_m.mpr ⟨k, e, zapp_g.mpr (Or.inl k1), k2⟩)
    have h2 : x ≠ c := fun w => hxn (zcs_m.mpr ⟨L.length, _, zapp_g.mpr (Or.inr ⟨rfl, rfl⟩), w.symm⟩)
    rw [z_up, if_neg (fun w => h2 w.2), z_upr (by omega), z_upr (by omega), z_upr (by omega), z_upr (by omega), z_upr (by omega)]
    exact p3 x hx h1
  · rw [z_upr (by omega), z_upr h1, z_upr (by omega), z_upr (by omega), z_upr (by omega), z_upr (by omega)]
  · rw [z_upr (by omega), z_up, if_neg (by omega), z_upr (by omega), z_upr (by omega), z_upr (by omega), z_upr (by omega)]
theorem zBI.len {L : List zEt} (hs : zW s) (h0 : c0 < 4096) (h : zBI (zfo s P) (zvs s P) c0 i L) : L.length ≤ 180 := by
  have hq := h.q (Q := zSm c0) ⟨h0, fun _ => rfl⟩ (fun c v c' hc _ hf => zfo_q hs hc hf)
  have := zSm_le (c0 := c0) h.2.1 (fun c hc => by
    obtain ⟨k, e, k1, k2⟩ := zcs_m.mp hc
    rw [← k2]; exact hq k e k1)
  unfold zcs at this
  rwa [List.length_map] at this
theorem zBI.lt {L : List zEt} (hs : zW s) (h0 : c0 < 4096) (h : zBI (zfo s P) (zvs s P) c0 i L) {k : Nat} {e : zEt} (hk : L[k]? = some e) : e.1 < 4096 :=
  (h.q (Q := zSm c0) ⟨h0, fun _ => rfl⟩ (fun c v c' hc _ hf => zfo_q hs hc hf) k e hk).1
/-- the class's look at a move of its list, and where it leads -/
theorem z7_move (hs : zW s) (hc : c < 4096) (hM : z3M m s (zvs s P)) {j : Nat} (hj : j < (zvs s P).length) : F3_isOpen (nI c) (nI j) m = zb (zfo s P c ((zvs s P).getD j 0)).isSome ∧ ∀ c', zfo s P c ((zvs s P).getD j 0) = some c' → nI c ^^^ (F7_at 63 120 (nI j) m) = nI c' := by
  have n6 := hs.no6
  have n4 := hs.nb4
  have hl := zvs_l (P := P) hs
  obtain ⟨k1, k2, k3, k4⟩ := hM.2 j hj
  have hv := (zvs_m.mp (zgetm (zvs s P) j hj)).2
  obtain ⟨a1, a2, a3, a4⟩ := zab_t hv
  have f1 := hs.fs a1
  have f2 := hs.sc a1
  unfold F3_isOpen
  rw [z_at (by omega) (by omega), z_at (by omega) (by omega), z_at (by omega) (by omega), k2, k3, k4]
  generalize (zvs s P).getD j 0 = v at *
  have op := z7_op (c := c) (p := v / 10 % 10) (q := v % 10) (f := s.fs (v / 100)) (s := s.sc (v / 100)) hc (by omega) (by omega) a4 (by omega) (by omega)
  have op' : (nI c &&& nI (zmk v) = nI (zwn s v)) ↔ _ := op
  constructor
  · unfold zfo
    by_cases w : zdg c (v / 10 % 10) = s.fs (v / 100) ∧ zdg c (v % 10) = s.sc (v / 100)
    · rw [if_pos (op'.mpr w), if_pos ⟨hv, w⟩]; rfl
    · rw [if_neg (fun x => w (op'.mp x)), if_neg (fun x => w x.2)]; rfl
  · intro c' h
    obtain ⟨_, h2, h3, rfl⟩ := zfo_t h
    exact z7_fl (c := c) hc (by omega) (by omega) a4 (by omega) (by omega) h2 h3
/-- one way's moves, from the j-th on -/
theorem z7_s69 {e : zEt} {v2 : Int32} (hs : zW s) (h0 : c0 < 4096) (hi : i < 180) : ∀ n j L m, j ≤ (zvs s P).length → (zvs s P).length - j < n → z3M m s (zvs s P) → zBI (zfo s P) (zvs s P) c0 i L → z3L m (zvs s P) L → L[i]? = some e → E3_survey_69 1 n v2 (nI i) (nI j) m ∧ z3W m (L3_survey_69 1 n v2 (nI i) (nI j) m).2 ∧ z3L (L3_survey_69 1 n v2 (nI i) (nI j) m).2 (zvs s P) (zex (zfo s P) i e ((zvs s P).drop j) L) := by
  have hl := zvs_l (P := P) hs
  intro n
  induction n with
  | zero => intro j L m _ h; omega
  | succ n ih =>
    intro j L m hj hn hM hB hL hie
    unfold E3_survey_69 L3_survey_69
    rw [hM.1]
    by_cases w : j = (zvs s P).length
    · rw [if_pos (z_let (by omega) (by omega)), w, List.drop_length]
      exact ⟨fun x => absurd (z_let (by omega) (by omega)) x, z3W.rf, hL⟩
    · have hlt : ¬ nI (zvs s P).length ≤ nI j := z_lef (by omega) (by omega)
      have hj' : j < (zvs s P).length := by omega
      have hv := zgetm (zvs s P) j hj'
      obtain ⟨q1, q2, q3, q4, q5⟩ := hL.2.1 i e hie
      have hc := hB.lt hs h0 hie
      obtain ⟨o1, o2⟩ := z7_move hs hc hM hj'
      rw [if_neg hlt, z_at hi (by omega), q1, o1, nI_1, zdrop (zvs s P) j hj']
      have ez : zex (zfo s P) i e ((zvs s P).getD j 0 :: (zvs s P).drop (j + 1)) L = zex (zfo s P) i e ((zvs s P).drop (j + 1)) (match zfo s P e.1 ((zvs s P).getD j 0) with
        | none => L
        | some c => zad L c i ((zvs s P).getD j 0) (e.2.2.2 + 1)) := rfl
      rw [ez]
      cases ef : zfo s P e.1 ((zvs s P).getD j 0) with
      | none =>
        rw [if_pos (show zb (none : Option Nat).isSome = 0 from rfl)]
        obtain ⟨i1, i2, i3⟩ := ih (j + 1) L m (by omega) (by omega) hM hB hL hie
        exact ⟨fun _ => i1, i2, i3⟩
      | some c' =>
        rw [if_neg (show ¬ zb (some c').isSome = 0 from (by decide : ¬ zb true = 0)), o2 c' ef]
        have hB' := zad_bi hB hie hv ef
        have hsm : c' < 4096 := (zfo_q hs (hB.q (Q := zSm c0) ⟨h0, fun _ => rfl⟩ (fun c v c' hc _ hf => zfo_q hs hc hf) i e hie) ef).1
        dsimp only
        have key : z3L (F3_add (nI c') (nI i) (nI j) m) (zvs s P) (zad L c' i ((zvs s P).getD j 0) (e.2.2.2 + 1)) ∧ z3W m (F3_add (nI c') (nI i) (nI j) m) := by
          by_cases hin : c' ∈ zcs L
          · obtain ⟨k, x, k1, k2⟩ := zcs_m.mp hin
            have hx := (hL.2.1 k x k1).2.2.2.2
            rw [k2] at hx
            have hkl := zlt_of k1
            have hll := hB.len hs h0
            have e1 : F3_add (nI c') (nI i) (nI j) m = m := by
              unfold F3_add
              rw [z_at hsm (by omega), hx]
              rw [if_neg (show ¬ nI (k + 1) = 0 from nI_ne0 (by omega) (by omega))]
              split <;> rfl
            have e2 : zad L c' i ((zvs s P).getD j 0) (e.2.2.2 + 1) = L := by unfold zad; rw [if_pos hin]
            rw [e1, e2]
            exact ⟨hL, z3W.rf⟩
          · have e2 : zad L c' i ((zvs s P).getD j 0) (e.2.2.2 + 1) = L ++ [(c', i, (zvs s P).getD j 0, e.2.2.2 + 1)] := by unfold zad; rw [if_neg hin]
            have hll := hB'.len hs h0
            rw [e2, List.length_append] at hll
            rw [e2]
            have hil := zlt_of hie
            refine z7_put hsm hL hin (by simp at hll; omega) (by rw [if_neg (by omega)]) (fun _ => ⟨j, hj', rfl, rfl⟩) ?_ (Or.inr hi)
            rw [if_pos (show (0 : Int32) ≤ nI i from nI_pos' (by omega)), z_at hi (by omega), q4, nI_1]
        obtain ⟨a1, a2⟩ := key
        obtain ⟨i1, i2, i3⟩ := ih (j + 1) _ _ (by omega) (by omega) (a2.mm hM) hB' a1 (zad_pre hie)
        exact ⟨fun _ => i1, a2.tr i2, i3⟩
theorem z7_s51 {v2 : Int32} (hs : zW s) (h0 : c0 < 4096) : ∀ n i m, i ≤ 180 → 180 - i < n → i ≤ (zst (zfo s P) (zvs s P) c0 i).length → z3M m s (zvs s P) → z3L m (zvs s P) (zst (zfo s P) (zvs s P) c0 i) → E3_survey_51 1 n v2 (nI i) m ∧ z3W m (L3_survey_51 1 n v2 (nI i) m).2 ∧ z3L (L3_survey_51 1 n v2 (nI i) m).2 (zvs s P) (zst (zfo s P) (zvs s P) c0 180) := by
  have hl := zvs_l (P := P) hs
  intro n
  induction n with
  | zero => intro i m _ h; omega
  | succ n ih =>
    intro i m hi hn hil hM hL
    have hB := zst_bi (fo := zfo s P) (vs := zvs s P) (c0 := c0) i
    have hlen := hB.len hs h0
    unfold E3_survey_51 L3_survey_51
    rw [hL.1]
    by_cases w : (zst (zfo s P) (zvs s P) c0 i).length ≤ i
    · rw [if_pos (z_let w (by omega))]
      refine ⟨fun x => absurd (z_let w (by omega)) x, z3W.rf, ?_⟩
      have := zst_stop (fo := zfo s P) (vs := zvs s P) (c0 := c0) (i := i) w (180 - i)
      rw [show i + (180 - i) = 180 by omega] at this
      rw [this]; exact hL
    · have hlt : ¬ nI (zst (zfo s P) (zvs s P) c0 i).length ≤ nI i := z_lef (by omega) (by omega)
      have h180 : ¬ (180 : Int32) ≤ nI i := z_lef (a := 180) (by omega) (by omega)
      obtain ⟨e, he⟩ := zget_of (show i < (zst (zfo s P) (zvs s P) c0 i).length by omega)
      obtain ⟨x1, x2, x3⟩ := z7_s69 (v2 := v2) (e := e) hs h0 (show i < 180 by omega) 200 0 _ m (by omega) (by omega) hM (hB.wk (show i - 1 ≤ i by omega)) hL he
      rw [show nI 0 = (0 : Int32) from rfl] at x1 x2 x3
      rw [List.drop_zero] at x3
      have est : zst (zfo s P) (zvs s P) c0 (i + 1) = zex (zfo s P) i e (zvs s P) (zst (zfo s P) (zvs s P) c0 i) := by
        conv => lhs; unfold zst
        rw [he]
      rw [← est] at x3
      have hpre := zst_pre1 he
      rw [if_neg hlt, if_neg h180, nI_1]
      obtain ⟨i1, i2, i3⟩ := ih (i + 1) _ (by omega) (by omega) (by have := zlt_of hpre; omega) (x2.mm hM) x3
      exact ⟨fun _ _ => ⟨x1, i1⟩, x2.tr i2, i3⟩
theorem z7_clear {cd : Nat → Nat} {N : Nat} {v2 : Int32} (hN : N ≤ 180) : ∀ n i m, i ≤ N → N - i < n → m 59 10 = nI N → (∀ j, j < N → m 65 j = nI (cd j) ∧ cd j < 4096) → (∀ c, c < 4096 → (∀ j, i ≤ j → j < N → cd j ≠ c) → m 64 c = 0) → E3_survey_2 1 n v2 (nI i) m ∧ (∀ d, d ≠ 64 → (L3_survey_2 1 n v2 (nI i) m).2 d = m d) ∧ ∀ c, c < 4096 → (L3_survey_2 1 n v2 (nI i) m).2 64 c = 0 := by
  intro n
  induction n with
  | zero => intro i m _ h; omega
  | succ n ih =>
    intro i m hi hn h1 h2 h3
    unfold E3_survey_2 L3_survey_2
    rw [h1]
    by_cases w : i = N
    · rw [if_pos (z_let (by omega) (by omega))]
      exact ⟨fun x => absurd (z_let (by omega) (by omega)) x, fun _ _ => rfl, fun c hc => h3 c hc (fun j a b => by omega)⟩
    · have hlt : ¬ nI N ≤ nI i := z_lef (by omega) (by omega)
      obtain ⟨a1, a2⟩ := h2 i (by omega)
      rw [if_neg hlt, z_at (by omega) (by omega), a1, z_put a2 (by omega), nI_1]
      obtain ⟨i1, i2, i3⟩ := ih (i + 1) (ax_up m 64 (cd i) 0) (by omega) (by omega) (by rw [z_upr (by omega)]; exact h1) (by rw [z_upr (by omega)]; exact h2) (fun c hc hne => by
        rw [z_up]
        by_cases x : c = cd i
        · rw [if_pos ⟨rfl, x⟩]
        · rw [if_neg (fun y => x y.2)]
          refine h3 c hc (fun j u1 u2 => ?_)
          by_cases y : j = i
          · rw [y]; exact fun z => x z.symm
          · exact hne j (by omega) u2)
      exact ⟨fun _ => i1, fun d hd => by rw [i2 d hd, z_upr hd], i3⟩
/-- the whole survey -/
theorem z7_survey (hs : zW s) (hP : zV s P) (hG : zG m 1 s P) (hN : zN m) (h0 : c0 < 4096) : D3_survey 1 (nI c0) m ∧ (∀ d, ¬ (59 ≤ d ∧ d ≤ 68) → F3_survey 1 (nI c0) m d = m d) ∧ z3M (F3_survey 1 (nI c0) m) s (zvs s P) ∧ z3L (F3_survey 1 (nI c0) m) (zvs s P) (zst (zfo s P) (zvs s P) c0 180) := by
  obtain ⟨N, cd, n1, n2, n3, n4⟩ := hN
  obtain ⟨a1, a2, a3⟩ := z7_clear (v2 := nI c0) n1 200 0 m (by omega) (by omega) n2 n3 (fun c hc h => n4 c hc (fun i hi => h i (by omega) hi))
  rw [show nI 0 = (0 : Int32) from rfl] at a1 a2 a3
  unfold D3_survey F3_survey
  generalize (L3_survey_2 1 200 (nI c0) 0 m) = R at *
  have G1 : zG (ax_up R.2 59 10 0) 1 s P := hG.same (fun c h1 h2 => by rw [z_upr (by omega), a2 c (by omega)])
  obtain ⟨b1, b2, b3⟩ := z7_moves hs hP G1
  generalize F3_listMoves 1 (ax_up R.2 59 10 0) = m2 at *
  have hL0 : z3L m2 (zvs s P) [] := ⟨by rw [b2.2 10 (by omega), z_up, if_pos ⟨rfl, rfl⟩]; rfl, fun k e hk => (by cases hk), fun c hc _ => by rw [b2.1 64 (by omega) (by omega), z_upr (by omega)]; exact a3 c hc⟩
  obtain ⟨c1, c2⟩ := z7_put (c := c0) (i := 0) (v := 0) (d := 0) (a2 := -1) (a3 := 0) h0 hL0 (fun w => by cases w) (by show 0 < 180; omega) (if_pos rfl).symm (fun w => absurd w (by show ¬ 0 < 0; omega)) (by rw [if_neg (by decide)]; rfl) (Or.inl rfl)
  obtain ⟨d1, d2, d3⟩ := z7_s51 (v2 := nI c0) (P := P) (c0 := c0) hs h0 200 0 _ (by omega) (by omega) (by omega) (c2.mm b3) c1
  rw [show nI 0 = (0 : Int32) from rfl] at d1 d2 d3
  refine ⟨⟨a1, b1, d1⟩, fun d hd => ?_, d2.mm (c2.mm b3), d3⟩
  unfold K3_survey_42
  rw [d2.1 d (by omega) (by omega), c2.1 d (by omega) (by omega), b2.1 d (by omega) (by omega), z_upr (by omega), a2 d (by omega)]
end ZB2
