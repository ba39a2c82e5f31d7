/-! PURE: the reference's search -/
def z8A (m : ax_M) (s : zS) (P : zP) : Prop := ∀ v, v < 400 → m 91 v = zb (zab s P v)
def z8L (m : ax_M) (L : List zEt) : Prop := m 74 42 = nI L.length ∧ (∀ (k : Nat) (e : zEt), L[k]? = some e → m 89 k = nI e.1 ∧ m 87 e.1 = (if k = 0 then -1 else nI (e.2.1 + 1)) ∧ (0 < k → m 88 e.1 = nI e.2.2.1)) ∧ ∀ c, c < 4096 → c ∉ zcs L → m 87 c = 0
/-- what a search leaves as it was -/
def z8W (m m' : ax_M) : Prop := (∀ d, d ≠ 74 → ¬ (87 ≤ d ∧ d ≤ 91) → m' d = m d) ∧ ∀ j, j ≠ 42 → m' 74 j = m 74 j
theorem z8W.tr {m1 m2 m3 : ax_M} (h : z8W m1 m2) (h' : z8W m2 m3) : z8W m1 m3 := ⟨fun d h1 h2 => by rw [h'.1 d h1 h2, h.1 d h1 h2], fun j hj => by rw [h'.2 j hj, h.2 j hj]⟩
theorem z8W.rf {m : ax_M} : z8W m m := ⟨fun _ _ _ => rfl, fun _ _ => rfl⟩
theorem zdropr {N v : Nat} (h : v < N) : (List.range N).drop v = v :: (List.range N).drop (v + 1) := by
  rw [List.drop_eq_getElem_cons (by rw [List.length_range]; exact h), List.getElem_range]
section ZC2
variable {m : ax_M} {s : zS} {P : zP} {c v c0 i : Nat}
theorem z8W.e {m1 m2 : ax_M} (h : z8W m1 m2) (hE : zE m1 s) : zE m2 s := hE.same (h.2 2 (by omega)) (h.2 3 (by omega)) (h.2 4 (by omega)) (h.2 5 (by omega)) (h.1 76 (by omega) (by omega))
theorem z8W.q {m1 m2 : ax_M} (h : z8W m1 m2) (hQ : zQ m1 0 s P) : zQ m2 0 s P := by unfold zQ; rw [h.1 75 (by omega) (by omega)]; exact hQ
theorem z_dig3 (hv : v < 1000) : nI v / 100 = nI (v / 100) ∧ (nI v / 10) - (nI v / 10) / 10 * 10 = nI (v / 10 % 10) ∧ nI v - nI v / 10 * 10 = nI (v % 10) := by
  refine ⟨by rw [z_lit 100, pk_div (by omega) (by omega) (by omega)], ?_, by rw [z_lit 10, pk_rem (by omega) (by omega) (by omega)]⟩
  rw [z_lit 10, pk_div (by omega) (by omega) (by omega), pk_rem (by omega) (by omega) (by omega)]
theorem ztwo_e {b p q : Nat} (hs : zW s) (hb : b < 1000) (hp : p < 1000) (hq : q < 1000) : ztwo s (nI b) (nI p) (nI q) = decide (b < s.ng ∧ p < s.no ∧ q < s.no ∧ p ≠ q) := by
  have n6 := hs.no6
  have g4 := hs.ng4
  by_cases w : b < s.ng ∧ p < s.no ∧ q < s.no ∧ p ≠ q
  · rw [decide_eq_true w, ztwo_i hs w.1 w.2.1 w.2.2.1 w.2.2.2]
  · rw [decide_eq_false w]
    cases e : ztwo s (nI b) (nI p) (nI q) with
    | false => rfl
    | true =>
      obtain ⟨x, y, z, h1, h2, h3, h4, e1, e2, e3⟩ := ztwo_t hs e
      rw [z_neq (by omega) (by omega)] at e1 e2 e3
      exact absurd ⟨by omega, by omega, by omega, by omega⟩ w
theorem z8_able (hs : zW s) (hP : zV s P) : ∀ n v m, v ≤ 400 → 400 - v < n → zE m s → zQ m 0 s P → (∀ u, u < v → m 91 u = zb (zab s P u)) → E8_layAble_2 n (nI v) m ∧ (∀ d, d ≠ 91 → (L8_layAble_2 n (nI v) m).2 d = m d) ∧ z8A (L8_layAble_2 n (nI v) m).2 s P := by
  intro n
  induction n with
  | zero => intro v m _ h; omega
  | succ n ih =>
    intro v m hv hn hE hQ hA
    unfold E8_layAble_2 L8_layAble_2
    by_cases e : v = 400
    · subst e
      rw [if_pos (show (400 : Int32) ≤ nI 400 by decide)]
      exact ⟨fun w => absurd (show (400 : Int32) ≤ nI 400 by decide) w, fun _ _ => rfl, hA⟩
    · have hlt : ¬ (400 : Int32) ≤ nI v := z_lef (a := 400) (by omega) (by omega)
      obtain ⟨d1, d2, d3⟩ := z_dig3 (v := v) (by omega)
      rw [if_neg hlt, d1, d2, d3, z8_two hs hE, ztwo_e hs (by omega) (by omega) (by omega), z_ncl (by omega), nI_1]
      have key : (¬ (zb (decide (v / 100 < s.ng ∧ v / 10 % 10 < s.no ∧ v % 10 < s.no ∧ v / 10 % 10 ≠ v % 10)) = 0) → (D8_mayGo (nI (v / 100)) (nI (v / 10 % 10)) (nI (v % 10)) m) ∧ (¬ (F8_mayGo (nI (v / 100)) (nI (v / 10 % 10)) (nI (v % 10)) m = 0) → D8_isLevel (nI (v / 100)) (nI (v / 10 % 10)) (nI (v % 10)) 0 0 m)) ∧ (if zb (decide (v / 100 < s.ng ∧ v / 10 % 10 < s.no ∧ v % 10 < s.no ∧ v / 10 % 10 ≠ v % 10)) = 0 then (0 : Int32) else if (F8_mayGo (nI (v / 100)) (nI (v / 10 % 10)) (nI (v % 10)) m) = 0 then (0 : Int32) else if (F8_isLevel (nI (v / 100)) (nI (v / 10 % 10)) (nI (v % 10)) 0 0 m) = 0 then (0 : Int32) else 1) = zb (zab s P v) := by
        by_cases w : v / 100 < s.ng ∧ v / 10 % 10 < s.no ∧ v % 10 < s.no ∧ v / 10 % 10 ≠ v % 10
        · obtain ⟨w1, w2, w3, w4⟩ := id w
          refine ⟨fun _ => ⟨z8_dmay hs w1 w2 w3, fun _ => z8_dlevel hs w1 w2 w3⟩, ?_⟩
          rw [z8_may hs hP hE hQ w1 w2 w3, show F8_isLevel (nI (v / 100)) (nI (v / 10 % 10)) (nI (v % 10)) 0 0 m = _ from z8_level (i := 0) (j := 0) hs hP hE hQ w1 w2 w3 (by omega) (by omega)]
          unfold zab
          rw [decide_eq_true w]
          cases zgo1 s P (v / 100) (v / 10 % 10) (v % 10) <;> cases zlev s P (v / 100) (v / 10 % 10) (v % 10) 0 0 <;> rfl
        · refine ⟨fun x => absurd (by rw [decide_eq_false w]; rfl) x, ?_⟩
          unfold zab
          rw [decide_eq_false w]; rfl
      rw [key.2]
      obtain ⟨i1, i2, i3⟩ := ih (v + 1) (ax_up m 91 v (zb (zab s P v))) (by omega) (by omega) (hE.same (by rw [z_upr (by omega)]) (by rw [z_upr (by omega)]) (by rw [z_upr (by omega)]) (by rw [z_upr (by omega)]) (z_upr (by omega))) (by unfold zQ; rw [z_upr (by omega)]; exact hQ) (fun u hu => by
        rw [z_up]
        by_cases w : u = v
        · rw [if_pos ⟨rfl, w⟩, w]
        · rw [if_neg (fun x => w x.2)]; exact hA u (by omega))
      exact ⟨fun _ => ⟨key.1, z_vp (by omega) (by omega), i1⟩, fun d hd => by rw [i2 d hd, z_upr hd], i3⟩
theorem z8_follows (hs : zW s) (hE : zE m s) (hA : z8A m s P) (hc : c < 4096) (hv : v < 400) : D8_follows (nI c) (nI v) m ∧ F8_follows (nI c) (nI v) m = zen (zfo s P c v) := by
  have n6 := hs.no6
  have n4 := hs.nb4
  obtain ⟨d1, d2, d3⟩ := z_dig3 (v := v) (by omega)
  unfold D8_follows F8_follows
  rw [d1, d2, d3, z_ncl (by omega), hA v hv]
  unfold zfo
  cases e : zab s P v with
  | false =>
    rw [if_pos (show zb false = 0 from rfl), if_neg (fun w : (false = true ∧ zdg c (v / 10 % 10) = s.fs (v / 100) ∧ zdg c (v % 10) = s.sc (v / 100)) => by cases w.1)]
    exact ⟨⟨z_vp (by omega) (by omega), fun w => absurd rfl w⟩, rfl⟩
  | true =>
    obtain ⟨a1, a2, a3, a4⟩ := zab_t e
    have f1 := hs.fs a1
    have f2 := hs.sc a1
    have g1 := zdg_lt c (v / 10 % 10)
    have g2 := zdg_lt c (v % 10)
    have x1 : (nI c >>> ((2 * nI (v / 10 % 10)) &&& (31 : Int32))) &&& 3 = nI (zdg c (v / 10 % 10)) := z_cdig (by omega) (by omega)
    have x2 : (nI c >>> ((2 * nI (v % 10)) &&& (31 : Int32))) &&& 3 = nI (zdg c (v % 10)) := z_cdig (by omega) (by omega)
    rw [if_neg (show ¬ zb true = 0 by decide), z8_first hs hE a1, z8_second hs hE a1, x1, x2, z8_fc hc (by omega) (by omega) a4 (by omega) (by omega)]
    have c1 : (nI (zdg c (v / 10 % 10)) = nI (s.fs (v / 100))) ↔ zdg c (v / 10 % 10) = s.fs (v / 100) := z_neq (by omega) (by omega)
    have c2 : (nI (zdg c (v % 10)) = nI (s.sc (v / 100))) ↔ zdg c (v % 10) = s.sc (v / 100) := z_neq (by omega) (by omega)
    simp only [c1, c2]
    refine ⟨⟨z_vp (by omega) (by omega), fun _ => ⟨z8_vf hs a1, fun _ => z8_vs hs a1, fun _ => ⟨z8_vs hs a1, z8_vf hs a1⟩⟩⟩, ?_⟩
    by_cases w1 : zdg c (v / 10 % 10) = s.fs (v / 100)
    · rw [if_pos w1]
      by_cases w2 : zdg c (v % 10) = s.sc (v / 100)
      · rw [if_pos w2, if_neg (by decide), if_pos ⟨trivial, w1, w2⟩]; rfl
      · rw [if_neg w2, if_pos rfl, if_neg (fun w => w2 w.2.2)]; rfl
    · rw [if_neg w1, if_pos rfl, if_neg (fun w => w1 w.2.1)]; rfl
theorem z8_zl {v1 v2 : Int32} : ∀ n k m, k ≤ 4096 → 4096 - k < n → (∀ c, c < k → m 87 c = 0) → E8_searches_11 n v1 v2 (nI k) m ∧ (∀ d, d ≠ 87 → (L8_searches_11 n v1 v2 (nI k) m).2 d = m d) ∧ ∀ c, c < 4096 → (L8_searches_11 n v1 v2 (nI k) m).2 87 c = 0 := by
  intro n
  induction n with
  | zero => intro v m _ h; omega
  | succ n ih =>
    intro k m hk hn h0
    unfold E8_searches_11 L8_searches_11
    by_cases e : k = 4096
    · subst e
      rw [if_pos (show (4096 : Int32) ≤ nI 4096 by decide)]
      exact ⟨fun w => absurd (show (4096 : Int32) ≤ nI 4096 by decide) w, fun _ _ => rfl, h0⟩
    · have hlt : ¬ (4096 : Int32) ≤ nI k := z_lef (a := 4096) (by omega) (by omega)
      rw [if_neg hlt, z_ncl (by omega), nI_1]
      obtain ⟨i1, i2, i3⟩ := ih (k + 1) (ax_up m 87 k 0) (by omega) (by omega) (fun u hu => by
        rw [z_up]
        by_cases w : u = k
        · rw [if_pos ⟨rfl, w⟩]
        · rw [if_neg (fun x => w x.2)]; exact h0 u (by omega))
      exact ⟨fun _ => ⟨z_vp (by omega) (by omega), i1⟩, fun d hd => by rw [i2 d hd, z_upr hd], i3⟩
theorem z8_put {L : List zEt} {d k : Nat} (hc : c < 4096) (h : z8L m L) (hn : c ∉ zcs L) (hl : 0 < L.length) (hl2 : L.length < 4096) : z8L (ax_up (ax_up (ax_up (ax_up m 87 c (nI (k + 1))) 88 c (nI v)) 89 L.length (nI c)) 74 42 (nI (L.length + 1))) (L ++ [(c, k, v, d)]) := by
  obtain ⟨p1, p2, p3⟩ := h
  refine ⟨by rw [z_up, if_pos ⟨rfl, rfl⟩, List.length_append]; rfl, fun j e hj => ?_, fun x hx hxn => ?_⟩
  · rcases zapp_g.mp hj with w | ⟨w1, w2⟩
    · have hlt := zlt_of w
      obtain ⟨k1, k2, k3⟩ := p2 j e w
      have hne : e.1 ≠ c := fun x => hn (x ▸ zcs_m.mpr ⟨j, e, w, rfl⟩)
      refine ⟨?_, ?_, ?_⟩
      · rw [z_upr (by omega), z_up, if_neg (by omega), z_upr (by omega), z_upr (by omega)]; exact k1
      · rw [z_upr (by omega), z_upr (by omega), z_upr (by omega), z_up, if_neg (fun x => hne x.2)]; exact k2
      · rw [z_upr (by omega), z_upr (by omega), z_up, if_neg (fun x => hne x.2), z_upr (by omega)]; exact k3
    · subst w2
      refine ⟨?_, ?_, ?_⟩
      · rw [z_upr (by omega), z_up, if_pos ⟨rfl, w1⟩]
      · rw [z_upr (by omega), z_upr (by omega), z_upr (by omega), z_up, if_pos ⟨rfl, rfl⟩, if_neg (by omega)]
      · intro _
        rw [z_upr (by omega), z_upr (by omega), z_up, if_pos ⟨rfl, rfl⟩]
  · have h1 : x ∉ zcs L := fun w => hxn (by
      obtain ⟨k, e, k1, k2⟩ := zcs_m.mp w
      exact zcs_m.mpr ⟨k, e, zapp_g.mpr (Or.inl k1), k2⟩)
    have h2 : x ≠ c := fun w => hxn (zcs_m.mpr ⟨L.length, _, zapp_g.mpr (Or.inr ⟨rfl, rfl⟩), w.symm⟩)
    rw [z_upr (by omega), z_upr (by omega), z_upr (by omega), z_up, if_neg (fun w => h2 w.2)]
    exact p3 x hx h1
theorem z8_s79 {e : zEt} {v1 v2 : Int32} (hs : zW s) (h0 : c0 < 4096) (hi : i < 180) : ∀ n v L m, v ≤ 100 * s.ng → 100 * s.ng - v < n → zE m s → z8A m s P → zBI (zfo s P) (zvs s P) c0 i L → z8L m L → L[i]? = some e → E8_searches_79 n v1 v2 (nI i) (nI e.1) (nI v) m ∧ z8W m (L8_searches_79 n v1 v2 (nI i) (nI e.1) (nI v) m).2 ∧ (L8_searches_79 n v1 v2 (nI i) (nI e.1) (nI v) m).2 91 = m 91 ∧ z8L (L8_searches_79 n v1 v2 (nI i) (nI e.1) (nI v) m).2 (zex (zfo s P) i e ((List.range (100 * s.ng)).drop v) L) := by
  have g4 := hs.ng4
  intro n
  induction n with
  | zero => intro v L m _ h; omega
  | succ n ih =>
    intro v L m hv hn hE hA hB hL hie
    unfold E8_searches_79 L8_searches_79
    rw [hE.ng, show 100 * nI s.ng = nI (100 * s.ng) by rw [z_lit 100, pk_mul]]
    by_cases w : v = 100 * s.ng
    · rw [if_pos (z_let (by omega) (by omega)), w, List.drop_of_length_le (by rw [List.length_range]; exact Nat.le_refl _)]
      exact ⟨fun x => absurd (z_let (by omega) (by omega)) x, z8W.rf, rfl, hL⟩
    · have hlt : ¬ nI (100 * s.ng) ≤ nI v := z_lef (by omega) (by omega)
      have hc := hB.lt hs h0 hie
      obtain ⟨o1, o2⟩ := z8_follows hs hE hA hc (show v < 400 by omega)
      rw [if_neg hlt, o2, nI_1 v, zdropr (show v < 100 * s.ng by omega)]
      have ez : zex (zfo s P) i e (v :: (List.range (100 * s.ng)).drop (v + 1)) L = zex (zfo s P) i e ((List.range (100 * s.ng)).drop (v + 1)) (match zfo s P e.1 v with
        | none => L
        | some c => zad L c i v (e.2.2.2 + 1)) := rfl
      rw [ez]
      cases ef : zfo s P e.1 v with
      | none =>
        rw [if_pos (show zen none = -4 from rfl)]
        obtain ⟨i1, i2, i3, i4⟩ := ih (v + 1) L m (by omega) (by omega) hE hA hB hL hie
        exact ⟨fun _ => ⟨o1, fun x => absurd rfl x, i1⟩, i2, i3, i4⟩
      | some c' =>
        have hvs : v ∈ zvs s P := zvs_m.mpr ⟨by omega, (zfo_t ef).1⟩
        have hB' := zad_bi hB hie hvs ef
        have hsm : c' < 4096 := (zfo_q hs (hB.q (Q := zSm c0) ⟨h0, fun _ => rfl⟩ (fun c v c' hc _ hf => zfo_q hs hc hf) i e hie) ef).1
        have hne : ¬ zen (some c') = -4 := fun x => by cases (zen_n4 (fun y hy => by injection hy with hy; omega)).mp x
        have hll := hB.len hs h0
        dsimp only
        rw [if_neg hne, show zen (some c') = nI c' from rfl, z_ncl (by omega)]
        have vc : vp_in (nI c') 4096 := z_vp hsm (by omega)
        have e42 : (ax_up (ax_up m 87 c' (nI (i + 1))) 88 c' (nI v)) 74 42 = nI L.length := by rw [z_upr (by omega), z_upr (by omega)]; exact hL.1
        by_cases hin : c' ∈ zcs L
        · obtain ⟨k, x, k1, k2⟩ := zcs_m.mp hin
          have hx := (hL.2.1 k x k1).2.1
          rw [k2] at hx
          have hkl := zlt_of k1
          have hnz : ¬ m 87 c' = 0 := by
            rw [hx]
            by_cases y : k = 0
            · rw [if_pos y]; decide
            · rw [if_neg y]
              have := (hB.2.2.1 k x k1 (by omega)).1
              exact nI_ne0 (by omega) (by omega)
          have e2 : zad L c' i v (e.2.2.2 + 1) = L := by unfold zad; rw [if_pos hin]
          rw [if_neg hnz, e2]
          obtain ⟨i1, i2, i3, i4⟩ := ih (v + 1) L m (by omega) (by omega) hE hA hB hL hie
          exact ⟨fun _ => ⟨o1, fun _ => ⟨vc, fun y => absurd y hnz⟩, i1⟩, i2, i3, i4⟩
        · have hz := hL.2.2 c' hsm hin
          have e2 : zad L c' i v (e.2.2.2 + 1) = L ++ [(c', i, v, e.2.2.2 + 1)] := by unfold zad; rw [if_neg hin]
          have hil := zlt_of hie
          rw [if_pos hz, e2, nI_1 i, e42, z_ncl (by omega), z_upr (show 74 ≠ 89 by omega), e42, nI_1]
          have hL' := z8_put (v := v) (d := e.2.2.2 + 1) (k := i) hsm hL hin (by omega) (by omega)
          rw [e2] at hB'
          have hW : z8W m (ax_up (ax_up (ax_up (ax_up m 87 c' (nI (i + 1))) 88 c' (nI v)) 89 L.length (nI c')) 74 42 (nI (L.length + 1))) := ⟨fun d h1 h2 => by rw [z_upr h1, z_upr (by omega), z_upr (by omega), z_upr (by omega)], fun j hj => by rw [z_up, if_neg (by omega), z_upr (by omega), z_upr (by omega), z_upr (by omega)]⟩
          have h91 : (ax_up (ax_up (ax_up (ax_up m 87 c' (nI (i + 1))) 88 c' (nI v)) 89 L.length (nI c')) 74 42 (nI (L.length + 1))) 91 = m 91 := by rw [z_upr (by omega), z_upr (by omega), z_upr (by omega), z_upr (by omega)]
          obtain ⟨i1, i2, i3, i4⟩ := ih (v + 1) _ _ (by omega) (by omega) (hW.e hE) (by unfold z8A; rw [h91]; exact hA) hB' hL' (zapp_g.mpr (Or.inl hie))
          exact ⟨fun _ => ⟨o1, fun _ => ⟨vc, fun _ => ⟨vc, vc, z_vp (by omega) (by omega)⟩⟩, i1⟩, hW.tr i2, by rw [i3, h91], i4⟩
/-- the search for a goal (or for none): where it ends -/
theorem z8_s52 {v1 v2 : Int32} (hs : zW s) (h0 : c0 < 4096) : ∀ n k m, k ≤ 180 → 180 - k < n → zE m s → z8A m s P → z8L m (zst (zfo s P) (zvs s P) c0 k) → (∀ (j : Nat) (e : zEt), j < k → (zst (zfo s P) (zvs s P) c0 k)[j]? = some e → nI e.1 ≠ v1) → E8_searches_52 n v1 v2 (nI k) m ∧ z8W m (L8_searches_52 n v1 v2 (nI k) m).2.2 ∧ (((L8_searches_52 n v1 v2 (nI k) m).1 = none ∧ z8L (L8_searches_52 n v1 v2 (nI k) m).2.2 (zst (zfo s P) (zvs s P) c0 180) ∧ ∀ (j : Nat) (e : zEt), (zst (zfo s P) (zvs s P) c0 180)[j]? = some e → nI e.1 ≠ v1) ∨ ∃ (j : Nat) (e : zEt), (L8_searches_52 n v1 v2 (nI k) m).1 = some (nI j) ∧ (zst (zfo s P) (zvs s P) c0 180)[j]? = some e ∧ nI e.1 = v1 ∧ j < 180 ∧ (zst (zfo s P) (zvs s P) c0 j)[j]? = some e ∧ z8L (L8_searches_52 n v1 v2 (nI k) m).2.2 (zst (zfo s P) (zvs s P) c0 j)) := by
  have g4 := hs.ng4
  intro n
  induction n with
  | zero => intro i m _ h; omega
  | succ n ih =>
    intro k m hk hn hE hA hL hno
    have hB := zst_bi (fo := zfo s P) (vs := zvs s P) (c0 := c0) k
    have hlen := hB.len hs h0
    unfold E8_searches_52 L8_searches_52
    rw [hL.1]
    by_cases w : (zst (zfo s P) (zvs s P) c0 k).length ≤ k
    · rw [if_pos (z_let w (by omega))]
      have := zst_stop (fo := zfo s P) (vs := zvs s P) (c0 := c0) (i := k) w (180 - k)
      rw [show k + (180 - k) = 180 by omega] at this
      refine ⟨fun x => absurd (z_let w (by omega)) x, z8W.rf, Or.inl ⟨rfl, by rw [this]; exact hL, fun j e hj => ?_⟩⟩
      rw [this] at hj
      exact hno j e (by have := zlt_of hj; omega) hj
    · have hlt : ¬ nI (zst (zfo s P) (zvs s P) c0 k).length ≤ nI k := z_lef (by omega) (by omega)
      obtain ⟨e, he⟩ := zget_of (show k < (zst (zfo s P) (zvs s P) c0 k).length by omega)
      have q1 := (hL.2.1 k e he).1
      have hF := zst_pre (fo := zfo s P) (vs := zvs s P) (c0 := c0) (180 - k) he
      rw [show k + (180 - k) = 180 by omega] at hF
      rw [if_neg hlt, z_ncl (by omega), q1]
      by_cases wg : nI e.1 = v1
      · rw [if_pos wg]
        exact ⟨fun _ => ⟨z_vp (by omega) (by omega), fun x => absurd wg x⟩, z8W.rf, Or.inr ⟨k, e, rfl, hF, wg, by omega, he, hL⟩⟩
      · rw [if_neg wg]
        obtain ⟨x1, x2, x3, x4⟩ := z8_s79 (v1 := v1) (v2 := v2) (P := P) (e := e) hs h0 (show k < 180 by omega) 4200 0 _ m (by omega) (by omega) hE hA (hB.wk (show k - 1 ≤ k by omega)) hL he
        rw [show nI 0 = (0 : Int32) from rfl] at x1 x2 x3 x4
        rw [List.drop_zero] at x4
        have est : zst (zfo s P) (zvs s P) c0 (k + 1) = zex (zfo s P) k e (List.range (100 * s.ng)) (zst (zfo s P) (zvs s P) c0 k) := by
          conv => lhs; unfold zst
          rw [he]
          exact zex_f (fun v hv => by
            unfold zfo
            rw [if_neg (fun x => by rw [hv] at x; cases x.1)]) _ _
        rw [← est] at x4
        rw [nI_1]
        obtain ⟨i1, i2, i3⟩ := ih (k + 1) _ (by omega) (by omega) (x2.e hE) (by unfold z8A; rw [x3]; exact hA) x4 (fun j x hj hx => by
          by_cases y : j = k
          · rw [y, zst_pre1 he] at hx
            cases hx
            exact wg
          · have hjl : j < (zst (zfo s P) (zvs s P) c0 k).length := by omega
            obtain ⟨z, hz⟩ := zget_of hjl
            rw [zst_pre1 hz] at hx
            cases hx
            exact hno j _ (by omega) hz)
        exact ⟨fun _ => ⟨z_vp (by omega) (by omega), fun _ => ⟨x1, i1⟩⟩, x2.tr i2, i3⟩
theorem z8_searches {v1 : Int32} (hs : zW s) (hP : zV s P) (hE : zE m s) (hQ : zQ m 0 s P) (hc0 : c0 = zcode P.bk s.no) : D8_searches v1 m ∧ z8W m (F8_searches v1 m).2 ∧ (((F8_searches v1 m).1 = -4 ∧ z8L (F8_searches v1 m).2 (zst (zfo s P) (zvs s P) c0 180) ∧ ∀ (j : Nat) (e : zEt), (zst (zfo s P) (zvs s P) c0 180)[j]? = some e → nI e.1 ≠ v1) ∨ ∃ (j : Nat) (e : zEt), (F8_searches v1 m).1 = nI j ∧ (zst (zfo s P) (zvs s P) c0 180)[j]? = some e ∧ nI e.1 = v1 ∧ j < 180 ∧ (zst (zfo s P) (zvs s P) c0 j)[j]? = some e ∧ z8L (F8_searches v1 m).2 (zst (zfo s P) (zvs s P) c0 j)) := by
  have h0 : c0 < 4096 := by rw [hc0]; exact zcode_6 hs.no6 (fun k hk => hP.bk4 hs hk)
  obtain ⟨a1, a2⟩ := z8_code hs hP hE hQ
  rw [← hc0] at a2
  obtain ⟨b1, b2, b3⟩ := z8_able hs hP 420 0 m (by omega) (by omega) hE hQ (fun u h => by omega)
  rw [show nI 0 = (0 : Int32) from rfl] at b1 b2 b3
  have hla : (L8_layAble_2 420 0 m).2 = F8_layAble m := rfl
  rw [hla] at b2 b3
  have b1' : D8_layAble m := b1
  have b2' : ∀ d, d ≠ 91 → F8_layAble m d = m d := b2
  have b3' : z8A (F8_layAble m) s P := b3
  unfold D8_searches F8_searches
  rw [a2]
  generalize F8_layAble m = m1 at *
  obtain ⟨d1, d2, d3⟩ := z8_zl (v1 := v1) (v2 := nI c0) 4200 0 m1 (by omega) (by omega) (fun c h => by omega)
  rw [show nI 0 = (0 : Int32) from rfl] at d1 d2 d3
  generalize (L8_searches_11 4200 v1 (nI c0) 0 m1) = R at *
  unfold K8_searches_36 HK8_searches_36 K8_searches_50 HK8_searches_50
  rw [z_ncl (by omega), sb_cl0]
  have hW : z8W m (ax_up (ax_up (ax_up R.2 74 42 1) 89 0 (nI c0)) 87 c0 (-1)) := ⟨fun d h1 h2 => by rw [z_upr (by omega), z_upr (by omega), z_upr h1, d2 d (by omega), b2' d (by omega)], fun j hj => by rw [z_upr (by omega), z_upr (by omega), z_up, if_neg (by omega), d2 74 (by omega), b2' 74 (by omega)]⟩
  have hL : z8L (ax_up (ax_up (ax_up R.2 74 42 1) 89 0 (nI c0)) 87 c0 (-1)) (zst (zfo s P) (zvs s P) c0 0) := by
    refine ⟨by rw [z_upr (by omega), z_upr (by omega), z_up, if_pos ⟨rfl, rfl⟩]; rfl, fun k e hk => ?_, fun c hc hn => ?_⟩
    · have hlt := zlt_of hk
      have hk0 : k = 0 := by unfold zst at hlt; simp at hlt; omega
      subst hk0
      have he : e = (c0, 0, 0, 0) := by
        have : (zst (zfo s P) (zvs s P) c0 0)[0]? = some (c0, 0, 0, 0) := rfl
        rw [this] at hk
        cases hk; rfl
      subst he
      exact ⟨by rw [z_upr (by omega), z_up, if_pos ⟨rfl, rfl⟩], by rw [z_up, if_pos ⟨rfl, rfl⟩, if_pos rfl], fun w => by omega⟩
    · have hne : c ≠ c0 := fun w => hn (zcs_m.mpr ⟨0, (c0, 0, 0, 0), rfl, w.symm⟩)
      rw [z_up, if_neg (fun w => hne w.2), z_upr (by omega), z_upr (by omega)]
      exact d3 c hc
  obtain ⟨x1, x2, x3⟩ := z8_s52 (v1 := v1) (v2 := nI c0) (P := P) hs h0 4200 0 _ (by omega) (by omega) (hW.e hE) (by unfold z8A; rw [z_upr (by omega), z_upr (by omega), z_upr (by omega), d2 91 (by omega)]; exact b3') hL (fun j e hj => by omega)
  rw [show nI 0 = (0 : Int32) from rfl] at x1 x2 x3
  generalize (L8_searches_52 4200 v1 (nI c0) 0 (ax_up (ax_up (ax_up R.2 74 42 1) 89 0 (nI c0)) 87 c0 (-1))) = S at *
  refine ⟨⟨a1, b1', d1, z_vp h0 (by omega), x1⟩, ?_⟩
  rcases x3 with ⟨y1, y2, y3⟩ | ⟨j, e, y1, y2, y3, y4, y5, y6⟩
  · rw [y1, if_pos rfl]
    exact ⟨hW.tr x2, Or.inl ⟨rfl, y2, y3⟩⟩
  · rw [y1, if_neg (by simp)]
    exact ⟨hW.tr x2, Or.inr ⟨j, e, rfl, y2, y3, y4, y5, y6⟩⟩
end ZC2
