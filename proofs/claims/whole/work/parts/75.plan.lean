/-! PURE: plan, reach, ways -/
section ZD2
variable {m : ax_M} {T : zT} {s : zS} {P : zP} {c0 : Nat}
theorem z3L.n {vs : List Nat} {L : List zEt} (h : z3L m vs L) (hl : L.length ≤ 180) (hc : ∀ (k : Nat) (e : zEt), L[k]? = some e → e.1 < 4096) : zN m := by
  refine ⟨L.length, fun i => ((L[i]?).getD (0, 0, 0, 0)).1, hl, h.1, fun i hi => ?_, fun c h4 hn => h.2.2 c h4 (fun w => ?_)⟩
  · obtain ⟨e, he⟩ := zget_of hi
    dsimp only
    rw [he]
    exact ⟨(h.2.1 i e he).1, hc i e he⟩
  · obtain ⟨k, e, k1, k2⟩ := zcs_m.mp w
    have := hn k (zlt_of k1)
    dsimp only at this
    rw [k1] at this
    exact this k2
/-- what both know of the ways, from where all stand -/
theorem z_both (hT : zWF T) (h7 : z7 m T) (h8 : z8 m T) (hc : c0 < 4096) : D3_survey 1 (nI c0) m ∧ z7 (F3_survey 1 (nI c0) m) T ∧ z8 (F3_survey 1 (nI c0) m) T ∧ z3M (F3_survey 1 (nI c0) m) T.s (zvs T.s T.P) ∧ z3L (F3_survey 1 (nI c0) m) (zvs T.s T.P) (zst (zfo T.s T.P) (zvs T.s T.P) c0 180) := by
  obtain ⟨a1, a2, a3, a4⟩ := z7_survey hT.w hT.v h7.g h7.n hc
  have hB := zst_bi (fo := zfo T.s T.P) (vs := zvs T.s T.P) (c0 := c0) 180
  refine ⟨a1, h7.ways (fun c _ _ hd => a2 c (by omega)) (a4.n (hB.len hT.w hc) (fun k e he => hB.lt hT.w hc he)), h8.keep (fun c h => a2 c (by omega)), a3, a4⟩
theorem z_c0 (hT : zWF T) : zcode T.P.bk T.s.no < 4096 := zcode_6 hT.w.no6 (fun k hk => hT.v.bk4 hT.w hk)
theorem z8W.z8 {m1 m2 : ax_M} (h : z8W m1 m2) (h8 : z8 m1 T) : z8 m2 T := h8.of (fun k hk => h.2 k (by unfold zsl at hk; omega)) (fun c h1 _ h3 => h.1 c (by omega) (by unfold zsr at h3; omega))
/-- a search for none -/
theorem z8_all (hT : zWF T) (h7 : z7 m T) (h8 : z8 m T) : D8_searches (-4) m ∧ z8W m (F8_searches (-4) m).2 ∧ z8L (F8_searches (-4) m).2 (zst (zfo T.s T.P) (zvs T.s T.P) (zcode T.P.bk T.s.no) 180) := by
  obtain ⟨a1, a2, a3⟩ := z8_searches (v1 := -4) hT.w hT.v h8.e h8.q rfl
  refine ⟨a1, a2, ?_⟩
  rcases a3 with ⟨_, b, _⟩ | ⟨j, e, _, b2, b3, _⟩
  · exact b
  · have hB := zst_bi (fo := zfo T.s T.P) (vs := zvs T.s T.P) (c0 := zcode T.P.bk T.s.no) 180
    have := hB.lt hT.w (z_c0 hT) b2
    rw [z_eq, z_nti (by omega), show (-4 : Int32).toInt = -4 from rfl] at b3
    omega
theorem zok23 (h : zI m) : OK23 zI m := by
  obtain ⟨T, hT, h7, h8⟩ := id h
  obtain ⟨s1, s2⟩ := z7_stand hT.w hT.v h7.g
  obtain ⟨a1, a2, a3, a4, a5⟩ := z_both hT h7 h8 (z_c0 hT)
  have e7 : F7_ways m = (nI (zst (zfo T.s T.P) (zvs T.s T.P) (zcode T.P.bk T.s.no) 180).length, F3_survey 1 (nI (zcode T.P.bk T.s.no)) m) := by
    unfold F7_ways; rw [s2, a5.1]
  have d7 : D7_ways m := ⟨s1, by rw [s2]; exact a1⟩
  unfold OK23
  rw [e7]
  dsimp only
  generalize F3_survey 1 (nI (zcode T.P.bk T.s.no)) m = m1 at *
  obtain ⟨b1, b2, b3⟩ := z8_all hT a2 a3
  have e8 : F8_ways m1 = (nI (zst (zfo T.s T.P) (zvs T.s T.P) (zcode T.P.bk T.s.no) 180).length, (F8_searches (-4) m1).2) := by
    unfold F8_ways; rw [b3.1]
  rw [e8]
  dsimp only
  exact ⟨d7, b1, rfl, zI.step hT a2 (fun c hc => b2.1 c (by omega) (by omega)) (b2.z8 a3)⟩
def zra (v1 : Int32) (L : List zEt) : Nat → Int32
  | 0 => 0
  | i + 1 => zra v1 L i ||| ((1 : Int32) <<< (((nI ((L[i]?).getD (0, 0, 0, 0)).1 >>> ((2 * v1) &&& (31 : Int32))) &&& 3) &&& (31 : Int32)))
theorem z7_ra {v1 : Int32} {L : List zEt} {vs : List Nat} (hl : L.length ≤ 180) (h : z3L m vs L) : ∀ n i, i ≤ L.length → L.length - i < n → E3_banksOf_4 n v1 (zra v1 L i) (nI i) m ∧ (L3_banksOf_4 n v1 (zra v1 L i) (nI i) m).1 = zra v1 L L.length := by
  intro n
  induction n with
  | zero => intro i _ h; omega
  | succ n ih =>
    intro i hi hn
    unfold E3_banksOf_4 L3_banksOf_4
    rw [h.1]
    by_cases e : i = L.length
    · rw [if_pos (z_let (by omega) (by omega)), ← e]
      exact ⟨fun w => absurd (z_let (by omega) (by omega)) w, rfl⟩
    · have hlt : ¬ nI L.length ≤ nI i := z_lef (by omega) (by omega)
      obtain ⟨x, hx⟩ := zget_of (show i < L.length by omega)
      have es : zra v1 L (i + 1) = zra v1 L i ||| ((1 : Int32) <<< (((nI x.1 >>> ((2 * v1) &&& (31 : Int32))) &&& 3) &&& (31 : Int32))) := by
        conv => lhs; unfold zra
        rw [hx]; rfl
      rw [if_neg hlt, z_at (by omega) (by omega), (h.2.1 i x hx).1, ← es, nI_1]
      obtain ⟨i1, i2⟩ := ih (i + 1) (by omega) (by omega)
      exact ⟨fun _ => i1, i2⟩
theorem z8_ra {v1 : Int32} {L : List zEt} (hl : L.length ≤ 180) (h : z8L m L) : ∀ n i, i ≤ L.length → L.length - i < n → E8_reach_21 n v1 (zra v1 L i) (nI i) m ∧ (L8_reach_21 n v1 (zra v1 L i) (nI i) m).1 = zra v1 L L.length := by
  intro n
  induction n with
  | zero => intro i _ h; omega
  | succ n ih =>
    intro i hi hn
    unfold E8_reach_21 L8_reach_21
    rw [h.1]
    by_cases e : i = L.length
    · rw [if_pos (z_let (by omega) (by omega)), ← e]
      exact ⟨fun w => absurd (z_let (by omega) (by omega)) w, rfl⟩
    · have hlt : ¬ nI L.length ≤ nI i := z_lef (by omega) (by omega)
      obtain ⟨x, hx⟩ := zget_of (show i < L.length by omega)
      have es : zra v1 L (i + 1) = zra v1 L i ||| ((1 : Int32) <<< (((nI x.1 >>> ((2 * v1) &&& (31 : Int32))) &&& 3) &&& (31 : Int32))) := by
        conv => lhs; unfold zra
        rw [hx]; rfl
      rw [if_neg hlt, z_ncl (by omega), (h.2.1 i x hx).1, ← es, nI_1]
      obtain ⟨i1, i2⟩ := ih (i + 1) (by omega) (by omega)
      exact ⟨fun _ => ⟨z_vp (by omega) (by omega), i1⟩, i2⟩
theorem zok22 (h : zI m) : OK22 zI m := by
  obtain ⟨T, hT, h7, h8⟩ := id h
  have hw := hT.w
  intro a
  cases e1 : zin a T.s.no with
  | false =>
    have e7 : F7_reach a m = (-1, m) := by unfold F7_reach; rw [z7_hasOne hw h7.g, e1]; rfl
    have e8 : F8_reach a m = (-1, m) := by unfold F8_reach; rw [z8_isOne hw h8.e, e1]; rfl
    rw [e7, e8]
    refine ⟨?_, ?_, rfl, h⟩
    · unfold D7_reach; rw [z7_hasOne hw h7.g, e1]; exact fun q => absurd rfl q
    · unfold D8_reach; rw [z8_isOne hw h8.e, e1]; exact fun q => absurd rfl q
  | true =>
    obtain ⟨s1, s2⟩ := z7_stand hT.w hT.v h7.g
    obtain ⟨a1, a2, a3, a4, a5⟩ := z_both hT h7 h8 (z_c0 hT)
    have hB := zst_bi (fo := zfo T.s T.P) (vs := zvs T.s T.P) (c0 := zcode T.P.bk T.s.no) 180
    have hlen := hB.len hw (z_c0 hT)
    obtain ⟨r1, r2⟩ := z7_ra (v1 := a) hlen a5 200 0 (by omega) (by omega)
    have r2' : F3_banksOf a (F3_survey 1 (nI (zcode T.P.bk T.s.no)) m) = _ := r2
    have e7 : F7_reach a m = (zra a (zst (zfo T.s T.P) (zvs T.s T.P) (zcode T.P.bk T.s.no) 180) (zst (zfo T.s T.P) (zvs T.s T.P) (zcode T.P.bk T.s.no) 180).length, F3_survey 1 (nI (zcode T.P.bk T.s.no)) m) := by
      unfold F7_reach; rw [z7_hasOne hw h7.g, e1, if_neg (show ¬ zb true = 0 by decide), s2, r2']
    have d7 : D7_reach a m := fun _ => ⟨s1, by rw [s2]; exact a1, by rw [s2]; exact r1⟩
    rw [e7]
    dsimp only
    generalize F3_survey 1 (nI (zcode T.P.bk T.s.no)) m = m1 at *
    obtain ⟨b1, b2, b3⟩ := z8_all hT a2 a3
    obtain ⟨q1, q2⟩ := z8_ra (v1 := a) hlen b3 4200 0 (by omega) (by omega)
    have q1' : E8_reach_21 4200 a 0 0 (F8_searches (-4) m1).2 := q1
    have q2' : (L8_reach_21 4200 a 0 0 (F8_searches (-4) m1).2).1 = _ := q2
    have e8 : F8_reach a m1 = (zra a (zst (zfo T.s T.P) (zvs T.s T.P) (zcode T.P.bk T.s.no) 180) (zst (zfo T.s T.P) (zvs T.s T.P) (zcode T.P.bk T.s.no) 180).length, (F8_searches (-4) m1).2) := by
      unfold F8_reach; rw [z8_isOne hw a3.e, e1, if_neg (show ¬ zb true = 0 by decide), q2']
    have d8 : D8_reach a m1 := fun _ => ⟨b1, q1'⟩
    rw [e8]
    dsimp only
    exact ⟨d7, d8, rfl, zI.step hT a2 (fun c hc => b2.1 c (by omega) (by omega)) (b2.z8 a3)⟩
/-- the place t steps before the place k -/
def zan (L : List zEt) (k : Nat) : Nat → Nat
  | 0 => k
  | t + 1 => ((L[zan L k t]?).getD (0, 0, 0, 0)).2.1
theorem zBI.d0 {fo : Nat → Nat → Option Nat} {vs : List Nat} {i k : Nat} {L : List zEt} {e : zEt} (h : zBI fo vs c0 i L) (he : L[k]? = some e) : e.2.2.2 = 0 ↔ k = 0 := by
  constructor
  · intro w
    by_cases h0 : k = 0
    · exact h0
    · obtain ⟨_, _, _, ep, _, _, b⟩ := h.2.2.1 k e he (by omega)
      omega
  · intro w
    rw [w, h.1] at he
    cases he
    rfl
theorem zan_s {fo : Nat → Nat → Option Nat} {vs : List Nat} {i k : Nat} {L : List zEt} {e : zEt} (h : zBI fo vs c0 i L) (he : L[k]? = some e) : ∀ t, t ≤ e.2.2.2 → ∃ et : zEt, L[zan L k t]? = some et ∧ et.2.2.2 = e.2.2.2 - t ∧ zan L k t ≤ k
  | 0, _ => ⟨e, he, rfl, Nat.le_refl _⟩
  | t + 1, ht => by
    obtain ⟨et, e1, e2, e3⟩ := zan_s h he t (by omega)
    have h0 : 0 < zan L k t := by
      apply Classical.byContradiction
      intro w
      have := (h.d0 e1).mpr (by omega)
      omega
    obtain ⟨b1, _, _, ep, b2, _, b3⟩ := h.2.2.1 _ et e1 h0
    have es : zan L k (t + 1) = et.2.1 := by
      show ((L[zan L k t]?).getD (0, 0, 0, 0)).2.1 = _
      rw [e1]; rfl
    rw [es]
    exact ⟨ep, b2, by omega, by omega⟩
/-- the class's walk back -/
theorem z7_walk {vs : List Nat} {i k : Nat} {L : List zEt} {e : zEt} {fo : Nat → Nat → Option Nat} {v1 : Int32} (h : zBI fo vs c0 i L) (hl : L.length ≤ 180) (he : L[k]? = some e) (hd : e.2.2.2 < 180) (h3 : z3L m vs L) {r : Nat} (hr : r < e.2.2.2) : ∀ n t, t ≤ e.2.2.2 - (r + 1) → e.2.2.2 - (r + 1) - t < n → E3_stepTo_9 n v1 (nI r) (nI (zan L k t)) (nI (e.2.2.2 - t)) m ∧ (L3_stepTo_9 n v1 (nI r) (nI (zan L k t)) (nI (e.2.2.2 - t)) m).1 = nI (zan L k (e.2.2.2 - (r + 1))) := by
  intro n
  induction n with
  | zero => intro t _ h; omega
  | succ n ih =>
    intro t ht hn
    unfold E3_stepTo_9 L3_stepTo_9
    rw [nI_1]
    by_cases w : t = e.2.2.2 - (r + 1)
    · have hc : nI (e.2.2.2 - t) ≤ nI (r + 1) := z_let (by omega) (by omega)
      rw [if_pos hc, w]
      exact ⟨fun x => absurd (w ▸ hc) x, rfl⟩
    · have hc : ¬ nI (e.2.2.2 - t) ≤ nI (r + 1) := z_lef (by omega) (by omega)
      obtain ⟨et, e1, e2, e3⟩ := zan_s h he t (by omega)
      have hkl := zlt_of he
      have h0 : 0 < zan L k t := by
        apply Classical.byContradiction
        intro w
        have := (h.d0 e1).mpr (by omega)
        omega
      have es : zan L k (t + 1) = et.2.1 := by
        show ((L[zan L k t]?).getD (0, 0, 0, 0)).2.1 = _
        rw [e1]; rfl
      have q := (h3.2.1 _ et e1).2.1
      rw [if_neg (by omega)] at q
      rw [if_neg hc, z_at (by omega) (by omega), q, ← es, sb_m1 (by omega), show e.2.2.2 - t - 1 = e.2.2.2 - (t + 1) by omega]
      obtain ⟨i1, i2⟩ := ih (t + 1) (by omega) (by omega)
      exact ⟨fun _ => i1, i2⟩
/-- what the reference knows of the first places up to j -/
def z8J (m : ax_M) (L : List zEt) (j : Nat) : Prop := ∀ (k : Nat) (e : zEt), k ≤ j → L[k]? = some e → m 89 k = nI e.1 ∧ m 87 e.1 = (if k = 0 then -1 else nI (e.2.1 + 1)) ∧ (0 < k → m 88 e.1 = nI e.2.2.1)
/-- the label of the step to a place -/
def zlb (L : List zEt) (k : Nat) : Nat := ((L[k]?).getD (0, 0, 0, 0)).2.2.1
theorem z8_walk {vs : List Nat} {i k : Nat} {L : List zEt} {e : zEt} {fo : Nat → Nat → Option Nat} {v1 v2 : Int32} (h : zBI fo vs c0 i L) (hl : L.length ≤ 180) (hc : ∀ (k : Nat) (e : zEt), L[k]? = some e → e.1 < 4096) (he : L[k]? = some e) (hd : e.2.2.2 < 180) : ∀ n t m (et : zEt), t ≤ e.2.2.2 → e.2.2.2 - t < n → z8J m L k → L[zan L k t]? = some et → (∀ u, u < t → m 90 u = nI (zlb L (zan L k u))) → E8_plan_40 n v1 v2 (nI t) (nI et.1) m ∧ (L8_plan_40 n v1 v2 (nI t) (nI et.1) m).1 = nI e.2.2.2 ∧ (∀ d, d ≠ 90 → (L8_plan_40 n v1 v2 (nI t) (nI et.1) m).2.2 d = m d) ∧ ∀ u, u < e.2.2.2 → (L8_plan_40 n v1 v2 (nI t) (nI et.1) m).2.2 90 u = nI (zlb L (zan L k u)) := by
  intro n
  induction n with
  | zero => intro t m et _ h; omega
  | succ n ih =>
    intro t m et ht hn hJ het hu
    obtain ⟨et', e1, e2, e3⟩ := zan_s h he t ht
    rw [het] at e1
    injection e1 with e1
    subst e1
    have c4 := hc _ _ het
    obtain ⟨q1, q2, q3⟩ := hJ _ _ e3 het
    unfold E8_plan_40 L8_plan_40
    rw [z_ncl (show et.1 < 2147483648 by omega), q2]
    have hkl := zlt_of he
    by_cases w : zan L k t = 0
    · have hd0 := (h.d0 het).mpr w
      have htd : t = e.2.2.2 := by omega
      rw [if_pos w, if_pos rfl]
      exact ⟨⟨z_vp c4 (by omega), fun x => absurd rfl x⟩, by rw [htd], fun _ _ => rfl, by rw [← htd]; exact hu⟩
    · have hne : ¬ nI (et.2.1 + 1) = -1 := fun x => by
        have hp := (h.2.2.1 _ et het (by omega)).1
        rw [z_eq, z_nti (by omega), show (-1 : Int32).toInt = -1 from rfl] at x
        omega
      obtain ⟨b1, _, _, ep, b2, _, b3⟩ := h.2.2.1 _ et het (by omega)
      have es : zan L k (t + 1) = et.2.1 := by
        show ((L[zan L k t]?).getD (0, 0, 0, 0)).2.1 = _
        rw [het]; rfl
      have el : zlb L (zan L k t) = et.2.2.1 := by unfold zlb; rw [het]; rfl
      have q89 := (hJ _ ep (by omega) b2).1
      rw [if_neg w, if_neg hne, q3 (by omega), z_upr (show 87 ≠ 90 by omega), q2, if_neg w, nI_pred, z_ncl (show et.2.1 < 2147483648 by omega), z_upr (show 89 ≠ 90 by omega), q89, z_ncl (show t < 2147483648 by omega), nI_1]
      have hdl : e.2.2.2 ≤ 180 := by omega
      obtain ⟨i1, i2, i3, i4⟩ := ih (t + 1) (ax_up m 90 t (nI et.2.2.1)) ep (by omega) (by omega) (fun k' e' h1 h2 => by
        rw [z_upr (show 89 ≠ 90 by omega), z_upr (show 87 ≠ 90 by omega), z_upr (show 88 ≠ 90 by omega)]
        exact hJ k' e' h1 h2) (by rw [es]; exact b2) (fun u hu' => by
        rw [z_up]
        by_cases y : u = t
        · rw [if_pos ⟨rfl, y⟩, y, el]
        · rw [if_neg (fun x => y x.2)]; exact hu u (by omega))
      exact ⟨⟨z_vp c4 (by omega), fun _ => ⟨z_vp c4 (by omega), z_vp (by omega) (by omega), z_vp c4 (by omega), z_vp (by omega) (by omega), i1⟩⟩, i2, fun d hd => by rw [i3 d hd, z_upr hd], i4⟩
theorem zBI.dk {fo : Nat → Nat → Option Nat} {vs : List Nat} {i : Nat} {L : List zEt} (h : zBI fo vs c0 i L) : ∀ (k : Nat) (e : zEt), L[k]? = some e → e.2.2.2 ≤ k := by
  intro k
  induction k using Nat.strongRecOn with
  | _ k ih =>
    intro e he
    by_cases e0 : k = 0
    · have := (h.d0 he).mpr e0; omega
    · obtain ⟨a, _, _, ep, b1, _, b3⟩ := h.2.2.1 k e he (by omega)
      have := ih _ a ep b1
      omega
/-- the answer of a plan whose goal stands at the place k -/
def zpa (L : List zEt) (k : Nat) (e : zEt) (a : Int32) : Int32 := if a = 0 then nI e.2.2.2 else if nI e.2.2.2 ≤ a - 10 then -4 else nI (zlb L (zan L k (e.2.2.2 - 1 - (a - 10).toNatClampNeg)))
theorem z_a10 {a : Int32} (h : a = 0 ∨ 10 ≤ a) (h0 : ¬ a = 0) : ∃ r, r < 2147483648 ∧ a - 10 = nI r := by
  rcases h with h | h
  · exact absurd h h0
  · have hz : ¬ a - 10 < 0 := by
      rw [z_le, show (10 : Int32).toInt = 10 from rfl] at h
      have lo := z_lo a
      have hi := z_hi a
      have es : (a - 10).toInt = a.toInt - 10 := by
        rw [z_sub, show (10 : Int32).toInt = 10 from rfl] <;> rw [show (10 : Int32).toInt = 10 from rfl] <;> omega
      rw [z_lt, es, show (0 : Int32).toInt = 0 from rfl]; omega
    exact nI_of hz
theorem zok21 (h : zI m) : OK21 zI m := by
  obtain ⟨T, hT, h7, h8⟩ := id h
  have hw := hT.w
  intro a
  by_cases hask : a = 0 ∨ 10 ≤ a
  · obtain ⟨s1, s2⟩ := z7_stand hT.w hT.v h7.g
    obtain ⟨a1, a2, a3, a4, a5⟩ := z_both hT h7 h8 (z_c0 hT)
    have hB := zst_bi (fo := zfo T.s T.P) (vs := zvs T.s T.P) (c0 := zcode T.P.bk T.s.no) 180
    have hlen := hB.len hw (z_c0 hT)
    have hlt := fun (k : Nat) (e : zEt) (he : (zst (zfo T.s T.P) (zvs T.s T.P) (zcode T.P.bk T.s.no) 180)[k]? = some e) => hB.lt hw (z_c0 hT) he
    have e7x : F7_plan a m = (if 0 ≤ (F3_indexOf (F1_wished 1 (F3_survey 1 (nI (zcode T.P.bk T.s.no)) m)) (F3_survey 1 (nI (zcode T.P.bk T.s.no)) m)) then (if a = 0 then (F3_depthOf (F3_indexOf (F1_wished 1 (F3_survey 1 (nI (zcode T.P.bk T.s.no)) m)) (F3_survey 1 (nI (zcode T.P.bk T.s.no)) m)) (F3_survey 1 (nI (zcode T.P.bk T.s.no)) m), (F3_survey 1 (nI (zcode T.P.bk T.s.no)) m)) else (if (F3_depthOf (F3_indexOf (F1_wished 1 (F3_survey 1 (nI (zcode T.P.bk T.s.no)) m)) (F3_survey 1 (nI (zcode T.P.bk T.s.no)) m)) (F3_survey 1 (nI (zcode T.P.bk T.s.no)) m)) ≤ (a - 10) then ((-4), (F3_survey 1 (nI (zcode T.P.bk T.s.no)) m)) else (F3_stepTo (F3_indexOf (F1_wished 1 (F3_survey 1 (nI (zcode T.P.bk T.s.no)) m)) (F3_survey 1 (nI (zcode T.P.bk T.s.no)) m)) (a - 10) (F3_survey 1 (nI (zcode T.P.bk T.s.no)) m), (F3_survey 1 (nI (zcode T.P.bk T.s.no)) m)))) else ((-4), (F3_survey 1 (nI (zcode T.P.bk T.s.no)) m))) := by
      unfold F7_plan
      rw [s2]
      by_cases w : a = 0
      · rw [if_pos w]
      · rw [if_neg w, if_pos (hask.resolve_left w)]
    have d7x : (∀ r, D1_wished 1 (F3_survey 1 (nI (zcode T.P.bk T.s.no)) m) ∧ ((0 ≤ (F3_indexOf (F1_wished 1 (F3_survey 1 (nI (zcode T.P.bk T.s.no)) m)) (F3_survey 1 (nI (zcode T.P.bk T.s.no)) m))) → (¬ (a = 0) → (¬ ((F3_depthOf (F3_indexOf (F1_wished 1 (F3_survey 1 (nI (zcode T.P.bk T.s.no)) m)) (F3_survey 1 (nI (zcode T.P.bk T.s.no)) m)) (F3_survey 1 (nI (zcode T.P.bk T.s.no)) m)) ≤ (a - 10)) → r = 0 → D3_stepTo (F3_indexOf (F1_wished 1 (F3_survey 1 (nI (zcode T.P.bk T.s.no)) m)) (F3_survey 1 (nI (zcode T.P.bk T.s.no)) m)) (a - 10) (F3_survey 1 (nI (zcode T.P.bk T.s.no)) m))))) → D7_plan a m := fun hh => by
      have h0 := hh 0
      unfold D7_plan
      rw [s2]
      exact ⟨fun _ => ⟨s1, a1, h0.1, fun x1 x2 x3 => h0.2 x1 x2 x3 rfl⟩, fun _ _ => ⟨s1, a1, h0.1, fun x1 x2 x3 => h0.2 x1 x2 x3 rfl⟩⟩
    rw [e7x]
    generalize F3_survey 1 (nI (zcode T.P.bk T.s.no)) m = m1 at *
    obtain ⟨w1, w2⟩ := z7_wish hw hT.v a2.g
    have hg : zcode T.P.gl T.s.no < 4096 := zcode_6 hw.no6 (fun k hk => hT.v.gl4 hw hk)
    obtain ⟨g1, g2⟩ := z8_goalC hw hT.v a3.e a3.q
    rw [w2] at d7x ⊢
    obtain ⟨x1, x2, x3⟩ := z8_searches (v1 := nI (zcode T.P.gl T.s.no)) hw hT.v a3.e a3.q (c0 := zcode T.P.bk T.s.no) rfl
    generalize hF : zst (zfo T.s T.P) (zvs T.s T.P) (zcode T.P.bk T.s.no) 180 = F at *
    have ei : F3_indexOf (nI (zcode T.P.gl T.s.no)) m1 = m1 64 (zcode T.P.gl T.s.no) - 1 := by
      unfold F3_indexOf; rw [z_at hg (by omega)]
    rw [ei] at d7x ⊢
    have e8x : F8_plan a m1 = (if ((F8_searches (nI (zcode T.P.gl T.s.no)) m1).1) = ((-4)) then ((-4), (F8_searches (nI (zcode T.P.gl T.s.no)) m1).2) else (K8_plan_86 a ((F8_searches (nI (zcode T.P.gl T.s.no)) m1).1) ((L8_plan_40 4200 a ((F8_searches (nI (zcode T.P.gl T.s.no)) m1).1) 0 ((F8_searches (nI (zcode T.P.gl T.s.no)) m1).2 89 (Int32.toNatClampNeg ((F8_searches (nI (zcode T.P.gl T.s.no)) m1).1))) (F8_searches (nI (zcode T.P.gl T.s.no)) m1).2).1) ((L8_plan_40 4200 a ((F8_searches (nI (zcode T.P.gl T.s.no)) m1).1) 0 ((F8_searches (nI (zcode T.P.gl T.s.no)) m1).2 89 (Int32.toNatClampNeg ((F8_searches (nI (zcode T.P.gl T.s.no)) m1).1))) (F8_searches (nI (zcode T.P.gl T.s.no)) m1).2).2.1) (L8_plan_40 4200 a ((F8_searches (nI (zcode T.P.gl T.s.no)) m1).1) 0 ((F8_searches (nI (zcode T.P.gl T.s.no)) m1).2 89 (Int32.toNatClampNeg ((F8_searches (nI (zcode T.P.gl T.s.no)) m1).1))) (F8_searches (nI (zcode T.P.gl T.s.no)) m1).2).2.2)) := by
      unfold F8_plan
      rw [g2]
      by_cases w : a = 0
      · rw [if_pos w]
      · rw [if_neg w, if_pos (hask.resolve_left w)]
    have d8x : (∀ r : Nat, ¬ (((F8_searches (nI (zcode T.P.gl T.s.no)) m1).1) = ((-4))) → ((vp_in ((F8_searches (nI (zcode T.P.gl T.s.no)) m1).1) 4096) ∧ (E8_plan_40 4200 a ((F8_searches (nI (zcode T.P.gl T.s.no)) m1).1) 0 ((F8_searches (nI (zcode T.P.gl T.s.no)) m1).2 89 (Int32.toNatClampNeg ((F8_searches (nI (zcode T.P.gl T.s.no)) m1).1))) (F8_searches (nI (zcode T.P.gl T.s.no)) m1).2) ∧ (HK8_plan_86 a ((F8_searches (nI (zcode T.P.gl T.s.no)) m1).1) ((L8_plan_40 4200 a ((F8_searches (nI (zcode T.P.gl T.s.no)) m1).1) 0 ((F8_searches (nI (zcode T.P.gl T.s.no)) m1).2 89 (Int32.toNatClampNeg ((F8_searches (nI (zcode T.P.gl T.s.no)) m1).1))) (F8_searches (nI (zcode T.P.gl T.s.no)) m1).2).1) ((L8_plan_40 4200 a ((F8_searches (nI (zcode T.P.gl T.s.no)) m1).1) 0 ((F8_searches (nI (zcode T.P.gl T.s.no)) m1).2 89 (Int32.toNatClampNeg ((F8_searches (nI (zcode T.P.gl T.s.no)) m1).1))) (F8_searches (nI (zcode T.P.gl T.s.no)) m1).2).2.1) (L8_plan_40 4200 a ((F8_searches (nI (zcode T.P.gl T.s.no)) m1).1) 0 ((F8_searches (nI (zcode T.P.gl T.s.no)) m1).2 89 (Int32.toNatClampNeg ((F8_searches (nI (zcode T.P.gl T.s.no)) m1).1))) (F8_searches (nI (zcode T.P.gl T.s.no)) m1).2).2.2))) → D8_plan a m1 := fun hh => by
      have h0 := hh 0
      unfold D8_plan
      rw [g2]
      exact ⟨fun _ => ⟨g1, x1, h0⟩, fun _ _ => ⟨g1, x1, h0⟩⟩
    by_cases hin : zcode T.P.gl T.s.no ∈ zcs F
    · obtain ⟨k, e, k1, k2⟩ := zcs_m.mp hin
      have hkl := zlt_of k1
      have q64 := (a5.2.1 k e k1).2.2.2.2
      rw [k2] at q64
      have hdk := hB.dk k e k1
      rcases x3 with ⟨_, _, y3⟩ | ⟨j, e', y1, y2, y3, y4, y5, y6⟩
      · exact absurd (by rw [k2]) (y3 k e k1)
      · have he1 : e'.1 = e.1 := by
          rw [z_neq (by have := hlt j e' y2; omega) (by omega)] at y3
          rw [y3, k2]
        have hjk := zst_u hB y2 k1 he1
        subst hjk
        rw [k1] at y2
        injection y2 with y2
        subst y2
        rw [q64, nI_pred] at d7x ⊢
        have c0 : (0 : Int32) ≤ nI j := nI_pos' (by omega)
        have ed : F3_depthOf (nI j) m1 = nI e.2.2.2 := by
          unfold F3_depthOf; rw [z_at (by omega) (by omega)]; exact (a5.2.1 j e k1).2.2.2.1
        have hJ : z8J (F8_searches (nI (zcode T.P.gl T.s.no)) m1).2 F j := fun k' x h1 h2 => by
          obtain ⟨z, hz⟩ := zget_of (show k' < (zst (zfo T.s T.P) (zvs T.s T.P) (zcode T.P.bk T.s.no) j).length by have := zlt_of y5; omega)
          have := zst_pre (fo := zfo T.s T.P) (vs := zvs T.s T.P) (c0 := zcode T.P.bk T.s.no) (180 - j) hz
          rw [show j + (180 - j) = 180 by omega, hF, h2] at this
          cases this
          exact y6.2.1 k' _ hz
        obtain ⟨v1, v2, v3, v4⟩ := z8_walk (v1 := a) (v2 := nI j) hB hlen hlt k1 (by omega) 4200 0 _ e (by omega) (by omega) hJ k1 (fun u hu => by omega)
        rw [show nI 0 = (0 : Int32) from rfl] at v1 v2 v3 v4
        rw [y1] at d8x e8x
        have hne : ¬ nI j = -4 := fun x => by
          rw [z_eq, z_nti (by omega), show (-4 : Int32).toInt = -4 from rfl] at x
          omega
        have q89 := (hJ j e (Nat.le_refl _) k1).1
        rw [z_ncl (by omega), q89] at d8x e8x
        rw [if_neg hne] at e8x
        generalize (F8_searches (nI (zcode T.P.gl T.s.no)) m1).2 = m2 at *
        unfold K8_plan_86 at e8x
        unfold HK8_plan_86 at d8x
        rw [v2] at d8x e8x
        generalize (L8_plan_40 4200 a (nI j) 0 (nI e.1) m2) = R at *
        have fin : zI R.2.2 := zI.step hT a2 (fun c hc => by rw [v3 c (by omega), x2.1 c (by omega) (by omega)]) ((x2.z8 a3).of (fun k _ => by rw [v3 74 (by omega)]) (fun c h1 _ h3 => v3 c (by unfold zsr at h3; omega)))
        have vj : vp_in (nI j) 4096 := z_vp (by omega) (by omega)
        rw [ed] at d7x ⊢
        rw [if_pos c0]
        by_cases wa : a = 0
        · rw [if_pos wa] at e8x ⊢
          rw [e8x]
          dsimp only
          exact ⟨d7x (fun r => ⟨w1, fun _ x => absurd wa x⟩), d8x (fun _ _ => ⟨vj, v1, fun x => absurd wa x⟩), rfl, fin⟩
        · rw [if_neg wa] at e8x ⊢
          by_cases wb : nI e.2.2.2 ≤ a - 10
          · rw [if_pos wb] at e8x ⊢
            rw [e8x]
            dsimp only
            exact ⟨d7x (fun r => ⟨w1, fun _ _ x => absurd wb x⟩), d8x (fun _ _ => ⟨vj, v1, fun _ x => absurd wb x⟩), rfl, fin⟩
          · rw [if_neg wb] at e8x ⊢
            obtain ⟨r, hr, er⟩ := z_a10 hask wa
            rw [er] at wb d7x d8x e8x ⊢
            have hrd : r < e.2.2.2 := by
              rw [z_nle (by omega) (by omega)] at wb; omega
            obtain ⟨t1, t2⟩ := z7_walk (v1 := nI j) hB hlen k1 (by omega) a5 hrd 200 0 (by omega) (by omega)
            have t1' : D3_stepTo (nI j) (nI r) m1 := by unfold D3_stepTo; rw [ed]; exact t1
            obtain ⟨et, n1, n2, n3⟩ := zan_s hB k1 (e.2.2.2 - (r + 1)) (by omega)
            have hz0 : 0 < zan F j (e.2.2.2 - (r + 1)) := by
              apply Classical.byContradiction
              intro w
              have := (hB.d0 n1).mpr (by omega)
              omega
            obtain ⟨jj, j1, j2, j3⟩ := (a5.2.1 _ et n1).2.2.1 hz0
            have hvl := zvs_l (P := T.P) hw
            have lab : zlb F (zan F j (e.2.2.2 - (r + 1))) = et.2.2.1 := by unfold zlb; rw [n1]; rfl
            have es : F3_stepTo (nI j) (nI r) m1 = nI (zlb F (zan F j (e.2.2.2 - (r + 1)))) := by
              unfold F3_stepTo
              rw [ed]
              have t2' : (L3_stepTo_9 200 (nI j) (nI r) (nI j) (nI e.2.2.2) m1).1 = nI (zan F j (e.2.2.2 - (r + 1))) := t2
              rw [t2', z_at (k := 67) (by omega) (by omega), j2, z_at (by omega) (by omega), (a4.2 jj j1).1, j3, lab]
            have eix : (nI e.2.2.2 - 1) - nI r = nI (e.2.2.2 - (r + 1)) := by
              rw [z_lit 1, pk_sub (by omega), pk_sub (by omega), show e.2.2.2 - 1 - r = e.2.2.2 - (r + 1) by omega]
            rw [eix, z_ncl (by omega), v4 _ (by omega)] at e8x
            rw [eix] at d8x
            rw [es, e8x]
            dsimp only
            exact ⟨d7x (fun _ => ⟨w1, fun _ _ _ _ => t1'⟩), d8x (fun _ _ => ⟨vj, v1, fun _ _ => z_vp (by omega) (by omega)⟩), rfl, fin⟩
    · have q0 := a5.2.2 _ hg hin
      rcases x3 with ⟨y1, _, _⟩ | ⟨j, e', _, y2, y3, _⟩
      · rw [q0] at d7x ⊢
        have c0 : ¬ (0 : Int32) ≤ 0 - 1 := by decide
        rw [if_neg c0]
        rw [y1, if_pos rfl] at e8x
        rw [y1] at d8x
        rw [e8x]
        dsimp only
        exact ⟨d7x (fun r => ⟨w1, fun x => absurd x c0⟩), d8x (fun _ x => absurd rfl x), rfl, zI.step hT a2 (fun c hc => x2.1 c (by omega) (by omega)) (x2.z8 a3)⟩
      · rw [z_neq (by have := hlt j e' y2; omega) (by omega)] at y3
        exact absurd (zcs_m.mpr ⟨j, e', y2, y3⟩) hin
  · have n0 : ¬ a = 0 := fun w => hask (Or.inl w)
    have n1 : ¬ 10 ≤ a := fun w => hask (Or.inr w)
    have e7 : F7_plan a m = (-1, m) := by unfold F7_plan; rw [if_neg n0, if_neg n1]
    have e8 : F8_plan a m = (-1, m) := by unfold F8_plan; rw [if_neg n0, if_neg n1]
    rw [e7, e8]
    exact ⟨⟨fun w => absurd w n0, fun _ w => absurd w n1⟩, ⟨fun w => absurd w n0, fun _ w => absurd w n1⟩, rfl, h⟩
end ZD2
