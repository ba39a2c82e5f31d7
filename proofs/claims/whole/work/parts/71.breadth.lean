/-! PURE: breadth first: the list of the ways found: code, place of the one before, label, depth -/
abbrev zEt : Type := Nat × Nat × Nat × Nat
def zcs (L : List zEt) : List Nat := L.map (fun e => e.1)
def zad (L : List zEt) (c i v d : Nat) : List zEt := if c ∈ zcs L then L else L ++ [(c, i, v, d)]
def zex (fo : Nat → Nat → Option Nat) (i : Nat) (e : zEt) : List Nat → List zEt → List zEt
  | [], L => L
  | v :: vs, L => zex fo i e vs (match fo e.1 v with
    | none => L
    | some c => zad L c i v (e.2.2.2 + 1))
def zst (fo : Nat → Nat → Option Nat) (vs : List Nat) (c0 : Nat) : Nat → List zEt
  | 0 => [(c0, 0, 0, 0)]
  | i + 1 => match (zst fo vs c0 i)[i]? with
    | none => zst fo vs c0 i
    | some e => zex fo i e vs (zst fo vs c0 i)
theorem zlt_of {L : List zEt} {k : Nat} {e : zEt} (h : L[k]? = some e) : k < L.length := (List.getElem?_eq_some_iff.mp h).1
theorem zget_of {L : List zEt} {k : Nat} (h : k < L.length) : ∃ e, L[k]? = some e := ⟨L[k], List.getElem?_eq_some_iff.mpr ⟨h, rfl⟩⟩
theorem zapp_g {L : List zEt} {x e : zEt} {k : Nat} : (L ++ [x])[k]? = some e ↔ (L[k]? = some e ∨ (k = L.length ∧ e = x)) := by
  by_cases h : k < L.length
  · rw [List.getElem?_append_left h]
    exact ⟨Or.inl, fun w => w.elim id (fun w => by omega)⟩
  · rw [List.getElem?_append_right (by omega)]
    constructor
    · intro w
      have h1 := (List.getElem?_eq_some_iff.mp w).1
      have h2 : k = L.length := by simp at h1; omega
      refine Or.inr ⟨h2, ?_⟩
      rw [h2, Nat.sub_self] at w
      simp at w
      exact w.symm
    · rintro (w | ⟨w1, w2⟩)
      · have := zlt_of w; omega
      · rw [w1, w2, Nat.sub_self]; rfl
theorem zcs_m {L : List zEt} {c : Nat} : c ∈ zcs L ↔ ∃ (k : Nat) (e : zEt), L[k]? = some e ∧ e.1 = c := by
  unfold zcs
  rw [List.mem_map]
  constructor
  · rintro ⟨e, h1, h2⟩
    obtain ⟨k, hk⟩ := List.mem_iff_getElem?.mp h1
    exact ⟨k, e, hk, h2⟩
  · rintro ⟨k, e, h1, h2⟩
    exact ⟨e, List.mem_iff_getElem?.mpr ⟨k, h1⟩, h2⟩
theorem zad_pre {L : List zEt} {c i v d k : Nat} {e : zEt} (h : L[k]? = some e) : (zad L c i v d)[k]? = some e := by
  unfold zad
  split
  · exact h
  · exact zapp_g.mpr (Or.inl h)
theorem zad_in {L : List zEt} {c i v d : Nat} : c ∈ zcs (zad L c i v d) := by
  unfold zad
  split
  · assumption
  · exact zcs_m.mpr ⟨L.length, _, zapp_g.mpr (Or.inr ⟨rfl, rfl⟩), rfl⟩
section ZZ1
variable {fo : Nat → Nat → Option Nat} {vs : List Nat} {c0 i : Nat}
theorem zex_pre {e : zEt} : ∀ (us : List Nat) (L : List zEt) (k : Nat) (x : zEt), L[k]? = some x → (zex fo i e us L)[k]? = some x
  | [], _, _, _, h => h
  | v :: us, L, k, x, h => by
    unfold zex
    apply zex_pre us
    split
    · exact h
    · exact zad_pre h
theorem zst_pre1 {k : Nat} {x : zEt} (h : (zst fo vs c0 i)[k]? = some x) : (zst fo vs c0 (i + 1))[k]? = some x := by
  unfold zst
  split
  · exact h
  · exact zex_pre _ _ _ _ h
theorem zst_pre {k : Nat} {x : zEt} : ∀ j, (zst fo vs c0 i)[k]? = some x → (zst fo vs c0 (i + j))[k]? = some x
  | 0, h => h
  | j + 1, h => zst_pre1 (zst_pre j h)
theorem zst_stop (h : (zst fo vs c0 i).length ≤ i) : ∀ j, zst fo vs c0 (i + j) = zst fo vs c0 i
  | 0 => rfl
  | j + 1 => by
    have ih := zst_stop h j
    show (match (zst fo vs c0 (i + j))[i + j]? with
      | none => zst fo vs c0 (i + j)
      | some e => zex fo (i + j) e vs (zst fo vs c0 (i + j))) = _
    rw [ih, List.getElem?_eq_none (by omega)]
/-- what holds of the list, where all come from places up to i -/
def zBI (fo : Nat → Nat → Option Nat) (vs : List Nat) (c0 i : Nat) (L : List zEt) : Prop := L[0]? = some (c0, 0, 0, 0) ∧ (zcs L).Nodup ∧ (∀ (k : Nat) (e : zEt), L[k]? = some e → 0 < k → e.2.1 < k ∧ e.2.1 ≤ i ∧ e.2.2.1 ∈ vs ∧ ∃ ep : zEt, L[e.2.1]? = some ep ∧ fo ep.1 e.2.2.1 = some e.1 ∧ e.2.2.2 = ep.2.2.2 + 1) ∧ (∀ (j k : Nat) (ej ek : zEt), j ≤ k → L[j]? = some ej → L[k]? = some ek → ej.2.2.2 ≤ ek.2.2.2)
theorem zBI.wk {L : List zEt} {i j : Nat} (h : zBI fo vs c0 i L) (hij : i ≤ j) : zBI fo vs c0 j L := by
  obtain ⟨h1, h2, h3, h4⟩ := h
  refine ⟨h1, h2, fun k e hk h0 => ?_, h4⟩
  obtain ⟨a, b, c⟩ := h3 k e hk h0
  exact ⟨a, by omega, c⟩
/-- all that stand there are no deeper than one more than the place i -/
theorem zBI.dp {L : List zEt} {ei ek : zEt} {k : Nat} (h : zBI fo vs c0 i L) (hi : L[i]? = some ei) (hk : L[k]? = some ek) : ek.2.2.2 ≤ ei.2.2.2 + 1 := by
  obtain ⟨h1, h2, h3, h4⟩ := h
  by_cases e0 : k = 0
  · rw [e0, h1] at hk
    cases hk
    exact Nat.zero_le _
  · obtain ⟨_, b, _, ep, b1, _, b3⟩ := h3 k ek hk (by omega)
    have := h4 _ _ _ _ b b1 hi
    omega
theorem zad_bi {L : List zEt} {ei : zEt} {v c : Nat} (h : zBI fo vs c0 i L) (hi : L[i]? = some ei) (hv : v ∈ vs) (hf : fo ei.1 v = some c) : zBI fo vs c0 i (zad L c i v (ei.2.2.2 + 1)) := by
  by_cases hc : c ∈ zcs L
  · have : zad L c i v (ei.2.2.2 + 1) = L := by unfold zad; rw [if_pos hc]
    rw [this]; exact h
  · have e : zad L c i v (ei.2.2.2 + 1) = L ++ [(c, i, v, ei.2.2.2 + 1)] := by unfold zad; rw [if_neg hc]
    rw [e]
    have hdp := fun (k : Nat) (ek : zEt) (hk : L[k]? = some ek) => h.dp hi hk
    obtain ⟨h1, h2, h3, h4⟩ := h
    refine ⟨zapp_g.mpr (Or.inl h1), ?_, fun k x hk h0 => ?_, fun j k ej ek hjk hj hk => ?_⟩
    · unfold zcs at *
      rw [List.map_append, List.nodup_append]
      refine ⟨h2, by simp, fun a ha b hb => ?_⟩
      simp at hb
      intro w
      rw [w, hb] at ha
      exact hc ha
    · rcases zapp_g.mp hk with w | ⟨w1, w2⟩
      · obtain ⟨a, b, b2, ep, b3, b4⟩ := h3 k x w h0
        exact ⟨a, b, b2, ep, zapp_g.mpr (Or.inl b3), b4⟩
      · subst w2
        have := zlt_of hi
        exact ⟨by show i < k; omega, Nat.le_refl _, hv, ei, zapp_g.mpr (Or.inl hi), hf, rfl⟩
    · rcases zapp_g.mp hk with w | ⟨w1, w2⟩
      · rcases zapp_g.mp hj with u | ⟨u1, u2⟩
        · exact h4 j k ej ek hjk u w
        · have := zlt_of w; omega
      · rcases zapp_g.mp hj with u | ⟨u1, u2⟩
        · rw [w2]; exact hdp j ej u
        · rw [u2, w2]; exact Nat.le_refl _
theorem zex_bi {ei : zEt} : ∀ (us : List Nat) (L : List zEt), (∀ v, v ∈ us → v ∈ vs) → zBI fo vs c0 i L → L[i]? = some ei → zBI fo vs c0 i (zex fo i ei us L)
  | [], _, _, h, _ => h
  | v :: us, L, hu, h, hi => by
    unfold zex
    cases e : fo ei.1 v with
    | none => exact zex_bi us L (fun w hw => hu w (List.mem_cons_of_mem _ hw)) h hi
    | some c => exact zex_bi us _ (fun w hw => hu w (List.mem_cons_of_mem _ hw)) (zad_bi h hi (hu v List.mem_cons_self) e) (zad_pre hi)
theorem zst_bi : ∀ i, zBI fo vs c0 (i - 1) (zst fo vs c0 i)
  | 0 => by
    refine ⟨rfl, ?_, fun k e hk h0 => ?_, fun j k ej ek hjk hj hk => ?_⟩
    · unfold zst zcs; simp
    · have := zlt_of hk
      unfold zst at this
      simp at this
      omega
    · have a1 := zlt_of hk
      unfold zst at a1
      simp at a1
      have e1 : k = 0 := by omega
      have e2 : j = 0 := by omega
      rw [e1] at hk
      rw [e2, hk] at hj
      cases hj
      exact Nat.le_refl _
  | i + 1 => by
    have ih := (zst_bi i).wk (show i - 1 ≤ i by omega)
    rw [Nat.add_sub_cancel]
    unfold zst
    split
    · exact ih
    · rename_i e he
      exact zex_bi vs _ (fun _ h => h) ih he
theorem zBI.q {L : List zEt} {Q : Nat → Prop} (h : zBI fo vs c0 i L) (hq0 : Q c0) (hq : ∀ c v c', Q c → v ∈ vs → fo c v = some c' → Q c') : ∀ (k : Nat) (e : zEt), L[k]? = some e → Q e.1 := by
  intro k
  induction k using Nat.strongRecOn with
  | _ k ih =>
    intro e he
    by_cases e0 : k = 0
    · rw [e0, h.1] at he
      cases he
      exact hq0
    · obtain ⟨a, _, b, ep, b1, b2, _⟩ := h.2.2.1 k e he (by omega)
      exact hq _ _ _ (ih _ a ep b1) b b2
theorem zex_in {e : zEt} {v c : Nat} (hf : fo e.1 v = some c) : ∀ (us : List Nat) (L : List zEt), v ∈ us → c ∈ zcs (zex fo i e us L)
  | [], _, h => by cases h
  | u :: us, L, h => by
    unfold zex
    rcases List.mem_cons.mp h with w | w
    · rw [← w, hf]
      obtain ⟨k, x, h1, h2⟩ := zcs_m.mp (zad_in (L := L) (c := c) (i := i) (v := v) (d := e.2.2.2 + 1))
      exact zcs_m.mpr ⟨k, x, zex_pre _ _ _ _ h1, h2⟩
    · exact zex_in hf us _ w
theorem zex_f {e : zEt} {f : Nat → Bool} (hf : ∀ v, f v = false → fo e.1 v = none) : ∀ (us : List Nat) (L : List zEt), zex fo i e (us.filter f) L = zex fo i e us L
  | [], _ => rfl
  | u :: us, L => by
    cases h : f u with
    | true =>
      rw [List.filter_cons_of_pos h]
      unfold zex
      exact zex_f hf us _
    | false =>
      rw [List.filter_cons_of_neg (by rw [h]; simp), zex_f hf us L]
      conv => rhs; unfold zex
      rw [hf u h]
/-- the list at its end, where no more than 180 can be -/
theorem zst_len {Q : Nat → Prop} (hq0 : Q c0) (hq : ∀ c v c', Q c → v ∈ vs → fo c v = some c' → Q c') (hQ : ∀ l : List Nat, l.Nodup → (∀ c, c ∈ l → Q c) → l.length ≤ 180) : ∀ i, (zst fo vs c0 i).length ≤ 180 := fun i => by
  have h := zst_bi (fo := fo) (vs := vs) (c0 := c0) i
  have := hQ (zcs (zst fo vs c0 i)) h.2.1 (fun c hc => by
    obtain ⟨k, e, h1, h2⟩ := zcs_m.mp hc
    rw [← h2]
    exact h.q hq0 hq k e h1)
  unfold zcs at this
  rwa [List.length_map] at this
theorem zst_end {k : Nat} {e : zEt} (hF : (zst fo vs c0 180).length ≤ 180) (hk : (zst fo vs c0 180)[k]? = some e) : (zst fo vs c0 k)[k]? = some e := by
  have hlt := zlt_of hk
  by_cases h : k < (zst fo vs c0 k).length
  · obtain ⟨x, hx⟩ := zget_of h
    have := zst_pre (fo := fo) (vs := vs) (c0 := c0) (180 - k) hx
    rw [show k + (180 - k) = 180 by omega, hk] at this
    rw [hx, this]
  · have := zst_stop (fo := fo) (vs := vs) (c0 := c0) (i := k) (by omega) (180 - k)
    rw [show k + (180 - k) = 180 by omega] at this
    rw [this] at hlt
    omega
theorem zst_all {k v c : Nat} {e : zEt} (hF : (zst fo vs c0 180).length ≤ 180) (hk : (zst fo vs c0 180)[k]? = some e) (hv : v ∈ vs) (hf : fo e.1 v = some c) : ∃ (j : Nat) (x : zEt), (zst fo vs c0 180)[j]? = some x ∧ x.1 = c ∧ x.2.2.2 ≤ e.2.2.2 + 1 := by
  have hlt := zlt_of hk
  have h1 := zst_end hF hk
  have h2 : zst fo vs c0 (k + 1) = zex fo k e vs (zst fo vs c0 k) := by
    conv => lhs; unfold zst
    rw [h1]
  have h3 := zex_in (i := k) hf vs (zst fo vs c0 k) hv
  rw [← h2] at h3
  obtain ⟨j, x, j1, j2⟩ := zcs_m.mp h3
  have h4 := zst_bi (fo := fo) (vs := vs) (c0 := c0) (k + 1)
  rw [Nat.add_sub_cancel] at h4
  have h5 := h4.dp (zst_pre1 h1) j1
  have h6 := zst_pre (fo := fo) (vs := vs) (c0 := c0) (180 - (k + 1)) j1
  rw [show k + 1 + (180 - (k + 1)) = 180 by omega] at h6
  exact ⟨j, x, h6, j2, h5⟩
theorem zst_u {L : List zEt} {j k : Nat} {ej ek : zEt} (h : zBI fo vs c0 i L) (hj : L[j]? = some ej) (hk : L[k]? = some ek) (he : ej.1 = ek.1) : j = k := by
  have h2 := h.2.1
  unfold zcs at h2
  have hj' : (L.map (fun e => e.1))[j]? = some ej.1 := by rw [List.getElem?_map, hj]; rfl
  have hk' : (L.map (fun e => e.1))[k]? = some ek.1 := by rw [List.getElem?_map, hk]; rfl
  have l1 := zlt_of hj
  have l2 := zlt_of hk
  rcases Nat.lt_trichotomy j k with w | w | w
  · exact absurd he (by
      have := List.pairwise_iff_getElem.mp h2 j k (by rw [List.length_map]; exact l1) (by rw [List.length_map]; exact l2) w
      rw [List.getElem?_eq_some_iff] at hj' hk'
      obtain ⟨_, a⟩ := hj'
      obtain ⟨_, b⟩ := hk'
      rw [← a, ← b]; exact this)
  · exact w
  · exact absurd he.symm (by
      have := List.pairwise_iff_getElem.mp h2 k j (by rw [List.length_map]; exact l2) (by rw [List.length_map]; exact l1) w
      rw [List.getElem?_eq_some_iff] at hj' hk'
      obtain ⟨_, a⟩ := hj'
      obtain ⟨_, b⟩ := hk'
      rw [← a, ← b]; exact this)
end ZZ1
