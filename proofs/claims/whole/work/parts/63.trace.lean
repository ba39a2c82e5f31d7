/-! PURE: which pairs: the reference's trace, and what the class tells of its choice -/
theorem zam_0 {f : Nat → Option Nat} : ∀ n, (∀ q, q < n → f q = none) → zam f n = none
  | 0, _ => rfl
  | n + 1, h => by
    unfold zam
    rw [zam_0 n (fun q hq => h q (by omega)), h n (by omega)]
theorem zfq_s {V : Nat} {f : Nat → Option Nat} (h : zfq V (zam f 7) ≠ 7) : zfq V (zam f 7) < 7 ∧ ∃ w, f (zfq V (zam f 7)) = some w := by
  unfold zfq at *
  cases e : zam f 7 with
  | none => rw [e] at h; exact absurd rfl h
  | some x =>
    rw [e] at h
    obtain ⟨a1, a2, _⟩ := zam_s 7 x.1 x.2 e
    dsimp only at *
    by_cases e2 : V ≤ x.1
    · simp only [if_pos e2]; exact ⟨a1, _, a2⟩
    · rw [if_neg e2] at h; exact absurd rfl h
section ZT
variable {c : Nat → Nat → Option Nat}
theorem zav_s {r : Nat → Nat} {p t q w : Nat} (h : zav c r p t q = some w) : t.testBit q = false ∧ c p q ≠ none := by
  unfold zav at h
  cases e : t.testBit q with
  | true => rw [e] at h; cases h
  | false =>
    refine ⟨rfl, fun e2 => ?_⟩
    rw [e, e2] at h; cases h
theorem zcf_s : ∀ (l : List Nat) (t r q : Nat), zcf c l t r = some q → r ∈ l ∧ q < 7 ∧ t.testBit q = false ∧ c r q ≠ none
  | [], _, _, _, h => by cases h
  | p :: l, t, r, q, h => by
    rw [zcf_c] at h
    by_cases e : zfq (zfv c l t) (zam (zav c (zfv c l) p t) 7) = 7
    · rw [if_pos e] at h
      by_cases e1 : r = p
      · rw [if_pos e1] at h; cases h
      · rw [if_neg e1] at h
        obtain ⟨a, b⟩ := zcf_s l t r q h
        exact ⟨List.mem_cons_of_mem _ a, b⟩
    · rw [if_neg e] at h
      by_cases e1 : r = p
      · rw [if_pos e1] at h
        injection h with h
        obtain ⟨a1, w, a2⟩ := zfq_s e
        rw [h] at a1 a2
        obtain ⟨b1, b2⟩ := zav_s a2
        rw [e1]
        exact ⟨List.mem_cons_self, a1, b1, b2⟩
      · rw [if_neg e1] at h
        obtain ⟨a, b1, b2, b3⟩ := zcf_s l _ r q h
        rw [Nat.testBit_or] at b2
        exact ⟨List.mem_cons_of_mem _ a, b1, (Bool.or_eq_false_iff.mp b2).1, b3⟩
theorem zcf_i : ∀ (l : List Nat) (t r1 r2 q : Nat), zcf c l t r1 = some q → zcf c l t r2 = some q → r1 = r2
  | [], _, _, _, _, h, _ => by cases h
  | p :: l, t, r1, r2, q, h1, h2 => by
    rw [zcf_c] at h1 h2
    by_cases e : zfq (zfv c l t) (zam (zav c (zfv c l) p t) 7) = 7
    · rw [if_pos e] at h1 h2
      by_cases e1 : r1 = p
      · rw [if_pos e1] at h1; cases h1
      · by_cases e2 : r2 = p
        · rw [if_pos e2] at h2; cases h2
        · rw [if_neg e1] at h1; rw [if_neg e2] at h2
          exact zcf_i l t r1 r2 q h1 h2
    · rw [if_neg e] at h1 h2
      have key : ∀ r, zcf c l (t ||| 2 ^ q) r = some q → False := fun r h => by
        have := (zcf_s l _ r q h).2.2.1
        rw [Nat.testBit_or, Nat.testBit_two_pow_self, Bool.or_true] at this
        cases this
      by_cases e1 : r1 = p
      · by_cases e2 : r2 = p
        · rw [e1, e2]
        · rw [if_pos e1] at h1; rw [if_neg e2] at h2
          injection h1 with h1
          rw [h1] at h2
          exact (key _ h2).elim
      · rw [if_neg e1] at h1
        by_cases e2 : r2 = p
        · rw [if_pos e2] at h2
          injection h2 with h2
          rw [h2] at h1
          exact (key _ h1).elim
        · rw [if_neg e2] at h2
          exact zcf_i l _ r1 r2 q h1 h2
theorem zskip {f : Nat → Bool} : ∀ (l : List Nat), l.Nodup → (∀ p, p ∈ l → f p = false → ∀ q, c p q = none) → ∀ t, zfv c (l.filter f) t = zfv c l t ∧ ∀ r, zcf c (l.filter f) t r = zcf c l t r
  | [], _, _, _ => ⟨rfl, fun _ => rfl⟩
  | p :: l, hn, h, t => by
    obtain ⟨n1, n2⟩ := List.nodup_cons.mp hn
    have ih := zskip l n2 (fun p' hp' => h p' (List.mem_cons_of_mem _ hp'))
    have ev : zfv c (l.filter f) = zfv c l := funext (fun t => (ih t).1)
    cases e : f p with
    | true =>
      rw [List.filter_cons_of_pos e]
      refine ⟨by rw [zfv_c, zfv_c, ev], fun r => ?_⟩
      rw [zcf_c, zcf_c, ev]
      by_cases e1 : zfq (zfv c l t) (zam (zav c (zfv c l) p t) 7) = 7
      · rw [if_pos e1, if_pos e1, (ih t).2 r]
      · rw [if_neg e1, if_neg e1, (ih _).2 r]
    | false =>
      rw [List.filter_cons_of_neg (by rw [e]; simp)]
      have hz : zam (zav c (zfv c l) p t) 7 = none := zam_0 7 (fun q _ => by
        unfold zav; rw [h p List.mem_cons_self e q]; split <;> rfl)
      refine ⟨by rw [zfv_c, hz, (ih t).1]; rfl, fun r => ?_⟩
      rw [zcf_c, hz, if_pos (show zfq (zfv c l t) none = 7 from rfl), (ih t).2 r]
      by_cases e1 : r = p
      · rw [if_pos e1]
        cases e2 : zcf c l t r with
        | none => rfl
        | some q =>
          have := (zcf_s l t r q e2).1
          rw [e1] at this
          exact absurd this n1
      · rw [if_neg e1]
variable {m0 m : ax_M} {fl : List Nat} {S : Nat} {b hv : Int32}
theorem z8_tq {f : Nat → Option Nat} {v3 v4 : Int32} {V ix : Nat} (hap : ∀ q, q < 7 → D8_afterPair b v4 (nI q) v3 hv m ∧ F8_afterPair b v4 (nI q) v3 hv m = zen (f q)) (hb : ∀ q w, f q = some w → w ≤ 8000) (hV : V ≤ 8000) (hix : (128 * v4) + v3 = nI ix) (hi : ix < 1024) (h85 : m 85 ix = nI (zmv V (zam f 7))) : ∀ n q, q ≤ 7 → 7 - q < n → (∀ q', q' < q → f q' ≠ some (zmv V (zam f 7))) → E8_tracePairs_39 n b hv v3 v4 (nI q) m ∧ L8_tracePairs_39 n b hv v3 v4 (nI q) m = nI (zfq V (zam f 7)) := by
  have hz : zmv V (zam f 7) ≤ 8000 := by
    unfold zmv
    cases e : zam f 7 with
    | none => exact hV
    | some x =>
      have := hb _ _ (zam_s 7 x.1 x.2 e).2.1
      dsimp only; split <;> omega
  intro n
  induction n with
  | zero => intro q _ h; omega
  | succ n ih =>
    intro q hq hn hno
    unfold E8_tracePairs_39 L8_tracePairs_39
    by_cases e : q = 7
    · subst e
      rw [if_pos (show (7 : Int32) ≤ nI 7 by decide)]
      refine ⟨fun w => absurd (show (7 : Int32) ≤ nI 7 by decide) w, ?_⟩
      congr 1
      unfold zfq
      cases e1 : zam f 7 with
      | none => rfl
      | some x =>
        obtain ⟨a1, a2, _⟩ := zam_s 7 x.1 x.2 e1
        dsimp only
        by_cases e2 : V ≤ x.1
        · have := hno x.2 a1
          rw [e1] at this
          unfold zmv at this
          dsimp only at this
          rw [if_pos e2] at this
          exact absurd a2 this
        · rw [if_neg e2]
    · have hlt : ¬ (7 : Int32) ≤ nI q := z_lef (a := 7) (by omega) (by omega)
      obtain ⟨a1, a2⟩ := hap q (by omega)
      rw [if_neg hlt, a2, hix, z_ncl (by omega), h85, nI_1]
      have ce : (zen (f q) = nI (zmv V (zam f 7))) ↔ f q = some (zmv V (zam f 7)) := by
        cases e1 : f q with
        | none =>
          refine ⟨fun w => ?_, fun w => by cases w⟩
          have w' : (-4 : Int32) = nI _ := w
          rw [z_eq, z_nti (by omega), show (-4 : Int32).toInt = -4 from rfl] at w'
          omega
        | some w =>
          have := hb _ _ e1
          show nI w = _ ↔ _
          rw [z_neq (by omega) (by omega)]
          exact ⟨fun h => by rw [h], fun h => by injection h⟩
      by_cases e1 : f q = some (zmv V (zam f 7))
      · rw [if_pos (ce.mpr e1)]
        refine ⟨fun _ => ⟨a1, z_vp (by omega) (by omega), fun w => absurd (ce.mpr e1) w⟩, ?_⟩
        congr 1
        unfold zfq
        cases e2 : zam f 7 with
        | none => rw [zam_n 7 e2 q (by omega)] at e1; cases e1
        | some x =>
          obtain ⟨b1, b2, b3⟩ := zam_s 7 x.1 x.2 e2
          rw [e2] at e1
          unfold zmv at e1
          dsimp only at e1 ⊢
          have b4 := b3 q _ (by omega) e1
          by_cases e3 : V ≤ x.1
          · rw [if_pos e3] at e1 b4 ⊢
            by_cases w1 : q < x.2
            · have := b4.2 w1; omega
            · by_cases w2 : x.2 < q
              · have := hno x.2 w2
                rw [e2] at this
                unfold zmv at this
                dsimp only at this
                rw [if_pos e3] at this
                exact absurd b2 this
              · omega
          · rw [if_neg e3] at b4; omega
      · rw [if_neg (fun w => e1 (ce.mp w))]
        obtain ⟨i1, i2⟩ := ih (q + 1) (by omega) (by omega) (fun q' hq' => by
          by_cases w : q' = q
          · rw [w]; exact e1
          · exact hno q' (by omega))
        exact ⟨fun _ => ⟨a1, z_vp (by omega) (by omega), fun _ => i1⟩, i2⟩
/-- what the trace has written of a choice F of rows, the first k of them -/
def zTr (F : Nat → Option Nat) (fl : List Nat) (k : Nat) (m : ax_M) : Prop := (∀ j, j < k → ∀ q, F (fl.getD j 0) = some q → m 86 (fl.getD j 0) = nI q ∧ m 86 q = nI (fl.getD j 0)) ∧ (∀ r, r < 7 → (∀ j, j < k → ∀ q, F (fl.getD j 0) = some q → r ≠ fl.getD j 0 ∧ r ≠ q) → m 86 r = -4)
theorem z8_tr (hx : ∀ p q x, c p q = some x → x ≤ 6) (hS7 : S < 128) (hl : fl.length ≤ 7) (hS : ∀ p q, p ∈ fl → S.testBit q = false → c p q = none) (hw : zHw m0 c fl S b hv) (hnd : fl.Nodup) (h7 : ∀ p, p ∈ fl → p < 7) (hdis : ∀ p, p ∈ fl → S.testBit p = false) : ∀ n k u m, k ≤ fl.length → fl.length - k < n → u < 128 → zLay m0 m fl S → zBs c fl m 0 → zTr (zcf c fl 0) fl k m → (∀ j, k ≤ j → j < fl.length → zcf c fl 0 (fl.getD j 0) = zcf c (fl.drop k) u (fl.getD j 0)) → E8_tracePairs_27 n b hv (nI u) (nI k) m ∧ (∀ d, d ≠ 86 → (L8_tracePairs_27 n b hv (nI u) (nI k) m).2.2 d = m d) ∧ zTr (zcf c fl 0) fl fl.length (L8_tracePairs_27 n b hv (nI u) (nI k) m).2.2 := by
  intro n
  induction n with
  | zero => intro k u m _ h; omega
  | succ n ih =>
    intro k u m hk hn hu hL hB hT hF
    unfold E8_tracePairs_27 L8_tracePairs_27
    rw [hL.2.1]
    by_cases e : k = fl.length
    · rw [if_pos (z_let (by omega) (by omega))]
      exact ⟨fun w => absurd (z_let (by omega) (by omega)) w, fun _ _ => rfl, by rw [← e]; exact hT⟩
    · have hlt : ¬ nI fl.length ≤ nI k := z_lef (by omega) (by omega)
      have hk' : k < fl.length := by omega
      have hp := zgetm fl k hk'
      have hp7 := h7 _ hp
      have hlen : (fl.drop (k + 1)).length ≤ 6 := by rw [List.length_drop]; omega
      have hV := zfv_le (c := c) (fl.drop (k + 1)) u
      have e85 : m 85 (128 * k + u) = nI (zmv (zfv c (fl.drop (k + 1)) u) (zam (zav c (zfv c (fl.drop (k + 1))) (fl.getD k 0) u) 7)) := by
        rw [hB k (by omega) hk u hu, zdrop fl k hk', zfv_c]
      obtain ⟨x1, x2⟩ := z8_tq (v3 := nI u) (v4 := nI k) (V := zfv c (fl.drop (k + 1)) u) (ix := 128 * k + u) (fun q hq => z8_ap hx hS7 hl hS hw hL hk' hu hq (hB (k + 1) (by omega) (by omega))) (fun q w h => by have := zav_le h; omega) (by omega) (by rw [z_lit 128, pk_mul, nI_add]) (by omega) e85 64 0 (by omega) (by omega) (fun q' h => by omega)
      rw [show nI 0 = (0 : Int32) from rfl] at x1 x2
      have hFk : ∀ r, zcf c (fl.drop k) u r = _ := fun r => (congrArg (fun l => zcf c l u r) (zdrop fl k hk')).trans zcf_c
      have hle := zfq_le (V := zfv c (fl.drop (k + 1)) u) (f := zav c (zfv c (fl.drop (k + 1))) (fl.getD k 0) u)
      have hzs := fun h => zfq_s (V := zfv c (fl.drop (k + 1)) u) (f := zav c (zfv c (fl.drop (k + 1))) (fl.getD k 0) u) h
      rw [if_neg hlt, x2, z_ncl (by omega), hL.2.2.2 k hk', z_ncl (by omega), nI_1, z_upr (show 84 ≠ 86 by omega), hL.2.2.2 k hk']
      generalize hx0 : zfq (zfv c (fl.drop (k + 1)) u) (zam (zav c (zfv c (fl.drop (k + 1))) (fl.getD k 0) u) 7) = x at *
      have c7 : ((7 : Int32) ≤ nI x) ↔ 7 ≤ x := z_nle (a := 7) (by omega) (by omega)
      rw [z_ncl (show x < 2147483648 by omega)]
      by_cases e7 : x = 7
      · have e7' := c7.mpr (by omega)
        rw [if_pos e7', if_pos e7']
        have hFp : zcf c fl 0 (fl.getD k 0) = none := by
          rw [hF k (Nat.le_refl _) hk', hFk, if_pos e7, if_pos rfl]
        obtain ⟨i1, i2, i3⟩ := ih (k + 1) u m (by omega) (by omega) hu hL hB ⟨fun j hj q hq => by
            by_cases w : j = k
            · rw [w, hFp] at hq; cases hq
            · exact hT.1 j (by omega) q hq, fun r hr h => hT.2 r hr (fun j hj => h j (by omega))⟩ (fun j h1 h2 => by
            rw [hF j (by omega) h2, hFk, if_pos e7, if_neg (fun w => zgeti fl k j hnd (by omega) h2 w.symm)])
        exact ⟨fun _ => ⟨x1, fun w => absurd e7' w, i1⟩, i2, i3⟩
      · have e7' : ¬ (7 : Int32) ≤ nI x := fun w => by have := c7.mp w; omega
        rw [if_neg e7', if_neg e7', z_tor (by omega)]
        have hFp : zcf c fl 0 (fl.getD k 0) = some x := by
          rw [hF k (Nat.le_refl _) hk', hFk, if_neg e7, if_pos rfl]
        have hSt : ∀ j q, zcf c fl 0 j = some q → S.testBit q = true := fun j q h => by
          obtain ⟨b1, _, _, b4⟩ := zcf_s fl 0 j q h
          cases w : S.testBit q with
          | true => rfl
          | false => exact absurd (hS j q b1 w) b4
        have hne : ∀ j q i, zcf c fl 0 j = some q → i < fl.length → fl.getD i 0 ≠ q := fun j q i h hi w => by
          have h1 := hSt j q h
          have h2 := hdis _ (zgetm fl i hi)
          rw [w, h1] at h2; cases h2
        have hpx : fl.getD k 0 ≠ x := hne _ _ k hFp hk'
        have h86 : ∀ r, ax_up (ax_up m 86 (fl.getD k 0) (nI x)) 86 x (nI (fl.getD k 0)) 86 r = if r = x then nI (fl.getD k 0) else if r = fl.getD k 0 then nI x else m 86 r := fun r => by
          rw [z_up, z_up]
          by_cases w1 : r = x
          · rw [if_pos ⟨rfl, w1⟩, if_pos w1]
          · rw [if_neg (fun w => w1 w.2), if_neg w1]
            by_cases w2 : r = fl.getD k 0
            · rw [if_pos ⟨rfl, w2⟩, if_pos w2]
            · rw [if_neg (fun w => w2 w.2), if_neg w2]
        have hfr : ∀ d, d ≠ 86 → ax_up (ax_up m 86 (fl.getD k 0) (nI x)) 86 x (nI (fl.getD k 0)) d = m d := fun d h => by rw [z_upr h, z_upr h]
        obtain ⟨i1, i2, i3⟩ := ih (k + 1) (u ||| 2 ^ x) _ (by omega) (by omega) (z_t7 hu (by omega)) (hL.up (m' := ax_up (ax_up m 86 (fl.getD k 0) (nI x)) 86 x (nI (fl.getD k 0))) (fun d h1 h2 => hfr d h2)) (fun j h1 h2 u hu => by rw [hfr 85 (by omega)]; exact hB j h1 h2 u hu) ⟨fun j hj q hq => by
            rw [h86, h86]
            by_cases w : j = k
            · rw [w] at hq ⊢
              rw [hFp] at hq
              injection hq with hq
              rw [← hq, if_neg hpx, if_pos rfl, if_pos rfl]
              exact ⟨rfl, rfl⟩
            · obtain ⟨t1, t2⟩ := hT.1 j (by omega) q hq
              have n1 := zgeti fl j k hnd (by omega) hk'
              have n2 := hne _ _ j hFp (by omega)
              have n3 := hne _ _ k hq hk'
              have n4 : q ≠ x := fun w4 => by rw [w4] at hq; exact n1 (zcf_i fl 0 _ _ x hq hFp)
              rw [if_neg n2, if_neg n1, if_neg n4, if_neg n3.symm]
              exact ⟨t1, t2⟩, fun r hr h => by
            obtain ⟨t1, t2⟩ := h k (by omega) x hFp
            rw [h86, if_neg t2, if_neg t1]
            exact hT.2 r hr (fun j hj => h j (by omega))⟩ (fun j h1 h2 => by
            rw [hF j (by omega) h2, hFk, if_neg e7, if_neg (fun w => zgeti fl k j hnd (by omega) h2 w.symm)])
        exact ⟨fun _ => ⟨x1, fun _ => ⟨z_vp (by omega) (by omega), z_vp (by omega) (by omega), z_vp (by omega) (by omega), z_vp (by omega) (by omega)⟩, i1⟩, fun d h => by rw [i2 d h, hfr d h], i3⟩
theorem z8_t0 : ∀ n r m, r ≤ 7 → 7 - r < n → (∀ r', r' < r → m 86 r' = -4) → E8_tracePairs_2 n b hv (nI r) m ∧ (∀ d, d ≠ 86 → (L8_tracePairs_2 n b hv (nI r) m).2 d = m d) ∧ (∀ r', r' < 7 → (L8_tracePairs_2 n b hv (nI r) m).2 86 r' = -4) := by
  intro n
  induction n with
  | zero => intro u m _ h; omega
  | succ n ih =>
    intro u m hu hn hd
    unfold E8_tracePairs_2 L8_tracePairs_2
    by_cases e : u = 7
    · subst e
      rw [if_pos (show (7 : Int32) ≤ nI 7 by decide)]
      exact ⟨fun w => absurd (show (7 : Int32) ≤ nI 7 by decide) w, fun _ _ => rfl, hd⟩
    · have hlt : ¬ (7 : Int32) ≤ nI u := z_lef (a := 7) (by omega) (by omega)
      rw [if_neg hlt, z_ncl (by omega), nI_1]
      obtain ⟨i1, i2, i3⟩ := ih (u + 1) (ax_up m 86 u (-4)) (by omega) (by omega) (fun u' hu' => by
        rw [z_up]
        by_cases w : u' = u
        · rw [if_pos ⟨rfl, by omega⟩]
        · rw [if_neg (by omega), hd u' (by omega)])
      exact ⟨fun _ => ⟨z_vp (by omega) (by omega), i1⟩, fun d h1 => by rw [i2 d h1, z_upr h1], i3⟩
theorem z8_trace (hx : ∀ p q x, c p q = some x → x ≤ 6) (hS7 : S < 128) (hl : fl.length ≤ 7) (hS : ∀ p q, p ∈ fl → S.testBit q = false → c p q = none) (hw : zHw m0 c fl S b hv) (hnd : fl.Nodup) (h7 : ∀ p, p ∈ fl → p < 7) (hdis : ∀ p, p ∈ fl → S.testBit p = false) (hL : zLay m0 m fl S) (hB : zBs c fl m 0) : D8_tracePairs b hv m ∧ (∀ d, d ≠ 86 → F8_tracePairs b hv m d = m d) ∧ zTr (zcf c fl 0) fl fl.length (F8_tracePairs b hv m) := by
  unfold D8_tracePairs F8_tracePairs
  obtain ⟨a1, a2, a3⟩ := z8_t0 (b := b) (hv := hv) 64 0 m (by omega) (by omega) (fun u' h => by omega)
  rw [show nI 0 = (0 : Int32) from rfl] at a1 a2 a3
  generalize (L8_tracePairs_2 64 b hv 0 m).2 = m1 at *
  obtain ⟨b1, b2, b3⟩ := z8_tr hx hS7 hl hS hw hnd h7 hdis 64 0 0 m1 (by omega) (by omega) (by omega) (hL.up (fun d _ h2 => a2 d h2)) (fun j h1 h2 u hu => by rw [a2 85 (by omega)]; exact hB j h1 h2 u hu) ⟨fun j hj => by omega, fun r hr _ => a3 r hr⟩ (fun j _ _ => rfl)
  exact ⟨⟨a1, b1⟩, fun d h => by rw [← a2 d h]; exact b2 d h, b3⟩
theorem z2_fl {F : Nat → Option Nat} (h58 : ∀ r, r < 7 → m 58 r = zeo (F r)) (hF : ∀ r q, F r = some q → q < 7) {p : Nat} (hp : p < 7) : ∀ n x, x ≤ 7 → 7 - x < n → E2_fellowOf_32 n (nI p) (nI x) m ∧ (((L2_fellowOf_32 n (nI p) (nI x) m).1 = none ∧ ∀ y, x ≤ y → y < 7 → F y ≠ some p) ∨ ∃ y, y < 7 ∧ F y = some p ∧ (L2_fellowOf_32 n (nI p) (nI x) m).1 = some (nI y)) := by
  intro n
  induction n with
  | zero => intro u _ h; omega
  | succ n ih =>
    intro x hx hn
    unfold E2_fellowOf_32 L2_fellowOf_32
    by_cases e : x = 7
    · subst e
      rw [if_pos (show (7 : Int32) ≤ nI 7 by decide)]
      exact ⟨fun w => absurd (show (7 : Int32) ≤ nI 7 by decide) w, Or.inl ⟨rfl, fun y h1 h2 => by omega⟩⟩
    · have hlt : ¬ (7 : Int32) ≤ nI x := z_lef (a := 7) (by omega) (by omega)
      rw [if_neg hlt, z_at (by omega) (by omega), h58 x (by omega), nI_1]
      have ce : (zeo (F x) = nI p) ↔ F x = some p := by
        cases e1 : F x with
        | none =>
          refine ⟨fun w => ?_, fun w => by cases w⟩
          have w' : (-1 : Int32) = nI _ := w
          rw [z_eq, z_nti (by omega), show (-1 : Int32).toInt = -1 from rfl] at w'
          omega
        | some w =>
          have := hF _ _ e1
          show nI w = _ ↔ _
          rw [z_neq (by omega) (by omega)]
          exact ⟨fun h => by rw [h], fun h => by injection h⟩
      by_cases e1 : F x = some p
      · rw [if_pos (ce.mpr e1)]
        exact ⟨fun _ w => absurd (ce.mpr e1) w, Or.inr ⟨x, by omega, e1, rfl⟩⟩
      · rw [if_neg (fun w => e1 (ce.mp w))]
        obtain ⟨i1, i2⟩ := ih (x + 1) (by omega) (by omega)
        refine ⟨fun _ _ => i1, ?_⟩
        rcases i2 with ⟨j1, j2⟩ | j
        · refine Or.inl ⟨j1, fun y h1 h2 => ?_⟩
          by_cases w : y = x
          · rw [w]; exact e1
          · exact j2 y (by omega) h2
        · exact Or.inr j
theorem z_fel {F : Nat → Option Nat} {m7 m8 : ax_M} (h58 : ∀ r, r < 7 → m7 58 r = zeo (F r)) (h7 : ∀ p, p ∈ fl → p < 7) (hF : ∀ r q, F r = some q → q < 7 ∧ r ∈ fl) (hT : zTr F fl fl.length m8) {p : Nat} (hp : p < 7) : D2_fellowOf (nI p) m7 ∧ F2_fellowOf (nI p) m7 = m8 86 p := by
  obtain ⟨a1, a2⟩ := z2_fl h58 (fun r q h => (hF r q h).1) hp 64 0 (by omega) (by omega)
  rw [show nI 0 = (0 : Int32) from rfl] at a1 a2
  have c1 : ¬ nI p < 0 := nI_pos (by omega)
  have c2 : ¬ (7 : Int32) ≤ nI p := z_lef (a := 7) (by omega) (by omega)
  unfold D2_fellowOf F2_fellowOf
  rw [if_neg c1, if_neg c2, z_at hp (by omega), h58 p hp]
  refine ⟨⟨fun w => absurd w c1, fun _ => ⟨fun w => absurd w c2, fun _ _ => a1⟩⟩, ?_⟩
  cases e : F p with
  | some q =>
    obtain ⟨b1, b2⟩ := hF p q e
    obtain ⟨k, k1, k2⟩ := zgete fl p b2
    rw [if_neg (show ¬ zeo (some q) < 0 from nI_pos (by omega))]
    have := (hT.1 k k1 q (by rw [k2]; exact e)).1
    rw [k2] at this
    exact this.symm
  | none =>
    rw [if_pos (show zeo none < 0 by decide)]
    rcases a2 with ⟨j1, j2⟩ | ⟨y, y1, y2, y3⟩
    · rw [j1, if_pos rfl]
      refine (hT.2 p hp (fun j hj q hq => ⟨fun w => ?_, fun w => ?_⟩)).symm
      · rw [← w, e] at hq; cases hq
      · rw [← w] at hq
        obtain ⟨b1, b2⟩ := hF _ _ hq
        exact j2 _ (by omega) (h7 _ b2) hq
    · rw [y3, if_neg (by simp)]
      obtain ⟨k, k1, k2⟩ := zgete fl y (hF y p y2).2
      have := (hT.1 k k1 p (by rw [k2]; exact y2)).2
      rw [k2] at this
      exact this.symm
end ZT
