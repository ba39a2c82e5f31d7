/-! PURE: rows of crossings, by the reference; fits -/
section ZF2
variable {m : ax_M} {T : zT} {s : zS} {P : zP} {c g : Nat}
theorem zcode_z {f : Nat → Nat} {n : Nat} : ∀ j, (∀ k, n ≤ k → k < n + j → f k = 0) → zcode f (n + j) = zcode f n
  | 0, _ => rfl
  | j + 1, h => by
    have ih := zcode_z j (fun k h1 h2 => h k h1 (by omega))
    show zcode f (n + j) + f (n + j) * 2 ^ (2 * (n + j)) = _
    rw [ih, h (n + j) (by omega) (by omega), Nat.zero_mul, Nat.add_zero]
/-- ways to stand of the people that there are -/
theorem zfo_lt {c' v : Nat} (hs : zW s) (hc : c < 2 ^ (2 * s.no)) (h : zfo s P c v = some c') : c' < 2 ^ (2 * s.no) := by
  have n6 := hs.no6
  have n4 := hs.nb4
  obtain ⟨h1, h2, h3, rfl⟩ := zfo_t h
  obtain ⟨a1, a2, a3, a4⟩ := zab_t h1
  have f1 := hs.fs a1
  have f2 := hs.sc a1
  have hz := zcode_z (f := zfg c (v / 10 % 10) (v % 10) (s.fs (v / 100)) (s.sc (v / 100))) (n := s.no) (6 - s.no) (fun k k1 k2 => by
    unfold zfg
    rw [if_neg (by omega), if_neg (by omega)]
    unfold zdg
    rw [Nat.div_eq_of_lt (Nat.lt_of_lt_of_le hc (Nat.pow_le_pow_right (by decide) (by omega)))])
  rw [show s.no + (6 - s.no) = 6 by omega] at hz
  unfold zfc
  rw [hz]
  exact zcode_lt s.no (fun k hk => zfg_lt (by omega) (by omega) k (by omega))
theorem z_no4 (hs : zW s) : 2 ^ (2 * s.no) ≤ 4096 := by
  have h2 : (2 : Nat) ^ (2 * s.no) ≤ 2 ^ 12 := Nat.pow_le_pow_right (by decide) (by have := hs.no6; omega)
  omega
/-- the reference's rows of t steps -/
def z8R (m : ax_M) (s : zS) (P : zP) (g t : Nat) : Prop := ∀ c, c < 2 ^ (2 * s.no) → m 92 (4096 * t + c) = nI (znr s P g t c)
theorem z8_r6 {v1 : Int32} (hg : g < 4096) : ∀ f c m, c ≤ 4096 → 4096 - c < f → (∀ u, u < c → m 92 u = nI (if u = g then 1 else 0)) → E8_layRows_6 f v1 (nI g) (nI c) m ∧ (∀ d, d ≠ 92 → (L8_layRows_6 f v1 (nI g) (nI c) m).2 d = m d) ∧ ∀ u, u < 4096 → (L8_layRows_6 f v1 (nI g) (nI c) m).2 92 u = nI (if u = g then 1 else 0) := by
  intro f
  induction f with
  | zero => intro c m _ h; omega
  | succ f ih =>
    intro c m hc hf hI
    unfold E8_layRows_6 L8_layRows_6
    by_cases e : c = 4096
    · subst e
      rw [if_pos (show (4096 : Int32) ≤ nI 4096 by decide)]
      exact ⟨fun w => absurd (show (4096 : Int32) ≤ nI 4096 by decide) w, fun _ _ => rfl, hI⟩
    · have hlt : ¬ (4096 : Int32) ≤ nI c := z_lef (a := 4096) (by omega) (by omega)
      have ce : (nI c = nI g) ↔ c = g := z_neq (by omega) (by omega)
      have ev : (if nI c = nI g then (1 : Int32) else 0) = nI (if c = g then 1 else 0) := by
        by_cases y : c = g
        · rw [if_pos (ce.mpr y), if_pos y]; rfl
        · rw [if_neg (fun x => y (ce.mp x)), if_neg y]; rfl
      rw [if_neg hlt, z_ncl (by omega), ev, nI_1]
      obtain ⟨i1, i2, i3⟩ := ih (c + 1) (ax_up m 92 c (nI (if c = g then 1 else 0))) (by omega) (by omega) (fun u hu => by
        rw [z_up]
        by_cases w : u = c
        · rw [if_pos ⟨rfl, w⟩, w]
        · rw [if_neg (fun x => w x.2)]; exact hI u (by omega))
      exact ⟨fun _ => ⟨z_vp (by omega) (by omega), i1⟩, fun d hd => by rw [i2 d hd, z_upr hd], i3⟩
theorem z8_sum (hs : zW s) (hE : zE m s) (hA : z8A m s P) {t : Nat} {v1 v2 : Int32} (ht : t + 1 ≤ 4) (hR : z8R m s P g t) (hc : c < 2 ^ (2 * s.no)) : ∀ f v acc, v ≤ 100 * s.ng → 100 * s.ng - v < f → E8_layRows_59 f v1 v2 (nI (t + 1)) (nI c) acc (nI v) m ∧ (L8_layRows_59 f v1 v2 (nI (t + 1)) (nI c) acc (nI v) m).1 = acc + nI (zls (znx (zfo s P) (znr s P g t) c) ((List.range (100 * s.ng)).drop v)) := by
  have g4 := hs.ng4
  have n6 := hs.no6
  have h46 := z_no4 hs
  intro f
  induction f with
  | zero => intro v acc _ h; omega
  | succ f ih =>
    intro v acc hv hf
    unfold E8_layRows_59 L8_layRows_59
    rw [hE.ng, hE.no, show 100 * nI s.ng = nI (100 * s.ng) by rw [z_lit 100, pk_mul]]
    by_cases w : v = 100 * s.ng
    · rw [if_pos (z_let (by omega) (by omega)), w, List.drop_of_length_le (by rw [List.length_range]; exact Nat.le_refl _)]
      refine ⟨fun x => absurd (z_let (by omega) (by omega)) x, ?_⟩
      show acc = acc + 0
      rw [Int32.add_zero]
    · have hlt : ¬ nI (100 * s.ng) ≤ nI v := z_lef (by omega) (by omega)
      have esh : (1 : Int32) <<< ((2 * nI s.no) &&& (31 : Int32)) = nI (2 ^ (2 * s.no)) := by
        rw [z_lit 2, pk_mul, z_lit 1, z_shl (by omega) (by omega), Nat.one_mul]
      have hcc : ¬ nI (2 ^ (2 * s.no)) ≤ nI c := z_lef (by omega) (by omega)
      obtain ⟨o1, o2⟩ := z8_follows hs hE hA (show c < 4096 by omega) (show v < 400 by omega)
      rw [if_neg hlt, esh, if_neg hcc, o2, nI_pred, nI_1 v, zdropr (show v < 100 * s.ng by omega)]
      have key : (¬ (zen (zfo s P c v) = -4) → vp_in (4096 * nI t + zen (zfo s P c v)) 20480) ∧ (if zen (zfo s P c v) = -4 then (0 : Int32) else m 92 (Int32.toNatClampNeg ((4096 * nI t) + zen (zfo s P c v)))) = nI (znx (zfo s P) (znr s P g t) c v) := by
        unfold znx
        cases ef : zfo s P c v with
        | none => exact ⟨fun x => absurd rfl x, if_pos rfl⟩
        | some c' =>
          have hc' := zfo_lt hs hc ef
          have hne : ¬ zen (some c') = -4 := fun x => by cases (zen_n4 (fun y hy => by injection hy with hy; omega)).mp x
          have eix : 4096 * nI t + zen (some c') = nI (4096 * t + c') := by
            show 4096 * nI t + nI c' = _
            rw [z_lit 4096, pk_mul, nI_add]
          rw [eix, if_neg hne, z_ncl (by omega), hR c' hc']
          exact ⟨fun _ => z_vp (by omega) (by omega), rfl⟩
      rw [key.2]
      obtain ⟨i1, i2⟩ := ih (v + 1) (acc + nI (znx (zfo s P) (znr s P g t) c v)) (by omega) (by omega)
      refine ⟨fun _ _ => ⟨o1, key.1, i1⟩, ?_⟩
      rw [i2, Int32.add_assoc, nI_add]
      rfl
theorem znr_r {t : Nat} : znr s P g (t + 1) c = zls (znx (zfo s P) (znr s P g t) c) (List.range (100 * s.ng)) := by
  show zls (znx (zfo s P) (znr s P g t) c) (zvs s P) = _
  exact zls_f (fun v hv => by
    unfold znx zfo
    rw [if_neg (fun x => by rw [hv] at x; cases x.1)]) _
theorem z8_out (hs : zW s) (hE : zE m s) {v1 v2 v3 acc : Int32} (hc : 2 ^ (2 * s.no) ≤ c) (h4 : c < 4096) : ∀ f, E8_layRows_59 (f + 1) v1 v2 v3 (nI c) acc 0 m := fun f => by
  have n6 := hs.no6
  unfold E8_layRows_59
  rw [hE.no]
  intro _ hh
  have esh : (1 : Int32) <<< ((2 * nI s.no) &&& (31 : Int32)) = nI (2 ^ (2 * s.no)) := by
    have := z_no4 hs
    rw [z_lit 2, pk_mul, z_lit 1, z_shl (by omega) (by omega), Nat.one_mul]
  rw [esh] at hh
  exact absurd (z_let hc (by omega)) hh
theorem z8_r45 (hs : zW s) {t : Nat} {v1 v2 : Int32} (ht : t + 1 ≤ 4) : ∀ f c m, c ≤ 4096 → 4096 - c < f → zE m s → z8A m s P → z8R m s P g t → (∀ u, u < c → u < 2 ^ (2 * s.no) → m 92 (4096 * (t + 1) + u) = nI (znr s P g (t + 1) u)) → E8_layRows_45 f v1 v2 (nI (t + 1)) (nI c) m ∧ (∀ d, d ≠ 92 → (L8_layRows_45 f v1 v2 (nI (t + 1)) (nI c) m).2 d = m d) ∧ (∀ j, j < 4096 * (t + 1) → (L8_layRows_45 f v1 v2 (nI (t + 1)) (nI c) m).2 92 j = m 92 j) ∧ z8R (L8_layRows_45 f v1 v2 (nI (t + 1)) (nI c) m).2 s P g (t + 1) := by
  have g4 := hs.ng4
  have h46 := z_no4 hs
  intro f
  induction f with
  | zero => intro c m _ h; omega
  | succ f ih =>
    intro c m hc hf hE hA hR hI
    unfold E8_layRows_45 L8_layRows_45
    by_cases e : c = 4096
    · subst e
      rw [if_pos (show (4096 : Int32) ≤ nI 4096 by decide)]
      exact ⟨fun w => absurd (show (4096 : Int32) ≤ nI 4096 by decide) w, fun _ _ => rfl, fun _ _ => rfl, fun u hu => hI u (by omega) hu⟩
    · have hlt : ¬ (4096 : Int32) ≤ nI c := z_lef (a := 4096) (by omega) (by omega)
      have eix : 4096 * nI (t + 1) + nI c = nI (4096 * (t + 1) + c) := by rw [z_lit 4096, pk_mul, nI_add]
      rw [if_neg hlt, eix, z_ncl (by omega), nI_1 c]
      have x1 : E8_layRows_59 4200 v1 v2 (nI (t + 1)) (nI c) 0 0 m := by
        by_cases w : c < 2 ^ (2 * s.no)
        · exact (z8_sum (v1 := v1) (v2 := v2) hs hE hA ht hR w 4200 0 0 (by omega) (by omega)).1
        · exact z8_out hs hE (by omega) (by omega) 4199
      have x2 : c < 2 ^ (2 * s.no) → (L8_layRows_59 4200 v1 v2 (nI (t + 1)) (nI c) 0 0 m).1 = nI (znr s P g (t + 1) c) := fun w => by
        have := (z8_sum (v1 := v1) (v2 := v2) hs hE hA ht hR w 4200 0 0 (by omega) (by omega)).2
        rw [show nI 0 = (0 : Int32) from rfl, List.drop_zero, Int32.zero_add, ← znr_r] at this
        exact this
      generalize (L8_layRows_59 4200 v1 v2 (nI (t + 1)) (nI c) 0 0 m).1 = X at *
      obtain ⟨i1, i2, i3, i4⟩ := ih (c + 1) (ax_up m 92 (4096 * (t + 1) + c) X) (by omega) (by omega) (hE.same (by rw [z_upr (by omega)]) (by rw [z_upr (by omega)]) (by rw [z_upr (by omega)]) (by rw [z_upr (by omega)]) (z_upr (by omega))) (by unfold z8A; rw [z_upr (by omega)]; exact hA) (fun u hu => by rw [z_up, if_neg (by omega)]; exact hR u hu) (fun u hu hu2 => by
        rw [z_up]
        by_cases w : u = c
        · rw [if_pos ⟨rfl, by rw [w]⟩, w]; exact x2 (by omega)
        · rw [if_neg (by omega)]; exact hI u (by omega) hu2)
      exact ⟨fun _ => ⟨x1, z_vp (by omega) (by omega), i1⟩, fun d hd => by rw [i2 d hd, z_upr hd], fun j hj => by rw [i3 j hj, z_up, if_neg (by omega)], i4⟩
theorem z8_r37 (hs : zW s) {n : Nat} {v2 : Int32} (hn : n ≤ 4) : ∀ f t m, t ≤ n → n - t < f → zE m s → z8A m s P → (∀ u, u ≤ t → z8R m s P g u) → E8_layRows_37 f (nI n) v2 (nI (t + 1)) m ∧ (∀ d, d ≠ 92 → (L8_layRows_37 f (nI n) v2 (nI (t + 1)) m).2 d = m d) ∧ ∀ u, u ≤ n → z8R (L8_layRows_37 f (nI n) v2 (nI (t + 1)) m).2 s P g u := by
  have h46 := z_no4 hs
  intro f
  induction f with
  | zero => intro t m _ h; omega
  | succ f ih =>
    intro t m ht hf hE hA hR
    unfold E8_layRows_37 L8_layRows_37
    by_cases w : t = n
    · have hc : nI n < nI (t + 1) := (z_nlt (by omega) (by omega)).mpr (by omega)
      rw [if_pos hc]
      exact ⟨fun x => absurd hc x, fun _ _ => rfl, fun u hu => hR u (by omega)⟩
    · have hc : ¬ nI n < nI (t + 1) := fun x => by have := (z_nlt (by omega) (by omega)).mp x; omega
      obtain ⟨x1, x2, x3, x4⟩ := z8_r45 (g := g) (P := P) (v1 := nI n) (v2 := v2) hs (show t + 1 ≤ 4 by omega) 4200 0 m (by omega) (by omega) hE hA (hR t (Nat.le_refl _)) (fun u hu => by omega)
      rw [show nI 0 = (0 : Int32) from rfl] at x1 x2 x3 x4
      rw [if_neg hc, nI_1 (t + 1)]
      have hE1 : zE (L8_layRows_45 4200 (nI n) v2 (nI (t + 1)) 0 m).2 s := hE.same (by rw [x2 74 (by omega)]) (by rw [x2 74 (by omega)]) (by rw [x2 74 (by omega)]) (by rw [x2 74 (by omega)]) (x2 76 (by omega))
      obtain ⟨i1, i2, i3⟩ := ih (t + 1) _ (by omega) (by omega) hE1 (by unfold z8A; rw [x2 91 (by omega)]; exact hA) (fun u hu => by
        by_cases y : u = t + 1
        · rw [y]; exact x4
        · intro c hc
          have hu' : 4096 * u ≤ 4096 * t := Nat.mul_le_mul_left _ (by omega)
          rw [x3 _ (by omega)]; exact hR u (by omega) c hc)
      exact ⟨fun _ => ⟨x1, i1⟩, fun d hd => by rw [i2 d hd, x2 d hd], i3⟩
theorem z8_rows8 (hs : zW s) (hP : zV s P) (hE : zE m s) (hQ : zQ m 0 s P) {n : Nat} (hn : n ≤ 4) (hg : g < 4096) : D8_layRows (nI n) (nI g) m ∧ (∀ d, d ≠ 91 → d ≠ 92 → F8_layRows (nI n) (nI g) m d = m d) ∧ z8A (F8_layRows (nI n) (nI g) m) s P ∧ ∀ u, u ≤ n → z8R (F8_layRows (nI n) (nI g) m) s P g u := by
  have h46 := z_no4 hs
  obtain ⟨b1, b2, b3⟩ := z8_able hs hP 420 0 m (by omega) (by omega) hE hQ (fun u h => by omega)
  rw [show nI 0 = (0 : Int32) from rfl] at b1 b2 b3
  have hla : (L8_layAble_2 420 0 m).2 = F8_layAble m := rfl
  rw [hla] at b2 b3
  have b1' : D8_layAble m := b1
  unfold D8_layRows F8_layRows
  generalize F8_layAble m = m1 at *
  obtain ⟨a1, a2, a3⟩ := z8_r6 (v1 := nI n) hg 4200 0 m1 (by omega) (by omega) (fun u h => by omega)
  rw [show nI 0 = (0 : Int32) from rfl] at a1 a2 a3
  generalize (L8_layRows_6 4200 (nI n) (nI g) 0 m1).2 = m2 at *
  have hE2 : zE m2 s := hE.same (by rw [a2 74 (by omega), b2 74 (by omega)]) (by rw [a2 74 (by omega), b2 74 (by omega)]) (by rw [a2 74 (by omega), b2 74 (by omega)]) (by rw [a2 74 (by omega), b2 74 (by omega)]) (by rw [a2 76 (by omega), b2 76 (by omega)])
  have hA2 : z8A m2 s P := by unfold z8A; rw [a2 91 (by omega)]; exact b3
  obtain ⟨i1, i2, i3⟩ := z8_r37 (g := g) (P := P) (v2 := nI g) hs hn 4200 0 m2 (by omega) (by omega) hE2 hA2 (fun u hu => by
    have : u = 0 := by omega
    subst this
    intro c hc
    rw [Nat.mul_zero, Nat.zero_add, a3 c (by omega)]; rfl)
  rw [show nI (0 + 1) = (1 : Int32) from rfl] at i1 i2 i3
  refine ⟨⟨b1', a1, i1⟩, fun d h1 h2 => by rw [i2 d h2, a2 d h2, b2 d h1], ?_, i3⟩
  unfold z8A
  rw [i2 91 (by omega)]; exact hA2
end ZF2
