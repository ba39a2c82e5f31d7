/-! PURE: fits -/
section ZG2
variable {m : ax_M} {T : zT} {s : zS} {P Q : zP} {c g : Nat}
theorem z8_f68 {k : Nat} {v2 v3 v4 : Int32} (hs : zW s) (hQv : zV s Q) (hk : k < 2) (hE : zE m s) (hQ : zQ m (33 * (k + 1)) s Q) : ∀ f p, p ≤ s.no → s.no - p < f → E8_fits_68 f (nI k) v2 v3 v4 (nI (zcode Q.bk p)) (nI p) m ∧ (L8_fits_68 f (nI k) v2 v3 v4 (nI (zcode Q.bk p)) (nI p) m).1 = nI (zcode Q.bk s.no) := by
  have n6 := hs.no6
  intro f
  induction f with
  | zero => intro p _ h; omega
  | succ f ih =>
    intro p hp hf
    unfold E8_fits_68 L8_fits_68
    rw [hE.no]
    by_cases e : p = s.no
    · rw [if_pos (z_let (by omega) (by omega)), e]
      exact ⟨fun x => absurd (z_let (by omega) (by omega)) x, rfl⟩
    · have hlt : ¬ nI s.no ≤ nI p := z_lef (by omega) (by omega)
      have eix : ((33 * (nI k + 1)) + (4 * nI p)) + 2 = nI (33 * (k + 1) + (4 * p + 2)) := by
        rw [nI_1 k, z_lit 33, pk_mul, z_lit 4, pk_mul, nI_add, z_lit 2, nI_add, Nat.add_assoc]
      have hb := hQ.2.2.2.2.2.1 p (by omega)
      rw [if_neg hlt, eix, z_ncl (by omega), hb, z_cor (by omega) (fun k hk => hQv.bk4 hs (by omega)) (hQv.bk4 hs (by omega)), nI_1 p]
      obtain ⟨i1, i2⟩ := ih (p + 1) (by omega) (by omega)
      exact ⟨fun _ => ⟨z_vp (by omega) (by omega), i1⟩, i2⟩
theorem zfs_r {t : Nat} : zfs s P g t c (zvs s P) = zfs s P g t c (List.range (100 * s.ng)) := by
  unfold zvs
  exact zfs_f (fun v hv => by
    unfold znx zfo
    rw [if_neg (fun x => by rw [hv] at x; cases x.1)]) _
theorem z8_f169 (hs : zW s) (hE : zE m s) (hA : z8A m s P) {t u : Nat} {v1 v2 v3 v4 v6 v8 v9 : Int32} (ht : t ≤ 3) (h9 : v9 = nI (4096 * t)) (hR : z8R m s P g t) (hc : c < 2 ^ (2 * s.no)) : ∀ f v, v ≤ 100 * s.ng → 100 * s.ng - v < f → zfs s P g t c ((List.range (100 * s.ng)).drop v) = some u → E8_fits_169 f v1 v2 v3 v4 (nI c) v6 (nI v) v8 v9 m ∧ L8_fits_169 f v1 v2 v3 v4 (nI c) v6 (nI v) v8 v9 m = nI u := by
  have g4 := hs.ng4
  have h46 := z_no4 hs
  intro f
  induction f with
  | zero => intro v _ h; omega
  | succ f ih =>
    intro v hv hf hz
    have hvN : v < 100 * s.ng := by
      apply Classical.byContradiction
      intro w
      rw [List.drop_of_length_le (by rw [List.length_range]; omega)] at hz
      cases hz
    obtain ⟨o1, o2⟩ := z8_follows hs hE hA (show c < 4096 by omega) (show v < 400 by omega)
    unfold E8_fits_169 L8_fits_169
    rw [o2, h9, nI_1 v]
    rw [zdropr hvN] at hz
    have ez : zfs s P g t c (v :: (List.range (100 * s.ng)).drop (v + 1)) = if znx (zfo s P) (znr s P g t) c v = 0 then zfs s P g t c ((List.range (100 * s.ng)).drop (v + 1)) else some v := rfl
    rw [ez] at hz
    rw [← h9]
    have next : znx (zfo s P) (znr s P g t) c v = 0 → E8_fits_169 f v1 v2 v3 v4 (nI c) v6 (nI (v + 1)) v8 v9 m ∧ L8_fits_169 f v1 v2 v3 v4 (nI c) v6 (nI (v + 1)) v8 v9 m = nI u := fun w => by
      rw [if_pos w] at hz
      exact ih (v + 1) (by omega) (by omega) hz
    cases ef : zfo s P c v with
    | none =>
      have hn : znx (zfo s P) (znr s P g t) c v = 0 := by unfold znx; rw [ef]
      obtain ⟨i1, i2⟩ := next hn
      rw [if_pos (show zen none = -4 from rfl)]
      exact ⟨⟨o1, fun _ => i1, fun x => absurd rfl x⟩, i2⟩
    | some c' =>
      have hc' := zfo_lt hs hc ef
      have hne : ¬ zen (some c') = -4 := fun x => by cases (zen_n4 (fun y hy => by injection hy with hy; omega)).mp x
      have hnx : znx (zfo s P) (znr s P g t) c v = znr s P g t c' := by unfold znx; rw [ef]
      have hb := znr_4 (P := P) (g := g) (t := t) (c := c') hs (by omega)
      have eix : v9 + zen (some c') = nI (4096 * t + c') := by
        rw [h9]; show nI (4096 * t) + nI c' = _
        rw [nI_add]
      rw [if_neg hne, eix, z_ncl (by omega), hR c' hc']
      have c0 : (nI (znr s P g t c') = 0) ↔ znr s P g t c' = 0 := z_neq (b := 0) hb (by omega)
      simp only [c0]
      by_cases w : znr s P g t c' = 0
      · obtain ⟨i1, i2⟩ := next (by rw [hnx]; exact w)
        rw [if_pos w]
        exact ⟨⟨o1, fun x => absurd x hne, fun _ => ⟨o1, z_vp (by omega) (by omega), fun _ => i1⟩⟩, i2⟩
      · rw [hnx, if_neg w] at hz
        cases hz
        rw [if_neg w]
        exact ⟨⟨o1, fun x => absurd x hne, fun _ => ⟨o1, z_vp (by omega) (by omega), fun x => absurd x w⟩⟩, rfl⟩
theorem zfs_e {t : Nat} (h : znr s P g (t + 1) c ≠ 0) : ∃ v, zfs s P g t c (zvs s P) = some v := by
  cases e : zfs s P g t c (zvs s P) with
  | some v => exact ⟨v, rfl⟩
  | none =>
    have h1 := zfs_n _ e
    have : zls (znx (zfo s P) (znr s P g t) c) (zvs s P) = 0 := by
      have h2 : ∀ l : List Nat, (∀ v, v ∈ l → znx (zfo s P) (znr s P g t) c v = 0) → zls (znx (zfo s P) (znr s P g t) c) l = 0 := by
        intro l
        induction l with
        | nil => intro _; rfl
        | cons a l ih =>
          intro hl
          show _ + zls _ l = 0
          rw [hl a List.mem_cons_self, ih (fun v hv => hl v (List.mem_cons_of_mem _ hv))]
      exact h2 _ h1
    exact absurd this h
theorem ztr_e : ∀ t c k, k < t → znr s P g t c ≠ 0 → ∃ u, ztr s P g t c k = some u
  | 0, _, _, h, _ => by omega
  | t + 1, c, k, hk, h => by
    obtain ⟨v, hv⟩ := zfs_e h
    unfold ztr
    rw [hv]
    dsimp only
    by_cases w : k = 0
    · rw [if_pos w]; exact ⟨v, rfl⟩
    · rw [if_neg w]
      obtain ⟨c', z1, z2⟩ := znx_s (zfs_t _ hv).2
      rw [z1]
      exact ztr_e t c' (k - 1) (by omega) z2
theorem ztr_0 {t c k : Nat} (h : znr s P g t c = 0) : ztr s P g t c k = none := by
  cases t with
  | zero => rfl
  | succ t =>
    unfold ztr
    cases e : zfs s P g t c (zvs s P) with
    | none => rfl
    | some v =>
      obtain ⟨h1, h2⟩ := zfs_t _ e
      exact absurd (zls_0 _ h v h1) h2
theorem z8_f140 (hs : zW s) (hE : zE m s) (hA : z8A m s P) {n r M u : Nat} {v1 v3 v4 : Int32} (hn : n ≤ 4) (hr : r < n) (h3 : v3 - 10 = nI r) (hM : 0 < M) (hM2 : M < 2147483648) (hR : ∀ t, t ≤ n → z8R m s P g t) : ∀ f i c v7, i ≤ r + 1 → r + 1 - i < f → (i ≤ r → c < 2 ^ (2 * s.no) ∧ znr s P g (n - i) c ≠ 0 ∧ ztr s P g (n - i) c (r - i) = some u) → (i = r + 1 → v7 = nI u) → E8_fits_140 f v1 (nI n) v3 v4 (nI c) (nI M) v7 (nI i) m ∧ (L8_fits_140 f v1 (nI n) v3 v4 (nI c) (nI M) v7 (nI i) m).2.1 = nI u := by
  have g4 := hs.ng4
  have h46 := z_no4 hs
  intro f
  induction f with
  | zero => intro i c v7 _ h; omega
  | succ f ih =>
    intro i c v7 hi hf hc hv7
    unfold E8_fits_140 L8_fits_140
    rw [h3]
    have ci : (nI r < nI i) ↔ r < i := z_nlt (by omega) (by omega)
    by_cases w : r < i
    · rw [if_pos (ci.mpr w)]
      exact ⟨fun x => absurd (ci.mpr w) x, hv7 (by omega)⟩
    · have hcn : ¬ nI r < nI i := fun x => w (ci.mp x)
      have hM0 : ¬ nI M ≤ 0 := nI_nle hM (by omega)
      obtain ⟨c1, c2, c3⟩ := hc (by omega)
      obtain ⟨t, ht⟩ : ∃ t, n - i = t + 1 := ⟨n - i - 1, by omega⟩
      rw [ht] at c2 c3
      obtain ⟨v, hv⟩ := zfs_e c2
      have e9 : 4096 * ((nI n - nI i) - 1) = nI (4096 * t) := by
        rw [pk_sub (by omega), ht, nI_pred, z_lit 4096, pk_mul]
      have hvr := hv
      rw [zfs_r] at hvr
      obtain ⟨x1, x2⟩ := z8_f169 (v1 := v1) (v2 := nI n) (v3 := v3) (v4 := v4) (v6 := nI M) (v8 := nI i) (v9 := 4096 * ((nI n - nI i) - 1)) (u := v) hs hE hA (show t ≤ 3 by omega) e9 (hR t (by omega)) c1 420 0 (by omega) (by omega) hvr
      rw [show nI 0 = (0 : Int32) from rfl] at x1 x2
      have hvN : v < 100 * s.ng := List.mem_range.mp (zfs_t _ hvr).1
      obtain ⟨o1, o2⟩ := z8_follows hs hE hA (show c < 4096 by omega) (show v < 400 by omega)
      obtain ⟨c', z1, z2⟩ := znx_s (zfs_t _ hv).2
      rw [if_neg hcn, if_neg hM0, x2, o2, z1, nI_1 i, show zen (some c') = nI c' from rfl]
      unfold ztr at c3
      rw [hv] at c3
      dsimp only at c3
      obtain ⟨i1, i2⟩ := ih (i + 1) c' (nI v) (by omega) (by omega) (fun h => by
        rw [if_neg (by omega), z1] at c3
        dsimp only at c3
        rw [show n - (i + 1) = t by omega, show r - (i + 1) = r - i - 1 by omega]
        exact ⟨zfo_lt hs c1 z1, z2, c3⟩) (fun h => by
        rw [if_pos (by omega)] at c3
        cases c3; rfl)
      exact ⟨fun _ _ => ⟨x1, o1, i1⟩, i2⟩
end ZG2
