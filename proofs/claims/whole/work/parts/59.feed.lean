/-! PURE: bytes come on the tape -/
theorem z_bvs (x : BitVec 64) (sh : Nat) (h : sh ≤ 56) : ((x >>> sh).signExtend 32) &&& 255#32 = ((x.sshiftRight sh).signExtend 32) &&& 255#32 := by
  apply BitVec.eq_of_getLsbD_eq
  intro i hi
  rw [BitVec.getLsbD_and, BitVec.getLsbD_and, BitVec.getLsbD_signExtend, BitVec.getLsbD_signExtend]
  by_cases q : i < 8
  · have a1 : i < 64 := by omega
    have a2 : ¬ 64 ≤ i := by omega
    have a3 : sh + i < 64 := by omega
    rw [if_pos a1, if_pos a1, BitVec.getLsbD_ushiftRight, BitVec.getLsbD_sshiftRight, if_pos a3]
    have a4 : decide (64 ≤ i) = false := decide_eq_false a2
    rw [a4]; rfl
  · have : (255#32).getLsbD i = false := by
      have h2 : ∀ i, i < 32 → ¬ i < 8 → (255#32).getLsbD i = false := by decide
      exact h2 i hi q
    rw [this, Bool.and_false, Bool.and_false]
def zsv (t : Nat) : Int32 := 56 - 8 * nI t
theorem zsv_n : ∀ t, t < 8 → zsv t + (-8) = zsv (t + 1) := by decide
theorem zsv_p : ∀ t, t < 8 → ¬ zsv t < 0 := by decide
theorem zsv_8 : zsv 8 < 0 := by decide
def zbt (a : Int64) (t : Nat) : Nat := (Int64.toInt32 (a >>> (Int32.toInt64 (zsv t) &&& (63 : Int64)))).toBitVec.toNat % 256
theorem zbt_8 (a : Int64) (t : Nat) : (Int64.toInt32 (a >>> (Int32.toInt64 (zsv t) &&& (63 : Int64)))) &&& 255 = nI (zbt a t) := pk_and _ 8 rfl
theorem zbt_7 (a : Int64) (t : Nat) (ht : t < 8) : (Int64.toInt32 ((Int64.toUInt64 a >>> ((Int32.toInt64 (zsv t)).toUInt64 &&& Int64.toUInt64 63)).toInt64)) &&& 255 = nI (zbt a t) := by
  rw [← zbt_8]
  have : t = 0 ∨ t = 1 ∨ t = 2 ∨ t = 3 ∨ t = 4 ∨ t = 5 ∨ t = 6 ∨ t = 7 := by omega
  rcases this with rfl | rfl | rfl | rfl | rfl | rfl | rfl | rfl
  · exact Int32.toBitVec_inj.1 (z_bvs a.toBitVec 56 (by omega))
  · exact Int32.toBitVec_inj.1 (z_bvs a.toBitVec 48 (by omega))
  · exact Int32.toBitVec_inj.1 (z_bvs a.toBitVec 40 (by omega))
  · exact Int32.toBitVec_inj.1 (z_bvs a.toBitVec 32 (by omega))
  · exact Int32.toBitVec_inj.1 (z_bvs a.toBitVec 24 (by omega))
  · exact Int32.toBitVec_inj.1 (z_bvs a.toBitVec 16 (by omega))
  · exact Int32.toBitVec_inj.1 (z_bvs a.toBitVec 8 (by omega))
  · exact Int32.toBitVec_inj.1 (z_bvs a.toBitVec 0 (by omega))
def ztd (d : Nat → Nat) (n : Nat) (a : Int64) : Nat → Nat := fun i => if i < n then d i else zbt a (i - n)
section ZP
variable {m : ax_M} {d : Nat → Nat} {n0 : Nat} {a : Int64}
theorem z7_feed (h0 : n0 ≤ 312) : ∀ (k t : Nat) (m : ax_M), t ≤ 8 → 8 - t < k → m 42 1 = nI (n0 + t) → (∀ i, i < n0 + t → m 43 i = nI (ztd d n0 a i)) → E7_feed_25 a k (zsv t) m ∧ (L7_feed_25 a k (zsv t) m).2 42 1 = nI (n0 + 8) ∧ (∀ i, i < n0 + 8 → (L7_feed_25 a k (zsv t) m).2 43 i = nI (ztd d n0 a i)) ∧ (∀ c, c ≠ 42 → c ≠ 43 → (L7_feed_25 a k (zsv t) m).2 c = m c) := by
  intro k
  induction k with
  | zero => intro t m _ h; omega
  | succ k ih =>
    intro t m ht hk hn hd
    unfold L7_feed_25 E7_feed_25
    by_cases e : t = 8
    · subst e
      rw [if_pos zsv_8]
      exact ⟨fun q => absurd zsv_8 q, hn, hd, fun _ _ _ => rfl⟩
    · have hp := zsv_p t (by omega)
      have ea : F6_append (nI (zbt a t)) m = ax_up (ax_up m 43 (n0 + t) (nI (zbt a t))) 42 1 (nI (n0 + (t + 1))) := by
        unfold F6_append
        rw [hn, if_pos (show nI (n0 + t) < 320 from (z_nlt (b := 320) (by omega) (by omega)).mpr (by omega)), z_put (by omega) (by omega), z_upr (by omega), hn, z_lit 1, nI_add]; rfl
      rw [if_neg hp, zsv_n t (by omega), zbt_7 a t (by omega), ea]
      obtain ⟨i1, i2, i3, i4⟩ := ih (t + 1) (ax_up (ax_up m 43 (n0 + t) (nI (zbt a t))) 42 1 (nI (n0 + (t + 1)))) (by omega) (by omega) (by rw [z_up, if_pos ⟨rfl, rfl⟩]) (fun i hi => by
        rw [z_upr (by omega), z_up]
        by_cases q : i = n0 + t
        · subst q
          rw [if_pos ⟨rfl, rfl⟩]
          unfold ztd
          rw [if_neg (by omega), show n0 + t - n0 = t by omega]
        · rw [if_neg (fun w => q w.2)]; exact hd i (by omega))
      exact ⟨fun _ => i1, i2, i3, fun c h1 h2 => by rw [i4 c h1 h2, z_upr h1, z_upr h2]⟩
theorem z8_feed (h0 : n0 ≤ 312) : ∀ (k t : Nat) (m : ax_M), t ≤ 8 → 8 - t < k → m 74 22 = nI (n0 + t) → (∀ i, i < n0 + t → m 81 i = nI (ztd d n0 a i)) → E8_feed_19 a k (zsv t) m ∧ (L8_feed_19 a k (zsv t) m).2 74 22 = nI (n0 + 8) ∧ (∀ i, i < n0 + 8 → (L8_feed_19 a k (zsv t) m).2 81 i = nI (ztd d n0 a i)) ∧ (∀ c, c ≠ 74 → c ≠ 81 → (L8_feed_19 a k (zsv t) m).2 c = m c) ∧ (∀ j, j ≠ 22 → (L8_feed_19 a k (zsv t) m).2 74 j = m 74 j) := by
  intro k
  induction k with
  | zero => intro t m _ h; omega
  | succ k ih =>
    intro t m ht hk hn hd
    unfold L8_feed_19 E8_feed_19
    by_cases e : t = 8
    · subst e
      rw [if_pos zsv_8]
      exact ⟨fun q => absurd zsv_8 q, hn, hd, fun _ _ _ => rfl, fun _ _ => rfl⟩
    · have hp := zsv_p t (by omega)
      rw [if_neg hp, zsv_n t (by omega), zbt_8 a t, hn, z_ncl (by omega), z_upr (show (74 : Nat) ≠ 81 by omega), hn, z_lit 1, nI_add]
      obtain ⟨i1, i2, i3, i4, i5⟩ := ih (t + 1) (ax_up (ax_up m 81 (n0 + t) (nI (zbt a t))) 74 22 (nI (n0 + t + 1))) (by omega) (by omega) (by rw [z_up, if_pos ⟨rfl, rfl⟩]; rfl) (fun i hi => by
        rw [z_upr (by omega), z_up]
        by_cases q : i = n0 + t
        · subst q
          rw [if_pos ⟨rfl, rfl⟩]
          unfold ztd
          rw [if_neg (by omega), show n0 + t - n0 = t by omega]
        · rw [if_neg (fun w => q w.2)]; exact hd i (by omega))
      exact ⟨fun _ => ⟨z_vp (by omega) (by omega), i1⟩, i2, i3, fun c h1 h2 => by rw [i4 c h1 h2, z_upr h1, z_upr h2], fun j hj => by rw [i5 j hj, z_up, if_neg (by omega), z_upr (by omega)]⟩
theorem zok0 (h : zI m) : OK0 zI m := by
  obtain ⟨T, hT, h7, h8⟩ := id h
  intro a1 a2
  generalize (Int32.toInt64 a1 <<< (Int32.toInt64 32 &&& 63) ||| Int32.toInt64 a2 &&& 4294967295) = a
  have hb := hT.tape.1
  by_cases e : T.tn ≤ 312
  · have c7 : nI T.tn ≤ 312 := (z_nle (b := 312) (by omega) (by omega)).mpr e
    have c8 : nI T.tn + 8 ≤ 320 := by rw [z_lit 8, nI_add]; exact (z_nle (b := 320) (by omega) (by omega)).mpr (by omega)
    obtain ⟨f1, f2, f3, f4⟩ := z7_feed (a := a) (d := T.tp) e 64 0 m (by omega) (by omega) h7.tn (fun i hi => by unfold ztd; rw [if_pos (by omega)]; exact h7.tp (by omega))
    have e7 : F7_feed a m = ((L7_feed_25 a 64 (zsv 0) m).2 42 1, (L7_feed_25 a 64 (zsv 0) m).2) := by
      unfold F7_feed; rw [h7.tn, if_pos c7]; rfl
    have d7 : D7_feed a m := fun _ => f1
    refine ⟨d7, ?_⟩
    rw [e7]
    dsimp only
    generalize (L7_feed_25 a 64 (zsv 0) m).2 = m1 at f2 f3 f4
    have h8' : z8 m1 T := h8.keep (fun c hc => f4 c (by omega) (by omega))
    have h7' : z7 m1 (T.setTape (T.tn + 8) (ztd T.tp T.tn a)) := h7.tape (fun c _ _ hc => f4 c hc.1 hc.2) ⟨f2, f3⟩
    obtain ⟨g1, g2, g3, g4, g5⟩ := z8_feed (a := a) (d := T.tp) e 64 0 m1 (by omega) (by omega) h8'.tn (fun i hi => by unfold ztd; rw [if_pos (by omega)]; exact h8'.tp (by omega))
    have e8 : F8_feed a m1 = ((L8_feed_19 a 64 (zsv 0) m1).2 74 22, (L8_feed_19 a 64 (zsv 0) m1).2) := by
      unfold F8_feed; rw [h8'.tn, if_pos c8]; rfl
    refine ⟨fun _ => g1, ?_⟩
    rw [e8]
    dsimp only
    generalize (L8_feed_19 a 64 (zsv 0) m1).2 = m2 at g2 g3 g4 g5
    refine ⟨by rw [f2, g2], ?_⟩
    refine zI.step (hT.setTape ⟨by omega, fun i hi => ?_⟩) h7' (fun c hc => g4 c (by omega) (by omega)) ?_
    · unfold ztd
      by_cases q : i < T.tn
      · rw [if_pos q]; exact hT.tape.2 i q
      · rw [if_neg q]; exact Nat.mod_lt _ (by decide)
    · exact h8'.tape (fun k _ hk => g5 k hk) (fun c h1 _ _ h2 => g4 c (by omega) h2) ⟨g2, g3⟩
  · have c7 : ¬ nI T.tn ≤ 312 := fun q => e ((z_nle (b := 312) (by omega) (by omega)).mp q)
    have c8 : ¬ nI T.tn + 8 ≤ 320 := by rw [z_lit 8, nI_add]; exact fun q => e (by have := (z_nle (b := 320) (by omega) (by omega)).mp q; omega)
    have e7 : F7_feed a m = (-3, m) := by unfold F7_feed; rw [h7.tn, if_neg c7]
    have e8 : F8_feed a m = (-3, m) := by unfold F8_feed; rw [h8.tn, if_neg c8]
    rw [e7, e8]
    refine ⟨fun q => absurd (by rw [← h7.tn]; exact q) c7, fun q => absurd (by rw [← h8.tn]; exact q) c8, rfl, h⟩
end ZP
