/-! PURE: a text, by the reference: what it leaves; a text, by both -/
section ZR6
variable {m m0 : ax_M} {d : Nat → Nat} {n i : Nat} {D : zD} {T : zT}
theorem z8_110 {v : Int32} : ∀ k x m, x ≤ 33 → 33 - x < k → E8_text_110 k v (nI x) m ∧ (∀ c, c ≠ 75 → (L8_text_110 k v (nI x) m).2 c = m c) ∧ (∀ j, j < x → (L8_text_110 k v (nI x) m).2 75 j = m 75 j) ∧ (∀ j, x ≤ j → j < 33 → (L8_text_110 k v (nI x) m).2 75 j = m 78 j)
  | 0, _, _, _, h => absurd h (by omega)
  | k + 1, x, m, hx, hk => by
    unfold E8_text_110 L8_text_110
    by_cases w : x = 33
    · have c : (33 : Int32) ≤ nI x := (z_nle (a := 33) (by omega) (by omega)).mpr (by omega)
      rw [if_pos c]
      exact ⟨fun z => absurd c z, fun _ _ => rfl, fun _ _ => rfl, fun j h1 h2 => by omega⟩
    · have c : ¬ (33 : Int32) ≤ nI x := fun z => absurd ((z_nle (a := 33) (by omega) (by omega)).mp z) (by omega)
      rw [if_neg c, z_ncl (by omega), nI_1]
      obtain ⟨r1, r2, r3, r4⟩ := z8_110 (v := v) k (x + 1) (ax_up m 75 x (m 78 x)) (by omega) (by omega)
      refine ⟨fun _ => ⟨z_vp (by omega) (by omega), z_vp (by omega) (by omega), r1⟩, fun c hc => by rw [r2 c hc, z_upr hc], fun j hj => by rw [r3 j (by omega), z_up, if_neg (by omega)], fun j h1 h2 => ?_⟩
      by_cases y : j = x
      · rw [r3 j (by omega), z_up, if_pos ⟨rfl, y⟩, y]
      · rw [r4 j (by omega) h2, z_upr (by omega)]
theorem z_m8 : ∀ x, x < 24 → nI x - nI x / 8 * 8 = nI (x % 8) := by decide
theorem z8_136 {v : Int32} : ∀ k x m, x ≤ 24 → 24 - x < k → (∀ j, j < 8 → j < x → m 76 j = m 79 j) → E8_text_136 k v (nI x) m ∧ (∀ c, c ≠ 76 → c ≠ 77 → (L8_text_136 k v (nI x) m).2 c = m c) ∧ (∀ j, j < x → (L8_text_136 k v (nI x) m).2 77 j = m 77 j) ∧ (∀ j, x ≤ j → j < 24 → (L8_text_136 k v (nI x) m).2 77 j = m 80 j) ∧ (∀ j, j < 8 → (L8_text_136 k v (nI x) m).2 76 j = m 79 j)
  | 0, _, _, _, h, _ => absurd h (by omega)
  | k + 1, x, m, hx, hk, h0 => by
    unfold E8_text_136 L8_text_136
    by_cases w : x = 24
    · have c : (24 : Int32) ≤ nI x := (z_nle (a := 24) (by omega) (by omega)).mpr (by omega)
      rw [if_pos c]
      exact ⟨fun z => absurd c z, fun _ _ _ => rfl, fun _ _ => rfl, fun j h1 h2 => by omega, fun j hj => h0 j hj (by omega)⟩
    · have c : ¬ (24 : Int32) ≤ nI x := fun z => absurd ((z_nle (a := 24) (by omega) (by omega)).mp z) (by omega)
      have m8 : x % 8 < 8 := Nat.mod_lt _ (by omega)
      rw [if_neg c, z_m8 x (by omega), z_ncl (show x < 2147483648 by omega), z_ncl (show x % 8 < 2147483648 by omega), nI_1, z_upr (show 79 ≠ 77 by omega)]
      obtain ⟨r1, r2, r3, r4, r5⟩ := z8_136 (v := v) k (x + 1) (ax_up (ax_up m 77 x (m 80 x)) 76 (x % 8) (m 79 (x % 8))) (by omega) (by omega) (fun j h1 h2 => by
        rw [z_upr (show 79 ≠ 76 by omega), z_upr (show 79 ≠ 77 by omega), z_up]
        by_cases y : j = x % 8
        · rw [if_pos ⟨rfl, y⟩, y]
        · rw [if_neg (fun z => y z.2), z_upr (by omega)]
          exact h0 j h1 (by
            by_cases yx : j = x
            · exact absurd (by rw [← yx, Nat.mod_eq_of_lt h1]) y
            · omega))
      refine ⟨fun _ => ⟨z_vp (by omega) (by omega), z_vp (by omega) (by omega), z_vp (by omega) (by omega), z_vp (by omega) (by omega), r1⟩, fun c c1 c2 => by rw [r2 c c1 c2, z_upr c1, z_upr c2], fun j hj => by rw [r3 j (by omega), z_upr (by omega), z_up, if_neg (by omega)], fun j h1 h2 => ?_, fun j hj => by rw [r5 j hj, z_upr (by omega), z_upr (by omega)]⟩
      by_cases y : j = x
      · rw [r3 j (by omega), z_upr (by omega), z_up, if_pos ⟨rfl, y⟩, y]
      · rw [r4 j (by omega) h2, z_upr (by omega), z_upr (by omega)]
theorem z8_left (h8 : z8 m T) (hn : T.tn ≤ 320) (hd : ∀ i, i < T.tn → T.tp i < 256) : D8_text m ∧ (∀ c, c < 74 → (F8_text m).2 c = m c) ∧ (∀ f a, zBad T.tp T.tn f a → (F8_text m).1 = -10 - nI a ∧ z8 (F8_text m).2 ((T.setTape 0 T.tp).setF f T.rf)) ∧ (∀ y, zFine T.tp T.tn y → (F8_text m).1 = nI y.2 ∧ z8 (F8_text m).2 (zTn T y.1)) := by
  obtain ⟨a1, a2, a3, a4⟩ := z8_whole (m := m) (d := T.tp) (n := T.tn) hn hd ⟨h8.tn, fun i hi => h8.tp hi⟩ h8.2.2.2.2.2.2.2.2
  have eF : F8_text m = K8_text_80 (L8_text_10 330 0 (F8_step (F8_beginsText m))).1 (z8fin (L8_text_10 330 0 (F8_step (F8_beginsText m))).2) := by unfold F8_text z8fin; rfl
  have eD : D8_text m = (D8_beginsText m ∧ D8_step (F8_beginsText m) ∧ E8_text_10 330 0 (F8_step (F8_beginsText m)) ∧ HK8_text_80 (L8_text_10 330 0 (F8_step (F8_beginsText m))).1 (z8fin (L8_text_10 330 0 (F8_step (F8_beginsText m))).2)) := by unfold D8_text z8fin; rfl
  have h110 : ∀ v M, E8_text_110 330 v 0 M := fun v M => (z8_110 (v := v) 330 0 M (by omega) (by omega)).1
  have h136 : ∀ v M, E8_text_136 330 v 0 M := fun v M => (z8_136 (v := v) 330 0 M (by omega) (by omega) (fun j _ h => absurd h (by omega))).1
  rw [eF, eD]
  refine ⟨⟨a1.1, a1.2.1, a1.2.2, fun _ => ⟨h110 _ _, h136 _ _⟩⟩, ?_⟩
  generalize L8_text_10 330 0 (F8_step (F8_beginsText m)) = L at a2 a3 a4
  generalize z8fin L.2 = N at a2 a3 a4
  unfold K8_text_80
  have e24 : (ax_up N 74 22 0) 74 24 = N 74 24 := by rw [z_up, if_neg (by omega)]
  rw [e24]
  have e24' : (ax_up (ax_up N 74 22 0) 74 23 (N 74 24)) 74 24 = N 74 24 := by rw [z_up, if_neg (by omega), e24]
  have e25' : (ax_up (ax_up N 74 22 0) 74 23 (N 74 24)) 74 25 = N 74 25 := by rw [z_up, if_neg (by omega), z_up, if_neg (by omega)]
  have e51' : (ax_up (ax_up N 74 22 0) 74 23 (N 74 24)) 74 51 = nI T.rf := by rw [z_up, if_neg (by omega), z_up, if_neg (by omega), a2.2 51 (by omega) (by omega)]; exact h8.rf
  rw [e24', e25']
  rcases zBF (d := T.tp) (n := T.tn) with ⟨f, a, hb, h6⟩ | ⟨y, hy⟩
  · obtain ⟨b1, b2, b3, b4⟩ := a3 f a hb
    have n0 : ¬ N 74 24 ≤ 0 := by rw [b1]; exact fun z => absurd ((z_nle (b := 0) (by omega) (by omega)).mp z) (by omega)
    rw [if_neg n0]
    refine ⟨fun c hc => by dsimp only; rw [z_upr (by omega), z_upr (by omega)]; exact a2.1 c (by omega) (by omega) (by omega) (by omega), ?_, ?_⟩
    · intro f' a' hb'
      obtain ⟨c1, c2, c3, c4⟩ := a3 f' a' hb'
      refine ⟨by rw [c2], ?_⟩
      have h1 : z8 N T := h8.of (fun k hk => a2.2 k (fun z => by unfold zsl at hk; omega) (fun z => by unfold zsl at hk; omega)) (fun c _ _ hs => a2.1 c (by omega) (fun z => hs (by unfold zsr; omega)) (fun z => hs (by unfold zsr; omega)) (fun z => hs (by unfold zsr; omega)))
      have h2 : z8 (ax_up N 74 22 0) (T.setTape 0 T.tp) := h1.tape (fun k _ hk => by rw [z_up, if_neg (fun z => hk z.2)]) (fun c _ _ _ _ => z_upr (by omega)) ⟨by rw [z_up, if_pos ⟨rfl, rfl⟩]; rfl, fun i hi => absurd hi (Nat.not_lt_zero i)⟩
      refine h2.fl (fun k _ hk => ?_) (fun c _ _ _ hc => z_upr hc) ⟨?_, e51'⟩
      · show (ax_up (ax_up N 74 22 0) 74 23 (N 74 24)) 74 k = _
        rw [z_up, if_neg (fun z => hk.1 z.2)]
      · show (ax_up (ax_up N 74 22 0) 74 23 (N 74 24)) 74 23 = _
        rw [z_up, if_pos ⟨rfl, rfl⟩]; exact c1
    · intro y hy
      obtain ⟨c1, _⟩ := a4 y hy
      exact absurd (by rw [c1]; decide) n0
  · obtain ⟨b1, b2, b3⟩ := a4 y hy
    have y0 : N 74 24 ≤ 0 := by rw [b1]; decide
    rw [if_pos y0]
    unfold K8_text_134 K8_text_186 K8_text_202 K8_text_218 K8_text_232
    have nb : ∀ f a, ¬ zBad T.tp T.tn f a := fun f a hb => by
      obtain ⟨c1, c2, c3, c4⟩ := a3 f a hb
      rw [b1] at c1
      exact absurd c1.symm (nI_ne0 c3 (by omega))
    have fN : ∀ c, c ≠ 74 → (ax_up (ax_up N 74 22 0) 74 23 (N 74 24)) c = N c := fun c hc => by rw [z_upr hc, z_upr hc]
    have fj : ∀ j, j ≠ 22 → j ≠ 23 → (ax_up (ax_up N 74 22 0) 74 23 (N 74 24)) 74 j = N 74 j := fun j j1 j2 => by rw [z_up, if_neg (by omega), z_up, if_neg (by omega)]
    have f22 : (ax_up (ax_up N 74 22 0) 74 23 (N 74 24)) 74 22 = 0 := by rw [z_up, if_neg (by omega), z_up, if_pos ⟨rfl, rfl⟩]
    have f23 : (ax_up (ax_up N 74 22 0) 74 23 (N 74 24)) 74 23 = 0 := by rw [z_up, if_pos ⟨rfl, rfl⟩]; exact b1
    generalize ax_up (ax_up N 74 22 0) 74 23 (N 74 24) = N1 at fN fj f22 f23 e51'
    obtain ⟨_, r2, r3, r4⟩ := z8_110 (v := L.1) 330 0 N1 (by omega) (by omega)
    rw [show nI 0 = (0 : Int32) from rfl] at r2 r3 r4
    generalize (L8_text_110 330 L.1 0 N1).2 = A at r2 r3 r4
    obtain ⟨_, s2, s3, s4, s5⟩ := z8_136 (v := L.1) 330 0 A (by omega) (by omega) (fun j _ h => absurd h (by omega))
    rw [show nI 0 = (0 : Int32) from rfl] at s2 s3 s4 s5
    generalize (L8_text_136 330 L.1 0 A).2 = B at s2 s3 s4 s5
    dsimp only
    have B74 : B 74 = N1 74 := by rw [s2 74 (by omega) (by omega), r2 74 (by omega)]
    have u12 : (ax_up B 74 2 (B 74 11)) 74 12 = B 74 12 := by rw [z_up, if_neg (by omega)]
    rw [u12]
    have u13 : (ax_up (ax_up B 74 2 (B 74 11)) 74 3 (B 74 12)) 74 13 = B 74 13 := by rw [z_up, if_neg (by omega), z_up, if_neg (by omega)]
    rw [u13]
    have u14 : (ax_up (ax_up (ax_up B 74 2 (B 74 11)) 74 3 (B 74 12)) 74 7 (B 74 13)) 74 14 = B 74 14 := by rw [z_up, if_neg (by omega), z_up, if_neg (by omega), z_up, if_neg (by omega)]
    rw [u14]
    have u15 : (ax_up (ax_up (ax_up (ax_up B 74 2 (B 74 11)) 74 3 (B 74 12)) 74 7 (B 74 13)) 74 4 (B 74 14)) 74 15 = B 74 15 := by rw [z_up, if_neg (by omega), z_up, if_neg (by omega), z_up, if_neg (by omega), z_up, if_neg (by omega)]
    rw [u15, show Int32.toNatClampNeg 0 = 0 from rfl, show Int32.toNatClampNeg 1 = 1 from rfl]
    obtain ⟨⟨d11, d12, d13, d14, d15, _⟩, _, dQ, dE, dY⟩ := b3
    have x74 : ∀ j, (ax_up (ax_up (ax_up (ax_up (ax_up (ax_up (ax_up B 74 2 (B 74 11)) 74 3 (B 74 12)) 74 7 (B 74 13)) 74 4 (B 74 14)) 74 5 (B 74 15)) 93 0 0) 93 1 0) 74 j = if j = 5 then B 74 15 else if j = 4 then B 74 14 else if j = 7 then B 74 13 else if j = 3 then B 74 12 else if j = 2 then B 74 11 else B 74 j := fun j => by
      rw [z_upr (by omega), z_upr (by omega), z_up, z_up, z_up, z_up, z_up]
      simp
    have x93 : ∀ j, j < 2 → (ax_up (ax_up (ax_up (ax_up (ax_up (ax_up (ax_up B 74 2 (B 74 11)) 74 3 (B 74 12)) 74 7 (B 74 13)) 74 4 (B 74 14)) 74 5 (B 74 15)) 93 0 0) 93 1 0) 93 j = 0 := fun j hj => by
      rw [z_up]
      by_cases w : j = 1
      · rw [if_pos ⟨rfl, w⟩]
      · rw [if_neg (fun z => w z.2), z_up, if_pos ⟨rfl, by omega⟩]
    have xr : ∀ c, c ≠ 74 → c ≠ 93 → (ax_up (ax_up (ax_up (ax_up (ax_up (ax_up (ax_up B 74 2 (B 74 11)) 74 3 (B 74 12)) 74 7 (B 74 13)) 74 4 (B 74 14)) 74 5 (B 74 15)) 93 0 0) 93 1 0) c = B c := fun c c1 c2 => by
      rw [z_upr c2, z_upr c2, z_upr c1, z_upr c1, z_upr c1, z_upr c1, z_upr c1]
    generalize ax_up (ax_up (ax_up (ax_up (ax_up (ax_up (ax_up B 74 2 (B 74 11)) 74 3 (B 74 12)) 74 7 (B 74 13)) 74 4 (B 74 14)) 74 5 (B 74 15)) 93 0 0) 93 1 0 = X at x74 x93 xr
    rw [B74] at x74
    have xm : ∀ c, c < 74 ∨ 80 < c → c ≠ 93 → X c = m c := fun c c1 c2 => by
      rw [xr c (by omega) c2, s2 c (by omega) (by omega), r2 c (by omega), fN c (by omega)]
      exact a2.1 c (by omega) (by omega) (by omega) (by omega)
    refine ⟨fun c hc => xm c (by omega) (by omega), fun f a hb => absurd hb (nb f a), fun y' hy' => ?_⟩
    have yy : y = y' := Sum.inr.inj (hy.1.symm.trans hy'.1)
    subst yy
    obtain ⟨y1, y2, y3⟩ := hy
    have hw := y3.w y2
    have g4 := hw.ng4
    have o6 := hw.no6
    have n8 := y2.1.2.2.2.2.2.2.1
    refine ⟨b2, ⟨⟨?_, ?_, ?_, ?_, ?_, ?_⟩, ?_⟩, ?_, ?_, ⟨?_, ?_⟩, ⟨?_, ?_⟩, ⟨?_, ?_⟩, ?_, ?_, ⟨?_, ?_⟩⟩
    · rw [x74, if_neg (by omega), if_pos rfl, fj 14 (by omega) (by omega)]; exact d14
    · rw [x74, if_neg (by omega), if_neg (by omega), if_neg (by omega), if_neg (by omega), if_pos rfl, fj 11 (by omega) (by omega)]; exact d11
    · rw [x74, if_neg (by omega), if_neg (by omega), if_neg (by omega), if_pos rfl, fj 12 (by omega) (by omega)]; exact d12
    · rw [x74, if_pos rfl, fj 15 (by omega) (by omega)]; exact d15
    · intro b hb
      have hb' : b < y.1.s.ng := hb
      rw [xr 76 (by omega) (by omega), s5 _ (by omega), r2 79 (by omega), fN 79 (by omega)]; exact (dE b hb).1
    · intro b hb
      have hb' : b < y.1.s.ng := hb
      rw [xr 76 (by omega) (by omega), s5 _ (by omega), r2 79 (by omega), fN 79 (by omega)]; exact (dE b hb).2
    · refine dQ.same hw (fun k hk => ?_)
      show X 75 (0 + k) = N 78 (0 + k)
      rw [xr 75 (by omega) (by omega), s2 75 (by omega) (by omega), r4 (0 + k) (by omega) (by omega), fN 78 (by omega)]
    · intro k hk; rw [x93 k hk]; rfl
    · exact fun k _ h => absurd (show false = true from h) (by decide)
    · rw [x74, if_neg (by omega), if_neg (by omega), if_pos rfl, fj 13 (by omega) (by omega)]; exact d13
    · intro i hi
      have hi' : i < 3 * y.1.dn := hi
      rw [xr 77 (by omega) (by omega), s4 i (by omega) (by omega), r2 80 (by omega), fN 80 (by omega)]; exact dY i hi
    · rw [x74, if_neg (by omega), if_neg (by omega), if_neg (by omega), if_neg (by omega), if_neg (by omega), f22]; rfl
    · exact fun i hi => absurd hi (Nat.not_lt_zero i)
    · rw [x74, if_neg (by omega), if_neg (by omega), if_neg (by omega), if_neg (by omega), if_neg (by omega), f23]; rfl
    · rw [x74, if_neg (by omega), if_neg (by omega), if_neg (by omega), if_neg (by omega), if_neg (by omega)]; exact e51'
    · intro k hk; rw [xm 94 (by omega) (by omega), xm 95 (by omega) (by omega)]; exact ⟨h8.ln hk, h8.sz hk⟩
    · intro i hi; rw [xm 96 (by omega) (by omega)]; exact h8.ce hi
    · rw [xm 82 (by omega) (by omega)]; exact h8.2.2.2.2.2.2.2.2.1
    · rw [xm 83 (by omega) (by omega)]; exact h8.2.2.2.2.2.2.2.2.2
theorem zok2 (h : zI m) : OK2 zI m := by
  obtain ⟨T, hT, h7, h8⟩ := id h
  obtain ⟨a1, a2, a3⟩ := z7_text hT h7
  unfold OK2
  refine ⟨a1, ?_⟩
  generalize F7_text m = R at a2 a3
  have h8' : z8 R.2 T := h8.keep a2
  obtain ⟨b1, b2, b3, b4⟩ := z8_left h8' hT.tape.1 hT.tape.2
  refine ⟨b1, ?_⟩
  rcases a3 with ⟨f, a, c1, c2, c3, c4⟩ | ⟨y, c1, c2, c3⟩
  · obtain ⟨d1, d2⟩ := b3 f a c1
    exact ⟨by rw [c3, d1], zI.step ((hT.setTape ⟨Nat.zero_le _, fun i hi => absurd hi (Nat.not_lt_zero i)⟩).setF ⟨c2, hT.f.2⟩) c4 b2 d2⟩
  · obtain ⟨d1, d2⟩ := b4 y c1
    exact ⟨by rw [c2, d1], zI.step (zTn_w hT c1.2.2 c1.2.1) c3 b2 d2⟩
end ZR6
