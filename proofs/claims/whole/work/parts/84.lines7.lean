/-! PURE: the class's lines -/
section ZM2
variable {m m0 : ax_M} {d : Nat → Nat} {n i p0 : Nat} {D : zD}
/-- behind the semicolon: what the class then does -/
theorem z4_end {D' : zD} {κ : ax_M → ax_M} (hn : n ≤ 320) (hd : ∀ i, i < n → d i < 256) (hi' : i ≤ n) (hQ : z4Q m0 d n D m) (h6 : m 41 6 = 0) (h3 : m 41 3 = nI i) (hk : ∀ M, z4Q m0 d n D M → M 41 6 = 0 → z4D (κ M) D' ∧ (κ M) 41 6 = 0 ∧ (κ M) 41 3 = M 41 3 ∧ z4X M (κ M)) : D4_takeSemicolon m ∧ z4O m0 d n (if (F4_takeSemicolon m) 41 6 = 0 then κ (F4_takeSemicolon m) else F4_takeSemicolon m) (zfin d n D' i) := by
  refine z4_bS (κ := fun M => if M 41 6 = 0 then κ M else M) hn hd hi' hQ h6 h3 (fun M hM => if_neg hM) (fun e M he hQM h6M h3M => ?_)
  obtain ⟨k1, k2, k3, k4⟩ := hk M hQM h6M
  show z4O m0 d n (if M 41 6 = 0 then κ M else M) _
  rw [if_pos h6M]
  refine ⟨⟨k1, ?_, fun c c1 c2 => by rw [k4 c c1 c2]; exact hQM.2.2 c c1 c2⟩, k2, by rw [k3]; exact h3M, he⟩
  have := hQM.2.1
  unfold z4T
  rw [k4 42 (by omega) (by omega), k4 43 (by omega) (by omega)]
  exact this
theorem z4_endN {κ : ax_M → ax_M} (h : m 41 6 ≠ 0) : D4_takeSemicolon m ∧ (if (F4_takeSemicolon m) 41 6 = 0 then κ (F4_takeSemicolon m) else F4_takeSemicolon m) = m := by
  obtain ⟨a1, a2⟩ := z4_semiN h
  rw [a2, if_neg h]
  exact ⟨a1, rfl⟩
theorem z4_banks (hn : n ≤ 320) (hd : ∀ i, i < n → d i < 256) (hi' : i ≤ n) (hQ : z4Q m0 d n D m) (h6 : m 41 6 = 0) (h3 : m 41 3 = nI i) (h5 : m 41 5 = nI p0) : D4_takeBanks m ∧ z4O m0 d n (F4_takeBanks m) (zlB d n D p0 i (zfin d n)) := by
  unfold D4_takeBanks F4_takeBanks HK4_takeBanks_22 zlB
  rw [hQ.1.2.1, h5]
  cases e : D.tb with
  | true =>
    rw [if_neg (show ¬ zb true = 0 by decide), if_pos rfl]
    obtain ⟨f1, f2⟩ := z4_bF (a := p0) hQ h6 (f := 4) (by omega) (by omega)
    rw [show nI 4 = (4 : Int32) from rfl] at f1 f2
    obtain ⟨g1, g2⟩ := z4_numN (lo := 2) (hi := 4) f1
    rw [g2]
    unfold K4_takeBanks_22
    obtain ⟨s1, s2⟩ := z4_endN (κ := fun M => ax_up (ax_up M 44 0 2) 41 8 1) f1
    exact ⟨⟨g1, s1⟩, by rw [show _ = _ from s2]; exact f2⟩
  | false =>
    rw [if_pos (show zb false = 0 from rfl), if_neg (show ¬ false = true by simp)]
    have := z4_bN (lo := 2) (hi := 4) (κ := K4_takeBanks_22) (δ := fun _ M => D4_takeSemicolon M) (k := fun v _ e => zfin d n (D.banks v) e) hn hd (by omega) (by omega) hi' hQ h6 h3 (fun x M hM => z4_endN (κ := fun M => ax_up (ax_up M 44 0 x) 41 8 1) hM) (fun v a e' M _ _ _ he hQM h6M h3M _ => z4_end (κ := fun M => ax_up (ax_up M 44 0 (nI v)) 41 8 1) hn hd he hQM h6M h3M (fun M' hQ' h6' => ⟨hQ'.1.bank, by rw [z_up, if_neg (by omega), z_upr (by omega)]; exact h6', by rw [z_up, if_neg (by omega), z_upr (by omega)], fun c c1 c2 => by rw [z_upr c1, z_upr (by omega)]⟩))
    exact ⟨⟨this.1, this.2.1⟩, this.2.2⟩
theorem z4_stone (hn : n ≤ 320) (hd : ∀ i, i < n → d i < 256) (hi' : i ≤ n) (hQ : z4Q m0 d n D m) (h6 : m 41 6 = 0) (h3 : m 41 3 = nI i) (h5 : m 41 5 = nI p0) : D4_takeStone m ∧ z4O m0 d n (F4_takeStone m) (zlS d n D p0 i (zfin d n)) := by
  unfold D4_takeStone F4_takeStone HK4_takeStone_23 zlS
  rw [hQ.1.2.2.1, h5]
  cases e : D.ts with
  | true =>
    rw [if_neg (show ¬ zb true = 0 by decide), if_pos rfl]
    obtain ⟨f1, f2⟩ := z4_bF (a := p0) hQ h6 (f := 4) (by omega) (by omega)
    rw [show nI 4 = (4 : Int32) from rfl] at f1 f2
    obtain ⟨g1, g2⟩ := z4_numN (lo := 1) (hi := 9) f1
    rw [g2]
    unfold K4_takeStone_23
    obtain ⟨s1, s2⟩ := z4_endN (κ := fun M => ax_up (ax_up M 44 3 1) 41 9 1) f1
    exact ⟨⟨g1, s1⟩, by rw [show _ = _ from s2]; exact f2⟩
  | false =>
    rw [if_pos (show zb false = 0 from rfl), if_neg (show ¬ false = true by simp)]
    have := z4_bN (lo := 1) (hi := 9) (κ := K4_takeStone_23) (δ := fun _ M => D4_takeSemicolon M) (k := fun v _ e => zfin d n (D.stone v) e) hn hd (by omega) (by omega) hi' hQ h6 h3 (fun x M hM => z4_endN (κ := fun M => ax_up (ax_up M 44 3 x) 41 9 1) hM) (fun v a e' M _ _ _ he hQM h6M h3M _ => z4_end (κ := fun M => ax_up (ax_up M 44 3 (nI v)) 41 9 1) hn hd he hQM h6M h3M (fun M' hQ' h6' => ⟨hQ'.1.stn, by rw [z_up, if_neg (by omega), z_upr (by omega)]; exact h6', by rw [z_up, if_neg (by omega), z_upr (by omega)], fun c c1 c2 => by rw [z_upr c1, z_upr (by omega)]⟩))
    exact ⟨⟨this.1, this.2.1⟩, this.2.2⟩
theorem z4_heap (hW : zDW D) (hn : n ≤ 320) (hd : ∀ i, i < n → d i < 256) (hi' : i ≤ n) (hQ : z4Q m0 d n D m) (h6 : m 41 6 = 0) (h3 : m 41 3 = nI i) : D4_takeHeap m ∧ z4O m0 d n (F4_takeHeap m) (zlH d n D p0 i (zfin d n)) := by
  have tailN : ∀ (x : Int32) (M : ax_M), M 41 6 ≠ 0 → HK4_takeHeap_27 x M ∧ K4_takeHeap_27 x M = M := fun x M hM => by
    obtain ⟨g1, g2⟩ := z4_numN (lo := 1) (hi := 20) hM
    unfold HK4_takeHeap_27 K4_takeHeap_27
    rw [g2]
    obtain ⟨s1, s2⟩ := z4_endN (κ := fun M => F1_setStones 44 x 1 M) hM
    exact ⟨⟨g1, s1⟩, s2⟩
  have := z4_bN (lo := 0) (hi := 3) (κ := fun x M => K4_takeHeap_27 x (if (F1_stonesOn 44 x M) ≤ 0 then M else (F4_fail 4 (M 41 5) M))) (δ := fun x M => HK4_takeHeap_27 x (if (F1_stonesOn 44 x M) ≤ 0 then M else (F4_fail 4 (M 41 5) M))) (k := fun b a e => if 0 < D.P.hp b then Sum.inl (4, a) else zbN d n 1 20 e (fun v _ e2 => zfin d n (D.heap b v) e2)) hn hd (by omega) (by omega) hi' hQ h6 h3 (fun x M hM => by
      rw [z4_failN hM]
      have : (if F1_stonesOn 44 x M ≤ 0 then M else M) = M := by split <;> rfl
      rw [this]
      exact tailN x M hM) (fun b a e M _ hb ha he hQM h6M h3M h5M => by
      have hh := hW.2.1 b (by omega)
      have est : F1_stonesOn 44 (nI b) M = nI (D.P.hp b) := z7_stones hQM.1.1 (by omega)
      have c0 : (nI (D.P.hp b) ≤ 0) ↔ D.P.hp b ≤ 0 := z_nle (b := 0) (by omega) (by omega)
      rw [est, h5M]
      simp only [c0]
      by_cases w : 0 < D.P.hp b
      · rw [if_neg (by omega), if_pos w]
        obtain ⟨f1, f2⟩ := z4_bF (a := a) hQM h6M (f := 4) (by omega) (by omega)
        rw [show nI 4 = (4 : Int32) from rfl] at f1 f2
        obtain ⟨t1, t2⟩ := tailN (nI b) _ f1
        exact ⟨t1, by rw [t2]; exact f2⟩
      · rw [if_pos (by omega), if_neg w]
        have t := z4_bN (lo := 1) (hi := 20) (κ := fun v M => if (F4_takeSemicolon M) 41 6 = 0 then F1_setStones 44 (nI b) v (F4_takeSemicolon M) else F4_takeSemicolon M) (δ := fun _ M => D4_takeSemicolon M) (k := fun v _ e2 => zfin d n (D.heap b v) e2) hn hd (by omega) (by omega) he hQM h6M h3M (fun x M hM => z4_endN (κ := fun M => F1_setStones 44 (nI b) x M) hM) (fun v a e' M _ _ _ he hQM h6M h3M _ => z4_end (κ := fun M => F1_setStones 44 (nI b) (nI v) M) hn hd he hQM h6M h3M (fun M' hQ' h6' => by
          have ep : F1_setStones 44 (nI b) (nI v) M' = ax_up M' 45 b (nI v) := z_put (by omega) (by omega)
          rw [ep]
          exact ⟨hQ'.1.hp, by rw [z_upr (by omega)]; exact h6', by rw [z_upr (by omega)], fun c c1 c2 => by rw [z_upr (by omega)]⟩))
        exact ⟨⟨t.1, t.2.1⟩, t.2.2⟩)
  exact ⟨⟨this.1, this.2.1⟩, this.2.2⟩
theorem z4_bridge (hn : n ≤ 320) (hd : ∀ i, i < n → d i < 256) (hi' : i ≤ n) (hQ : z4Q m0 d n D m) (h6 : m 41 6 = 0) (h3 : m 41 3 = nI i) (h5 : m 41 5 = nI p0) (hg : D.s.ng ≤ 4) : D4_takeBridge m ∧ z4O m0 d n (F4_takeBridge m) (zlG d n D p0 i (zfin d n)) := by
  have tail3 : ∀ (x y z : Int32) (M : ax_M), M 41 6 ≠ 0 → D4_takeSemicolon M ∧ K4_takeBridge_46 x y z (F4_takeSemicolon M) = M := fun x y z M hM => by
    obtain ⟨g1, g2⟩ := z4_semiN hM
    unfold K4_takeBridge_46
    rw [g2, if_neg hM]
    exact ⟨g1, rfl⟩
  have tail2 : ∀ (x y : Int32) (M : ax_M), M 41 6 ≠ 0 → (D4_takeNumber 0 20 M ∧ D4_takeSemicolon (F4_takeNumber 0 20 M).2) ∧ K4_takeBridge_46 x y ((F4_takeNumber 0 20 M).1) (F4_takeSemicolon (F4_takeNumber 0 20 M).2) = M := fun x y M hM => by
    obtain ⟨g1, g2⟩ := z4_numN (lo := 0) (hi := 20) hM
    rw [g2]
    obtain ⟨t1, t2⟩ := tail3 x y 0 M hM
    exact ⟨⟨g1, t1⟩, t2⟩
  have tail1 : ∀ (x : Int32) (M : ax_M), M 41 6 ≠ 0 → HK4_takeBridge_26 x M ∧ K4_takeBridge_26 x M = M := fun x M hM => by
    obtain ⟨g1, g2⟩ := z4_numN (lo := 0) (hi := 3) hM
    unfold HK4_takeBridge_26 K4_takeBridge_26 D4_takeOtherThan F4_takeOtherThan K4_takeOtherThan_21
    rw [g2, z4_failN hM]
    have : (if (0 : Int32) = x then M else M) = M := by split <;> rfl
    dsimp only
    rw [this]
    obtain ⟨t1, t2⟩ := tail2 x 0 M hM
    exact ⟨⟨g1, t1⟩, t2⟩
  unfold D4_takeBridge F4_takeBridge zlG
  rw [hQ.1.1.ng, h5]
  have cg : (nI D.s.ng < 4) ↔ D.s.ng < 4 := z_nlt (b := 4) (by omega) (by omega)
  simp only [cg]
  by_cases w : D.s.ng < 4
  · rw [if_pos w, if_neg (by omega)]
    have t := z4_bN (lo := 0) (hi := 3) (κ := K4_takeBridge_26) (δ := HK4_takeBridge_26) (k := fun f _ e => zbN d n 0 3 e (fun c a e2 => if c = f then Sum.inl (4, a) else zbN d n 0 20 e2 (fun v _ e3 => zfin d n (D.bridge f c v) e3))) hn hd (by omega) (by omega) hi' hQ h6 h3 tail1 (fun f a e M _ hf _ he hQM h6M h3M _ => by
      have t := z4_bN (lo := 0) (hi := 3) (κ := fun c M => (fun M' => K4_takeBridge_46 (nI f) c ((F4_takeNumber 0 20 M').1) (F4_takeSemicolon (F4_takeNumber 0 20 M').2)) (if c = nI f then F4_fail 4 (M 41 5) M else M)) (δ := fun c M => (fun M' => D4_takeNumber 0 20 M' ∧ D4_takeSemicolon (F4_takeNumber 0 20 M').2) (if c = nI f then F4_fail 4 (M 41 5) M else M)) (k := fun c a e2 => if c = f then Sum.inl (4, a) else zbN d n 0 20 e2 (fun v _ e3 => zfin d n (D.bridge f c v) e3)) hn hd (by omega) (by omega) he hQM h6M h3M (fun x M hM => by
        rw [z4_failN hM]
        have : (if x = nI f then M else M) = M := by split <;> rfl
        rw [this]
        exact tail2 (nI f) x M hM) (fun c a e2 M _ hc _ he2 hQM h6M h3M h5M => by
        have cc : (nI c = nI f) ↔ c = f := z_neq (by omega) (by omega)
        rw [h5M]
        simp only [cc]
        by_cases y : c = f
        · rw [if_pos y, if_pos y]
          obtain ⟨f1, f2⟩ := z4_bF (a := a) hQM h6M (f := 4) (by omega) (by omega)
          rw [show nI 4 = (4 : Int32) from rfl] at f1 f2
          obtain ⟨t1, t2⟩ := tail2 (nI f) (nI c) _ f1
          exact ⟨t1, by rw [t2]; exact f2⟩
        · rw [if_neg y, if_neg y]
          have t := z4_bN (lo := 0) (hi := 20) (κ := fun v M => K4_takeBridge_46 (nI f) (nI c) v (F4_takeSemicolon M)) (δ := fun _ M => D4_takeSemicolon M) (k := fun v _ e3 => zfin d n (D.bridge f c v) e3) hn hd (by omega) (by omega) he2 hQM h6M h3M (fun x M hM => tail3 (nI f) (nI c) x M hM) (fun v a e' M _ _ _ he hQM h6M h3M _ => z4_end (κ := fun M => F1_addBridge 44 (nI f) (nI c) (nI v) M) hn hd he hQM h6M h3M (fun M' hQ' h6' => by
            obtain ⟨b1, b2⟩ := hQ'.1.brg (f := f) (c := c) (v := v) w
            have hx : ∀ x, x ≠ 44 → ¬ (46 ≤ x ∧ x ≤ 48) → F1_addBridge 44 (nI f) (nI c) (nI v) M' x = M' x := fun x x1 x2 => by rw [b1, z_upr x1, z_upr (by omega), z_upr (by omega), z_upr (by omega)]
            exact ⟨b2, by rw [hx 41 (by omega) (by omega)]; exact h6', by rw [hx 41 (by omega) (by omega)], fun c' c1 c2 => hx c' (by omega) (by omega)⟩))
          exact ⟨⟨t.1, t.2.1⟩, t.2.2⟩)
      exact ⟨⟨t.1, t.2.1⟩, t.2.2⟩)
    exact ⟨⟨t.1, t.2.1⟩, t.2.2⟩
  · rw [if_neg w, if_pos (by omega)]
    obtain ⟨f1, f2⟩ := z4_bF (a := p0) hQ h6 (f := 5) (by omega) (by omega)
    rw [show nI 5 = (5 : Int32) from rfl] at f1 f2
    obtain ⟨g1, g2⟩ := z4_numN (lo := 0) (hi := 3) f1
    rw [g2]
    obtain ⟨t1, t2⟩ := tail1 0 _ f1
    exact ⟨⟨g1, t1⟩, by rw [t2]; exact f2⟩
theorem z4_meet (hn : n ≤ 320) (hd : ∀ i, i < n → d i < 256) (hi' : i ≤ n) (hQ : z4Q m0 d n D m) (h6 : m 41 6 = 0) (h3 : m 41 3 = nI i) (h5 : m 41 5 = nI p0) (hg : D.dn ≤ 8) : D4_takeMeet m ∧ z4O m0 d n (F4_takeMeet m) (zlM d n D p0 i (zfin d n)) := by
  have tail3 : ∀ (x y z : Int32) (M : ax_M), M 41 6 ≠ 0 → HK4_takeMeet_41 x y z M ∧ K4_takeMeet_41 x y z M = M := fun x y z M hM => z4_endN (κ := fun M => F0_append 53 x y z M) hM
  have tail1 : ∀ (x : Int32) (M : ax_M), M 41 6 ≠ 0 → HK4_takeMeet_27 x M ∧ K4_takeMeet_27 x M = M := fun x M hM => by
    obtain ⟨g1, g2⟩ := z4_numN (lo := 0) (hi := 5) hM
    unfold HK4_takeMeet_27 K4_takeMeet_27 D4_takeOtherThan F4_takeOtherThan K4_takeOtherThan_21
    rw [g2]
    dsimp only
    rw [g2, z4_failN hM]
    have : (if (0 : Int32) = 0 then M else M) = M := by split <;> rfl
    dsimp only
    rw [this]
    obtain ⟨t1, t2⟩ := tail3 x 0 0 M hM
    exact ⟨⟨g1, g1, t1⟩, t2⟩
  unfold D4_takeMeet F4_takeMeet zlM
  rw [hQ.1.2.2.2.1, h5]
  have cg : (nI D.dn < 8) ↔ D.dn < 8 := z_nlt (b := 8) (by omega) (by omega)
  simp only [cg]
  by_cases w : D.dn < 8
  · rw [if_pos w, if_neg (by omega)]
    have t := z4_bN (lo := 0) (hi := 3) (κ := K4_takeMeet_27) (δ := HK4_takeMeet_27) (k := fun b _ e => zbN d n 0 5 e (fun p _ e2 => zbN d n 0 5 e2 (fun q a e3 => if q = p then Sum.inl (4, a) else zfin d n (D.meet b p q) e3))) hn hd (by omega) (by omega) hi' hQ h6 h3 tail1 (fun b a e M _ hb _ he hQM h6M h3M _ => by
      have t := z4_bN (lo := 0) (hi := 5) (κ := fun p M => K4_takeMeet_41 (nI b) p ((F4_takeOtherThan p 5 M).1) (F4_takeOtherThan p 5 M).2) (δ := fun p M => D4_takeOtherThan p 5 M ∧ HK4_takeMeet_41 (nI b) p ((F4_takeOtherThan p 5 M).1) (F4_takeOtherThan p 5 M).2) (k := fun p _ e2 => zbN d n 0 5 e2 (fun q a e3 => if q = p then Sum.inl (4, a) else zfin d n (D.meet b p q) e3)) hn hd (by omega) (by omega) he hQM h6M h3M (fun x M hM => by
        obtain ⟨g1, g2⟩ := z4_numN (lo := 0) (hi := 5) hM
        unfold D4_takeOtherThan F4_takeOtherThan K4_takeOtherThan_21
        rw [g2, z4_failN hM]
        have : (if (0 : Int32) = x then M else M) = M := by split <;> rfl
        dsimp only
        rw [this]
        obtain ⟨t1, t2⟩ := tail3 (nI b) x 0 M hM
        exact ⟨⟨g1, t1⟩, t2⟩) (fun p a e2 M _ hp _ he2 hQM h6M h3M h5M => by
        have t := z4_bN (lo := 0) (hi := 5) (κ := fun q M => K4_takeMeet_41 (nI b) (nI p) q (if q = nI p then F4_fail 4 (M 41 5) M else M)) (δ := fun q M => HK4_takeMeet_41 (nI b) (nI p) q (if q = nI p then F4_fail 4 (M 41 5) M else M)) (k := fun q a e3 => if q = p then Sum.inl (4, a) else zfin d n (D.meet b p q) e3) hn hd (by omega) (by omega) he2 hQM h6M h3M (fun x M hM => by
          rw [z4_failN hM]
          have : (if x = nI p then M else M) = M := by split <;> rfl
          rw [this]
          exact tail3 (nI b) (nI p) x M hM) (fun q a e3 M _ hq _ he3 hQM h6M h3M h5M => by
          have cc : (nI q = nI p) ↔ q = p := z_neq (by omega) (by omega)
          rw [h5M]
          simp only [cc]
          by_cases y : q = p
          · rw [if_pos y, if_pos y]
            obtain ⟨f1, f2⟩ := z4_bF (a := a) hQM h6M (f := 4) (by omega) (by omega)
            rw [show nI 4 = (4 : Int32) from rfl] at f1 f2
            obtain ⟨t1, t2⟩ := tail3 (nI b) (nI p) (nI q) _ f1
            exact ⟨t1, by rw [t2]; exact f2⟩
          · rw [if_neg y, if_neg y]
            exact z4_end (κ := fun M => F0_append 53 (nI b) (nI p) (nI q) M) hn hd he3 hQM h6M h3M (fun M' hQ' h6' => by
              obtain ⟨b1, b2⟩ := hQ'.1.mt (b := b) (p := p) (q := q) w
              exact ⟨b1, by rw [b2 41 (by omega) (by omega)]; exact h6', by rw [b2 41 (by omega) (by omega)], fun c' c1 c2 => b2 c' (by omega) (by omega)⟩))
        exact ⟨⟨t.1, t.2.1⟩, t.2.2⟩)
      exact ⟨⟨t.1, t.2.1⟩, t.2.2⟩)
    exact ⟨⟨t.1, t.2.1⟩, t.2.2⟩
  · rw [if_neg w, if_pos (by omega)]
    obtain ⟨f1, f2⟩ := z4_bF (a := p0) hQ h6 (f := 5) (by omega) (by omega)
    rw [show nI 5 = (5 : Int32) from rfl] at f1 f2
    obtain ⟨g1, g2⟩ := z4_numN (lo := 0) (hi := 3) f1
    rw [g2]
    obtain ⟨t1, t2⟩ := tail1 0 _ f1
    exact ⟨⟨g1, t1⟩, by rw [t2]; exact f2⟩
/-- a kind of the class, and what it does with it -/
theorem z4_bK {κ : Int32 → ax_M → ax_M} {δ : Int32 → ax_M → Prop} {k : Nat → Nat → zR} (hn : n ≤ 320) (hd : ∀ i, i < n → d i < 256) (hi' : i ≤ n) (hQ : z4Q m0 d n D m) (h6 : m 41 6 = 0) (h3 : m 41 3 = nI i) (hs : ∀ x M, M 41 6 ≠ 0 → δ x M ∧ κ x M = M) (hk : ∀ v e M, v ≤ 4 → e ≤ n → z4Q m0 d n D M → M 41 6 = 0 → M 41 3 = nI e → δ (nI v) M ∧ z4O m0 d n (κ (nI v) M) (k v e)) : D4_takeKind m ∧ δ (F4_takeKind m).1 (F4_takeKind m).2 ∧ z4O m0 d n (κ (F4_takeKind m).1 (F4_takeKind m).2) (zbK d n i k) := by
  obtain ⟨t1, t2, t3, t4, t5⟩ := z4_tok hn hd hQ.2.1 h6 h3 hi'
  obtain ⟨p1, p2, p3, p4, p5, p6, p7, p8⟩ := zTk_p (d := d) hi'
  have hQ1 := hQ.f t2
  unfold D4_takeKind F4_takeKind zbK
  generalize F4_takeToken m = m1 at *
  generalize (zTk d n i).1 = a at *
  generalize (zTk d n i).2.1 = e at *
  generalize (zTk d n i).2.2 = K at *
  by_cases w5 : K = 5
  · obtain ⟨u1, u2⟩ := t4 w5
    have n0 : ¬ m1 41 6 = 0 := by rw [u1]; decide
    rw [if_neg n0, if_pos w5]
    obtain ⟨c1, c2⟩ := hs 0 m1 n0
    dsimp only
    rw [c2]
    exact ⟨⟨t1, fun x => absurd x n0⟩, c1, u1, u2, by show 0 < 1; omega, by show 1 < 10; omega, hQ1.2.2⟩
  · obtain ⟨u1, u2, u3⟩ := t5 w5
    have wd := fun j (hj : j < 11) => z4_word (d := d) (j := j) (K := K) hn hQ1.2.1 u3 (by omega) u2 t3 p2 p3 hj
    rw [if_pos u1, if_neg w5, (wd 6 (by omega)).2, (wd 7 (by omega)).2, (wd 8 (by omega)).2, (wd 9 (by omega)).2, (wd 10 (by omega)).2, t3]
    have hD : D4_takeToken m ∧ ((m1 41 6 = 0) → ((D4_isWord 6 m1) ∧ ((zb (decide (znm d K a e = 6)) = 0) → ((D4_isWord 7 m1) ∧ ((zb (decide (znm d K a e = 7)) = 0) → ((D4_isWord 8 m1) ∧ ((zb (decide (znm d K a e = 8)) = 0) → ((D4_isWord 9 m1) ∧ ((zb (decide (znm d K a e = 9)) = 0) → (D4_isWord 10 m1)))))))))) := ⟨t1, fun _ => ⟨(wd 6 (by omega)).1, fun _ => ⟨(wd 7 (by omega)).1, fun _ => ⟨(wd 8 (by omega)).1, fun _ => ⟨(wd 9 (by omega)).1, fun _ => (wd 10 (by omega)).1⟩⟩⟩⟩⟩
    refine ⟨hD, ?_⟩
    have z0 : ∀ {P : Prop} [Decidable P], P → ¬ zb (decide P) = 0 := fun h => by rw [decide_eq_true h]; decide
    have z1 : ∀ {P : Prop} [Decidable P], ¬ P → zb (decide P) = 0 := fun h => by rw [decide_eq_false h]; rfl
    have ok : ∀ v, v ≤ 4 → znm d K a e = v + 6 → δ (nI v) m1 ∧ z4O m0 d n (κ (nI v) m1) (if 6 ≤ znm d K a e ∧ znm d K a e < 11 then k (znm d K a e - 6) e else Sum.inl (2, a)) := fun v hv hz => by
      rw [if_pos (by omega), show znm d K a e - 6 = v by omega]
      exact hk v e m1 hv p3 hQ1 u1 u2
    by_cases w6 : znm d K a e = 6
    · rw [if_neg (z0 w6)]; exact ok 0 (by omega) (by omega)
    · rw [if_pos (z1 w6)]
      by_cases w7 : znm d K a e = 7
      · rw [if_neg (z0 w7)]; exact ok 1 (by omega) (by omega)
      · rw [if_pos (z1 w7)]
        by_cases w8 : znm d K a e = 8
        · rw [if_neg (z0 w8)]; exact ok 2 (by omega) (by omega)
        · rw [if_pos (z1 w8)]
          by_cases w9 : znm d K a e = 9
          · rw [if_neg (z0 w9)]; exact ok 3 (by omega) (by omega)
          · rw [if_pos (z1 w9)]
            by_cases w10 : znm d K a e = 10
            · rw [if_neg (z0 w10)]; exact ok 4 (by omega) (by omega)
            · rw [if_pos (z1 w10), if_neg (by omega)]
              obtain ⟨f1, f2⟩ := z4_bF (a := a) hQ1 u1 (f := 2) (by omega) (by omega)
              rw [show nI 2 = (2 : Int32) from rfl] at f1 f2
              obtain ⟨c1, c2⟩ := hs 0 _ f1
              dsimp only
              rw [c2]
              exact ⟨c1, f2⟩
theorem z4_kindN (h : m 41 6 ≠ 0) : D4_takeKind m ∧ F4_takeKind m = (0, m) := by
  obtain ⟨t1, t2⟩ := z4_tokN h
  unfold D4_takeKind F4_takeKind
  rw [t2, if_neg h]
  exact ⟨⟨t1, fun x => absurd x h⟩, rfl⟩
theorem z4_one (hn : n ≤ 320) (hd : ∀ i, i < n → d i < 256) (hi' : i ≤ n) (hQ : z4Q m0 d n D m) (h6 : m 41 6 = 0) (h3 : m 41 3 = nI i) (h5 : m 41 5 = nI p0) (hg : D.s.no ≤ 6) : D4_takeOne m ∧ z4O m0 d n (F4_takeOne m) (zlO d n D p0 i (zfin d n)) := by
  have tail4 : ∀ (x y z u : Int32) (M : ax_M), M 41 6 ≠ 0 → HK4_takeOne_47 x y z u M ∧ K4_takeOne_47 x y z u M = M := fun x y z u M hM => z4_endN (κ := fun M => F1_addOne 44 x y z u M) hM
  have tail1 : ∀ (x : Int32) (M : ax_M), M 41 6 ≠ 0 → HK4_takeOne_25 x M ∧ K4_takeOne_25 x M = M := fun x M hM => by
    obtain ⟨g1, g2⟩ := z4_numN (lo := 1) (hi := 99) hM
    obtain ⟨g3, g4⟩ := z4_numN (lo := 0) (hi := 3) hM
    unfold HK4_takeOne_25 K4_takeOne_25
    rw [g2]
    dsimp only
    rw [g4]
    dsimp only
    rw [g4]
    obtain ⟨t1, t2⟩ := tail4 x 1 0 0 M hM
    exact ⟨⟨g1, g3, g3, t1⟩, t2⟩
  unfold D4_takeOne F4_takeOne zlO
  rw [hQ.1.1.no, h5]
  have cg : (nI D.s.no < 6) ↔ D.s.no < 6 := z_nlt (b := 6) (by omega) (by omega)
  simp only [cg]
  by_cases w : D.s.no < 6
  · rw [if_pos w, if_neg (by omega)]
    have t := z4_bK (κ := K4_takeOne_25) (δ := HK4_takeOne_25) (k := fun x e => zbN d n 1 99 e (fun w _ e2 => zbN d n 0 3 e2 (fun b _ e3 => zbN d n 0 3 e3 (fun g _ e4 => zfin d n (D.one x w b g) e4)))) hn hd hi' hQ h6 h3 tail1 (fun x e M hx he hQM h6M h3M => by
      have t := z4_bN (lo := 1) (hi := 99) (κ := fun y M => K4_takeOne_47 (nI x) y ((F4_takeNumber 0 3 M).1) ((F4_takeNumber 0 3 (F4_takeNumber 0 3 M).2).1) (F4_takeNumber 0 3 (F4_takeNumber 0 3 M).2).2) (δ := fun y M => D4_takeNumber 0 3 M ∧ D4_takeNumber 0 3 (F4_takeNumber 0 3 M).2 ∧ HK4_takeOne_47 (nI x) y ((F4_takeNumber 0 3 M).1) ((F4_takeNumber 0 3 (F4_takeNumber 0 3 M).2).1) (F4_takeNumber 0 3 (F4_takeNumber 0 3 M).2).2) (k := fun w _ e2 => zbN d n 0 3 e2 (fun b _ e3 => zbN d n 0 3 e3 (fun g _ e4 => zfin d n (D.one x w b g) e4))) hn hd (by omega) (by omega) he hQM h6M h3M (fun y M hM => by
        obtain ⟨g3, g4⟩ := z4_numN (lo := 0) (hi := 3) hM
        rw [g4]
        dsimp only
        rw [g4]
        obtain ⟨t1, t2⟩ := tail4 (nI x) y 0 0 M hM
        exact ⟨⟨g3, g3, t1⟩, t2⟩) (fun y a e2 M _ _ _ he2 hQM h6M h3M _ => by
        have t := z4_bN (lo := 0) (hi := 3) (κ := fun b M => K4_takeOne_47 (nI x) (nI y) b ((F4_takeNumber 0 3 M).1) (F4_takeNumber 0 3 M).2) (δ := fun b M => D4_takeNumber 0 3 M ∧ HK4_takeOne_47 (nI x) (nI y) b ((F4_takeNumber 0 3 M).1) (F4_takeNumber 0 3 M).2) (k := fun b _ e3 => zbN d n 0 3 e3 (fun g _ e4 => zfin d n (D.one x y b g) e4)) hn hd (by omega) (by omega) he2 hQM h6M h3M (fun b M hM => by
          obtain ⟨g3, g4⟩ := z4_numN (lo := 0) (hi := 3) hM
          rw [g4]
          obtain ⟨t1, t2⟩ := tail4 (nI x) (nI y) b 0 M hM
          exact ⟨⟨g3, t1⟩, t2⟩) (fun b a e3 M _ _ _ he3 hQM h6M h3M _ => by
          have t := z4_bN (lo := 0) (hi := 3) (κ := fun g M => K4_takeOne_47 (nI x) (nI y) (nI b) g M) (δ := fun g M => HK4_takeOne_47 (nI x) (nI y) (nI b) g M) (k := fun g _ e4 => zfin d n (D.one x y b g) e4) hn hd (by omega) (by omega) he3 hQM h6M h3M (fun g M hM => tail4 (nI x) (nI y) (nI b) g M hM) (fun g a e4 M _ _ _ he4 hQM h6M h3M _ => z4_end (κ := fun M => F1_addOne 44 (nI x) (nI y) (nI b) (nI g) M) hn hd he4 hQM h6M h3M (fun M' hQ' h6' => by
            obtain ⟨b1, b2⟩ := hQ'.1.one (k := x) (w := y) (b := b) (g := g) w
            have hx : ∀ x', x' ≠ 44 → ¬ (49 ≤ x' ∧ x' ≤ 52) → F1_addOne 44 (nI x) (nI y) (nI b) (nI g) M' x' = M' x' := fun x' x1 x2 => by rw [b1, z_upr x1, z_upr (by omega), z_upr (by omega), z_upr (by omega), z_upr (by omega)]
            exact ⟨b2, by rw [hx 41 (by omega) (by omega)]; exact h6', by rw [hx 41 (by omega) (by omega)], fun c' c1 c2 => hx c' (by omega) (by omega)⟩))
          exact ⟨⟨t.1, t.2.1⟩, t.2.2⟩)
        exact ⟨⟨t.1, t.2.1.1, t.2.1.2⟩, t.2.2⟩)
      exact ⟨⟨t.1, t.2.1.1, t.2.1.2.1, t.2.1.2.2⟩, t.2.2⟩)
    exact ⟨⟨t.1, t.2.1⟩, t.2.2⟩
  · rw [if_neg w, if_pos (by omega)]
    obtain ⟨f1, f2⟩ := z4_bF (a := p0) hQ h6 (f := 5) (by omega) (by omega)
    rw [show nI 5 = (5 : Int32) from rfl] at f1 f2
    obtain ⟨g1, g2⟩ := z4_kindN f1
    rw [g2]
    obtain ⟨t1, t2⟩ := tail1 0 _ f1
    exact ⟨⟨g1, t1⟩, by rw [t2]; exact f2⟩
/-- a line whose first token, of sort K, stands from a to e -/
def zLn (d : Nat → Nat) (n : Nat) (D : zD) (K a e : Nat) (k : zD → Nat → zR) : zR := if znm d K a e = 0 then zlB d n D a e k else if znm d K a e = 1 then zlS d n D a e k else if znm d K a e = 2 then zlH d n D a e k else if znm d K a e = 3 then zlG d n D a e k else if znm d K a e = 4 then zlO d n D a e k else if znm d K a e = 5 then zlM d n D a e k else Sum.inl (2, a)
theorem z4_line {K a e : Nat} (hW : zDW D) (hn : n ≤ 320) (hd : ∀ i, i < n → d i < 256) (hQ : z4Q m0 d n D m) (h6 : m 41 6 = 0) (h4 : m 41 4 = nI K) (hK : K < 100) (h3 : m 41 3 = nI e) (h5 : m 41 5 = nI a) (hae : a ≤ e) (hen : e ≤ n) : D4_takeLine m ∧ z4O m0 d n (F4_takeLine m) (zLn d n D K a e (zfin d n)) := by
  have wd := fun j (hj : j < 11) => z4_word (d := d) (j := j) (K := K) hn hQ.2.1 h4 hK h3 h5 hae hen hj
  have z0 : ∀ {P : Prop} [Decidable P], P → ¬ zb (decide P) = 0 := fun h => by rw [decide_eq_true h]; decide
  have z1 : ∀ {P : Prop} [Decidable P], ¬ P → zb (decide P) = 0 := fun h => by rw [decide_eq_false h]; rfl
  unfold D4_takeLine F4_takeLine zLn
  rw [(wd 0 (by omega)).2, (wd 1 (by omega)).2, (wd 2 (by omega)).2, (wd 3 (by omega)).2, (wd 4 (by omega)).2, (wd 5 (by omega)).2, h5]
  have b0 := z4_banks (p0 := a) hn hd hen hQ h6 h3 h5
  have b1 := z4_stone (p0 := a) hn hd hen hQ h6 h3 h5
  have b2 := z4_heap (p0 := a) hW hn hd hen hQ h6 h3
  have b3 := z4_bridge (p0 := a) hn hd hen hQ h6 h3 h5 hW.1.2.2.1
  have b4 := z4_one (p0 := a) hn hd hen hQ h6 h3 h5 hW.1.2.2.2.1
  have b5 := z4_meet (p0 := a) hn hd hen hQ h6 h3 h5 hW.1.2.2.2.2.2.2.1
  refine ⟨⟨(wd 0 (by omega)).1, fun _ => ⟨(wd 1 (by omega)).1, fun _ => ⟨(wd 2 (by omega)).1, fun _ => ⟨(wd 3 (by omega)).1, fun _ => ⟨(wd 4 (by omega)).1, fun _ => ⟨(wd 5 (by omega)).1, fun _ => b5.1⟩, fun _ => b4.1⟩, fun _ => b3.1⟩, fun _ => b2.1⟩, fun _ => b1.1⟩, fun _ => b0.1⟩, ?_⟩
  by_cases w0 : znm d K a e = 0
  · rw [if_neg (z0 w0), if_pos w0]; exact b0.2
  · rw [if_pos (z1 w0), if_neg w0]
    by_cases w1 : znm d K a e = 1
    · rw [if_neg (z0 w1), if_pos w1]; exact b1.2
    · rw [if_pos (z1 w1), if_neg w1]
      by_cases w2 : znm d K a e = 2
      · rw [if_neg (z0 w2), if_pos w2]; exact b2.2
      · rw [if_pos (z1 w2), if_neg w2]
        by_cases w3 : znm d K a e = 3
        · rw [if_neg (z0 w3), if_pos w3]; exact b3.2
        · rw [if_pos (z1 w3), if_neg w3]
          by_cases w4 : znm d K a e = 4
          · rw [if_neg (z0 w4), if_pos w4]; exact b4.2
          · rw [if_pos (z1 w4), if_neg w4]
            by_cases w5 : znm d K a e = 5
            · rw [if_neg (z0 w5), if_pos w5]; exact b5.2
            · rw [if_pos (z1 w5), if_neg w5]
              exact (z4_bF (a := a) hQ h6 (f := 2) (by omega) (by omega)).2
end ZM2
