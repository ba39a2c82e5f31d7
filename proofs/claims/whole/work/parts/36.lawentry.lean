/-! the law: its start -/
theorem x_newX {nm : String} {L : Nat} {xs : Nat → Int32} {pc pc1 : Nat} {ls : ax_L} {st : List Value} {sh : ax_S} {m : ax_M} {idx ci n0 : Nat} {C : String} {Tb : u_T} {N : Nat} {rs : List (Option (Option Nat))} {sh1 : ax_S} (ty : Nat → FieldType) (hd : ax_dc (YL nm) pc (.new idx) 3 pc1) (hl : sh.length = n0) (hc : ax_cl[ci]? = some (C, Tb, N)) (hin : ∀ w ∈ u_ws C Tb N, w ∈ ax_wt) (hty : ∀ k, k < N → parseFieldDescriptor (Tb k).2.2.1 = some (ty k)) (hw : Cond.classLink (YL nm).1.cls idx C ∈ ax_wt ∧ Cond.instantiable C N ∈ ax_wt ∧ Cond.initialized C ∈ ax_wt) (hN : rs.length = N) (hr : ∀ j, j < N → (rs.getD j none = none ∨ rs.getD j none = some none) ∧ defaultValue (ty j) = ax_dv (rs.getD j none)) (hm : ∀ j, m n0 j = 0) (hB : n0 + 1 ≤ lw_B.1 ∧ ax_sl sh + N ≤ lw_B.2) (hlt : n0 < 1000) (hs : sh ++ [(0, ci, rs)] = sh1) (kk : ax_RX nm L xs pc1 ls (.ref n0 :: st) sh1 m) : ax_RX nm L xs pc ls st sh m := by
  subst hl
  subst hs
  exact x_new ty hd hc hin hty hw hN hr hm hB hlt kk
theorem lw_begin {nm : String} {L : Nat} {xs : Nat → Int32} (hL : L ≤ 3072) (I : ax_M → Prop) (h0 : I mI) (hOK : ∀ m, I m → OKall I m) : ax_RX nm L xs 0 [some (.ref 2999), none, none, none] [] [] mZ := by
  refine x_newX (n0 := 0) (rs := [some none, some none, some none, some none, some none, some none, some none, some none, some none, none, none]) (sh1 := sT0) tyX7 (eL_0 nm) rfl rfl iX7 tyX7_ok wL_7 rfl (by decide +kernel) (fun _ => rfl) ⟨by decide, by decide +kernel⟩ (by decide) rfl ?_
  refine x_dup (eL_3 nm) rfl ?_
  refine x_callI (As := []) (B' := (74, 7111)) (eL_4 nm) kX7_init lL_9 (show (sT0)[0]? = some _ from rfl) rfl rfl (Nat.le_of_ble_eq_true rfl) (Nat.le_of_ble_eq_true rfl) (Nat.le_of_ble_eq_true rfl) ⟨by decide, by decide +kernel, by decide, by decide⟩ uX7_init_0 (fun r sh' m' h => by obtain ⟨_, rfl, _⟩ := h; exact ⟨rfl, by decide +kernel⟩) (fun r sh' m' h => ?_)
  obtain ⟨rfl, rfl, rfl⟩ := h
  refine x_astore_n (ls' := [some (.ref 2999), some (.ref 0), none, none]) (eL_7 nm) rfl rfl rfl ?_
  refine x_newX (n0 := 74) (rs := [some none, some none, none, none, none, none, some none, none, some none, some none, some none, none, none, none, none, none, none, none, none, none, none, some none, none, none, none, none, none, none, none, none, some none, some none, none, none, some none, none, none, some none, some none, some none, some none, some none, none, some none, some none, some none, none, some none, some none, some none, some none, none]) (sh1 := sT147) tyX8 (eL_8 nm) rfl rfl iX8 tyX8_ok wL_10 rfl (by decide +kernel) (fun _ => rfl) ⟨by decide, by decide +kernel⟩ (by decide) rfl ?_
  refine x_dup (eL_11 nm) rfl ?_
  refine x_callI (As := []) (B' := (97, 46250)) (eL_12 nm) kX8_init lL_12 (show (sT147)[74]? = some _ from rfl) rfl rfl (Nat.le_of_ble_eq_true rfl) (Nat.le_of_ble_eq_true rfl) (Nat.le_of_ble_eq_true rfl) ⟨by decide, by decide +kernel, by decide, by decide⟩ uX8_init_74 (fun r sh' m' h => by obtain ⟨_, rfl, _⟩ := h; exact ⟨rfl, by decide +kernel⟩) (fun r sh' m' h => ?_)
  obtain ⟨rfl, rfl, rfl⟩ := h
  refine x_astore_n (ls' := [some (.ref 2999), some (.ref 0), some (.ref 74), none]) (eL_15 nm) rfl rfl rfl ?_
  refine x_iconst (v := 0) (eL_16 nm) rfl ?_
  refine x_istore_n (ls' := [some (.ref 2999), some (.ref 0), some (.ref 74), some (.int 0)]) (eL_17 nm) rfl rfl rfl ?_
  rw [SH_made]
  exact lw_loopX hL I hOK (L + 1) 0 mI (by omega) (Nat.zero_le _) h0
def lw_tm (i : Nat) : Term := .string RX4 (ax_tx.getD i (0, "")).1
abbrev lw_gv : List Cond := flatC (Jvm.Cond.and given_1 narrow_1)
theorem lw_f1 : ∀ i, i < 11 → Cond.exactly (lw_tm i) "java/lang/String" ∈ lw_gv := by decide +kernel
theorem lw_f2 : ∀ i, i < 11 → Cond.eq (.field (lw_tm i) "java/lang/String" "coder" "B") (.int 0) ∈ lw_gv := by decide +kernel
theorem lw_f3 : ∀ i, i < 11 → Cond.arrayOf (.field (lw_tm i) "java/lang/String" "value" "[B") .byte ∈ lw_gv := by decide +kernel
theorem lw_f4 : ∀ i, i < 11 → Cond.eq (.length (.field (lw_tm i) "java/lang/String" "value" "[B")) (.int (Int32.ofNat (ax_tl.getD i 0))) ∈ lw_gv := by decide +kernel
theorem lw_f5 : ∀ i, i < 11 → ∀ j, j < 8 → j < ax_tl.getD i 0 → Cond.eq (.elem (.field (lw_tm i) "java/lang/String" "value" "[B") (.int (Int32.ofNat j))) (.int ((ax_tb.getD i []).getD j 0)) ∈ lw_gv := by decide +kernel
theorem lw_f6 : ∀ i, i < 11 → ∀ j, j < 11 → i ≠ j → Cond.not (Cond.eq (lw_tm i) (lw_tm j)) ∈ lw_gv ∨ Cond.not (Cond.eq (lw_tm j) (lw_tm i)) ∈ lw_gv := by decide +kernel
theorem lw_f7 : Cond.eq (.static "java/lang/String" "COMPACT_STRINGS" "Z") (.int 1) ∈ lw_gv := by decide +kernel
theorem lw_f8 : Cond.isRef (.static "jdk/internal/util/Preconditions" "SIOOBE_FORMATTER" "Ljava/util/function/BiFunction;") ∈ lw_gv := by decide +kernel
theorem lw_t1 : ∀ i, i < 11 → Cond.stringRef RX4 (ax_tx.getD i (0, "")).1 (ax_tx.getD i (0, "")).2 ∈ tables_1 := by decide +kernel
theorem lw_t2 : Cond.laysStatic "java/lang/String" "COMPACT_STRINGS" "Z" ∈ tables_1 ∧ Cond.initialized "java/lang/String" ∈ tables_1 ∧ Cond.laysStatic "jdk/internal/util/Preconditions" "SIOOBE_FORMATTER" "Ljava/util/function/BiFunction;" ∈ tables_1 ∧ Cond.initialized "jdk/internal/util/Preconditions" ∈ tables_1 ∧ Cond.arrayOver (.object RX1) ∈ tables_1 := by decide +kernel
theorem wINST0 : Cond.instantiable RX0 2 ∈ ax_wt := (ax_i1 88 rfl rfl)
theorem wINST1 : Cond.instantiable RX1 13 ∈ ax_wt := (ax_i1 25 rfl rfl)
theorem wINST2 : Cond.instantiable RX2 5 ∈ ax_wt := (ax_i1 165 rfl rfl)
theorem wINST3 : Cond.instantiable RX3 12 ∈ ax_wt := (ax_i1 189 rfl rfl)
theorem wINST4 : Cond.instantiable RX4 10 ∈ ax_wt := (ax_i1 104 rfl rfl)
theorem wINST5 : Cond.instantiable RX5 3 ∈ ax_wt := (ax_i1 233 rfl rfl)
theorem wINST6 : Cond.instantiable RX6 2 ∈ ax_wt := (ax_i1 110 rfl rfl)
theorem wINST7 : Cond.instantiable RX7 11 ∈ ax_wt := (ax_i1 17 rfl rfl)
theorem wINST8 : Cond.instantiable RX8 52 ∈ ax_wt := (ax_i4 203 rfl rfl)
theorem lw_inst (c : Nat) (q : vw_C) (h : ax_cl[c]? = some q) : Cond.instantiable q.1 q.2.2 ∈ lw_tbl ∧ ∀ w ∈ u_ws q.1 q.2.1 q.2.2, w ∈ lw_tbl := by
  have hm : ∀ w, w ∈ ax_wt → w ∈ lw_tbl := fun w h => (List.mem_filter.mp h).1
  match c, h with
  | 0, h => cases h; exact ⟨hm _ wINST0, fun w hw => hm _ (iX0 w hw)⟩
  | 1, h => cases h; exact ⟨hm _ wINST1, fun w hw => hm _ (iX1 w hw)⟩
  | 2, h => cases h; exact ⟨hm _ wINST2, fun w hw => hm _ (iX2 w hw)⟩
  | 3, h => cases h; exact ⟨hm _ wINST3, fun w hw => hm _ (iX3 w hw)⟩
  | 4, h => cases h; exact ⟨hm _ wINST4, fun w hw => hm _ (iX4 w hw)⟩
  | 5, h => cases h; exact ⟨hm _ wINST5, fun w hw => hm _ (iX5 w hw)⟩
  | 6, h => cases h; exact ⟨hm _ wINST6, fun w hw => hm _ (iX6 w hw)⟩
  | 7, h => cases h; exact ⟨hm _ wINST7, fun w hw => hm _ (iX7 w hw)⟩
  | 8, h => cases h; exact ⟨hm _ wINST8, fun w hw => hm _ (iX8 w hw)⟩
  | c + 9, h => simp [ax_cl] at h
theorem lw_world {s : State} {b : Nat} (hts : ∀ w ∈ lw_tbl, w.before #[Value.ref b] s = true) (hgv : (Jvm.Cond.and given_1 narrow_1).before #[Value.ref b] s = true) : ∃ G : ax_G, G.1 = s.heap.size ∧ ax_K G s ∧ G.2.2.2.2 999 = b := by
  have hg := flat_of_before _ hgv
  have ht : ∀ w ∈ tables_1, w.before #[Value.ref b] s = true := fun w h => hts w (List.mem_append_right _ h)
  have hA : ∀ a : Nat, a < s.heap.size → ¬ (fun q : Nat => s.heap.size ≤ q) a := fun a h q => absurd h (Nat.not_lt.mpr q)
  obtain ⟨adK, adV, hS, had⟩ := vk_Sof (N := 11) (tm := lw_tm) (len := ax_tl) (byt := ax_tb) (A := fun q : Nat => s.heap.size ≤ q) (fun i hi => Nat.lt_trans (ax_tl8 i hi) (by decide)) (fun i hi => hg _ (lw_f1 i hi)) (fun i hi => hg _ (lw_f2 i hi)) (fun i hi => hg _ (lw_f3 i hi)) (fun i hi => hg _ (lw_f4 i hi)) (fun i hi j hj => hg _ (lw_f5 i hi j (Nat.lt_trans hj (ax_tl8 i hi)) hj)) (fun i j hi hj hij => (lw_f6 i hi j hj hij).imp (hg _) (hg _)) hA
  have hkn : ∀ c : Nat, ∃ q : ClassId × (Nat → Nat), ∀ r : vw_C, ax_cl[c]? = some r → u_Kn s r.1 r.2.1 r.2.2 q.1 q.2 := by
    intro c
    cases hc : ax_cl[c]? with
    | none => exact ⟨(0, fun _ => 0), fun r h => by cases h⟩
    | some r =>
      obtain ⟨h1, h2⟩ := lw_inst c r hc
      obtain ⟨cC, iS, hK⟩ := u_known (T := r.2.1) (N := r.2.2) hts h2 (hts _ h1)
      exact ⟨(cC, iS), fun r' h => by cases h; exact hK⟩
  obtain ⟨dd, hdd⟩ := Classical.axiomOfChoice hkn
  obtain ⟨c0, k0, p0, a1, a2, a3⟩ := Cond.arrayClass_spec (show (Cond.arrayClass .int).holds #[Value.ref b] s none s [] = true from hts _ ((List.mem_filter.mp wA_int).1))
  obtain ⟨c1, k1, p1, b1, b2, b3⟩ := Cond.arrayClass_spec (show (Cond.arrayClass .boolean).holds #[Value.ref b] s none s [] = true from hts _ ((List.mem_filter.mp wA_boolean).1))
  have hover := ht _ lw_t2.2.2.2.2
  obtain ⟨p2, c2, k2, d1, d2, d3, d4, d5⟩ := Cond.arrayOver_spec (show (Cond.arrayOver (.object RX1)).holds #[Value.ref b] s none s [] = true from hover)
  refine ⟨(s.heap.size, (fun c => (dd c).1, fun c => (dd c).2), (fun k => if k = 0 then c0 else if k = 1 then c1 else c2), adK, fun i => if i = 999 then b else adV i), rfl, ⟨⟨fun c q hq => hdd c q hq, ?_⟩, ⟨?_, ?_, ?_, ?_⟩, ⟨?_, ?_⟩, Nat.le_refl _⟩, rfl⟩
  · intro k q hq
    match k, hq with
    | 0, hq => cases hq; exact ⟨fun n z => ⟨fun k h => (by cases h), k0, a2, p0, a3⟩, a1⟩
    | 1, hq => cases hq; exact ⟨fun n z => ⟨fun k h => (by cases h), k1, b2, p1, b3⟩, b1⟩
    | 2, hq => cases hq; exact ⟨fun n z => ⟨fun k h => (by cases h), k2, d3, p2, d4⟩, ⟨k2, p2, d3, d4, d1, d5⟩⟩
    | k + 3, hq => simp [ax_tys] at hq
  · intro j q hj
    have hlt : j < 11 := (List.getElem?_eq_some_iff.mp hj).1
    have e : ax_tx.getD j (0, "") = q := by rw [List.getD_eq_getElem?_getD, hj]; rfl
    have h1 := lw_t1 j hlt
    have h2 := had j hlt
    unfold lw_tm at h2
    rw [e] at h1 h2
    exact vk_R.of (ht _ h1) h2
  · refine ⟨fun i hi => ?_, hS.2⟩
    have := hS.1 i hi
    dsimp only
    rw [show (if i = 999 then b else adV i) = adV i from if_neg (by omega)]
    exact this
  · exact va_Zof (ht _ lw_t2.1) (ht _ lw_t2.2.1) (va_eqt (hg _ lw_f7)) hA
  · exact va_Zqof (ht _ lw_t2.2.2.1) (ht _ lw_t2.2.2.2.1) (hg _ lw_f8) hA
  · intro w hw hn
    exact va_Nw.of (by cases w <;> first | rfl | cases hn) (hts w hw)
  · exact va_AO.of hover
/-- THE CLAIM out of the pure part: an invariant that holds at the start and stays, over which both sides answer alike -/
theorem lw_from {p : Program} {e : Env} {s : State} {m : MethodId} {below : List Frame} {meth : Method} {c : Code} (l : Launch) {b L : Nat} {xs : Nat → Int32} (hL : L ≤ 3072) (C0 : lw_At p s m meth c b L xs) (I : ax_M → Prop) (h0 : I mI) (hOK : ∀ m, I m → OKall I m) : W p l e room_1 s m #[Value.ref b] below meth c s.heap [] 0 0 (lw_Z below #[Value.ref b] s) (entryFrame m ([Value.ref b] : List Value).toArray 4) := by
  obtain ⟨hx, hb, hr, hml, hown, hts, hX, hbl, hlocks, hgv⟩ := C0
  obtain ⟨G, hG1, hK, hG9⟩ := lw_world hts hgv
  have hl := lv_entry ([.ref b]) (n := 4) (Nat.le_of_ble_eq_true rfl)
  rw [lg_entry_eq]
  have had : ax_ad G 2999 = b := by rw [show (2999 : Nat) = 2000 + 999 from rfl, ax_adv (by decide)]; exact hG9
  have T : ax_T p room_1 s m #[Value.ref b] meth c G 0 0 s.heap [] ((lg_sl ([.ref b]) ++ List.replicate (4 - (lg_sl ([.ref b])).length) Slot.unset).toArray) 60 lw_B (YL meth.name) [some (.ref 2999), none, none, none] [] mZ := by
    refine ⟨⟨hx, hb, hr, hml, hown, fun w hw => hts w (List.mem_filter.mp hw).1, hlocks, rfl, hK, by decide, by decide, rfl, rfl, hG1.symm⟩, ⟨by decide, fun k q h => by simp [ax_w] at h⟩, va_S.rf, ⟨hl.1, hl.2.1, fun q hq => hl.2.2 q ?_⟩, Nat.le_refl _, Nat.le_refl _, by decide, by decide⟩
    obtain ⟨k, v, hk, rfl⟩ := ax_al_mem.mp hq
    match k, hk with
    | 0, hk =>
      cases hk
      show (0, Value.ref (ax_ad G 2999)) ∈ _
      rw [had]
      exact List.mem_cons_self
    | 1, hk => cases hk
    | 2, hk => cases hk
    | 3, hk => cases hk
    | k + 4, hk => simp at hk
  have h := (lw_begin (nm := meth.name) (xs := xs) hL I h0 hOK).at (l := l) (e := e) (below := below) T hX (by rw [hG1]; exact hbl) hG9
  exact h
