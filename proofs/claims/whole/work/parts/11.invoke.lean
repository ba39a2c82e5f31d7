/-! calls of methods by their judgement -/
def ax_ws (y : ax_Y) : List Cond := Cond.code y.1 y.2.1 y.2.2.1 y.2.2.2 :: ax_tg
theorem ax_wsIn {y : ax_Y} (h : ax_code y) : GoodIn ax_wt (ax_ws y) := by
  intro w hw
  rcases List.mem_cons.mp hw with rfl | hw
  · exact ⟨h.1, Or.inl rfl⟩
  · obtain ⟨h1, h2⟩ := List.mem_filter.mp hw
    exact ⟨List.mem_filter.mpr ⟨h1, by rw [h2]; rfl⟩, good_of_word h2⟩
theorem ax_words {y : ax_Y} {args : Array Value} {s : State} (hts : ∀ w ∈ ax_ws y, w.before args s = true) (hK : ax_Kw s) : ∀ w ∈ ax_wt, w.before args s = true := by
  intro w hw
  obtain ⟨h1, h2⟩ := List.mem_filter.mp hw
  cases hg : goodWord w with
  | true => exact hts w (List.mem_cons_of_mem _ (List.mem_filter.mpr ⟨h1, hg⟩))
  | false =>
    rw [hg, Bool.false_or] at h2
    exact va_Nw.use (by cases w <;> first | rfl | cases h2) (hK.1 w h1 h2)
def ax_Pc (G : ax_G) (vs : List Value) (sh : ax_S) (m : ax_M) : Array Value → State → Prop := fun v U => v = (vs.map (ax_cv G)).toArray ∧ ax_Wd G sh m U.heap ∧ ax_K G U ∧ U.heap.size = G.1 + sh.length
def ax_rm (d : Nat) (mc ms : Nat) : Room := { frames := d, cells := mc, slots := ms, locals := 40 * d }
theorem ax_a1_len (G : ax_G) : ∀ vs : List Value, (lg_sl (vs.map (ax_cv G))).length = (ax_a1 vs).length
  | [] => rfl
  | v :: vs => by
    have ih := ax_a1_len G vs
    simp only [lg_sl, List.map_cons, List.flatMap_cons, List.length_append] at ih ⊢
    rw [ih, ax_cvcat, ax_a1]
    by_cases h : v.category = 2
    · rw [if_pos h, if_pos h]; simp; omega
    · rw [if_neg h, if_neg h]; simp; omega
theorem ax_a1_mem (G : ax_G) : ∀ (vs : List Value) (i : Nat) (k : Nat) (v : Value), (ax_a1 vs)[k]? = some (some v) → (i + k, ax_cv G v) ∈ lv_args i (vs.map (ax_cv G))
  | [], i, k, v, h => by simp [ax_a1] at h
  | w :: vs, i, k, v, h => by
    rw [ax_a1] at h
    rw [List.map_cons, lv_args, ax_cvcat]
    by_cases hc : w.category = 2
    · rw [if_pos hc] at h ⊢
      match k, h with
      | 0, h => simp at h; rw [h]; exact List.mem_cons_self
      | 1, h => simp at h
      | k + 2, h =>
        have := ax_a1_mem G vs (i + 2) k v (by simpa using h)
        rw [show i + 2 + k = i + (k + 2) by omega] at this
        exact List.mem_cons_of_mem _ this
    · rw [if_neg hc] at h ⊢
      match k, h with
      | 0, h => simp at h; rw [h]; exact List.mem_cons_self
      | k + 1, h =>
        have := ax_a1_mem G vs (i + 1) k v (by simpa using h)
        rw [show i + 1 + k = i + (k + 1) by omega] at this
        exact List.mem_cons_of_mem _ this
theorem ax_met {d : Nat} {B : Nat × Nat} {y : ax_Y} {vs : List Value} {sh : ax_S} {m : ax_M} {Q : ax_P} (l : Launch) (G : ax_G) (hy : ax_code y) (hfit : (ax_a1 vs).length ≤ y.2.2.1) (hB : sh.length ≤ B.1 ∧ ax_sl sh ≤ B.2) (h : ax_RM d B y vs sh m Q) : Met l y.1 (ax_ws y) (ax_rm d (B.1 - sh.length) (B.2 - ax_sl sh)) (ax_Pc G vs sh m) (ax_Qc G Q) (B.1 - sh.length) (B.2 - ax_sl sh) (ax_A G) := by
  refine Met.ofW (cc := y.2.1) (maxL := y.2.2.1) (ret := y.2.2.2) hy.2.2.1 rfl ?_
  intro p e s mm args below meth c s₁ Bd hml hv
  obtain ⟨rfl, hw, hK, hz⟩ := hv
  have hts := atoms_spec (ws := ax_ws y) Bd.pre
  have hown : s.vm.findClass y.1.cls = some mm.cls := findClass_of_methodNamed Bd.named
  have hl := lv_entry (vs.map (ax_cv G)) (n := y.2.2.1) (by rw [ax_a1_len]; exact hfit)
  rw [lg_entry_eq]
  have hr := h.at (l := l) (e := e) (below := below) (p := p) (R := (headSpec (ax_ws y) (ax_rm d (B.1 - sh.length) (B.2 - ax_sl sh))).room) (s := s) (mm := mm) (args := (vs.map (ax_cv G)).toArray) (meth := meth) (c := c) (G := G) (b0 := sh.length) (b1 := ax_sl sh) (H := s.heap) (locs := []) ⟨⟨Bd.exec, Bd.bytes, Bd.returns, hml, hown, ax_words hts hK.2.2.1, Bd.notSynchronized, (name_of_methodNamed Bd.named Bd.method).1, hK, Nat.le_refl _, Nat.le_refl _, rfl, rfl, hz⟩, hw, va_S.rf, ⟨hl.1, hl.2.1, fun q hq => hl.2.2 q ?_⟩, Nat.le_refl _, Nat.le_refl _, hB.1, hB.2⟩
  · rw [Nat.sub_self, Nat.sub_self] at hr
    exact hr
  · obtain ⟨k, v, hk, rfl⟩ := ax_al_mem.mp hq
    have hk2 : (ax_a1 vs)[k]? = some (some v) := by
      unfold ax_as at hk
      by_cases hlt : k < (ax_a1 vs).length
      · rwa [List.getElem?_append_left hlt] at hk
      · rw [List.getElem?_append_right (by omega), List.getElem?_replicate] at hk
        split at hk <;> cases hk
    exact ax_a1_mem G vs 0 k v hk2
section AXI
variable {d : Nat} {B : Nat × Nat} {y : ax_Y} {pc : Nat} {ls : ax_L} {st : List Value} {sh : ax_S} {m : ax_M} {Q : ax_P}
/-- behind a call -/
theorem ax_back {p : Program} {l : Launch} {e : Env} {R : Room} {s : State} {mm : MethodId} {args : Array Value} {below : List Frame} {meth : Method} {c : Code} {G : ax_G} {b0 b1 : Nat} {H : Heap} {locs : List Loc} {lsA : Array Slot} {stk : List Value} {a : Array Value} {Q' : ax_P} {B' : Nat × Nat}
    (T : ax_T p R s mm args meth c G b0 b1 H locs lsA d B y ls sh m) (hB : sh.length ≤ B'.1 ∧ ax_sl sh ≤ B'.2 ∧ B'.1 ≤ B.1 ∧ B'.2 ≤ B.2)
    (hr : va_Run p l e R s mm args below meth c H locs (sh.length - b0) (ax_sl sh - b1) (B'.1 - sh.length) (B'.2 - ax_sl sh) (F0 mm pc lsA stk) (st.map (ax_cv G)) (ax_Qc G Q' a) (ax_A G))
    (hQ : ∀ r sh' m', Q' r sh' m' → sh'.length = B'.1 ∧ ax_sl sh' = B'.2) (kk : ∀ r sh' m', Q' r sh' m' → ax_R d B y (pc + 3) ls (r.toList ++ st) sh' m' Q) :
    W p l e R s mm args below meth c H locs (sh.length - b0) (ax_sl sh - b1) (MQ below (ax_Qc G Q) args s (B.1 - b0) (B.2 - b1) (ax_A G)) (F0 mm pc lsA stk) := by
  intro T0 hT X
  obtain ⟨v, st₀, t, T', L, h0, X', hL, e1, e2, ⟨⟨r, sh', m', hv, hq, hw⟩, hz, hk⟩, stp⟩ := hr T0 hT X
  cases hv
  rw [h0] at hz hk
  obtain ⟨F, ⟨z2, z3⟩, hS, hl, h1, h2, h3, h4⟩ := T
  obtain ⟨q1, q2⟩ := hQ r sh' m' hq
  rw [← e1] at hw hz hk
  have T1 : ax_T p R s mm args meth c G b0 b1 T'.heap (locs ++ L) lsA d B y ls sh' m' := ⟨F, hw, ⟨Nat.le_trans hS.1 hz, fun q g1 g2 => (hk q (Nat.lt_of_lt_of_le g1 hS.1) g2).trans (hS.2.1 q g1 g2), fun q hq => (List.mem_append.mp hq).elim (hS.2.2 q) (hL q)⟩, hl, by omega, by omega, by omega, by omega⟩
  have k1 := (kk r sh' m' hq).at (l := l) (e := e) (below := below) T1
  rw [q1, q2, show B'.1 - b0 = sh.length - b0 + (B'.1 - sh.length) by omega, show B'.2 - b1 = ax_sl sh - b1 + (B'.2 - ax_sl sh) by omega] at k1
  obtain ⟨t2, a1, b2⟩ := k1 T' rfl X'
  refine ⟨t2, stp t2 ?_, b2⟩
  have : (r.map (ax_cv G)).toList ++ st.map (ax_cv G) = (r.toList ++ st).map (ax_cv G) := by cases r <;> rfl
  rw [this]
  exact a1
/-- what a call needs of the callee's start -/
theorem ax_pre {p : Program} {R : Room} {s : State} {mm : MethodId} {args : Array Value} {meth : Method} {c : Code} {G : ax_G} {b0 b1 : Nat} {H : Heap} {locs : List Loc} {lsA : Array Slot} (T : ax_T p R s mm args meth c G b0 b1 H locs lsA d B y ls sh m) (hz : H.size = G.1 + sh.length) (vs : List Value) : FrameBlind (ax_Pc G vs sh m) ∧ ∀ U : State, U.heap = H → s.WarmedH U.vm → ax_Pc G vs sh m (vs.map (ax_cv G)).toArray U := by
  refine ⟨fun a U g mk h => ⟨h.1, h.2.1, h.2.2.1.calling, h.2.2.2⟩, fun U hU hW => ⟨rfl, by rw [hU]; exact T.2.1, T.1.2.2.2.2.2.2.2.2.1.warm hW (by rw [hU]; exact T.2.2.1.1) (fun q h1 h2 => by rw [hU]; exact T.2.2.1.2.1 q h1 h2), by rw [hU]; exact hz⟩⟩
/-- the heap's size, by the count of cells made -/
theorem ax_size {p : Program} {l : Launch} {e : Env} {R : Room} {s : State} {mm : MethodId} {args : Array Value} {below : List Frame} {meth : Method} {c : Code} {G : ax_G} {b0 b1 : Nat} {H : Heap} {locs : List Loc} {lsA : Array Slot} {Z : State → Prop} {g : JFrame} {sl : Nat} (T : ax_T p R s mm args meth c G b0 b1 H locs lsA d B y ls sh m) (k : H.size = G.1 + sh.length → W p l e R s mm args below meth c H locs (sh.length - b0) sl Z g) : W p l e R s mm args below meth c H locs (sh.length - b0) sl Z g := by
  intro T0 hT X
  refine k ?_ T0 hT X
  have hz := X.heapSize
  rw [hT, T.1.2.2.2.2.2.2.2.2.2.2.2.2.2] at hz
  have hb := T.2.2.2.2.1
  have hlo : G.1 + sh.length ≤ H.size := by
    have h0 := T.2.2.1.1
    rw [T.1.2.2.2.2.2.2.2.2.2.2.2.2.2] at h0
    cases hn : sh.length with
    | zero => omega
    | succ n =>
      obtain ⟨o, ho⟩ : ∃ o, sh[n]? = some o := ⟨sh[n], List.getElem?_eq_getElem (by omega)⟩
      have := (T.2.1.2 n _ (ax_w_at ho)).lt
      dsimp only at this
      omega
  omega
theorem r_callV {y' : ax_Y} {idx n ci i d' : Nat} {rs : List (Option (Option Nat))} {q : vw_C} {As stk : List Value} {Q' : ax_P} {B' : Nat × Nat} (hd : decode y.2.1 pc = .ok (.invokevirtual idx, 3)) (hc : ax_code y') (hm : ax_mv y.1.cls idx y' n) (hq : ax_cl[ci]? = some q) (hqc : q.1 = y'.1.cls) (ho : sh[i]? = some (0, ci, rs)) (hn : As.length = n) (hstk : stk = As.reverse ++ .ref i :: st) (hw : (st.map fun v => v.category).sum ≤ 8) (hdd : d' + 1 ≤ d) (hfit : (ax_a1 (.ref i :: As)).length ≤ y'.2.2.1) (hB : sh.length ≤ B'.1 ∧ ax_sl sh ≤ B'.2 ∧ B'.1 ≤ B.1 ∧ B'.2 ≤ B.2) (hr : ax_RM d' B' y' (.ref i :: As) sh m Q') (hQ : ∀ r sh' m', Q' r sh' m' → sh'.length = B'.1 ∧ ax_sl sh' = B'.2) (kk : ∀ r sh' m', Q' r sh' m' → ax_R d B y (pc + 3) ls (r.toList ++ st) sh' m' Q) : ax_R d B y pc ls stk sh m Q := by
  intro p l e R s mm args below meth c G b0 b1 H locs lsA T
  refine ax_size T (fun hz => ?_)
  have hM := ax_met l G hc hfit ⟨hB.1, hB.2.1⟩ hr
  have hp := ax_pre T hz (.ref i :: As)
  have hrecv := va_recv T.1.2.2.2.2.2.2.2.2.1.1 T.2.1.2 hq (ax_w_at (G := G) (m := m) ho)
  have hf := T.1.2.2.2.2.2.2.2.2.2.1
  have hlo := T.1.2.2.2.2.2.2.2.2.2.2.1
  have hr1 := T.1.2.2.2.2.2.2.2.2.2.2.2.1
  have hr2 := T.1.2.2.2.2.2.2.2.2.2.2.2.2.1
  have hr3 := T.2.2.2.2
  have h21 := hc.2.2.2.2
  have hR : (ax_rm d' (B'.1 - sh.length) (B'.2 - ax_sl sh)).frames + 1 ≤ R.frames ∧ 8 + (y'.2.2.1 + 11) + (ax_rm d' (B'.1 - sh.length) (B'.2 - ax_sl sh)).locals ≤ R.locals := by
    show d' + 1 ≤ _ ∧ 8 + (_ + 11) + 40 * d' ≤ _
    omega
  have hts := T.1.2.2.2.2.2.1
  have hstm : stk.map (ax_cv G) = (As.map (ax_cv G)).reverse ++ .ref (G.1 + i) :: st.map (ax_cv G) := by
    rw [hstk, List.map_append, List.map_reverse, List.map_cons]
    show _ ++ Value.ref (ax_ad G i) :: _ = _
    rw [ax_ilt T.2.1 ho]
  have hcons : (Value.ref i :: As).map (ax_cv G) = .ref (G.1 + i) :: As.map (ax_cv G) := by
    show Value.ref (ax_ad G i) :: _ = _
    rw [ax_ilt T.2.1 ho]
  rw [hstm]
  rw [hcons] at hp
  rcases hm.1 with hl | ⟨host, hl⟩
  · have cw : CallW R s args y.1.cls y'.1.cls idx y'.1 y'.2.1 y'.2.2.1 y'.2.2.2 (ax_ws y') (ax_rm d' (B'.1 - sh.length) (B'.2 - ax_sl sh)) (B'.1 - sh.length) (B'.2 - ax_sl sh) n := ⟨callB_of n hts (ax_wsIn hc) rfl rfl rfl (hts _ hc.2.1) (hts _ hl) ⟨hc.2.2.2.1.1, hc.2.2.2.1.2, hm.2.2.2⟩ hR, hts _ hm.2.1, hts _ hm.2.2.1⟩
    exact ax_back T hB (va_runV (As := As.map (ax_cv G)) (rest := st.map (ax_cv G)) ⟨T.1.1, T.1.2.1, T.1.2.2.2.1, T.1.2.2.2.2.1, hts⟩ hM cw ⟨hp.1, by rw [← hqc]; exact hrecv, hp.2⟩ rfl (by rw [List.length_map]; exact hn) (ax_sz T) rfl (lv_room (by rw [ax_catm]; exact hw)) hd (by omega)) hQ kk
  · have cw : va_CN R s args y.1.cls idx y'.1 host y'.2.1 y'.2.2.1 y'.2.2.2 (ax_ws y') (ax_rm d' (B'.1 - sh.length) (B'.2 - ax_sl sh)) (B'.1 - sh.length) (B'.2 - ax_sl sh) n := va_cnB n hts (ax_wsIn hc) rfl rfl rfl (va_tabs rfl rfl (hts _ hl)) (hts _ hc.2.1) ⟨hc.2.2.2.1.1, hc.2.2.2.1.2, hm.2.2.2⟩ hR
    exact ax_back T hB (va_runVN (As := As.map (ax_cv G)) (rest := st.map (ax_cv G)) (C := y'.1.cls) ⟨T.1.1, T.1.2.1, T.1.2.2.2.1, T.1.2.2.2.2.1, hts⟩ hM ⟨cw, hts _ hm.2.1, hts _ hm.2.2.1⟩ ⟨hp.1, by rw [← hqc]; exact hrecv, hp.2⟩ rfl (by rw [List.length_map]; exact hn) (ax_sz T) rfl (lv_room (by rw [ax_catm]; exact hw)) hd (by omega)) hQ kk
theorem r_callS {y' : ax_Y} {idx n d' : Nat} {As stk : List Value} {Q' : ax_P} {B' : Nat × Nat} (hd : decode y.2.1 pc = .ok (.invokestatic idx, 3)) (hc : ax_code y') (hm : ax_ms y.1.cls idx y' n) (hn : As.length = n) (hstk : stk = As.reverse ++ st) (hw : (st.map fun v => v.category).sum ≤ 8) (hdd : d' + 1 ≤ d) (hfit : (ax_a1 As).length ≤ y'.2.2.1) (hB : sh.length ≤ B'.1 ∧ ax_sl sh ≤ B'.2 ∧ B'.1 ≤ B.1 ∧ B'.2 ≤ B.2) (hr : ax_RM d' B' y' As sh m Q') (hQ : ∀ r sh' m', Q' r sh' m' → sh'.length = B'.1 ∧ ax_sl sh' = B'.2) (kk : ∀ r sh' m', Q' r sh' m' → ax_R d B y (pc + 3) ls (r.toList ++ st) sh' m' Q) : ax_R d B y pc ls stk sh m Q := by
  intro p l e R s mm args below meth c G b0 b1 H locs lsA T
  refine ax_size T (fun hz => ?_)
  have hM := ax_met l G hc hfit ⟨hB.1, hB.2.1⟩ hr
  have hp := ax_pre T hz As
  have hf := T.1.2.2.2.2.2.2.2.2.2.1
  have hlo := T.1.2.2.2.2.2.2.2.2.2.2.1
  have hr1 := T.1.2.2.2.2.2.2.2.2.2.2.2.1
  have hr2 := T.1.2.2.2.2.2.2.2.2.2.2.2.2.1
  have hr3 := T.2.2.2.2
  have h21 := hc.2.2.2.2
  have hR : (ax_rm d' (B'.1 - sh.length) (B'.2 - ax_sl sh)).frames + 1 ≤ R.frames ∧ 8 + (y'.2.2.1 + 11) + (ax_rm d' (B'.1 - sh.length) (B'.2 - ax_sl sh)).locals ≤ R.locals := by
    show d' + 1 ≤ _ ∧ 8 + (_ + 11) + 40 * d' ≤ _
    omega
  have hts := T.1.2.2.2.2.2.1
  have hstm : stk.map (ax_cv G) = (As.map (ax_cv G)).reverse ++ st.map (ax_cv G) := by
    rw [hstk, List.map_append, List.map_reverse]
  rw [hstm]
  rcases hm.1 with hl | ⟨host, hl⟩
  · have cb : CallB R s args y.1.cls idx y'.1 y'.2.1 y'.2.2.1 y'.2.2.2 (ax_ws y') (ax_rm d' (B'.1 - sh.length) (B'.2 - ax_sl sh)) (B'.1 - sh.length) (B'.2 - ax_sl sh) n := callB_of n hts (ax_wsIn hc) rfl rfl rfl (hts _ hc.2.1) (hts _ hl) ⟨hc.2.2.2.1.1, hc.2.2.2.1.2, hm.2.2⟩ hR
    exact ax_back T hB (va_runS (As := As.map (ax_cv G)) (rest := st.map (ax_cv G)) ⟨T.1.1, T.1.2.1, T.1.2.2.2.1, T.1.2.2.2.2.1, hts⟩ hM ⟨cb, hts _ hm.2.1⟩ ⟨hp.1, hp.2⟩ rfl (by rw [List.length_map]; exact hn) (ax_sz T) rfl (lv_room (by rw [ax_catm]; exact hw)) hd (by omega)) hQ kk
  · have cw : va_CN R s args y.1.cls idx y'.1 host y'.2.1 y'.2.2.1 y'.2.2.2 (ax_ws y') (ax_rm d' (B'.1 - sh.length) (B'.2 - ax_sl sh)) (B'.1 - sh.length) (B'.2 - ax_sl sh) n := va_cnB n hts (ax_wsIn hc) rfl rfl rfl (va_tabs rfl rfl (hts _ hl)) (hts _ hc.2.1) ⟨hc.2.2.2.1.1, hc.2.2.2.1.2, hm.2.2⟩ hR
    exact ax_back T hB (va_runSN (As := As.map (ax_cv G)) (rest := st.map (ax_cv G)) ⟨T.1.1, T.1.2.1, T.1.2.2.2.1, T.1.2.2.2.2.1, hts⟩ hM ⟨cw, hts _ hm.2.1, trivial⟩ ⟨hp.1, hp.2⟩ rfl (by rw [List.length_map]; exact hn) (ax_sz T) rfl (lv_room (by rw [ax_catm]; exact hw)) hd (by omega)) hQ kk
theorem r_callI {y' : ax_Y} {idx n i d' : Nat} {o : ax_O} {As stk : List Value} {Q' : ax_P} {B' : Nat × Nat} (hd : decode y.2.1 pc = .ok (.invokespecial idx, 3)) (hc : ax_code y') (hm : ax_mi y.1.cls idx y' n) (ho : sh[i]? = some o) (hn : As.length = n) (hstk : stk = As.reverse ++ .ref i :: st) (hw : (st.map fun v => v.category).sum ≤ 8) (hdd : d' + 1 ≤ d) (hfit : (ax_a1 (.ref i :: As)).length ≤ y'.2.2.1) (hB : sh.length ≤ B'.1 ∧ ax_sl sh ≤ B'.2 ∧ B'.1 ≤ B.1 ∧ B'.2 ≤ B.2) (hr : ax_RM d' B' y' (.ref i :: As) sh m Q') (hQ : ∀ r sh' m', Q' r sh' m' → sh'.length = B'.1 ∧ ax_sl sh' = B'.2) (kk : ∀ r sh' m', Q' r sh' m' → ax_R d B y (pc + 3) ls (r.toList ++ st) sh' m' Q) : ax_R d B y pc ls stk sh m Q := by
  intro p l e R s mm args below meth c G b0 b1 H locs lsA T
  refine ax_size T (fun hz => ?_)
  have hM := ax_met l G hc hfit ⟨hB.1, hB.2.1⟩ hr
  have hp := ax_pre T hz (.ref i :: As)
  have hf := T.1.2.2.2.2.2.2.2.2.2.1
  have hlo := T.1.2.2.2.2.2.2.2.2.2.2.1
  have hr1 := T.1.2.2.2.2.2.2.2.2.2.2.2.1
  have hr2 := T.1.2.2.2.2.2.2.2.2.2.2.2.2.1
  have hr3 := T.2.2.2.2
  have h21 := hc.2.2.2.2
  have hR : (ax_rm d' (B'.1 - sh.length) (B'.2 - ax_sl sh)).frames + 1 ≤ R.frames ∧ 8 + (y'.2.2.1 + 11) + (ax_rm d' (B'.1 - sh.length) (B'.2 - ax_sl sh)).locals ≤ R.locals := by
    show d' + 1 ≤ _ ∧ 8 + (_ + 11) + 40 * d' ≤ _
    omega
  have hts := T.1.2.2.2.2.2.1
  have hstm : stk.map (ax_cv G) = (As.map (ax_cv G)).reverse ++ .ref (G.1 + i) :: st.map (ax_cv G) := by
    rw [hstk, List.map_append, List.map_reverse, List.map_cons]
    show _ ++ Value.ref (ax_ad G i) :: _ = _
    rw [ax_ilt T.2.1 ho]
  have hcons : (Value.ref i :: As).map (ax_cv G) = .ref (G.1 + i) :: As.map (ax_cv G) := by
    show Value.ref (ax_ad G i) :: _ = _
    rw [ax_ilt T.2.1 ho]
  rw [hstm]
  rw [hcons] at hp
  rcases hm.1 with hl | ⟨host, hl⟩
  · have cb : CallB R s args y.1.cls idx y'.1 y'.2.1 y'.2.2.1 y'.2.2.2 (ax_ws y') (ax_rm d' (B'.1 - sh.length) (B'.2 - ax_sl sh)) (B'.1 - sh.length) (B'.2 - ax_sl sh) n := callB_of n hts (ax_wsIn hc) rfl rfl rfl (hts _ hc.2.1) (hts _ hl) ⟨hc.2.2.2.1.1, hc.2.2.2.1.2, hm.2.2.2.2⟩ hR
    rw [hm.2.2.2.1] at cb
    exact ax_back T hB (va_runI (As := As.map (ax_cv G)) (rest := st.map (ax_cv G)) ⟨T.1.1, T.1.2.1, T.1.2.2.2.1, T.1.2.2.2.2.1, hts⟩ hM ⟨cb, hm.2.2.1, hts _ hm.2.1⟩ hp rfl (by rw [List.length_map]; exact hn) (ax_sz T) rfl (lv_room (by rw [ax_catm]; exact hw)) hd (by omega)) hQ kk
  · have cw : va_CN R s args y.1.cls idx y'.1 host y'.2.1 y'.2.2.1 y'.2.2.2 (ax_ws y') (ax_rm d' (B'.1 - sh.length) (B'.2 - ax_sl sh)) (B'.1 - sh.length) (B'.2 - ax_sl sh) n := va_cnB n hts (ax_wsIn hc) rfl rfl rfl (va_tabs rfl rfl (hts _ hl)) (hts _ hc.2.1) ⟨hc.2.2.2.1.1, hc.2.2.2.1.2, hm.2.2.2.2⟩ hR
    rw [hm.2.2.2.1] at cw
    exact ax_back T hB (va_runIN (As := As.map (ax_cv G)) (rest := st.map (ax_cv G)) ⟨T.1.1, T.1.2.1, T.1.2.2.2.1, T.1.2.2.2.2.1, hts⟩ hM ⟨cw, hm.2.2.1, hts _ hm.2.1⟩ hp rfl (by rw [List.length_map]; exact hn) (ax_sz T) rfl (lv_room (by rw [ax_catm]; exact hw)) hd (by omega)) hQ kk
end AXI
