/-! the String constants of the reader -/
section AXT
variable {d : Nat} {B : Nat × Nat} {y : ax_Y} {pc : Nat} {ls : ax_L} {st : List Value} {sh : ax_S} {m : ax_M} {Q : ax_P}
theorem ax_adk {G : ax_G} {j : Nat} (h : j < 1000) : ax_ad G (1000 + j) = G.2.2.2.1 j := by
  unfold ax_ad
  rw [if_neg (by omega), if_pos (by omega), Nat.add_sub_cancel_left]
theorem ax_adv {G : ax_G} {j : Nat} (h : j < 1000) : ax_ad G (2000 + j) = G.2.2.2.2 j := by
  unfold ax_ad
  rw [if_neg (by omega), if_neg (by omega), if_pos (by omega), Nat.add_sub_cancel_left]
theorem ax_adx {G : ax_G} {t : Nat} : ax_ad G (3000 + t) = t := by
  unfold ax_ad
  rw [if_neg (by omega), if_neg (by omega), if_neg (by omega)]
  omega
theorem r_ldcs {i j : Nat} {tx : String} (hd : decode y.2.1 pc = .ok (.ldc i, 2)) (ho : y.1.cls = RX4) (hj : ax_tx[j]? = some (i, tx)) (kk : ax_R d B y (pc + 2) ls (.ref (1000 + j) :: st) sh m Q) : ax_R d B y pc ls st sh m Q := by
  intro p l e R s mm args below meth c G b0 b1 H locs lsA T
  have hlt : j < 11 := (List.getElem?_eq_some_iff.mp hj).1
  have h := kk.at (l := l) (e := e) (below := below) T
  simp only [List.map_cons, ax_cv, ax_adk (show j < 1000 by omega)] at h
  exact va_ldcS (tx := tx) T.1.1 T.1.2.1 T.1.2.2.2.2.1 (by rw [ho]; exact T.1.2.2.2.2.2.2.2.2.1.2.1.1 j _ hj) hd h
theorem r_sval {idx j : Nat} (hd : decode y.2.1 pc = .ok (.getfield idx, 3)) (hj : j < 11) (hw : Cond.fieldLink y.1.cls idx "java/lang/String" "value" "[B" ∈ ax_wt) (kk : ax_R d B y (pc + 3) ls (.ref (2000 + j) :: st) sh m Q) : ax_R d B y pc ls (.ref (1000 + j) :: st) sh m Q := by
  intro p l e R s mm args below meth c G b0 b1 H locs lsA T
  have h := kk.at (l := l) (e := e) (below := below) T
  simp only [List.map_cons, ax_cv, ax_adv (show j < 1000 by omega)] at h
  show W _ _ _ _ _ _ _ _ _ _ _ _ _ _ _ (F0 _ pc _ (.ref (ax_ad G (1000 + j)) :: st.map (ax_cv G)))
  rw [ax_adk (by omega)]
  exact vk_getf T.1.1 T.1.2.1 (T.1.2.2.2.2.2.2.2.2.1.2.1.2.1.1 j hj).2.2.1 T.2.2.1 T.1.2.2.2.2.1 (T.1.2.2.2.2.2.1 _ hw) (fun _ h9 => h9) hd h
theorem r_scod {idx j : Nat} (hd : decode y.2.1 pc = .ok (.getfield idx, 3)) (hj : j < 11) (hw : Cond.fieldLink y.1.cls idx "java/lang/String" "coder" "B" ∈ ax_wt) (kk : ax_R d B y (pc + 3) ls (.int 0 :: st) sh m Q) : ax_R d B y pc ls (.ref (1000 + j) :: st) sh m Q := by
  intro p l e R s mm args below meth c G b0 b1 H locs lsA T
  have h := kk.at (l := l) (e := e) (below := below) T
  simp only [List.map_cons, ax_cv] at h
  show W _ _ _ _ _ _ _ _ _ _ _ _ _ _ _ (F0 _ pc _ (.ref (ax_ad G (1000 + j)) :: st.map (ax_cv G)))
  rw [ax_adk (by omega)]
  exact vk_getf T.1.1 T.1.2.1 (T.1.2.2.2.2.2.2.2.2.1.2.1.2.1.1 j hj).2.1 T.2.2.1 T.1.2.2.2.2.1 (T.1.2.2.2.2.2.1 _ hw) (fun _ h9 => h9) hd h
theorem r_slen {j : Nat} {v : Int32} (hd : decode y.2.1 pc = .ok (.arraylength, 1)) (hj : j < 11) (hv : Int32.ofNat (ax_tl.getD j 0) = v) (kk : ax_R d B y (pc + 1) ls (.int v :: st) sh m Q) : ax_R d B y pc ls (.ref (2000 + j) :: st) sh m Q := by
  intro p l e R s mm args below meth c G b0 b1 H locs lsA T
  show W _ _ _ _ _ _ _ _ _ _ _ _ _ _ _ (F0 _ pc _ (.ref (ax_ad G (2000 + j)) :: st.map (ax_cv G)))
  rw [ax_adv (by omega)]
  exact va_tlen T.1.1 T.1.2.1 (T.1.2.2.2.2.2.2.2.2.1.2.1.2.1.1 j hj).2.2.2 T.2.2.1 hv hd (kk.at T)
theorem r_sbald {j : Nat} {i v : Int32} (hd : decode y.2.1 pc = .ok (.baload, 1)) (hj : j < 11) (hin : vp_in i (ax_tl.getD j 0)) (hv : (ax_tb.getD j []).getD i.toNatClampNeg 0 = v) (kk : ax_R d B y (pc + 1) ls (.int v :: st) sh m Q) : ax_R d B y pc ls (.int i :: .ref (2000 + j) :: st) sh m Q := by
  intro p l e R s mm args below meth c G b0 b1 H locs lsA T
  show W _ _ _ _ _ _ _ _ _ _ _ _ _ _ _ (F0 _ pc _ (.int i :: .ref (ax_ad G (2000 + j)) :: st.map (ax_cv G)))
  rw [ax_adv (by omega)]
  exact va_tb T.1.1 T.1.2.1 (T.1.2.2.2.2.2.2.2.2.1.2.1.2.1.1 j hj).2.2.2 T.2.2.1 hin (by rw [hv]; rfl) hd (kk.at T)
theorem r_gcs {idx : Nat} (hd : decode y.2.1 pc = .ok (.getstatic idx, 3)) (hw : Cond.fieldLink y.1.cls idx "java/lang/String" "COMPACT_STRINGS" "Z" ∈ ax_wt) (kk : ax_R d B y (pc + 3) ls (.int 1 :: st) sh m Q) : ax_R d B y pc ls st sh m Q := by
  intro p l e R s mm args below meth c G b0 b1 H locs lsA T
  exact va_gets T.1.1 T.1.2.1 T.1.2.2.2.2.2.2.2.2.1.2.1.2.2.1 T.2.2.1 T.1.2.2.2.2.1 (T.1.2.2.2.2.2.1 _ hw) (fun _ h9 => h9) hd (kk.at T)
theorem r_gsf {idx : Nat} (hd : decode y.2.1 pc = .ok (.getstatic idx, 3)) (hw : Cond.fieldLink y.1.cls idx "jdk/internal/util/Preconditions" "SIOOBE_FORMATTER" "Ljava/util/function/BiFunction;" ∈ ax_wt) (kk : ∀ v : Value, (v = .null ∨ ∃ k, v = .ref k) → ax_R d B y (pc + 3) ls (v :: st) sh m Q) : ax_R d B y pc ls st sh m Q := by
  intro p l e R s mm args below meth c G b0 b1 H locs lsA T
  rcases T.1.2.2.2.2.2.2.2.2.1.2.1.2.2.2 with hz | ⟨t, hz⟩
  · exact va_gets T.1.1 T.1.2.1 hz T.2.2.1 T.1.2.2.2.2.1 (T.1.2.2.2.2.2.1 _ hw) (fun _ h9 => h9) hd ((kk .null (Or.inl rfl)).at T)
  · have h := (kk (.ref (3000 + t)) (Or.inr ⟨_, rfl⟩)).at (l := l) (e := e) (below := below) T
    simp only [List.map_cons, ax_cv, ax_adx] at h
    exact va_gets T.1.1 T.1.2.1 hz T.2.2.1 T.1.2.2.2.2.1 (T.1.2.2.2.2.2.1 _ hw) (fun _ h9 => h9) hd h
theorem r_i2c {a : Int32} (hd : decode y.2.1 pc = .ok (.i2c, 1)) (k : ax_R d B y (pc + 1) ls (.int (a.toUInt32 % 65536).toInt32 :: st) sh m Q) : ax_R d B y pc ls (.int a :: st) sh m Q := by
  intro _ _ _ _ _ _ _ _ _ _ _ _ _ _ _ _ T
  exact lv_i2c T.1.1 T.1.2.1 hd rfl (k.at T)
theorem r_nret {v : Int32} {ty : FieldType} (hd : decode y.2.1 pc = .ok (.ireturn, 1)) (hr : y.2.2.2 = some ty) (hv : narrow ty (.int v) = .int v) (hq : Q (some (.int v)) sh m) : ax_R d B y pc ls [.int v] sh m Q := by
  intro _ _ _ _ _ _ _ _ _ _ _ _ _ _ _ _ T
  refine W.widen (Nat.sub_le_sub_right T.2.2.2.2.2.2.1 _) (Nat.sub_le_sub_right T.2.2.2.2.2.2.2 _) ?_
  exact W.zret (v := v) T.1.1 T.1.2.1 (T.1.2.2.1.trans hr) hv (fun t ht _ => ax_end T hq t ht) T.2.2.1.2.2 hd T.1.2.2.2.2.2.2.1
/-- a call on a String constant -/
theorem r_callT {y' : ax_Y} {idx n j d' : Nat} {As stk : List Value} {Q' : ax_P} {B' : Nat × Nat} (hd : decode y.2.1 pc = .ok (.invokevirtual idx, 3)) (hc : ax_code y') (hl : Cond.methodLink y.1.cls idx y'.1 ∈ ax_wt) (hm : Cond.instanceMethod y'.1 ∈ ax_wt ∧ Cond.selects y'.1.cls y'.1 y'.1 ∈ ax_wt ∧ (parseMethodDescriptor y'.1.desc).map (fun d => d.parameters.length) = some n) (hj : j < 11) (hqc : y'.1.cls = "java/lang/String") (hn : As.length = n) (hstk : stk = As.reverse ++ .ref (1000 + j) :: st) (hw : (st.map fun v => v.category).sum ≤ 8) (hdd : d' + 1 ≤ d) (hfit : (ax_a1 (.ref (1000 + j) :: As)).length ≤ y'.2.2.1) (hB : sh.length ≤ B'.1 ∧ ax_sl sh ≤ B'.2 ∧ B'.1 ≤ B.1 ∧ B'.2 ≤ B.2) (hr : ax_RM d' B' y' (.ref (1000 + j) :: As) sh m Q') (hQ : ∀ r sh' m', Q' r sh' m' → sh'.length = B'.1 ∧ ax_sl sh' = B'.2) (kk : ∀ r sh' m', Q' r sh' m' → ax_R d B y (pc + 3) ls (r.toList ++ st) sh' m' Q) : ax_R d B y pc ls stk sh m Q := by
  intro p l e R s mm args below meth c G b0 b1 H locs lsA T
  refine ax_size T (fun hz => ?_)
  have hM := ax_met l G hc hfit ⟨hB.1, hB.2.1⟩ hr
  have hp := ax_pre T hz (.ref (1000 + j) :: As)
  have hrecv := vk_recv T.1.2.2.2.2.2.2.2.2.1.2.1.2.1 hj T.2.2.1
  have hf := T.1.2.2.2.2.2.2.2.2.2.1
  have hlo := T.1.2.2.2.2.2.2.2.2.2.2.1
  have hr1 := T.1.2.2.2.2.2.2.2.2.2.2.2.1
  have hr2 := T.1.2.2.2.2.2.2.2.2.2.2.2.2.1
  have hr3 := T.2.2.2.2
  have h21 := hc.2.2.2.2
  have hR : (ax_rm d' (B'.1 - sh.length) (B'.2 - ax_sl sh)).frames + 1 ≤ R.frames ∧ 8 + (y'.2.2.1 + 11) + (ax_rm d' (B'.1 - sh.length) (B'.2 - ax_sl sh)).locals ≤ R.locals := by
    show d' + 1 ≤ _ ∧ 8 + (_ + 11) + 40 * d' ≤ _
    omega
  have hts := T.1.2.2.2.2.2.1
  have hstm : stk.map (ax_cv G) = (As.map (ax_cv G)).reverse ++ .ref (G.2.2.2.1 j) :: st.map (ax_cv G) := by
    rw [hstk, List.map_append, List.map_reverse, List.map_cons]
    show _ ++ Value.ref (ax_ad G (1000 + j)) :: _ = _
    rw [ax_adk (by omega)]
  have hcons : (Value.ref (1000 + j) :: As).map (ax_cv G) = .ref (G.2.2.2.1 j) :: As.map (ax_cv G) := by
    show Value.ref (ax_ad G (1000 + j)) :: _ = _
    rw [ax_adk (by omega)]
  rw [hstm]
  rw [hcons] at hp
  have cw : CallW R s args y.1.cls y'.1.cls idx y'.1 y'.2.1 y'.2.2.1 y'.2.2.2 (ax_ws y') (ax_rm d' (B'.1 - sh.length) (B'.2 - ax_sl sh)) (B'.1 - sh.length) (B'.2 - ax_sl sh) n := ⟨callB_of n hts (ax_wsIn hc) rfl rfl rfl (hts _ hc.2.1) (hts _ hl) ⟨hc.2.2.2.1.1, hc.2.2.2.1.2, hm.2.2⟩ hR, hts _ hm.1, hts _ hm.2.1⟩
  exact ax_back T hB (va_runV (As := As.map (ax_cv G)) (rest := st.map (ax_cv G)) ⟨T.1.1, T.1.2.1, T.1.2.2.2.1, T.1.2.2.2.2.1, hts⟩ hM cw ⟨hp.1, by rw [hqc]; exact hrecv, hp.2⟩ rfl (by rw [List.length_map]; exact hn) (ax_sz T) rfl (lv_room (by rw [ax_catm]; exact hw)) hd (by omega)) hQ kk
end AXT
