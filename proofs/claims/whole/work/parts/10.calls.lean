/-! arrays are made; calls -/
section AXN
variable {d : Nat} {B : Nat × Nat} {y : ax_Y} {pc : Nat} {ls : ax_L} {st : List Value} {sh : ax_S} {m : ax_M} {Q : ax_P}
theorem ax_hR {p : Program} {R : Room} {s : State} {mm : MethodId} {args : Array Value} {meth : Method} {c : Code} {G : ax_G} {b0 b1 : Nat} {H : Heap} {locs : List Loc} {lsA : Array Slot} {N : Nat} (T : ax_T p R s mm args meth c G b0 b1 H locs lsA d B y ls sh m) (hB : sh.length + 1 ≤ B.1 ∧ ax_sl sh + N ≤ B.2) : sh.length - b0 + 1 ≤ R.cells ∧ ax_sl sh - b1 + N ≤ R.slots := by
  have := T.1.2.2.2.2.2.2.2.2.2.2.2.1
  have := T.1.2.2.2.2.2.2.2.2.2.2.2.2.1
  have := T.2.2.2.2
  omega
theorem r_newi {N : Nat} {n : Int32} (hd : decode y.2.1 pc = .ok (.newarray .int, 2)) (hw : Cond.arrayClass .int ∈ ax_wt) (hn : ¬ n < 0) (hN : n.toNatClampNeg = N) (hb : N * componentBytes .int ≤ 536870912) (hm : m sh.length = fun _ => 0) (hB : sh.length + 1 ≤ B.1 ∧ ax_sl sh + N ≤ B.2) (hlt : sh.length < 1000) (kk : ax_R d B y (pc + 2) ls (.ref sh.length :: st) (sh ++ [(1, N, [])]) m Q) : ax_R d B y pc ls (.int n :: st) sh m Q := by
  intro p l e R s mm args below meth c G b0 b1 H locs lsA T
  have hR := ax_hR T hB
  refine va_newa (atype := .int) (ty := .int) (a0 := (N, .inl (fun _ => 0))) T.1.1 T.1.2.1 (T.1.2.2.2.2.2.1 _ hw) rfl T.1.2.2.2.2.2.2.2.2.1.1 T.2.1.2 (ax_D G sh m) T.2.2.1 (fun q hq => Nat.le_trans T.1.2.2.2.2.2.2.2.2.1.2.2.2 hq) (fun cA => rfl) hn hN hb hR.1 hR.2 hd ?_
  intro q cA H1 hK hP hD hS
  have h1 : s.vm.findClass ("[" ++ (FieldType.int).toString) = some cA := (hK.2 3 _ rfl).2
  have h2 : s.vm.findClass ("[" ++ (FieldType.int).toString) = some (G.2.2.1 0) := (hK.2 0 _ rfl).2
  rw [h1] at h2
  cases h2
  exact ax_made (o := (1, N, [])) T (by show _ = Sum.inl (G.2.2.1 0, N, Sum.inl (m sh.length)); rw [hm]) hB hlt kk hP hD hS
theorem r_newz {N : Nat} {n : Int32} (hd : decode y.2.1 pc = .ok (.newarray .boolean, 2)) (hw : Cond.arrayClass .boolean ∈ ax_wt) (hn : ¬ n < 0) (hN : n.toNatClampNeg = N) (hb : N * componentBytes .boolean ≤ 536870912) (hm : m sh.length = fun _ => 0) (hB : sh.length + 1 ≤ B.1 ∧ ax_sl sh + N ≤ B.2) (hlt : sh.length < 1000) (kk : ax_R d B y (pc + 2) ls (.ref sh.length :: st) (sh ++ [(2, N, [])]) m Q) : ax_R d B y pc ls (.int n :: st) sh m Q := by
  intro p l e R s mm args below meth c G b0 b1 H locs lsA T
  have hR := ax_hR T hB
  refine va_newa (atype := .boolean) (ty := .boolean) (a0 := (N, .inl (fun _ => 0))) T.1.1 T.1.2.1 (T.1.2.2.2.2.2.1 _ hw) rfl T.1.2.2.2.2.2.2.2.2.1.1 T.2.1.2 (ax_D G sh m) T.2.2.1 (fun q hq => Nat.le_trans T.1.2.2.2.2.2.2.2.2.1.2.2.2 hq) (fun cA => rfl) hn hN hb hR.1 hR.2 hd ?_
  intro q cA H1 hK hP hD hS
  have h1 : s.vm.findClass ("[" ++ (FieldType.boolean).toString) = some cA := (hK.2 3 _ rfl).2
  have h2 : s.vm.findClass ("[" ++ (FieldType.boolean).toString) = some (G.2.2.1 1) := (hK.2 1 _ rfl).2
  rw [h1] at h2
  cases h2
  exact ax_made (o := (2, N, [])) T (by show _ = Sum.inl (G.2.2.1 1, N, Sum.inl (m sh.length)); rw [hm]) hB hlt kk hP hD hS
theorem r_newq {N idx : Nat} {n : Int32} {rs : List (Option (Option Nat))} (hd : decode y.2.1 pc = .ok (.anewarray idx, 3)) (hw : Cond.classLink y.1.cls idx RX1 ∈ ax_wt) (hn : ¬ n < 0) (hN : n.toNatClampNeg = N) (hb : N * 4 ≤ 536870912) (hrs : ∀ j, (rs.getD j none).getD none = none) (hB : sh.length + 1 ≤ B.1 ∧ ax_sl sh + N ≤ B.2) (hlt : sh.length < 1000) (kk : ax_R d B y (pc + 3) ls (.ref sh.length :: st) (sh ++ [(3, N, rs)]) m Q) : ax_R d B y pc ls (.int n :: st) sh m Q := by
  intro p l e R s mm args below meth c G b0 b1 H locs lsA T
  have hR := ax_hR T hB
  refine va_newq (C := RX1) T.1.1 T.1.2.1 T.1.2.2.2.2.1 (T.1.2.2.2.2.2.1 _ hw) T.1.2.2.2.2.2.2.2.2.1.2.2.1.2 T.1.2.2.2.2.2.2.2.2.1.1 T.2.1.2 (ax_D G sh m) T.2.2.1 (fun q hq => Nat.le_trans T.1.2.2.2.2.2.2.2.2.1.2.2.2 hq) hn hN hb hR.1 hR.2 hd ?_
  intro q cA H1 hK hP hD hS
  obtain ⟨_, _, _, _, _, h1⟩ := (hK.2 3 _ rfl).2
  obtain ⟨_, _, _, _, _, h2⟩ := (hK.2 2 _ rfl).2
  rw [h1] at h2
  cases h2
  refine ax_made (o := (3, N, rs)) T ?_ hB hlt kk hP hD hS
  show _ = Sum.inl (G.2.2.1 2, N, Sum.inr (Sum.inr (Sum.inr (Sum.inr (ax_q G rs)))))
  congr 7
  funext j
  rw [ax_q, hrs]
  rfl
theorem ax_sz {p : Program} {R : Room} {s : State} {mm : MethodId} {args : Array Value} {meth : Method} {c : Code} {G : ax_G} {b0 b1 : Nat} {H : Heap} {locs : List Loc} {lsA : Array Slot} (T : ax_T p R s mm args meth c G b0 b1 H locs lsA d B y ls sh m) : lsA.size = y.2.2.1 := T.2.2.2.1.1
theorem ax_catm (G : ax_G) : ∀ st : List Value, ((st.map (ax_cv G)).map fun v => v.category).sum = (st.map fun v => v.category).sum
  | [] => rfl
  | v :: st => by simp only [List.map_cons, List.sum_cons, ax_cvcat, ax_catm G st]
theorem r_obj {idx i : Nat} (hd : decode y.2.1 pc = .ok (.invokespecial idx, 3)) (hw : Cond.methodLink y.1.cls idx Lib.objectInit ∈ ax_wt) (hw2 : Cond.instanceMethod Lib.objectInit ∈ ax_wt) (hw3 : Cond.code Lib.objectInit ⟨#[0xb1]⟩ 1 none ∈ ax_wt) (hd1 : 1 ≤ d) (hst : (st.map fun v => v.category).sum ≤ 8) (kk : ax_R d B y (pc + 3) ls st sh m Q) : ax_R d B y pc ls (.ref i :: st) sh m Q := by
  intro p l e R s mm args below meth c G b0 b1 H locs lsA T
  have hf := T.1.2.2.2.2.2.2.2.2.2.1
  have hlo := T.1.2.2.2.2.2.2.2.2.2.2.1
  refine W.objInit T.1.1 T.1.2.1 T.1.2.2.2.2.1 (T.1.2.2.2.2.2.1 _ hw) (T.1.2.2.2.2.2.1 _ hw2) (T.1.2.2.2.2.2.1 _ hw3) rfl ((ax_sz T).trans T.1.2.2.2.1.symm) (rest := st.map (ax_cv G)) rfl hd (by omega) ?_ (kk.at T)
  show 2 * 0 + ((st.map (ax_cv G)).map fun v => v.category).sum + 12 ≤ R.locals
  rw [ax_catm]
  omega
theorem r_abs {idx : Nat} {x : Int32} (hd : decode y.2.1 pc = .ok (.invokestatic idx, 3)) (hw : Cond.methodLink y.1.cls idx Lib.Math.abs.name ∈ ax_wt) (hw2 : Cond.static Lib.Math.abs.name ∈ ax_wt ∧ Cond.initialized "java/lang/Math" ∈ ax_wt ∧ Cond.code Lib.Math.abs.name Lib.Math.abs.code 1 (some .int) ∈ ax_wt) (hd1 : 1 ≤ d) (hst : (st.map fun v => v.category).sum ≤ 8) (kk : ax_R d B y (pc + 3) ls (.int (if 0 ≤ x then x else 0 - x) :: st) sh m Q) : ax_R d B y pc ls (.int x :: st) sh m Q := by
  intro p l e R s mm args below meth c G b0 b1 H locs lsA T
  have hf := T.1.2.2.2.2.2.2.2.2.2.1
  have hlo := T.1.2.2.2.2.2.2.2.2.2.2.1
  have hr1 := T.1.2.2.2.2.2.2.2.2.2.2.2.1
  have hr2 := T.1.2.2.2.2.2.2.2.2.2.2.2.2.1
  have hr3 := T.2.2.2.2
  exact va_mabs (rest := st.map (ax_cv G)) T.1.1 T.1.2.1 (T.1.2.2.2.1.trans (ax_sz T).symm) T.1.2.2.2.2.1 (T.1.2.2.2.2.2.1 _ hw) (T.1.2.2.2.2.2.1 _ hw2.1) (T.1.2.2.2.2.2.1 _ hw2.2.1) (T.1.2.2.2.2.2.1 _ hw2.2.2) (by omega) (by rw [ax_catm]; omega) (by omega) (by omega) hd (kk.at T)
theorem r_min {idx : Nat} {x z : Int32} (hd : decode y.2.1 pc = .ok (.invokestatic idx, 3)) (hw : Cond.methodLink y.1.cls idx Lib.Math.min.name ∈ ax_wt) (hw2 : Cond.static Lib.Math.min.name ∈ ax_wt ∧ Cond.initialized "java/lang/Math" ∈ ax_wt ∧ Cond.code Lib.Math.min.name Lib.Math.min.code 2 (some .int) ∈ ax_wt) (hd1 : 1 ≤ d) (hst : (st.map fun v => v.category).sum ≤ 8) (kk : ax_R d B y (pc + 3) ls (.int (if z < x then z else x) :: st) sh m Q) : ax_R d B y pc ls (.int z :: .int x :: st) sh m Q := by
  intro p l e R s mm args below meth c G b0 b1 H locs lsA T
  have hf := T.1.2.2.2.2.2.2.2.2.2.1
  have hlo := T.1.2.2.2.2.2.2.2.2.2.2.1
  have hr1 := T.1.2.2.2.2.2.2.2.2.2.2.2.1
  have hr2 := T.1.2.2.2.2.2.2.2.2.2.2.2.2.1
  have hr3 := T.2.2.2.2
  exact va_mmin (rest := st.map (ax_cv G)) T.1.1 T.1.2.1 (T.1.2.2.2.1.trans (ax_sz T).symm) T.1.2.2.2.2.1 (T.1.2.2.2.2.2.1 _ hw) (T.1.2.2.2.2.2.1 _ hw2.1) (T.1.2.2.2.2.2.1 _ hw2.2.1) (T.1.2.2.2.2.2.1 _ hw2.2.2) (by omega) (by rw [ax_catm]; omega) (by omega) (by omega) hd (kk.at T)
theorem r_max {idx : Nat} {x z : Int32} (hd : decode y.2.1 pc = .ok (.invokestatic idx, 3)) (hw : Cond.methodLink y.1.cls idx Lib.Math.max.name ∈ ax_wt) (hw2 : Cond.static Lib.Math.max.name ∈ ax_wt ∧ Cond.initialized "java/lang/Math" ∈ ax_wt ∧ Cond.code Lib.Math.max.name Lib.Math.max.code 2 (some .int) ∈ ax_wt) (hd1 : 1 ≤ d) (hst : (st.map fun v => v.category).sum ≤ 8) (kk : ax_R d B y (pc + 3) ls (.int (if x < z then z else x) :: st) sh m Q) : ax_R d B y pc ls (.int z :: .int x :: st) sh m Q := by
  intro p l e R s mm args below meth c G b0 b1 H locs lsA T
  have hf := T.1.2.2.2.2.2.2.2.2.2.1
  have hlo := T.1.2.2.2.2.2.2.2.2.2.2.1
  have hr1 := T.1.2.2.2.2.2.2.2.2.2.2.2.1
  have hr2 := T.1.2.2.2.2.2.2.2.2.2.2.2.2.1
  have hr3 := T.2.2.2.2
  exact va_mmax (rest := st.map (ax_cv G)) T.1.1 T.1.2.1 (T.1.2.2.2.1.trans (ax_sz T).symm) T.1.2.2.2.2.1 (T.1.2.2.2.2.2.1 _ hw) (T.1.2.2.2.2.2.1 _ hw2.1) (T.1.2.2.2.2.2.1 _ hw2.2.1) (T.1.2.2.2.2.2.1 _ hw2.2.2) (by omega) (by rw [ax_catm]; omega) (by omega) (by omega) hd (kk.at T)
/-- System.arraycopy of whole int rows, from their beginnings -/
theorem r_copy {idx i0 i1 n0 n1 : Nat} {rs0 rs1 : List (Option (Option Nat))} {n : Int32} {k : Nat} (hd : decode y.2.1 pc = .ok (.invokestatic idx, 3)) (hw : Cond.methodLink y.1.cls idx arraycopyName ∈ ax_wt) (hw2 : Cond.native arraycopyName ∈ ax_wt ∧ Cond.static arraycopyName ∈ ax_wt ∧ Cond.initialized "java/lang/System" ∈ ax_wt) (h0 : sh[i0]? = some (1, n0, rs0)) (h1 : sh[i1]? = some (1, n1, rs1)) (hn : ¬ n < 0) (hk : n.toNatClampNeg = k) (hl0 : k ≤ n0) (hl1 : k ≤ n1) (hd1 : 1 ≤ d) (hst : (st.map fun v => v.category).sum ≤ 8) (kk : ax_R d B y (pc + 3) ls st sh (fun a => if a = i1 then va_cpy (m i0) (m i1) 0 0 k else m a) Q) : ax_R d B y pc ls (.int n :: .int 0 :: .ref i1 :: .int 0 :: .ref i0 :: st) sh m Q := by
  intro p l e R s mm args below meth c G b0 b1 H locs lsA T
  have hf := T.1.2.2.2.2.2.2.2.2.2.1
  have hlo := T.1.2.2.2.2.2.2.2.2.2.2.1
  show W _ _ _ _ _ _ _ _ _ _ _ _ _ _ _ (F0 _ pc _ (.int n :: .int 0 :: .ref (ax_ad G i1) :: .int 0 :: .ref (ax_ad G i0) :: st.map (ax_cv G)))
  rw [ax_ilt T.2.1 h0, ax_ilt T.2.1 h1]
  refine va_copyi (rest := st.map (ax_cv G)) (tys := ax_tys G) (ty := .int) T.1.1 T.1.2.1 (T.1.2.2.2.1.trans (ax_sz T).symm) T.1.2.2.2.2.1 (T.1.2.2.2.2.2.1 _ hw) (T.1.2.2.2.2.2.1 _ hw2.1) (T.1.2.2.2.2.2.1 _ hw2.2.1) (T.1.2.2.2.2.2.1 _ hw2.2.2) T.1.2.2.2.2.2.2.2.2.1.1 T.2.1.2 (ax_D G sh m) T.2.2.1 i0 i1 0 0 (ax_w_at (G := G) (m := m) h0) (ax_w_at (G := G) (m := m) h1) rfl rfl rfl (by decide) (by decide) hn (by rw [hk]; exact Nat.le_trans (by simp) hl0) (by rw [hk]; exact Nat.le_trans (by simp) hl1) (fun _ _ => rfl) (by omega) ?_ hd ?_
  · rw [ax_catm]
    have : nativeFrameWords "java/lang/System" "arraycopy" 5 + 11 ≤ 32 := by decide +kernel
    omega
  · intro H1 locs1 hP _ hS
    have := (T.put (m' := fun a => if a = i1 then va_cpy (m i0) (m i1) 0 0 k else m a) (o' := (1, n1, rs1)) h1 rfl (by
      show Sum.inl (G.2.2.1 0, n1, Sum.inl (va_cpy (m i0) (m i1) (0 : Int32).toNatClampNeg (0 : Int32).toNatClampNeg n.toNatClampNeg)) = Sum.inl (G.2.2.1 0, n1, Sum.inl (if i1 = i1 then va_cpy (m i0) (m i1) 0 0 k else m i1))
      rw [if_pos rfl, hk]
      rfl) (fun a h => if_neg h) hP hS).1
    rw [ax_set_self h1] at this
    exact kk.at this
end AXN
