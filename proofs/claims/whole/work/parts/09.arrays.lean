/-! the rows of arrays, and those that make cells -/
section AXA
variable {d : Nat} {B : Nat × Nat} {y : ax_Y} {pc : Nat} {ls : ax_L} {st : List Value} {sh : ax_S} {m : ax_M} {Q : ax_P}
theorem r_iald {i n : Nat} {rs : List (Option (Option Nat))} {j : Int32} (hd : decode y.2.1 pc = .ok (.iaload, 1)) (ho : sh[i]? = some (1, n, rs)) (hin : vp_in j n) (kk : ax_R d B y (pc + 1) ls (.int (m i j.toNatClampNeg) :: st) sh m Q) : ax_R d B y pc ls (.int j :: .ref i :: st) sh m Q := by
  intro p l e R s mm args below meth c G b0 b1 H locs lsA T
  show W _ _ _ _ _ _ _ _ _ _ _ _ _ _ _ (F0 _ pc _ (.int j :: .ref (ax_ad G i) :: st.map (ax_cv G)))
  rw [ax_ilt T.2.1 ho]
  exact va_iald (tys := ax_tys G) T.1.1 T.1.2.1 T.1.2.2.2.2.2.2.2.2.1.1 T.2.1.2 i 0 (ax_w_at (G := G) (m := m) ho) rfl hin hd (kk.at T)
theorem r_zald {i n : Nat} {rs : List (Option (Option Nat))} {j : Int32} (hd : decode y.2.1 pc = .ok (.baload, 1)) (ho : sh[i]? = some (2, n, rs)) (hin : vp_in j n) (kk : ax_R d B y (pc + 1) ls (.int (m i j.toNatClampNeg) :: st) sh m Q) : ax_R d B y pc ls (.int j :: .ref i :: st) sh m Q := by
  intro p l e R s mm args below meth c G b0 b1 H locs lsA T
  show W _ _ _ _ _ _ _ _ _ _ _ _ _ _ _ (F0 _ pc _ (.int j :: .ref (ax_ad G i) :: st.map (ax_cv G)))
  rw [ax_ilt T.2.1 ho]
  exact va_zald (tys := ax_tys G) T.1.1 T.1.2.1 T.1.2.2.2.2.2.2.2.2.1.1 T.2.1.2 i 1 (ax_w_at (G := G) (m := m) ho) rfl hin hd (kk.at T)
theorem r_iast {i n : Nat} {rs : List (Option (Option Nat))} {j x : Int32} (hd : decode y.2.1 pc = .ok (.iastore, 1)) (ho : sh[i]? = some (1, n, rs)) (hin : vp_in j n) (kk : ax_R d B y (pc + 1) ls st sh (ax_up m i j.toNatClampNeg x) Q) : ax_R d B y pc ls (.int x :: .int j :: .ref i :: st) sh m Q := by
  intro p l e R s mm args below meth c G b0 b1 H locs lsA T
  show W _ _ _ _ _ _ _ _ _ _ _ _ _ _ _ (F0 _ pc _ (.int x :: .int j :: .ref (ax_ad G i) :: st.map (ax_cv G)))
  rw [ax_ilt T.2.1 ho]
  refine va_iast (tys := ax_tys G) T.1.1 T.1.2.1 T.1.2.2.2.2.2.2.2.2.1.1 T.2.1.2 (ax_D G sh m) T.2.2.1 i 0 (ax_w_at (G := G) (m := m) ho) rfl hin hd (fun H1 locs1 hP _ hS => ?_)
  have := (T.put (m' := ax_up m i j.toNatClampNeg x) (o' := (1, n, rs)) ho rfl (by show _ = Sum.inl (G.2.2.1 0, n, Sum.inl (ax_up m i j.toNatClampNeg x i)); rw [ax_up_i]) (fun a h => ax_up_n m _ x h) hP hS).1
  rw [ax_set_self ho] at this
  exact kk.at this
theorem r_zast {i n : Nat} {rs : List (Option (Option Nat))} {j x x' : Int32} (hd : decode y.2.1 pc = .ok (.bastore, 1)) (ho : sh[i]? = some (2, n, rs)) (hin : vp_in j n) (hx : vp_nar .boolean x = x') (kk : ax_R d B y (pc + 1) ls st sh (ax_up m i j.toNatClampNeg x') Q) : ax_R d B y pc ls (.int x :: .int j :: .ref i :: st) sh m Q := by
  intro p l e R s mm args below meth c G b0 b1 H locs lsA T
  subst hx
  show W _ _ _ _ _ _ _ _ _ _ _ _ _ _ _ (F0 _ pc _ (.int x :: .int j :: .ref (ax_ad G i) :: st.map (ax_cv G)))
  rw [ax_ilt T.2.1 ho]
  refine va_zast (tys := ax_tys G) T.1.1 T.1.2.1 T.1.2.2.2.2.2.2.2.2.1.1 T.2.1.2 (ax_D G sh m) T.2.2.1 i 1 (ax_w_at (G := G) (m := m) ho) rfl hin hd (fun H1 locs1 hP _ hS => ?_)
  have := (T.put (m' := ax_up m i j.toNatClampNeg (vp_nar .boolean x)) (o' := (2, n, rs)) ho rfl (by show _ = Sum.inl (G.2.2.1 1, n, Sum.inl (ax_up m i j.toNatClampNeg _ i)); rw [ax_up_i]) (fun a h => ax_up_n m _ _ h) hP hS).1
  rw [ax_set_self ho] at this
  exact kk.at this
theorem r_alen {i n k : Nat} {rs : List (Option (Option Nat))} {v : Int32} (hd : decode y.2.1 pc = .ok (.arraylength, 1)) (ho : sh[i]? = some (k + 1, n, rs)) (hv : Int32.ofNat n = v) (kk : ax_R d B y (pc + 1) ls (.int v :: st) sh m Q) : ax_R d B y pc ls (.ref i :: st) sh m Q := by
  intro p l e R s mm args below meth c G b0 b1 H locs lsA T
  show W _ _ _ _ _ _ _ _ _ _ _ _ _ _ _ (F0 _ pc _ (.ref (ax_ad G i) :: st.map (ax_cv G)))
  rw [ax_ilt T.2.1 ho]
  have he := ax_w_at (G := G) (m := m) ho
  match k, he with
  | 0, he => exact va_alen (tys := ax_tys G) T.1.1 T.1.2.1 T.1.2.2.2.2.2.2.2.2.1.1 T.2.1.2 i 0 he rfl hv hd (kk.at T)
  | 1, he => exact va_alen (tys := ax_tys G) T.1.1 T.1.2.1 T.1.2.2.2.2.2.2.2.2.1.1 T.2.1.2 i 1 he rfl hv hd (kk.at T)
  | k + 2, he => exact va_alen (tys := ax_tys G) T.1.1 T.1.2.1 T.1.2.2.2.2.2.2.2.2.1.1 T.2.1.2 i 2 he rfl hv hd (kk.at T)
theorem r_aald {i n q : Nat} {rs : List (Option (Option Nat))} {j : Int32} (hd : decode y.2.1 pc = .ok (.aaload, 1)) (ho : sh[i]? = some (3, n, rs)) (hin : vp_in j n) (hq : (rs.getD j.toNatClampNeg none).getD none = some q) (kk : ax_R d B y (pc + 1) ls (.ref q :: st) sh m Q) : ax_R d B y pc ls (.int j :: .ref i :: st) sh m Q := by
  intro p l e R s mm args below meth c G b0 b1 H locs lsA T
  show W _ _ _ _ _ _ _ _ _ _ _ _ _ _ _ (F0 _ pc _ (.int j :: .ref (ax_ad G i) :: st.map (ax_cv G)))
  rw [ax_ilt T.2.1 ho]
  refine va_aldq (tys := ax_tys G) T.1.1 T.1.2.1 T.1.2.2.2.2.2.2.2.2.1.1 T.2.1.2 i 2 (ax_w_at (G := G) (m := m) ho) rfl hin hd ?_
  rw [show ax_q G rs j.toNatClampNeg = some (ax_ad G q) by rw [ax_q, hq]; rfl]
  exact kk.at T
theorem r_aast {i n q : Nat} {rs ro : List (Option (Option Nat))} {j : Int32} {sh' : ax_S} (hd : decode y.2.1 pc = .ok (.aastore, 1)) (ho : sh[i]? = some (3, n, rs)) (hv : sh[q]? = some (0, 1, ro)) (hin : vp_in j n) (hl : j.toNatClampNeg < rs.length) (hs : sh.set i (3, n, rs.set j.toNatClampNeg (some (some q))) = sh') (kk : ax_R d B y (pc + 1) ls st sh' m Q) : ax_R d B y pc ls (.ref q :: .int j :: .ref i :: st) sh m Q := by
  intro p l e R s mm args below meth c G b0 b1 H locs lsA T
  show W _ _ _ _ _ _ _ _ _ _ _ _ _ _ _ (F0 _ pc _ (.ref (ax_ad G q) :: .int j :: .ref (ax_ad G i) :: st.map (ax_cv G)))
  rw [ax_ilt T.2.1 ho, ax_ilt T.2.1 hv]
  refine va_astq (tys := ax_tys G) (r := (RX1, TX1, 13)) T.1.1 T.1.2.1 T.1.2.2.2.2.2.2.2.2.1.1 T.2.1.2 (ax_D G sh m) T.2.2.1 i 2 q 1 (ax_w_at (G := G) (m := m) ho) rfl (ax_w_at (G := G) (m := m) hv) rfl hin hd (fun H1 locs1 hP _ hS => ?_)
  obtain ⟨T1, e1, e2⟩ := T.put (m' := m) (o' := (3, n, rs.set j.toNatClampNeg (some (some q)))) ho (by simp [ax_n]) (by
    show _ = Sum.inl (G.2.2.1 2, n, Sum.inr (Sum.inr (Sum.inr (Sum.inr (ax_q G (rs.set j.toNatClampNeg (some (some q))))))))
    congr 7
    funext k
    by_cases hk : k = j.toNatClampNeg
    · subst hk
      simp [va_up, ax_q, List.getD_eq_getElem?_getD, List.getElem?_set_self hl, ax_ilt T.2.1 hv]
    · simp [va_up, hk, ax_q, List.getD_eq_getElem?_getD, List.getElem?_set_ne (Ne.symm hk)]) (fun a h => rfl) hP hS
  rw [hs] at T1 e1 e2
  have := kk.at (l := l) (e := e) (below := below) T1
  rw [e1, e2] at this
  exact this
/-- the world with one cell more -/
theorem ax_w_push {G : ax_G} {o : ax_O} : ax_w G (sh ++ [o]) m = ax_w G sh m ++ [(G.1 + sh.length, ax_e G m sh.length o)] := by
  simp [ax_w, List.mapIdx_append]
theorem ax_sl_push {o : ax_O} : ax_sl (sh ++ [o]) = ax_sl sh + ax_n o := by simp [ax_sl]
/-- behind a making: where the new cell lies -/
theorem ax_made {p : Program} {l : Launch} {e : Env} {R : Room} {s : State} {mm : MethodId} {args : Array Value} {below : List Frame} {meth : Method} {c : Code} {G : ax_G} {b0 b1 : Nat} {H H1 : Heap} {locs : List Loc} {lsA : Array Slot} {o : ax_O} {x : va_E} {q pc' : Nat}
    (T : ax_T p R s mm args meth c G b0 b1 H locs lsA d B y ls sh m) (hx : x = ax_e G m sh.length o) (hB : sh.length + 1 ≤ B.1 ∧ ax_sl sh + ax_n o ≤ B.2) (hlt : sh.length < 1000) (kk : ax_R d B y pc' ls (.ref sh.length :: st) (sh ++ [o]) m Q)
    (hP : va_P G.2.1 ax_cl (ax_w G sh m ++ [(q, x)]) H1) (hD : va_D (ax_A G) (ax_w G sh m ++ [(q, x)])) (hS : va_S (ax_A G) s.heap H1 locs) : W p l e R s mm args below meth c H1 locs (sh.length - b0 + 1) (ax_sl sh - b1 + ax_n o) (MQ below (ax_Qc G Q) args s (B.1 - b0) (B.2 - b1) (ax_A G)) (F0 mm pc' lsA (.ref q :: st.map (ax_cv G))) := by
  intro T' hT X
  obtain ⟨F, ⟨z2, z3⟩, -, hl, h1, h2, h3, h4⟩ := T
  have hz := X.heapSize
  rw [hT, F.2.2.2.2.2.2.2.2.2.2.2.2.2] at hz
  have hwl : (ax_w G sh m).length = sh.length := by simp [ax_w]
  have hqat : (ax_w G sh m ++ [(q, x)])[sh.length]? = some (q, x) := by rw [List.getElem?_append_right (by omega), hwl, Nat.sub_self]; rfl
  have hql : q < H1.size := (hP _ _ hqat).lt
  have hqA : G.1 ≤ q := hD.2 _ _ hqat
  have hq : q = G.1 + sh.length := by
    rcases Nat.lt_or_ge q (G.1 + sh.length) with hlt2 | hge
    · exfalso
      obtain ⟨i, rfl⟩ := Nat.exists_eq_add_of_le hqA
      have hi : i < sh.length := by omega
      obtain ⟨oi, hoi⟩ : ∃ oi, sh[i]? = some oi := ⟨sh[i], List.getElem?_eq_getElem hi⟩
      have hat : (ax_w G sh m ++ [(G.1 + i, x)])[i]? = some (G.1 + i, ax_e G m i oi) := by rw [List.getElem?_append_left (by omega)]; exact ax_w_at hoi
      have := hD.1 i sh.length _ _ hat hqat rfl
      omega
    · omega
  subst hq
  subst hx
  rw [← ax_w_push] at hP
  have el : (sh ++ [o]).length = sh.length + 1 := by simp
  have T1 : ax_T p R s mm args meth c G b0 b1 H1 locs lsA d B y ls (sh ++ [o]) m := ⟨F, ⟨by rw [el]; omega, hP⟩, hS, hl, by rw [el]; omega, by rw [ax_sl_push]; omega, by rw [el]; omega, by rw [ax_sl_push]; omega⟩
  have k1 := kk.at (l := l) (e := e) (below := below) T1
  rw [el, ax_sl_push, show sh.length + 1 - b0 = sh.length - b0 + 1 by omega, show ax_sl sh + ax_n o - b1 = ax_sl sh - b1 + ax_n o by omega] at k1
  simp only [List.map_cons, ax_cv, ax_adlt hlt] at k1
  exact k1 T' hT X
def ax_dv (r : Option (Option Nat)) : Value := match r with
  | none => .int 0
  | _ => .null
theorem r_new {idx ci : Nat} {C : String} {Tb : u_T} {N : Nat} {rs : List (Option (Option Nat))} (ty : Nat → FieldType) (hd : decode y.2.1 pc = .ok (.new idx, 3)) (hc : ax_cl[ci]? = some (C, Tb, N)) (hin : ∀ w ∈ u_ws C Tb N, w ∈ ax_wt) (hty : ∀ k, k < N → parseFieldDescriptor (Tb k).2.2.1 = some (ty k)) (hw : Cond.classLink y.1.cls idx C ∈ ax_wt ∧ Cond.instantiable C N ∈ ax_wt ∧ Cond.initialized C ∈ ax_wt) (hN : rs.length = N) (hr : ∀ j, j < N → (rs.getD j none = none ∨ rs.getD j none = some none) ∧ defaultValue (ty j) = ax_dv (rs.getD j none)) (hm : ∀ j, m sh.length j = 0) (hB : sh.length + 1 ≤ B.1 ∧ ax_sl sh + N ≤ B.2) (hlt : sh.length < 1000) (kk : ax_R d B y (pc + 3) ls (.ref sh.length :: st) (sh ++ [(0, ci, rs)]) m Q) : ax_R d B y pc ls st sh m Q := by
  intro p l e R s mm args below meth c G b0 b1 H locs lsA T
  have hR : sh.length - b0 + 1 ≤ R.cells ∧ ax_sl sh - b1 + N ≤ R.slots := by
    have := T.1.2.2.2.2.2.2.2.2.2.2.2.1
    have := T.1.2.2.2.2.2.2.2.2.2.2.2.2.1
    have := T.2.2.2.2
    omega
  refine va_new (D := G.2.1) (fs := rs.mapIdx (fun j r => ax_f G m sh.length j r)) T.1.1 T.1.2.1 T.1.2.2.2.2.2.1 hin ty hty T.1.2.2.2.2.1 (T.1.2.2.2.2.2.1 _ hw.1) (T.1.2.2.2.2.2.1 _ hw.2.1) (T.1.2.2.2.2.2.1 _ hw.2.2) T.1.2.2.2.2.2.2.2.2.1.1 T.2.1.2 (ax_D G sh m) T.2.2.1 (fun q hq => Nat.le_trans T.1.2.2.2.2.2.2.2.2.1.2.2.2 hq) hc ?_ hR.1 hR.2 hd ?_
  · intro j hj
    obtain ⟨h1, h2⟩ := hr j hj
    rw [h2]
    have hjl : j < rs.length := by omega
    have e1 : rs.getD j none = rs[j] := by simp [List.getD_eq_getElem?_getD, hjl]
    rw [e1] at h1 ⊢
    simp only [vp_V, List.getD_eq_getElem?_getD, List.getElem?_mapIdx, List.getElem?_eq_getElem hjl, Option.map_some, Option.getD_some]
    rcases h1 with h1 | h1 <;> rw [h1]
    · simp [ax_dv, ax_f, hm]
    · rfl
  · intro q H1 hP hD hS
    have h := ax_made (l := l) (e := e) (below := below) (o := (0, ci, rs)) T rfl (by rw [show ax_n (0, ci, rs) = N from hN]; exact hB) hlt kk hP hD hS
    rw [show ax_n (0, ci, rs) = N from hN] at h
    exact h
end AXA
