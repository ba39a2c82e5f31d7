/-! the rows that read and write cells -/
def ax_up (m : ax_M) (i k : Nat) (x : Int32) : ax_M := fun a => if a = i then upd (m a) k x else m a
theorem ax_up_i (m : ax_M) (i k : Nat) (x : Int32) : ax_up m i k x i = upd (m i) k x := by simp [ax_up]
theorem ax_up_n (m : ax_M) {i a : Nat} (k : Nat) (x : Int32) (h : ¬ a = i) : ax_up m i k x a = m a := by simp [ax_up, h]
/-- the world with one cell changed -/
theorem ax_w_set {G : ax_G} {sh : ax_S} {m m' : ax_M} {i : Nat} {o o' : ax_O} {x : va_E} (ho : sh[i]? = some o) (hx : x = ax_e G m' i o') (hm : ∀ a, ¬ a = i → m' a = m a) : (ax_w G sh m).set i (G.1 + i, x) = ax_w G (sh.set i o') m' := by
  subst hx
  apply List.ext_getElem?
  intro k
  have hl := (List.getElem?_eq_some_iff.mp ho).1
  by_cases hk : k = i
  · subst hk
    rw [List.getElem?_set_self (by simpa [ax_w] using hl)]
    exact (ax_w_at (by rw [List.getElem?_set_self hl])).symm
  · rw [List.getElem?_set_ne (Ne.symm hk)]
    simp only [ax_w, List.getElem?_mapIdx, List.getElem?_set_ne (Ne.symm hk)]
    cases h : sh[k]? with
    | none => rfl
    | some w =>
      simp only [Option.map_some]
      congr 2
      unfold ax_e ax_f
      rw [hm k hk]
theorem ax_set_self {sh : ax_S} {i : Nat} {o : ax_O} (ho : sh[i]? = some o) : sh.set i o = sh := by
  apply List.ext_getElem?
  intro k
  by_cases hk : k = i
  · subst hk
    rw [List.getElem?_set_self (List.getElem?_eq_some_iff.mp ho).1, ho]
  · rw [List.getElem?_set_ne (Ne.symm hk)]
theorem ax_adlt {G : ax_G} {i : Nat} (h : i < 1000) : ax_ad G i = G.1 + i := by simp [ax_ad, h]
section AXH
variable {d : Nat} {B : Nat × Nat} {y : ax_Y} {pc : Nat} {ls : ax_L} {st : List Value} {sh : ax_S} {m : ax_M} {Q : ax_P}
def ax_fv (m : ax_M) (i k : Nat) (r : Option (Option Nat)) : Value := match r with
  | none => .int (m i k)
  | some none => .null
  | some (some q) => .ref q
theorem ax_fv_cv (G : ax_G) (i k : Nat) (r : Option (Option Nat)) : ax_cv G (ax_fv m i k r) = ax_f G m i k r := by
  cases r with
  | none => rfl
  | some r => cases r <;> rfl
theorem ax_ilt {G : ax_G} {H : Heap} (h : ax_Wd G sh m H) {i : Nat} {o : ax_O} (ho : sh[i]? = some o) : ax_ad G i = G.1 + i := ax_adlt (Nat.lt_of_lt_of_le (List.getElem?_eq_some_iff.mp ho).1 h.1)
theorem r_get {idx ci k i : Nat} {rs : List (Option (Option Nat))} {r : Option (Option Nat)} (hd : decode y.2.1 pc = .ok (.getfield idx, 3)) (fl : ax_fl y.1.cls idx ci k) (ho : sh[i]? = some (0, ci, rs)) (hr : rs[k]? = some r) (kk : ax_R d B y (pc + 3) ls (ax_fv m i k r :: st) sh m Q) : ax_R d B y pc ls (.ref i :: st) sh m Q := by
  intro p l e R s mm args below meth c G b0 b1 H locs lsA T
  obtain ⟨C, Tb, N, hc, hk, hin, hl⟩ := fl
  have h := kk.at (l := l) (e := e) (below := below) T
  simp only [List.map_cons, ax_fv_cv] at h
  show W _ _ _ _ _ _ _ _ _ _ _ _ _ _ _ (F0 _ pc _ (.ref (ax_ad G i) :: st.map (ax_cv G)))
  rw [ax_ilt T.2.1 ho]
  have he := ax_w_at (G := G) (m := m) ho
  have hv : (rs.mapIdx (fun j r => ax_f G m i j r))[k]? = some (ax_f G m i k r) := by simp [hr]
  rcases hl with hl | ⟨host, hl⟩
  · exact va_get T.1.1 T.1.2.1 T.1.2.2.2.2.2.1 hin T.1.2.2.2.2.1 T.1.2.2.2.2.2.2.2.2.1.1 T.2.1.2 i he hc k hk (T.1.2.2.2.2.2.1 _ hl) (fun _ h9 => h9) hv hd h
  · exact va_getN T.1.1 T.1.2.1 T.1.2.2.2.2.2.1 hin T.1.2.2.2.2.1 T.1.2.2.2.2.2.2.2.2.1.1 T.2.1.2 i he hc k hk (T.1.2.2.2.2.2.1 _ hl) (fun _ h9 => h9) hv hd h
theorem r_geti {idx ci k i : Nat} {rs : List (Option (Option Nat))} (hd : decode y.2.1 pc = .ok (.getfield idx, 3)) (fl : ax_fl y.1.cls idx ci k) (ho : sh[i]? = some (0, ci, rs)) (hr : rs[k]? = some none) (kk : ax_R d B y (pc + 3) ls (.int (m i k) :: st) sh m Q) : ax_R d B y pc ls (.ref i :: st) sh m Q := r_get hd fl ho hr kk
theorem r_getr {idx ci k i q : Nat} {rs : List (Option (Option Nat))} (hd : decode y.2.1 pc = .ok (.getfield idx, 3)) (fl : ax_fl y.1.cls idx ci k) (ho : sh[i]? = some (0, ci, rs)) (hr : rs[k]? = some (some (some q))) (kk : ax_R d B y (pc + 3) ls (.ref q :: st) sh m Q) : ax_R d B y pc ls (.ref i :: st) sh m Q := r_get hd fl ho hr kk
/-- what follows a store: the world with cell i as told -/
theorem ax_T.put {p : Program} {R : Room} {s : State} {mm : MethodId} {args : Array Value} {meth : Method} {c : Code} {G : ax_G} {b0 b1 : Nat} {H H1 : Heap} {locs locs1 : List Loc} {lsA : Array Slot} (T : ax_T p R s mm args meth c G b0 b1 H locs lsA d B y ls sh m) {m' : ax_M} {i : Nat} {o o' : ax_O} {x : va_E} (ho : sh[i]? = some o) (hn : ax_n o' = ax_n o) (hx : x = ax_e G m' i o') (hm : ∀ a, ¬ a = i → m' a = m a) (hP : va_P G.2.1 ax_cl ((ax_w G sh m).set i (G.1 + i, x)) H1) (hS : va_S (ax_A G) s.heap H1 locs1) : ax_T p R s mm args meth c G b0 b1 H1 locs1 lsA d B y ls (sh.set i o') m' ∧ (sh.set i o').length = sh.length ∧ ax_sl (sh.set i o') = ax_sl sh := by
  rw [ax_w_set ho hx hm] at hP
  obtain ⟨F, ⟨z2, z3⟩, -, hl, h1, h2, h3, h4⟩ := T
  have e1 : (sh.set i o').length = sh.length := List.length_set
  have e2 : ax_sl (sh.set i o') = ax_sl sh := by
    unfold ax_sl
    congr 1
    apply List.ext_getElem?
    intro k
    rw [List.getElem?_map, List.getElem?_map]
    by_cases hk : k = i
    · subst hk
      rw [List.getElem?_set_self (List.getElem?_eq_some_iff.mp ho).1, ho]
      simp [hn]
    · rw [List.getElem?_set_ne (Ne.symm hk)]
  exact ⟨⟨F, ⟨by rw [e1]; exact z2, hP⟩, hS, hl, by rw [e1]; exact h1, by rw [e2]; exact h2, by rw [e1]; exact h3, by rw [e2]; exact h4⟩, e1, e2⟩
theorem ax_mapset {G : ax_G} {rs : List (Option (Option Nat))} {i k : Nat} {x : Int32} (hr : rs[k]? = some none) : (rs.mapIdx (fun j r => ax_f G m i j r)).set k (.int x) = rs.mapIdx (fun j r => ax_f G (ax_up m i k x) i j r) := by
  apply List.ext_getElem?
  intro j
  by_cases hj : j = k
  · subst hj
    rw [List.getElem?_set_self (by simpa using (List.getElem?_eq_some_iff.mp hr).1), List.getElem?_mapIdx, hr]
    simp [ax_f, ax_up, upd]
  · rw [List.getElem?_set_ne (Ne.symm hj), List.getElem?_mapIdx, List.getElem?_mapIdx]
    cases rs[j]? with
    | none => rfl
    | some r =>
      cases r with
      | none => simp [ax_f, ax_up, upd, hj]
      | some r => cases r <;> rfl
theorem ax_mapsetr {G : ax_G} {rs : List (Option (Option Nat))} {i k q : Nat} (hl : k < rs.length) : (rs.mapIdx (fun j r => ax_f G m i j r)).set k (.ref (ax_ad G q)) = (rs.set k (some (some q))).mapIdx (fun j r => ax_f G m i j r) := by
  apply List.ext_getElem?
  intro j
  by_cases hj : j = k
  · subst hj
    rw [List.getElem?_set_self (by simpa using hl), List.getElem?_mapIdx, List.getElem?_set_self hl]
    rfl
  · rw [List.getElem?_set_ne (Ne.symm hj), List.getElem?_mapIdx, List.getElem?_mapIdx, List.getElem?_set_ne (Ne.symm hj)]
/-- an int or boolean field is written -/
theorem r_puti {idx ci k i : Nat} {x : Int32} {ty : FieldType} {rs : List (Option (Option Nat))} (hd : decode y.2.1 pc = .ok (.putfield idx, 3)) (fl : ax_fl y.1.cls idx ci k) (fp : ax_fp ci k ty false) (hn : narrow ty (.int x) = .int x) (hfit : fits ty (.int x) = true) (ho : sh[i]? = some (0, ci, rs)) (hr : rs[k]? = some none) (kk : ax_R d B y (pc + 3) ls st sh (ax_up m i k x) Q) : ax_R d B y pc ls (.int x :: .ref i :: st) sh m Q := by
  intro p l e R s mm args below meth c G b0 b1 H locs lsA T
  obtain ⟨C, Tb, N, hc, hk, hin, hl⟩ := fl
  obtain ⟨C', Tb', N', ty0, hc', hty, hnm, hfin, hpd, -⟩ := fp
  rw [hc] at hc'
  cases hc'
  show W _ _ _ _ _ _ _ _ _ _ _ _ _ _ _ (F0 _ pc _ (.int x :: .ref (ax_ad G i) :: st.map (ax_cv G)))
  rw [ax_ilt T.2.1 ho]
  have he := ax_w_at (G := G) (m := m) ho
  have hlen : k < (rs.mapIdx (fun j r => ax_f G m i j r)).length := by simpa using (List.getElem?_eq_some_iff.mp hr).1
  have fin : ∀ (H1 : Heap) (locs1 : List Loc), va_P G.2.1 ax_cl ((ax_w G sh m).set i (G.1 + i, .inr (ci, (rs.mapIdx (fun j r => ax_f G m i j r)).set k (.int x)))) H1 → va_D (ax_A G) ((ax_w G sh m).set i (G.1 + i, .inr (ci, (rs.mapIdx (fun j r => ax_f G m i j r)).set k (.int x)))) → va_S (ax_A G) s.heap H1 locs1 → W p l e R s mm args below meth c H1 locs1 (sh.length - b0) (ax_sl sh - b1) (MQ below (ax_Qc G Q) args s (B.1 - b0) (B.2 - b1) (ax_A G)) (F0 mm (pc + 3) lsA (st.map (ax_cv G))) := by
    intro H1 locs1 hP _ hS
    have := (T.put (m' := ax_up m i k x) (o' := (0, ci, rs)) ho rfl (by rw [ax_mapset hr]; rfl) (fun a h => ax_up_n m k x h) hP hS).1
    rw [ax_set_self ho] at this
    exact kk.at this
  rcases hl with hl | ⟨host, hl⟩
  · exact va_put T.1.1 T.1.2.1 T.1.2.2.2.2.2.1 hin ty0 hty hnm T.1.2.2.2.2.1 T.1.2.2.2.2.2.2.2.2.1.1 T.2.1.2 (ax_D G sh m) T.2.2.1 i he hc k hk (T.1.2.2.2.2.2.1 _ hl) (fun _ h9 => h9) hfin hpd hn hfit hlen hd fin
  · exact va_putN T.1.1 T.1.2.1 T.1.2.2.2.2.2.1 hin ty0 hty hnm T.1.2.2.2.2.1 T.1.2.2.2.2.2.2.2.2.1.1 T.2.1.2 (ax_D G sh m) T.2.2.1 i he hc k hk (T.1.2.2.2.2.2.1 _ hl) (fun _ h9 => h9) hfin hpd hn hfit hlen hd fin
/-- a final reference field is written in the constructor -/
theorem r_putr {idx ci k i q : Nat} {ty : FieldType} {rs : List (Option (Option Nat))} {sh' : ax_S} (hd : decode y.2.1 pc = .ok (.putfield idx, 3)) (hnm2 : y.1.name = "<init>") (fl : ax_fl y.1.cls idx ci k) (fp : ax_fp ci k ty true) (hown : ∀ q, ax_cl[ci]? = some q → q.1 = y.1.cls) (hn : ∀ a, narrow ty (.ref a) = .ref a) (hfit : ∀ a, fits ty (.ref a) = true) (hnl : ∀ host T, ax_cl[ci]? = some T → ¬ Cond.fieldLinkNest y.1.cls idx (T.2.1 k).1 (T.2.1 k).2.1 (T.2.1 k).2.2.1 host ∈ ax_wt) (ho : sh[i]? = some (0, ci, rs)) (hr : k < rs.length) (hs : sh.set i (0, ci, rs.set k (some (some q))) = sh') (kk : ax_R d B y (pc + 3) ls st sh' m Q) : ax_R d B y pc ls (.ref q :: .ref i :: st) sh m Q := by
  intro p l e R s mm args below meth c G b0 b1 H locs lsA T
  obtain ⟨C, Tb, N, hc, hk, hin, hl⟩ := fl
  obtain ⟨C', Tb', N', ty0, hc', hty, hnm, hfin, hpd, hdc⟩ := fp
  rw [hc] at hc'
  cases hc'
  have hoc := hown _ hc
  show W _ _ _ _ _ _ _ _ _ _ _ _ _ _ _ (F0 _ pc _ (.ref (ax_ad G q) :: .ref (ax_ad G i) :: st.map (ax_cv G)))
  rw [ax_ilt T.2.1 ho]
  have he := ax_w_at (G := G) (m := m) ho
  have hlen : k < (rs.mapIdx (fun j r => ax_f G m i j r)).length := by simpa using hr
  rcases hl with hl | ⟨host, hl⟩
  · refine va_putF T.1.1 T.1.2.1 T.1.2.2.2.2.2.1 hin ty0 hty hnm T.1.2.2.2.2.1 T.1.2.2.2.2.2.2.2.2.1.1 T.2.1.2 (ax_D G sh m) T.2.2.1 i he hc k hk (T.1.2.2.2.2.2.1 _ hl) (fun _ h9 => h9) hfin (T.1.2.2.2.2.2.2.2.1.trans hnm2) (hdc.trans hoc) hpd (hn _) (hfit _) hlen hd ?_
    intro H1 locs1 hP _ hS
    obtain ⟨T1, e1, e2⟩ := T.put (m' := m) (o' := (0, ci, rs.set k (some (some q)))) ho (by simp [ax_n]) (by rw [ax_mapsetr hr]; rfl) (fun a h => rfl) hP hS
    rw [hs] at T1 e1 e2
    have := kk.at (l := l) (e := e) (below := below) T1
    rw [e1, e2] at this
    exact this
  · exact absurd hl (hnl host _ hc)
end AXH
