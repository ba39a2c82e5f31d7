/-! THE LOGIC: a method's run over an abstract memory. Cells are numbered from 0 in the order in which they were made; cell k lies at address base + k. What ints cells hold is one function of cell and slot; what references they hold is the shape. -/
/-- a cell's shape: 0, its class's number, for each field none (an int) or the reference that it holds; 1, length: an int array; 2, length: a boolean array; 3, length, the references: an array of Gorges -/
abbrev ax_O : Type := Nat × Nat × List (Option (Option Nat))
abbrev ax_S : Type := List ax_O
/-- base; the classes' numbers and slots; the arrays' classes; the String constants' addresses, and their arrays' -/
abbrev ax_G : Type := Nat × va_G × (Nat → ClassId) × (Nat → Nat) × (Nat → Nat)
abbrev ax_L : Type := List (Option Value)
abbrev ax_P : Type := Option Value → ax_S → ax_M → Prop
/-- where a number lies: below 1000 a cell of ours; from there the String constants, their arrays; from 3000 on any address -/
def ax_ad (G : ax_G) (k : Nat) : Nat := if k < 1000 then G.1 + k else if k < 2000 then G.2.2.2.1 (k - 1000) else if k < 3000 then G.2.2.2.2 (k - 2000) else k - 3000
def ax_cv (G : ax_G) (v : Value) : Value := match v with
  | .ref k => .ref (ax_ad G k)
  | v => v
def ax_f (G : ax_G) (m : ax_M) (i j : Nat) (r : Option (Option Nat)) : Value := match r with
  | none => .int (m i j)
  | some none => .null
  | some (some k) => .ref (ax_ad G k)
def ax_q (G : ax_G) (rs : List (Option (Option Nat))) (j : Nat) : Option Nat := ((rs.getD j none).getD none).map (ax_ad G)
def ax_e (G : ax_G) (m : ax_M) (i : Nat) (o : ax_O) : va_E := match o.1 with
  | 0 => .inr (o.2.1, o.2.2.mapIdx (fun j r => ax_f G m i j r))
  | 1 => .inl (G.2.2.1 0, o.2.1, .inl (m i))
  | 2 => .inl (G.2.2.1 1, o.2.1, .inl (m i))
  | _ => .inl (G.2.2.1 2, o.2.1, .inr (.inr (.inr (.inr (ax_q G o.2.2)))))
def ax_w (G : ax_G) (sh : ax_S) (m : ax_M) : va_W := sh.mapIdx (fun i o => (G.1 + i, ax_e G m i o))
def ax_tys (G : ax_G) : List (ClassId × FieldType) := [(G.2.2.1 0, .int), (G.2.2.1 1, .boolean), (G.2.2.1 2, .object RX1)]
def ax_A (G : ax_G) : Nat → Prop := fun q => G.1 ≤ q
def ax_Wd (G : ax_G) (sh : ax_S) (m : ax_M) (H : Heap) : Prop := sh.length ≤ 1000 ∧ va_P G.2.1 ax_cl (ax_w G sh m) H
/-- how many slots a cell has -/
def ax_n (o : ax_O) : Nat := match o.1 with
  | 0 => o.2.2.length
  | _ => o.2.1
def ax_sl (sh : ax_S) : Nat := (sh.map ax_n).sum
/-- the words of the reader: their places in its pool, their texts -/
def ax_tx : List (Nat × String) := [(97, "banks"), (106, "stone"), (111, "heap"), (116, "bridge"), (121, "one"), (126, "meet"), (139, "plain"), (141, "exile"), (143, "carrier"), (145, "child"), (147, "stout")]
def ax_tl : List Nat := [5, 5, 4, 6, 3, 4, 5, 5, 7, 5, 5]
def ax_tb : List (List Int32) := [[98, 97, 110, 107, 115], [115, 116, 111, 110, 101], [104, 101, 97, 112], [98, 114, 105, 100, 103, 101], [111, 110, 101], [109, 101, 101, 116], [112, 108, 97, 105, 110], [101, 120, 105, 108, 101], [99, 97, 114, 114, 105, 101, 114], [99, 104, 105, 108, 100], [115, 116, 111, 117, 116]]
def ax_Ks (G : ax_G) (U : State) : Prop := (∀ (j : Nat) (q : Nat × String), ax_tx[j]? = some q → vk_R RX4 q.1 q.2 (G.2.2.2.1 j) U) ∧ vk_S 11 ax_tl ax_tb G.2.2.2.1 G.2.2.2.2 (ax_A G) U U.heap ∧ va_Z "java/lang/String" "COMPACT_STRINGS" "Z" (.int 1) (ax_A G) U U.heap ∧ va_Zq "jdk/internal/util/Preconditions" "SIOOBE_FORMATTER" "Ljava/util/function/BiFunction;" (ax_A G) U U.heap
def ax_Kw (U : State) : Prop := (∀ w ∈ lw_tbl, ax_nw w = true → va_Nw w U) ∧ va_AO RX1 U
def ax_K (G : ax_G) (U : State) : Prop := va_K G.2.1 ax_cl (ax_tys G) U ∧ ax_Ks G U ∧ ax_Kw U ∧ G.1 ≤ U.heap.size
theorem ax_Kw.same {u U : State} (h : ax_Kw u) (hv : u.vm = U.vm) : ax_Kw U := ⟨fun w hw hn => va_Nw.same (by cases w <;> first | rfl | cases hn) hv (h.1 w hw hn), va_AO.moved (by rw [hv]; exact Vm.Alike.refl U.vm) h.2⟩
theorem ax_Kw.warm {s U : State} (h : ax_Kw s) (hW : s.WarmedH U.vm) : ax_Kw U := by
  refine ⟨fun w hw hn => ?_, va_AO.moved hW.alike h.2⟩
  have h1 := h.1 w hw hn
  cases w <;> first | exact va_Nw.warmF hW h1 | exact va_Nw.warmM hW h1 | cases hn
theorem ax_w_at {G : ax_G} {sh : ax_S} {m : ax_M} {i : Nat} {o : ax_O} (h : sh[i]? = some o) : (ax_w G sh m)[i]? = some (G.1 + i, ax_e G m i o) := by
  simp [ax_w, h]
theorem ax_w_of {G : ax_G} {sh : ax_S} {m : ax_M} {i : Nat} {q : Nat × va_E} (h : (ax_w G sh m)[i]? = some q) : ∃ o, sh[i]? = some o ∧ q = (G.1 + i, ax_e G m i o) := by
  simp only [ax_w, List.getElem?_mapIdx] at h
  cases ho : sh[i]? with
  | none => rw [ho] at h; cases h
  | some o => rw [ho] at h; exact ⟨o, rfl, (Option.some.inj h).symm⟩
theorem ax_D (G : ax_G) (sh : ax_S) (m : ax_M) : va_D (ax_A G) (ax_w G sh m) := by
  refine ⟨fun i j p q hp hq e => ?_, fun k q hq => ?_⟩
  · obtain ⟨_, _, rfl⟩ := ax_w_of hp
    obtain ⟨_, _, rfl⟩ := ax_w_of hq
    dsimp only at e
    omega
  · obtain ⟨_, _, rfl⟩ := ax_w_of hq
    exact Nat.le_add_right _ _
theorem ax_K.calling {G : ax_G} {U : State} {g : JFrame} {mk : MethodId} {a : Array Value} (h : ax_K G U) : ax_K G (U.calling g mk a) := by
  obtain ⟨h1, ⟨h2, h3, h4, h5⟩, hw, h6⟩ := h
  exact ⟨va_K.moved (u := U) (U := U.calling g mk a) (Vm.Alike.refl U.vm) h1, ⟨fun j q hj => (h2 j q hj).same rfl, vk_S.moved (u := U) (U := U.calling g mk a) (Vm.Alike.refl U.vm) h3, va_Z.moved (u := U) (U := U.calling g mk a) (Vm.Alike.refl U.vm) h4, va_Zq.moved (u := U) (U := U.calling g mk a) (Vm.Alike.refl U.vm) h5⟩, hw.same rfl, h6⟩
theorem ax_K.warm {G : ax_G} {s U : State} (h : ax_K G s) (hW : s.WarmedH U.vm) (hz : s.heap.size ≤ U.heap.size) (hk : ∀ q : Nat, q < s.heap.size → ¬ ax_A G q → U.heap[q]? = s.heap[q]?) : ax_K G U := by
  obtain ⟨h1, ⟨h2, h3, h4, h5⟩, hw, h6⟩ := h
  exact ⟨va_K.moved hW.alike h1, ⟨fun j q hj => (h2 j q hj).warm hW, (vk_S.moved hW.alike h3).kept hk, (va_Z.moved hW.alike h4).kept hk, (va_Zq.moved hW.alike h5).kept hk⟩, hw.warm hW, Nat.le_trans h6 hz⟩
/-- the listed locals -/
def ax_al (G : ax_G) : Nat → ax_L → List (Nat × Value)
  | _, [] => []
  | i, none :: ls => ax_al G (i + 1) ls
  | i, some v :: ls => (i, ax_cv G v) :: ax_al G (i + 1) ls
theorem ax_al_mem {G : ax_G} : ∀ {ls : ax_L} {i : Nat} {q : Nat × Value}, q ∈ ax_al G i ls ↔ ∃ (k : Nat) (v : Value), ls[k]? = some (some v) ∧ q = (i + k, ax_cv G v)
  | [], i, q => by simp [ax_al]
  | none :: ls, i, q => by
    rw [ax_al, ax_al_mem]
    constructor
    · rintro ⟨k, v, h, rfl⟩
      exact ⟨k + 1, v, by simpa using h, by rw [Nat.add_assoc, Nat.add_comm 1 k]⟩
    · rintro ⟨k, v, h, rfl⟩
      cases k with
      | zero => simp at h
      | succ k => exact ⟨k, v, by simpa using h, by rw [Nat.add_assoc, Nat.add_comm 1 k]⟩
  | some w :: ls, i, q => by
    rw [ax_al, List.mem_cons, ax_al_mem]
    constructor
    · rintro (rfl | ⟨k, v, h, rfl⟩)
      · exact ⟨0, w, rfl, rfl⟩
      · exact ⟨k + 1, v, by simpa using h, by rw [Nat.add_assoc, Nat.add_comm 1 k]⟩
    · rintro ⟨k, v, h, rfl⟩
      cases k with
      | zero => left; simp at h; rw [h]; rfl
      | succ k => right; exact ⟨k, v, by simpa using h, by rw [Nat.add_assoc, Nat.add_comm 1 k]⟩
/-- the machine in method y: what stays through its run -/
def ax_F (p : Program) (R : Room) (s : State) (mm : MethodId) (args : Array Value) (meth : Method) (c : Code) (G : ax_G) (b0 b1 : Nat) (d : Nat) (B : Nat × Nat) (y : ax_Y) : Prop :=
  p.tables.exec = Jvm.exec ∧ c.code = y.2.1 ∧ meth.sig.returnType = y.2.2.2 ∧ c.maxLocals = y.2.2.1 ∧ s.vm.findClass y.1.cls = some mm.cls ∧ (∀ w ∈ ax_wt, w.before args s = true) ∧ meth.locks = false ∧ meth.name = y.1.name ∧ ax_K G s ∧ d ≤ R.frames ∧ 40 * d ≤ R.locals ∧ R.cells = B.1 - b0 ∧ R.slots = B.2 - b1 ∧ s.heap.size = G.1 + b0
def ax_T (p : Program) (R : Room) (s : State) (mm : MethodId) (args : Array Value) (meth : Method) (c : Code) (G : ax_G) (b0 b1 : Nat) (H : Heap) (locs : List Loc) (lsA : Array Slot) (d : Nat) (B : Nat × Nat) (y : ax_Y) (ls : ax_L) (sh : ax_S) (m : ax_M) : Prop :=
  ax_F p R s mm args meth c G b0 b1 d B y ∧ ax_Wd G sh m H ∧ va_S (ax_A G) s.heap H locs ∧ lv_has lsA y.2.2.1 (ax_al G 0 ls) ∧ b0 ≤ sh.length ∧ b1 ≤ ax_sl sh ∧ sh.length ≤ B.1 ∧ ax_sl sh ≤ B.2
def ax_Qc (G : ax_G) (Q : ax_P) : Array Value → State → Outcome → State → Prop := fun _ st oc t => (∃ (r : Option Value) (sh : ax_S) (m : ax_M), oc = .returned (r.map (ax_cv G)) ∧ Q r sh m ∧ ax_Wd G sh m t.heap) ∧ va_F (ax_A G) st t
/-- THE JUDGEMENT: method y, at pc, with these locals, this stack, this memory, comes to its end, and Q holds of its answer and the memory then; d: how many frames it may need; B: how many cells and slots there are at most then -/
def ax_R (d : Nat) (B : Nat × Nat) (y : ax_Y) (pc : Nat) (ls : ax_L) (st : List Value) (sh : ax_S) (m : ax_M) (Q : ax_P) : Prop :=
  ∀ (p : Program) (l : Launch) (e : Env) (R : Room) (s : State) (mm : MethodId) (args : Array Value) (below : List Frame) (meth : Method) (c : Code) (G : ax_G) (b0 b1 : Nat) (H : Heap) (locs : List Loc) (lsA : Array Slot),
    ax_T p R s mm args meth c G b0 b1 H locs lsA d B y ls sh m →
    W p l e R s mm args below meth c H locs (sh.length - b0) (ax_sl sh - b1) (MQ below (ax_Qc G Q) args s (B.1 - b0) (B.2 - b1) (ax_A G)) (F0 mm pc lsA (st.map (ax_cv G)))
theorem ax_R.at {d : Nat} {B : Nat × Nat} {y : ax_Y} {pc : Nat} {ls : ax_L} {st : List Value} {sh : ax_S} {m : ax_M} {Q : ax_P} (h : ax_R d B y pc ls st sh m Q) {p : Program} {l : Launch} {e : Env} {R : Room} {s : State} {mm : MethodId} {args : Array Value} {below : List Frame} {meth : Method} {c : Code} {G : ax_G} {b0 b1 : Nat} {H : Heap} {locs : List Loc} {lsA : Array Slot} (T : ax_T p R s mm args meth c G b0 b1 H locs lsA d B y ls sh m) : W p l e R s mm args below meth c H locs (sh.length - b0) (ax_sl sh - b1) (MQ below (ax_Qc G Q) args s (B.1 - b0) (B.2 - b1) (ax_A G)) (F0 mm pc lsA (st.map (ax_cv G))) := h _ _ _ _ _ _ _ _ _ _ _ _ _ _ _ _ T
/-- the locals with which a method begins -/
def ax_a1 : List Value → ax_L
  | [] => []
  | v :: vs => if v.category = 2 then some v :: none :: ax_a1 vs else some v :: ax_a1 vs
def ax_as (n : Nat) (vs : List Value) : ax_L := ax_a1 vs ++ List.replicate (n - (ax_a1 vs).length) none
def ax_RM (d : Nat) (B : Nat × Nat) (y : ax_Y) (vs : List Value) (sh : ax_S) (m : ax_M) (Q : ax_P) : Prop := ax_R d B y 0 (ax_as y.2.2.1 vs) [] sh m Q
