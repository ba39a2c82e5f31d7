section AXR
variable {d : Nat} {B : Nat × Nat} {y : ax_Y} {pc : Nat} {ls : ax_L} {st : List Value} {sh : ax_S} {m : ax_M} {Q : ax_P}
theorem r_iconst {n : Int} {v : Int32} (hd : decode y.2.1 pc = .ok (.iconst n, 1)) (hv : Int32.ofInt n = v) (k : ax_R d B y (pc + 1) ls (.int v :: st) sh m Q) : ax_R d B y pc ls st sh m Q := by
  intro _ _ _ _ _ _ _ _ _ _ _ _ _ _ _ _ T
  exact lv_iconst T.1.1 T.1.2.1 hd hv (k.at T)
theorem r_bipush {n : Int} {v : Int32} (hd : decode y.2.1 pc = .ok (.bipush n, 2)) (hv : (Int8.ofInt n).toInt32 = v) (k : ax_R d B y (pc + 2) ls (.int v :: st) sh m Q) : ax_R d B y pc ls st sh m Q := by
  intro _ _ _ _ _ _ _ _ _ _ _ _ _ _ _ _ T
  exact lv_bipush T.1.1 T.1.2.1 hd hv (k.at T)
theorem r_sipush {n : Int} {v : Int32} (hd : decode y.2.1 pc = .ok (.sipush n, 3)) (hv : (Int16.ofInt n).toInt32 = v) (k : ax_R d B y (pc + 3) ls (.int v :: st) sh m Q) : ax_R d B y pc ls st sh m Q := by
  intro _ _ _ _ _ _ _ _ _ _ _ _ _ _ _ _ T
  exact lv_sipush T.1.1 T.1.2.1 hd hv (k.at T)
theorem r_lconst {n : Fin 2} {v : Int64} (hd : decode y.2.1 pc = .ok (.lconst n, 1)) (hv : Int64.ofNat (n : Nat) = v) (k : ax_R d B y (pc + 1) ls (.long v :: st) sh m Q) : ax_R d B y pc ls st sh m Q := by
  intro _ _ _ _ _ _ _ _ _ _ _ _ _ _ _ _ T
  exact lv_lconst T.1.1 T.1.2.1 hd hv (k.at T)
theorem r_null (hd : decode y.2.1 pc = .ok (.aconst_null, 1)) (k : ax_R d B y (pc + 1) ls (.null :: st) sh m Q) : ax_R d B y pc ls st sh m Q := by
  intro _ _ _ _ _ _ _ _ _ _ _ _ _ _ _ _ T
  exact lv_null T.1.1 T.1.2.1 hd (k.at T)
theorem r_ldc {i : Nat} {v : Int32} (hd : decode y.2.1 pc = .ok (.ldc i, 2)) (hw : Cond.constant y.1.cls i v ∈ ax_wt) (k : ax_R d B y (pc + 2) ls (.int v :: st) sh m Q) : ax_R d B y pc ls st sh m Q := by
  intro _ _ _ _ _ _ _ _ _ _ _ _ _ _ _ _ T
  exact lv_ldc T.1.1 T.1.2.1 T.1.2.2.2.2.1 (T.1.2.2.2.2.2.1 _ hw) hd (k.at T)
theorem r_ldcw {i : Nat} {v : Int32} (hd : decode y.2.1 pc = .ok (.ldc_w i, 3)) (hw : Cond.constant y.1.cls i v ∈ ax_wt) (k : ax_R d B y (pc + 3) ls (.int v :: st) sh m Q) : ax_R d B y pc ls st sh m Q := by
  intro _ _ _ _ _ _ _ _ _ _ _ _ _ _ _ _ T
  exact lv_ldcw T.1.1 T.1.2.1 T.1.2.2.2.2.1 (T.1.2.2.2.2.2.1 _ hw) hd (k.at T)
theorem r_ldc2 {i : Nat} {v : Int64} (hd : decode y.2.1 pc = .ok (.ldc2_w i, 3)) (hw : Cond.constantLong y.1.cls i v ∈ ax_wt) (k : ax_R d B y (pc + 3) ls (.long v :: st) sh m Q) : ax_R d B y pc ls st sh m Q := by
  intro _ _ _ _ _ _ _ _ _ _ _ _ _ _ _ _ T
  exact lv_ldc2 T.1.1 T.1.2.1 T.1.2.2.2.2.1 (T.1.2.2.2.2.2.1 _ hw) hd (k.at T)
theorem ax_ld {G : ax_G} {lsA : Array Slot} {n i : Nat} {v : Value} (h : lv_has lsA n (ax_al G 0 ls)) (hi : ls[i]? = some (some v)) : lsA[i]? = some (.val (ax_cv G v)) := h.2.2 (i, ax_cv G v) (ax_al_mem.mpr ⟨i, v, hi, by rw [Nat.zero_add]⟩)
theorem r_iload_n {k0 : Fin 4} {i : Nat} {x : Int32} (hd : decode y.2.1 pc = .ok (.iload_n k0, 1)) (hk : (k0 : Nat) = i) (hl : ls[i]? = some (some (.int x))) (k : ax_R d B y (pc + 1) ls (.int x :: st) sh m Q) : ax_R d B y pc ls st sh m Q := by
  intro _ _ _ _ _ _ _ _ _ _ _ _ _ _ _ _ T
  exact lv_iload_n T.1.1 T.1.2.1 hd hk (ax_ld T.2.2.2.1 hl) (k.at T)
theorem r_iload {i : Nat} {x : Int32} (hd : decode y.2.1 pc = .ok (.iload i, 2)) (hl : ls[i]? = some (some (.int x))) (k : ax_R d B y (pc + 2) ls (.int x :: st) sh m Q) : ax_R d B y pc ls st sh m Q := by
  intro _ _ _ _ _ _ _ _ _ _ _ _ _ _ _ _ T
  exact lv_iload T.1.1 T.1.2.1 hd (ax_ld T.2.2.2.1 hl) (k.at T)
theorem r_lload_n {k0 : Fin 4} {i : Nat} {x : Int64} (hd : decode y.2.1 pc = .ok (.lload_n k0, 1)) (hk : (k0 : Nat) = i) (hl : ls[i]? = some (some (.long x))) (k : ax_R d B y (pc + 1) ls (.long x :: st) sh m Q) : ax_R d B y pc ls st sh m Q := by
  intro _ _ _ _ _ _ _ _ _ _ _ _ _ _ _ _ T
  exact lv_lload_n T.1.1 T.1.2.1 hd hk (ax_ld T.2.2.2.1 hl) (k.at T)
theorem r_lload {i : Nat} {x : Int64} (hd : decode y.2.1 pc = .ok (.lload i, 2)) (hl : ls[i]? = some (some (.long x))) (k : ax_R d B y (pc + 2) ls (.long x :: st) sh m Q) : ax_R d B y pc ls st sh m Q := by
  intro _ _ _ _ _ _ _ _ _ _ _ _ _ _ _ _ T
  exact lv_lload T.1.1 T.1.2.1 hd (ax_ld T.2.2.2.1 hl) (k.at T)
theorem r_aload_n {k0 : Fin 4} {i : Nat} {x : Nat} (hd : decode y.2.1 pc = .ok (.aload_n k0, 1)) (hk : (k0 : Nat) = i) (hl : ls[i]? = some (some (.ref x))) (k : ax_R d B y (pc + 1) ls (.ref x :: st) sh m Q) : ax_R d B y pc ls st sh m Q := by
  intro _ _ _ _ _ _ _ _ _ _ _ _ _ _ _ _ T
  exact lv_aload_n T.1.1 T.1.2.1 hd hk (ax_ld T.2.2.2.1 hl) (k.at T)
theorem r_aload {i : Nat} {x : Nat} (hd : decode y.2.1 pc = .ok (.aload i, 2)) (hl : ls[i]? = some (some (.ref x))) (k : ax_R d B y (pc + 2) ls (.ref x :: st) sh m Q) : ax_R d B y pc ls st sh m Q := by
  intro _ _ _ _ _ _ _ _ _ _ _ _ _ _ _ _ T
  exact lv_aload T.1.1 T.1.2.1 hd (ax_ld T.2.2.2.1 hl) (k.at T)
theorem r_aload_nN {k0 : Fin 4} {i : Nat} (hd : decode y.2.1 pc = .ok (.aload_n k0, 1)) (hk : (k0 : Nat) = i) (hl : ls[i]? = some (some .null)) (k : ax_R d B y (pc + 1) ls (.null :: st) sh m Q) : ax_R d B y pc ls st sh m Q := by
  intro _ _ _ _ _ _ _ _ _ _ _ _ _ _ _ _ T
  exact lv_aload_nN T.1.1 T.1.2.1 hd hk (ax_ld T.2.2.2.1 hl) (k.at T)
theorem r_aloadN {i : Nat} (hd : decode y.2.1 pc = .ok (.aload i, 2)) (hl : ls[i]? = some (some .null)) (k : ax_R d B y (pc + 2) ls (.null :: st) sh m Q) : ax_R d B y pc ls st sh m Q := by
  intro _ _ _ _ _ _ _ _ _ _ _ _ _ _ _ _ T
  exact lv_aloadN T.1.1 T.1.2.1 hd (ax_ld T.2.2.2.1 hl) (k.at T)
/-- slot i of n may be stored to: no long stands in it or ahead of it -/
def ax_ok (ls : ax_L) (i n : Nat) : Bool := decide (i < n) && (match i with
  | 0 => true
  | k + 1 => match ls[k]? with
    | some (some v) => v.category != 2
    | _ => true)
theorem ax_cvcat (G : ax_G) (v : Value) : (ax_cv G v).category = v.category := by cases v <;> rfl
theorem ax_sto {G : ax_G} {lsA : Array Slot} {n i : Nat} {v : Value} (ho : ax_ok ls i n = true) (h : lv_has lsA n ((i, ax_cv G v) :: (ax_al G 0 ls).filter (fun q => !(q.1 == i) && !(q.1 + 1 == i && q.2.category == 2)))) : lv_has lsA n (ax_al G 0 (ls.set i (some v))) := by
  refine ⟨h.1, h.2.1, fun q hq => h.2.2 q ?_⟩
  obtain ⟨k, w, hk, rfl⟩ := ax_al_mem.mp hq
  rw [Nat.zero_add]
  by_cases hki : k = i
  · subst hki
    have hl : k < ls.length := by
      have := (List.getElem?_eq_some_iff.mp hk).1
      simpa using this
    rw [List.getElem?_set_self hl] at hk
    cases hk
    exact List.mem_cons_self
  · rw [List.getElem?_set_ne (Ne.symm hki)] at hk
    refine List.mem_cons_of_mem _ (List.mem_filter.mpr ⟨ax_al_mem.mpr ⟨k, w, hk, by rw [Nat.zero_add]⟩, ?_⟩)
    have h2 : ¬ (k + 1 = i ∧ (ax_cv G w).category = 2) := by
      rintro ⟨e1, e2⟩
      subst e1
      simp only [ax_ok, hk, Bool.and_eq_true] at ho
      rw [ax_cvcat] at e2
      simp [e2] at ho
    simp only [Bool.and_eq_true, Bool.not_eq_true', beq_eq_false_iff_ne, ne_eq, Bool.and_eq_false_iff]
    refine ⟨hki, ?_⟩
    by_cases h3 : k + 1 = i
    · right; exact fun e => h2 ⟨h3, e⟩
    · left; exact h3
theorem ax_okn {i n : Nat} (ho : ax_ok ls i n = true) : i < n := by
  simp only [ax_ok, Bool.and_eq_true, decide_eq_true_eq] at ho
  exact ho.1
theorem r_istore_n {k0 : Fin 4} {i : Nat} {x : Int32} {ls' : ax_L} (hd : decode y.2.1 pc = .ok (.istore_n k0, 1)) (hk : (k0 : Nat) = i) (ho : ax_ok ls i y.2.2.1 = true) (hs : ls.set i (some (.int x)) = ls') (k : ax_R d B y (pc + 1) ls' st sh m Q) : ax_R d B y pc ls (.int x :: st) sh m Q := by
  intro _ _ _ _ _ _ _ _ _ _ _ _ _ _ _ _ T
  exact lv_istore_n T.1.1 T.1.2.1 hd hk T.2.2.2.1 (ax_okn ho) rfl (fun _ hl => k.at ⟨T.1, T.2.1, T.2.2.1, by rw [← hs]; exact ax_sto ho hl, T.2.2.2.2⟩)
theorem r_istore {i : Nat} {x : Int32} {ls' : ax_L} (hd : decode y.2.1 pc = .ok (.istore i, 2)) (ho : ax_ok ls i y.2.2.1 = true) (hs : ls.set i (some (.int x)) = ls') (k : ax_R d B y (pc + 2) ls' st sh m Q) : ax_R d B y pc ls (.int x :: st) sh m Q := by
  intro _ _ _ _ _ _ _ _ _ _ _ _ _ _ _ _ T
  exact lv_istore T.1.1 T.1.2.1 hd T.2.2.2.1 (ax_okn ho) rfl (fun _ hl => k.at ⟨T.1, T.2.1, T.2.2.1, by rw [← hs]; exact ax_sto ho hl, T.2.2.2.2⟩)
theorem r_astore_n {k0 : Fin 4} {i : Nat} {x : Nat} {ls' : ax_L} (hd : decode y.2.1 pc = .ok (.astore_n k0, 1)) (hk : (k0 : Nat) = i) (ho : ax_ok ls i y.2.2.1 = true) (hs : ls.set i (some (.ref x)) = ls') (k : ax_R d B y (pc + 1) ls' st sh m Q) : ax_R d B y pc ls (.ref x :: st) sh m Q := by
  intro _ _ _ _ _ _ _ _ _ _ _ _ _ _ _ _ T
  exact lv_astore_n T.1.1 T.1.2.1 hd hk T.2.2.2.1 (ax_okn ho) rfl (fun _ hl => k.at ⟨T.1, T.2.1, T.2.2.1, by rw [← hs]; exact ax_sto ho hl, T.2.2.2.2⟩)
theorem r_astore {i : Nat} {x : Nat} {ls' : ax_L} (hd : decode y.2.1 pc = .ok (.astore i, 2)) (ho : ax_ok ls i y.2.2.1 = true) (hs : ls.set i (some (.ref x)) = ls') (k : ax_R d B y (pc + 2) ls' st sh m Q) : ax_R d B y pc ls (.ref x :: st) sh m Q := by
  intro _ _ _ _ _ _ _ _ _ _ _ _ _ _ _ _ T
  exact lv_astore T.1.1 T.1.2.1 hd T.2.2.2.1 (ax_okn ho) rfl (fun _ hl => k.at ⟨T.1, T.2.1, T.2.2.1, by rw [← hs]; exact ax_sto ho hl, T.2.2.2.2⟩)
theorem r_astore_nN {k0 : Fin 4} {i : Nat} {ls' : ax_L} (hd : decode y.2.1 pc = .ok (.astore_n k0, 1)) (hk : (k0 : Nat) = i) (ho : ax_ok ls i y.2.2.1 = true) (hs : ls.set i (some .null) = ls') (k : ax_R d B y (pc + 1) ls' st sh m Q) : ax_R d B y pc ls (.null :: st) sh m Q := by
  intro _ _ _ _ _ _ _ _ _ _ _ _ _ _ _ _ T
  exact lv_astore_nN T.1.1 T.1.2.1 hd hk T.2.2.2.1 (ax_okn ho) rfl (fun _ hl => k.at ⟨T.1, T.2.1, T.2.2.1, by rw [← hs]; exact ax_sto (v := .null) ho hl, T.2.2.2.2⟩)
theorem r_astoreN {i : Nat} {ls' : ax_L} (hd : decode y.2.1 pc = .ok (.astore i, 2)) (ho : ax_ok ls i y.2.2.1 = true) (hs : ls.set i (some .null) = ls') (k : ax_R d B y (pc + 2) ls' st sh m Q) : ax_R d B y pc ls (.null :: st) sh m Q := by
  intro _ _ _ _ _ _ _ _ _ _ _ _ _ _ _ _ T
  exact lv_astoreN T.1.1 T.1.2.1 hd T.2.2.2.1 (ax_okn ho) rfl (fun _ hl => k.at ⟨T.1, T.2.1, T.2.2.1, by rw [← hs]; exact ax_sto (v := .null) ho hl, T.2.2.2.2⟩)
theorem r_iinc {i : Nat} {n : Int} {x v : Int32} {ls' : ax_L} (hd : decode y.2.1 pc = .ok (.iinc i n, 3)) (hl : ls[i]? = some (some (.int x))) (hv : x + Int32.ofInt n = v) (ho : ax_ok ls i y.2.2.1 = true) (hs : ls.set i (some (.int v)) = ls') (k : ax_R d B y (pc + 3) ls' st sh m Q) : ax_R d B y pc ls st sh m Q := by
  intro _ _ _ _ _ _ _ _ _ _ _ _ _ _ _ _ T
  obtain ⟨j, hj⟩ := List.getElem?_of_mem (ax_al_mem (i := 0).mpr ⟨i, .int x, hl, rfl⟩)
  rw [Nat.zero_add] at hj
  exact lv_iinc T.1.1 T.1.2.1 hd T.2.2.2.1 hj hv (ax_okn ho) rfl (fun _ h => k.at ⟨T.1, T.2.1, T.2.2.1, by rw [← hs]; exact ax_sto ho h, T.2.2.2.2⟩)
theorem r_iadd {a b : Int32} (hd : decode y.2.1 pc = .ok (.iadd, 1)) (k : ax_R d B y (pc + 1) ls (.int (a + b) :: st) sh m Q) : ax_R d B y pc ls (.int b :: .int a :: st) sh m Q := by
  intro _ _ _ _ _ _ _ _ _ _ _ _ _ _ _ _ T
  exact lv_iadd T.1.1 T.1.2.1 hd (k.at T)
theorem r_isub {a b : Int32} (hd : decode y.2.1 pc = .ok (.isub, 1)) (k : ax_R d B y (pc + 1) ls (.int (a - b) :: st) sh m Q) : ax_R d B y pc ls (.int b :: .int a :: st) sh m Q := by
  intro _ _ _ _ _ _ _ _ _ _ _ _ _ _ _ _ T
  exact lv_isub T.1.1 T.1.2.1 hd (k.at T)
theorem r_imul {a b : Int32} (hd : decode y.2.1 pc = .ok (.imul, 1)) (k : ax_R d B y (pc + 1) ls (.int (a * b) :: st) sh m Q) : ax_R d B y pc ls (.int b :: .int a :: st) sh m Q := by
  intro _ _ _ _ _ _ _ _ _ _ _ _ _ _ _ _ T
  exact lv_imul T.1.1 T.1.2.1 hd (k.at T)
theorem r_iand {a b : Int32} (hd : decode y.2.1 pc = .ok (.iand, 1)) (k : ax_R d B y (pc + 1) ls (.int (a &&& b) :: st) sh m Q) : ax_R d B y pc ls (.int b :: .int a :: st) sh m Q := by
  intro _ _ _ _ _ _ _ _ _ _ _ _ _ _ _ _ T
  exact lv_iand T.1.1 T.1.2.1 hd (k.at T)
theorem r_ior {a b : Int32} (hd : decode y.2.1 pc = .ok (.ior, 1)) (k : ax_R d B y (pc + 1) ls (.int (a ||| b) :: st) sh m Q) : ax_R d B y pc ls (.int b :: .int a :: st) sh m Q := by
  intro _ _ _ _ _ _ _ _ _ _ _ _ _ _ _ _ T
  exact lv_ior T.1.1 T.1.2.1 hd (k.at T)
theorem r_ixor {a b : Int32} (hd : decode y.2.1 pc = .ok (.ixor, 1)) (k : ax_R d B y (pc + 1) ls (.int (a ^^^ b) :: st) sh m Q) : ax_R d B y pc ls (.int b :: .int a :: st) sh m Q := by
  intro _ _ _ _ _ _ _ _ _ _ _ _ _ _ _ _ T
  exact lv_ixor T.1.1 T.1.2.1 hd (k.at T)
theorem r_ishl {a b : Int32} (hd : decode y.2.1 pc = .ok (.ishl, 1)) (k : ax_R d B y (pc + 1) ls (.int (a <<< (b &&& 31)) :: st) sh m Q) : ax_R d B y pc ls (.int b :: .int a :: st) sh m Q := by
  intro _ _ _ _ _ _ _ _ _ _ _ _ _ _ _ _ T
  exact lv_ishl T.1.1 T.1.2.1 hd (k.at T)
theorem r_ishr {a b : Int32} (hd : decode y.2.1 pc = .ok (.ishr, 1)) (k : ax_R d B y (pc + 1) ls (.int (a >>> (b &&& 31)) :: st) sh m Q) : ax_R d B y pc ls (.int b :: .int a :: st) sh m Q := by
  intro _ _ _ _ _ _ _ _ _ _ _ _ _ _ _ _ T
  exact lv_ishr T.1.1 T.1.2.1 hd (k.at T)
theorem r_idiv {a b : Int32} (hd : decode y.2.1 pc = .ok (.idiv, 1)) (hn : ¬ b = 0) (k : ax_R d B y (pc + 1) ls (.int (a / b) :: st) sh m Q) : ax_R d B y pc ls (.int b :: .int a :: st) sh m Q := by
  intro _ _ _ _ _ _ _ _ _ _ _ _ _ _ _ _ T
  exact lv_idiv T.1.1 T.1.2.1 hd hn (k.at T)
theorem r_irem {a b : Int32} (hd : decode y.2.1 pc = .ok (.irem, 1)) (hn : ¬ b = 0) (k : ax_R d B y (pc + 1) ls (.int (a - a / b * b) :: st) sh m Q) : ax_R d B y pc ls (.int b :: .int a :: st) sh m Q := by
  intro _ _ _ _ _ _ _ _ _ _ _ _ _ _ _ _ T
  exact lv_irem T.1.1 T.1.2.1 hd hn (k.at T)
theorem r_ineg {a : Int32} (hd : decode y.2.1 pc = .ok (.ineg, 1)) (k : ax_R d B y (pc + 1) ls (.int (-a) :: st) sh m Q) : ax_R d B y pc ls (.int a :: st) sh m Q := by
  intro _ _ _ _ _ _ _ _ _ _ _ _ _ _ _ _ T
  exact lv_ineg T.1.1 T.1.2.1 hd (k.at T)
theorem r_ladd {a b : Int64} (hd : decode y.2.1 pc = .ok (.ladd, 1)) (k : ax_R d B y (pc + 1) ls (.long (a + b) :: st) sh m Q) : ax_R d B y pc ls (.long b :: .long a :: st) sh m Q := by
  intro _ _ _ _ _ _ _ _ _ _ _ _ _ _ _ _ T
  exact lv_ladd T.1.1 T.1.2.1 hd (k.at T)
theorem r_land {a b : Int64} (hd : decode y.2.1 pc = .ok (.land, 1)) (k : ax_R d B y (pc + 1) ls (.long (a &&& b) :: st) sh m Q) : ax_R d B y pc ls (.long b :: .long a :: st) sh m Q := by
  intro _ _ _ _ _ _ _ _ _ _ _ _ _ _ _ _ T
  exact lv_land T.1.1 T.1.2.1 hd (k.at T)
theorem r_lor {a b : Int64} (hd : decode y.2.1 pc = .ok (.lor, 1)) (k : ax_R d B y (pc + 1) ls (.long (a ||| b) :: st) sh m Q) : ax_R d B y pc ls (.long b :: .long a :: st) sh m Q := by
  intro _ _ _ _ _ _ _ _ _ _ _ _ _ _ _ _ T
  exact lv_lor T.1.1 T.1.2.1 hd (k.at T)
theorem r_iushr {a b : Int32} (hd : decode y.2.1 pc = .ok (.iushr, 1)) (k : ax_R d B y (pc + 1) ls (.int ((a.toUInt32 >>> (b.toUInt32 &&& Int32.toUInt32 31)).toInt32) :: st) sh m Q) : ax_R d B y pc ls (.int b :: .int a :: st) sh m Q := by
  intro _ _ _ _ _ _ _ _ _ _ _ _ _ _ _ _ T
  exact lv_iushr T.1.1 T.1.2.1 hd rfl (k.at T)
theorem r_lushr {a : Int64} {b : Int32} (hd : decode y.2.1 pc = .ok (.lushr, 1)) (k : ax_R d B y (pc + 1) ls (.long ((a.toUInt64 >>> (b.toInt64.toUInt64 &&& Int64.toUInt64 63)).toInt64) :: st) sh m Q) : ax_R d B y pc ls (.int b :: .long a :: st) sh m Q := by
  intro _ _ _ _ _ _ _ _ _ _ _ _ _ _ _ _ T
  exact lv_lushr T.1.1 T.1.2.1 hd rfl (k.at T)
theorem r_lshl {a : Int64} {b : Int32} (hd : decode y.2.1 pc = .ok (.lshl, 1)) (k : ax_R d B y (pc + 1) ls (.long (a <<< (b.toInt64 &&& 63)) :: st) sh m Q) : ax_R d B y pc ls (.int b :: .long a :: st) sh m Q := by
  intro _ _ _ _ _ _ _ _ _ _ _ _ _ _ _ _ T
  exact lv_lshl T.1.1 T.1.2.1 hd rfl (k.at T)
theorem r_lshr {a : Int64} {b : Int32} (hd : decode y.2.1 pc = .ok (.lshr, 1)) (k : ax_R d B y (pc + 1) ls (.long (a >>> (b.toInt64 &&& 63)) :: st) sh m Q) : ax_R d B y pc ls (.int b :: .long a :: st) sh m Q := by
  intro _ _ _ _ _ _ _ _ _ _ _ _ _ _ _ _ T
  exact lv_lshr T.1.1 T.1.2.1 hd rfl (k.at T)
theorem r_i2l {a : Int32} (hd : decode y.2.1 pc = .ok (.i2l, 1)) (k : ax_R d B y (pc + 1) ls (.long a.toInt64 :: st) sh m Q) : ax_R d B y pc ls (.int a :: st) sh m Q := by
  intro _ _ _ _ _ _ _ _ _ _ _ _ _ _ _ _ T
  exact lv_i2l T.1.1 T.1.2.1 hd rfl (k.at T)
theorem r_l2i {a : Int64} (hd : decode y.2.1 pc = .ok (.l2i, 1)) (k : ax_R d B y (pc + 1) ls (.int a.toInt32 :: st) sh m Q) : ax_R d B y pc ls (.long a :: st) sh m Q := by
  intro _ _ _ _ _ _ _ _ _ _ _ _ _ _ _ _ T
  exact lv_l2i T.1.1 T.1.2.1 hd rfl (k.at T)
theorem r_i2b {a : Int32} (hd : decode y.2.1 pc = .ok (.i2b, 1)) (k : ax_R d B y (pc + 1) ls (.int a.toInt8.toInt32 :: st) sh m Q) : ax_R d B y pc ls (.int a :: st) sh m Q := by
  intro _ _ _ _ _ _ _ _ _ _ _ _ _ _ _ _ T
  exact lv_i2b T.1.1 T.1.2.1 hd rfl (k.at T)
theorem r_i2s {a : Int32} (hd : decode y.2.1 pc = .ok (.i2s, 1)) (k : ax_R d B y (pc + 1) ls (.int a.toInt16.toInt32 :: st) sh m Q) : ax_R d B y pc ls (.int a :: st) sh m Q := by
  intro _ _ _ _ _ _ _ _ _ _ _ _ _ _ _ _ T
  exact lv_i2s T.1.1 T.1.2.1 hd rfl (k.at T)
theorem r_dup {v : Value} (hd : decode y.2.1 pc = .ok (.dup, 1)) (hv : v.category = 1) (k : ax_R d B y (pc + 1) ls (v :: v :: st) sh m Q) : ax_R d B y pc ls (v :: st) sh m Q := by
  intro _ _ _ _ _ _ _ _ _ _ _ _ _ _ _ _ T
  exact lv_dup T.1.1 T.1.2.1 hd ((ax_cvcat _ _).trans hv) (k.at T)
theorem r_pop {v : Value} (hd : decode y.2.1 pc = .ok (.pop, 1)) (hv : v.category = 1) (k : ax_R d B y (pc + 1) ls st sh m Q) : ax_R d B y pc ls (v :: st) sh m Q := by
  intro _ _ _ _ _ _ _ _ _ _ _ _ _ _ _ _ T
  exact lv_pop T.1.1 T.1.2.1 hd ((ax_cvcat _ _).trans hv) (k.at T)
theorem r_dup2 {v w : Value} (hd : decode y.2.1 pc = .ok (.dup2, 1)) (hv : v.category = 1) (hw : w.category = 1) (k : ax_R d B y (pc + 1) ls (v :: w :: v :: w :: st) sh m Q) : ax_R d B y pc ls (v :: w :: st) sh m Q := by
  intro _ _ _ _ _ _ _ _ _ _ _ _ _ _ _ _ T
  exact lv_dup2_11 T.1.1 T.1.2.1 hd ((ax_cvcat _ _).trans hv) ((ax_cvcat _ _).trans hw) (k.at T)
theorem r_goto {off : Int} {tgt : Nat} (hd : decode y.2.1 pc = .ok (.goto off, 3)) (ht : (pc : Int) + off = (tgt : Int)) (k : ax_R d B y tgt ls st sh m Q) : ax_R d B y pc ls st sh m Q := by
  intro _ _ _ _ _ _ _ _ _ _ _ _ _ _ _ _ T
  exact lv_goto T.1.1 T.1.2.1 hd ht (k.at T)
theorem r_if_eq {a : Int32} {off : Int} {tgt : Nat} (hd : decode y.2.1 pc = .ok (.ifCond .eq off, 3)) (ht : (pc : Int) + off = (tgt : Int)) (kt : a = 0 → ax_R d B y tgt ls st sh m Q) (kf : ¬ a = 0 → ax_R d B y (pc + 3) ls st sh m Q) : ax_R d B y pc ls (.int a :: st) sh m Q := by
  intro _ _ _ _ _ _ _ _ _ _ _ _ _ _ _ _ T
  exact lv_if_eq T.1.1 T.1.2.1 hd ht (fun h => (kt h).at T) (fun h => (kf h).at T)
theorem r_icmp_eq {a b : Int32} {off : Int} {tgt : Nat} (hd : decode y.2.1 pc = .ok (.if_icmp .eq off, 3)) (ht : (pc : Int) + off = (tgt : Int)) (kt : a = b → ax_R d B y tgt ls st sh m Q) (kf : ¬ a = b → ax_R d B y (pc + 3) ls st sh m Q) : ax_R d B y pc ls (.int b :: .int a :: st) sh m Q := by
  intro _ _ _ _ _ _ _ _ _ _ _ _ _ _ _ _ T
  exact lv_icmp_eq T.1.1 T.1.2.1 hd ht (fun h => (kt h).at T) (fun h => (kf h).at T)
theorem r_if_ne {a : Int32} {off : Int} {tgt : Nat} (hd : decode y.2.1 pc = .ok (.ifCond .ne off, 3)) (ht : (pc : Int) + off = (tgt : Int)) (kt : ¬ a = 0 → ax_R d B y tgt ls st sh m Q) (kf : a = 0 → ax_R d B y (pc + 3) ls st sh m Q) : ax_R d B y pc ls (.int a :: st) sh m Q := by
  intro _ _ _ _ _ _ _ _ _ _ _ _ _ _ _ _ T
  exact lv_if_ne T.1.1 T.1.2.1 hd ht (fun h => (kt h).at T) (fun h => (kf h).at T)
theorem r_icmp_ne {a b : Int32} {off : Int} {tgt : Nat} (hd : decode y.2.1 pc = .ok (.if_icmp .ne off, 3)) (ht : (pc : Int) + off = (tgt : Int)) (kt : ¬ a = b → ax_R d B y tgt ls st sh m Q) (kf : a = b → ax_R d B y (pc + 3) ls st sh m Q) : ax_R d B y pc ls (.int b :: .int a :: st) sh m Q := by
  intro _ _ _ _ _ _ _ _ _ _ _ _ _ _ _ _ T
  exact lv_icmp_ne T.1.1 T.1.2.1 hd ht (fun h => (kt h).at T) (fun h => (kf h).at T)
theorem r_if_lt {a : Int32} {off : Int} {tgt : Nat} (hd : decode y.2.1 pc = .ok (.ifCond .lt off, 3)) (ht : (pc : Int) + off = (tgt : Int)) (kt : a < 0 → ax_R d B y tgt ls st sh m Q) (kf : ¬ a < 0 → ax_R d B y (pc + 3) ls st sh m Q) : ax_R d B y pc ls (.int a :: st) sh m Q := by
  intro _ _ _ _ _ _ _ _ _ _ _ _ _ _ _ _ T
  exact lv_if_lt T.1.1 T.1.2.1 hd ht (fun h => (kt h).at T) (fun h => (kf h).at T)
theorem r_icmp_lt {a b : Int32} {off : Int} {tgt : Nat} (hd : decode y.2.1 pc = .ok (.if_icmp .lt off, 3)) (ht : (pc : Int) + off = (tgt : Int)) (kt : a < b → ax_R d B y tgt ls st sh m Q) (kf : ¬ a < b → ax_R d B y (pc + 3) ls st sh m Q) : ax_R d B y pc ls (.int b :: .int a :: st) sh m Q := by
  intro _ _ _ _ _ _ _ _ _ _ _ _ _ _ _ _ T
  exact lv_icmp_lt T.1.1 T.1.2.1 hd ht (fun h => (kt h).at T) (fun h => (kf h).at T)
theorem r_if_ge {a : Int32} {off : Int} {tgt : Nat} (hd : decode y.2.1 pc = .ok (.ifCond .ge off, 3)) (ht : (pc : Int) + off = (tgt : Int)) (kt : 0 ≤ a → ax_R d B y tgt ls st sh m Q) (kf : ¬ 0 ≤ a → ax_R d B y (pc + 3) ls st sh m Q) : ax_R d B y pc ls (.int a :: st) sh m Q := by
  intro _ _ _ _ _ _ _ _ _ _ _ _ _ _ _ _ T
  exact lv_if_ge T.1.1 T.1.2.1 hd ht (fun h => (kt h).at T) (fun h => (kf h).at T)
theorem r_icmp_ge {a b : Int32} {off : Int} {tgt : Nat} (hd : decode y.2.1 pc = .ok (.if_icmp .ge off, 3)) (ht : (pc : Int) + off = (tgt : Int)) (kt : b ≤ a → ax_R d B y tgt ls st sh m Q) (kf : ¬ b ≤ a → ax_R d B y (pc + 3) ls st sh m Q) : ax_R d B y pc ls (.int b :: .int a :: st) sh m Q := by
  intro _ _ _ _ _ _ _ _ _ _ _ _ _ _ _ _ T
  exact lv_icmp_ge T.1.1 T.1.2.1 hd ht (fun h => (kt h).at T) (fun h => (kf h).at T)
theorem r_if_gt {a : Int32} {off : Int} {tgt : Nat} (hd : decode y.2.1 pc = .ok (.ifCond .gt off, 3)) (ht : (pc : Int) + off = (tgt : Int)) (kt : 0 < a → ax_R d B y tgt ls st sh m Q) (kf : ¬ 0 < a → ax_R d B y (pc + 3) ls st sh m Q) : ax_R d B y pc ls (.int a :: st) sh m Q := by
  intro _ _ _ _ _ _ _ _ _ _ _ _ _ _ _ _ T
  exact lv_if_gt T.1.1 T.1.2.1 hd ht (fun h => (kt h).at T) (fun h => (kf h).at T)
theorem r_icmp_gt {a b : Int32} {off : Int} {tgt : Nat} (hd : decode y.2.1 pc = .ok (.if_icmp .gt off, 3)) (ht : (pc : Int) + off = (tgt : Int)) (kt : b < a → ax_R d B y tgt ls st sh m Q) (kf : ¬ b < a → ax_R d B y (pc + 3) ls st sh m Q) : ax_R d B y pc ls (.int b :: .int a :: st) sh m Q := by
  intro _ _ _ _ _ _ _ _ _ _ _ _ _ _ _ _ T
  exact lv_icmp_gt T.1.1 T.1.2.1 hd ht (fun h => (kt h).at T) (fun h => (kf h).at T)
theorem r_if_le {a : Int32} {off : Int} {tgt : Nat} (hd : decode y.2.1 pc = .ok (.ifCond .le off, 3)) (ht : (pc : Int) + off = (tgt : Int)) (kt : a ≤ 0 → ax_R d B y tgt ls st sh m Q) (kf : ¬ a ≤ 0 → ax_R d B y (pc + 3) ls st sh m Q) : ax_R d B y pc ls (.int a :: st) sh m Q := by
  intro _ _ _ _ _ _ _ _ _ _ _ _ _ _ _ _ T
  exact lv_if_le T.1.1 T.1.2.1 hd ht (fun h => (kt h).at T) (fun h => (kf h).at T)
theorem r_icmp_le {a b : Int32} {off : Int} {tgt : Nat} (hd : decode y.2.1 pc = .ok (.if_icmp .le off, 3)) (ht : (pc : Int) + off = (tgt : Int)) (kt : a ≤ b → ax_R d B y tgt ls st sh m Q) (kf : ¬ a ≤ b → ax_R d B y (pc + 3) ls st sh m Q) : ax_R d B y pc ls (.int b :: .int a :: st) sh m Q := by
  intro _ _ _ _ _ _ _ _ _ _ _ _ _ _ _ _ T
  exact lv_icmp_le T.1.1 T.1.2.1 hd ht (fun h => (kt h).at T) (fun h => (kf h).at T)
theorem r_ifnull {x : Nat} {off : Int} (hd : decode y.2.1 pc = .ok (.ifnull off, 3)) (k : ax_R d B y (pc + 3) ls st sh m Q) : ax_R d B y pc ls (.ref x :: st) sh m Q := by
  intro _ _ _ _ _ _ _ _ _ _ _ _ _ _ _ _ T
  exact lv_ifnull T.1.1 T.1.2.1 hd (k.at T)
theorem r_ifnullN {off : Int} {tgt : Nat} (hd : decode y.2.1 pc = .ok (.ifnull off, 3)) (ht : (pc : Int) + off = (tgt : Int)) (k : ax_R d B y tgt ls st sh m Q) : ax_R d B y pc ls (.null :: st) sh m Q := by
  intro _ _ _ _ _ _ _ _ _ _ _ _ _ _ _ _ T
  exact lv_ifnullN T.1.1 T.1.2.1 hd ht (k.at T)
theorem r_ifnonnull {x : Nat} {off : Int} {tgt : Nat} (hd : decode y.2.1 pc = .ok (.ifnonnull off, 3)) (ht : (pc : Int) + off = (tgt : Int)) (k : ax_R d B y tgt ls st sh m Q) : ax_R d B y pc ls (.ref x :: st) sh m Q := by
  intro _ _ _ _ _ _ _ _ _ _ _ _ _ _ _ _ T
  exact lv_ifnonnull T.1.1 T.1.2.1 hd ht (k.at T)
theorem r_ifnonnullN {off : Int} (hd : decode y.2.1 pc = .ok (.ifnonnull off, 3)) (k : ax_R d B y (pc + 3) ls st sh m Q) : ax_R d B y pc ls (.null :: st) sh m Q := by
  intro _ _ _ _ _ _ _ _ _ _ _ _ _ _ _ _ T
  exact lv_ifnonnullN T.1.1 T.1.2.1 hd (k.at T)
theorem r_tabOut {dflt lo hi : Int} {offs : Array Int} {len : Nat} {x : Int32} {tgt : Nat} (hd : decode y.2.1 pc = .ok (.tableswitch dflt lo hi offs, len)) (h : x.toInt < lo ∨ hi < x.toInt) (ht : (pc : Int) + dflt = (tgt : Int)) (k : ax_R d B y tgt ls st sh m Q) : ax_R d B y pc ls (.int x :: st) sh m Q := by
  intro _ _ _ _ _ _ _ _ _ _ _ _ _ _ _ _ T
  exact lv_tableOut T.1.1 T.1.2.1 hd h ht (k.at T)
theorem r_tabIn {dflt lo hi : Int} {offs : Array Int} {len : Nat} {x : Int32} {off : Int} {tgt : Nat} (hd : decode y.2.1 pc = .ok (.tableswitch dflt lo hi offs, len)) (h1 : ¬ x.toInt < lo) (h2 : ¬ hi < x.toInt) (ho : offs[(x.toInt - lo).toNat]? = some off) (ht : (pc : Int) + off = (tgt : Int)) (k : ax_R d B y tgt ls st sh m Q) : ax_R d B y pc ls (.int x :: st) sh m Q := by
  intro _ _ _ _ _ _ _ _ _ _ _ _ _ _ _ _ T
  exact lv_tableIn T.1.1 T.1.2.1 hd h1 h2 ho ht (k.at T)
theorem r_lcmp {a b : Int64} (hd : decode y.2.1 pc = .ok (.lcmp, 1)) (k : ax_R d B y (pc + 1) ls (.int (lg_cmp a b) :: st) sh m Q) : ax_R d B y pc ls (.long b :: .long a :: st) sh m Q := by
  intro _ _ _ _ _ _ _ _ _ _ _ _ _ _ _ _ T
  exact W.lcmp T.1.1 T.1.2.1 hd (k.at T)
theorem ax_end {p : Program} {R : Room} {s : State} {mm : MethodId} {args : Array Value} {meth : Method} {c : Code} {G : ax_G} {b0 b1 : Nat} {H : Heap} {locs : List Loc} {lsA : Array Slot} (T : ax_T p R s mm args meth c G b0 b1 H locs lsA d B y ls sh m) {r : Option Value} (hq : Q r sh m) (t : State) (ht : t.heap = H) : ax_Qc G Q args s (.returned (r.map (ax_cv G))) t := ⟨⟨r, sh, m, rfl, hq, by rw [ht]; exact T.2.1⟩, T.2.2.1.F ht⟩
theorem r_iret {v : Int32} (hd : decode y.2.1 pc = .ok (.ireturn, 1)) (hr : y.2.2.2 = some .int) (hq : Q (some (.int v)) sh m) : ax_R d B y pc ls [.int v] sh m Q := by
  intro _ _ _ _ _ _ _ _ _ _ _ _ _ _ _ _ T
  refine W.widen (Nat.sub_le_sub_right T.2.2.2.2.2.2.1 _) (Nat.sub_le_sub_right T.2.2.2.2.2.2.2 _) ?_
  exact W.iret (v := v) T.1.1 T.1.2.1 (T.1.2.2.1.trans hr) (fun t ht _ => ax_end T hq t ht) T.2.2.1.2.2 hd T.1.2.2.2.2.2.2.1
theorem r_zret {v : Int32} (hd : decode y.2.1 pc = .ok (.ireturn, 1)) (hr : y.2.2.2 = some .boolean) (hv : v = 0 ∨ v = 1) (hq : Q (some (.int v)) sh m) : ax_R d B y pc ls [.int v] sh m Q := by
  intro _ _ _ _ _ _ _ _ _ _ _ _ _ _ _ _ T
  refine W.widen (Nat.sub_le_sub_right T.2.2.2.2.2.2.1 _) (Nat.sub_le_sub_right T.2.2.2.2.2.2.2 _) ?_
  exact W.zret (v := v) T.1.1 T.1.2.1 (T.1.2.2.1.trans hr) (by rcases hv with rfl | rfl <;> decide +kernel) (fun t ht _ => ax_end T hq t ht) T.2.2.1.2.2 hd T.1.2.2.2.2.2.2.1
theorem r_vret (hd : decode y.2.1 pc = .ok (.return_, 1)) (hr : y.2.2.2 = none) (hq : Q none sh m) : ax_R d B y pc ls [] sh m Q := by
  intro _ _ _ _ _ _ _ _ _ _ _ _ _ _ _ _ T
  refine W.widen (Nat.sub_le_sub_right T.2.2.2.2.2.2.1 _) (Nat.sub_le_sub_right T.2.2.2.2.2.2.2 _) ?_
  exact W.vret T.1.1 T.1.2.1 (T.1.2.2.1.trans hr) (fun t ht _ => ax_end T hq t ht) T.2.2.1.2.2 hd T.1.2.2.2.2.2.2.1
theorem r_aret {v : Value} {C : String} (hd : decode y.2.1 pc = .ok (.areturn, 1)) (hr : y.2.2.2 = some (.object C)) (hv : v = .null ∨ ∃ k, v = .ref k) (hq : Q (some v) sh m) : ax_R d B y pc ls [v] sh m Q := by
  intro _ _ _ _ _ _ _ _ _ _ _ _ _ _ _ _ T
  refine W.widen (Nat.sub_le_sub_right T.2.2.2.2.2.2.1 _) (Nat.sub_le_sub_right T.2.2.2.2.2.2.2 _) ?_
  exact W.aret T.1.1 T.1.2.1 (T.1.2.2.1.trans hr) (Or.inl ⟨_, rfl⟩) (by rcases hv with rfl | ⟨k, rfl⟩; exact Or.inl rfl; exact Or.inr ⟨_, rfl⟩) (fun t ht _ => ax_end T hq t ht) T.2.2.1.2.2 hd T.1.2.2.2.2.2.2.1
end AXR
