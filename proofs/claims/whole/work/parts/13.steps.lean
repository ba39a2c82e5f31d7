/-! the rows again: the next pc and the target stand in the decode row -/
section AXW
variable {d : Nat} {B : Nat × Nat} {y : ax_Y} {pc pc1 : Nat} {ls : ax_L} {st : List Value} {sh : ax_S} {m : ax_M} {Q : ax_P}
theorem s_iconst {n : Int} {v : Int32} (hd : ax_dc y pc (.iconst n) 1 pc1) (hv : Int32.ofInt n = v) (k : ax_R d B y pc1 ls (.int v :: st) sh m Q) : ax_R d B y pc ls st sh m Q := by
  obtain ⟨hz1, hz3⟩ := hd
  subst hz3
  exact r_iconst hz1 hv k
theorem s_bipush {n : Int} {v : Int32} (hd : ax_dc y pc (.bipush n) 2 pc1) (hv : (Int8.ofInt n).toInt32 = v) (k : ax_R d B y pc1 ls (.int v :: st) sh m Q) : ax_R d B y pc ls st sh m Q := by
  obtain ⟨hz1, hz3⟩ := hd
  subst hz3
  exact r_bipush hz1 hv k
theorem s_sipush {n : Int} {v : Int32} (hd : ax_dc y pc (.sipush n) 3 pc1) (hv : (Int16.ofInt n).toInt32 = v) (k : ax_R d B y pc1 ls (.int v :: st) sh m Q) : ax_R d B y pc ls st sh m Q := by
  obtain ⟨hz1, hz3⟩ := hd
  subst hz3
  exact r_sipush hz1 hv k
theorem s_lconst {n : Fin 2} {v : Int64} (hd : ax_dc y pc (.lconst n) 1 pc1) (hv : Int64.ofNat (n : Nat) = v) (k : ax_R d B y pc1 ls (.long v :: st) sh m Q) : ax_R d B y pc ls st sh m Q := by
  obtain ⟨hz1, hz3⟩ := hd
  subst hz3
  exact r_lconst hz1 hv k
theorem s_null (hd : ax_dc y pc (.aconst_null) 1 pc1) (k : ax_R d B y pc1 ls (.null :: st) sh m Q) : ax_R d B y pc ls st sh m Q := by
  obtain ⟨hz1, hz3⟩ := hd
  subst hz3
  exact r_null hz1 k
theorem s_ldc {i : Nat} {v : Int32} (hd : ax_dc y pc (.ldc i) 2 pc1) (hw : Cond.constant y.1.cls i v ∈ ax_wt) (k : ax_R d B y pc1 ls (.int v :: st) sh m Q) : ax_R d B y pc ls st sh m Q := by
  obtain ⟨hz1, hz3⟩ := hd
  subst hz3
  exact r_ldc hz1 hw k
theorem s_ldcw {i : Nat} {v : Int32} (hd : ax_dc y pc (.ldc_w i) 3 pc1) (hw : Cond.constant y.1.cls i v ∈ ax_wt) (k : ax_R d B y pc1 ls (.int v :: st) sh m Q) : ax_R d B y pc ls st sh m Q := by
  obtain ⟨hz1, hz3⟩ := hd
  subst hz3
  exact r_ldcw hz1 hw k
theorem s_ldc2 {i : Nat} {v : Int64} (hd : ax_dc y pc (.ldc2_w i) 3 pc1) (hw : Cond.constantLong y.1.cls i v ∈ ax_wt) (k : ax_R d B y pc1 ls (.long v :: st) sh m Q) : ax_R d B y pc ls st sh m Q := by
  obtain ⟨hz1, hz3⟩ := hd
  subst hz3
  exact r_ldc2 hz1 hw k
theorem s_iload_n {k0 : Fin 4} {i : Nat} {x : Int32} (hd : ax_dc y pc (.iload_n k0) 1 pc1) (hk : (k0 : Nat) = i) (hl : ls[i]? = some (some (.int x))) (k : ax_R d B y pc1 ls (.int x :: st) sh m Q) : ax_R d B y pc ls st sh m Q := by
  obtain ⟨hz1, hz3⟩ := hd
  subst hz3
  exact r_iload_n hz1 hk hl k
theorem s_iload {i : Nat} {x : Int32} (hd : ax_dc y pc (.iload i) 2 pc1) (hl : ls[i]? = some (some (.int x))) (k : ax_R d B y pc1 ls (.int x :: st) sh m Q) : ax_R d B y pc ls st sh m Q := by
  obtain ⟨hz1, hz3⟩ := hd
  subst hz3
  exact r_iload hz1 hl k
theorem s_lload_n {k0 : Fin 4} {i : Nat} {x : Int64} (hd : ax_dc y pc (.lload_n k0) 1 pc1) (hk : (k0 : Nat) = i) (hl : ls[i]? = some (some (.long x))) (k : ax_R d B y pc1 ls (.long x :: st) sh m Q) : ax_R d B y pc ls st sh m Q := by
  obtain ⟨hz1, hz3⟩ := hd
  subst hz3
  exact r_lload_n hz1 hk hl k
theorem s_lload {i : Nat} {x : Int64} (hd : ax_dc y pc (.lload i) 2 pc1) (hl : ls[i]? = some (some (.long x))) (k : ax_R d B y pc1 ls (.long x :: st) sh m Q) : ax_R d B y pc ls st sh m Q := by
  obtain ⟨hz1, hz3⟩ := hd
  subst hz3
  exact r_lload hz1 hl k
theorem s_aload_n {k0 : Fin 4} {i : Nat} {x : Nat} (hd : ax_dc y pc (.aload_n k0) 1 pc1) (hk : (k0 : Nat) = i) (hl : ls[i]? = some (some (.ref x))) (k : ax_R d B y pc1 ls (.ref x :: st) sh m Q) : ax_R d B y pc ls st sh m Q := by
  obtain ⟨hz1, hz3⟩ := hd
  subst hz3
  exact r_aload_n hz1 hk hl k
theorem s_aload {i : Nat} {x : Nat} (hd : ax_dc y pc (.aload i) 2 pc1) (hl : ls[i]? = some (some (.ref x))) (k : ax_R d B y pc1 ls (.ref x :: st) sh m Q) : ax_R d B y pc ls st sh m Q := by
  obtain ⟨hz1, hz3⟩ := hd
  subst hz3
  exact r_aload hz1 hl k
theorem s_aload_nN {k0 : Fin 4} {i : Nat} (hd : ax_dc y pc (.aload_n k0) 1 pc1) (hk : (k0 : Nat) = i) (hl : ls[i]? = some (some .null)) (k : ax_R d B y pc1 ls (.null :: st) sh m Q) : ax_R d B y pc ls st sh m Q := by
  obtain ⟨hz1, hz3⟩ := hd
  subst hz3
  exact r_aload_nN hz1 hk hl k
theorem s_aloadN {i : Nat} (hd : ax_dc y pc (.aload i) 2 pc1) (hl : ls[i]? = some (some .null)) (k : ax_R d B y pc1 ls (.null :: st) sh m Q) : ax_R d B y pc ls st sh m Q := by
  obtain ⟨hz1, hz3⟩ := hd
  subst hz3
  exact r_aloadN hz1 hl k
theorem s_istore_n {k0 : Fin 4} {i : Nat} {x : Int32} {ls' : ax_L} (hd : ax_dc y pc (.istore_n k0) 1 pc1) (hk : (k0 : Nat) = i) (ho : ax_ok ls i y.2.2.1 = true) (hs : ls.set i (some (.int x)) = ls') (k : ax_R d B y pc1 ls' st sh m Q) : ax_R d B y pc ls (.int x :: st) sh m Q := by
  obtain ⟨hz1, hz3⟩ := hd
  subst hz3
  exact r_istore_n hz1 hk ho hs k
theorem s_istore {i : Nat} {x : Int32} {ls' : ax_L} (hd : ax_dc y pc (.istore i) 2 pc1) (ho : ax_ok ls i y.2.2.1 = true) (hs : ls.set i (some (.int x)) = ls') (k : ax_R d B y pc1 ls' st sh m Q) : ax_R d B y pc ls (.int x :: st) sh m Q := by
  obtain ⟨hz1, hz3⟩ := hd
  subst hz3
  exact r_istore hz1 ho hs k
theorem s_astore_n {k0 : Fin 4} {i : Nat} {x : Nat} {ls' : ax_L} (hd : ax_dc y pc (.astore_n k0) 1 pc1) (hk : (k0 : Nat) = i) (ho : ax_ok ls i y.2.2.1 = true) (hs : ls.set i (some (.ref x)) = ls') (k : ax_R d B y pc1 ls' st sh m Q) : ax_R d B y pc ls (.ref x :: st) sh m Q := by
  obtain ⟨hz1, hz3⟩ := hd
  subst hz3
  exact r_astore_n hz1 hk ho hs k
theorem s_astore {i : Nat} {x : Nat} {ls' : ax_L} (hd : ax_dc y pc (.astore i) 2 pc1) (ho : ax_ok ls i y.2.2.1 = true) (hs : ls.set i (some (.ref x)) = ls') (k : ax_R d B y pc1 ls' st sh m Q) : ax_R d B y pc ls (.ref x :: st) sh m Q := by
  obtain ⟨hz1, hz3⟩ := hd
  subst hz3
  exact r_astore hz1 ho hs k
theorem s_astore_nN {k0 : Fin 4} {i : Nat} {ls' : ax_L} (hd : ax_dc y pc (.astore_n k0) 1 pc1) (hk : (k0 : Nat) = i) (ho : ax_ok ls i y.2.2.1 = true) (hs : ls.set i (some .null) = ls') (k : ax_R d B y pc1 ls' st sh m Q) : ax_R d B y pc ls (.null :: st) sh m Q := by
  obtain ⟨hz1, hz3⟩ := hd
  subst hz3
  exact r_astore_nN hz1 hk ho hs k
theorem s_astoreN {i : Nat} {ls' : ax_L} (hd : ax_dc y pc (.astore i) 2 pc1) (ho : ax_ok ls i y.2.2.1 = true) (hs : ls.set i (some .null) = ls') (k : ax_R d B y pc1 ls' st sh m Q) : ax_R d B y pc ls (.null :: st) sh m Q := by
  obtain ⟨hz1, hz3⟩ := hd
  subst hz3
  exact r_astoreN hz1 ho hs k
theorem s_iinc {i : Nat} {n : Int} {x v : Int32} {ls' : ax_L} (hd : ax_dc y pc (.iinc i n) 3 pc1) (hl : ls[i]? = some (some (.int x))) (hv : x + Int32.ofInt n = v) (ho : ax_ok ls i y.2.2.1 = true) (hs : ls.set i (some (.int v)) = ls') (k : ax_R d B y pc1 ls' st sh m Q) : ax_R d B y pc ls st sh m Q := by
  obtain ⟨hz1, hz3⟩ := hd
  subst hz3
  exact r_iinc hz1 hl hv ho hs k
theorem s_iadd {a b : Int32} (hd : ax_dc y pc (.iadd) 1 pc1) (k : ax_R d B y pc1 ls (.int (a + b) :: st) sh m Q) : ax_R d B y pc ls (.int b :: .int a :: st) sh m Q := by
  obtain ⟨hz1, hz3⟩ := hd
  subst hz3
  exact r_iadd hz1 k
theorem s_isub {a b : Int32} (hd : ax_dc y pc (.isub) 1 pc1) (k : ax_R d B y pc1 ls (.int (a - b) :: st) sh m Q) : ax_R d B y pc ls (.int b :: .int a :: st) sh m Q := by
  obtain ⟨hz1, hz3⟩ := hd
  subst hz3
  exact r_isub hz1 k
theorem s_imul {a b : Int32} (hd : ax_dc y pc (.imul) 1 pc1) (k : ax_R d B y pc1 ls (.int (a * b) :: st) sh m Q) : ax_R d B y pc ls (.int b :: .int a :: st) sh m Q := by
  obtain ⟨hz1, hz3⟩ := hd
  subst hz3
  exact r_imul hz1 k
theorem s_iand {a b : Int32} (hd : ax_dc y pc (.iand) 1 pc1) (k : ax_R d B y pc1 ls (.int (a &&& b) :: st) sh m Q) : ax_R d B y pc ls (.int b :: .int a :: st) sh m Q := by
  obtain ⟨hz1, hz3⟩ := hd
  subst hz3
  exact r_iand hz1 k
theorem s_ior {a b : Int32} (hd : ax_dc y pc (.ior) 1 pc1) (k : ax_R d B y pc1 ls (.int (a ||| b) :: st) sh m Q) : ax_R d B y pc ls (.int b :: .int a :: st) sh m Q := by
  obtain ⟨hz1, hz3⟩ := hd
  subst hz3
  exact r_ior hz1 k
theorem s_ixor {a b : Int32} (hd : ax_dc y pc (.ixor) 1 pc1) (k : ax_R d B y pc1 ls (.int (a ^^^ b) :: st) sh m Q) : ax_R d B y pc ls (.int b :: .int a :: st) sh m Q := by
  obtain ⟨hz1, hz3⟩ := hd
  subst hz3
  exact r_ixor hz1 k
theorem s_ishl {a b : Int32} (hd : ax_dc y pc (.ishl) 1 pc1) (k : ax_R d B y pc1 ls (.int (a <<< (b &&& 31)) :: st) sh m Q) : ax_R d B y pc ls (.int b :: .int a :: st) sh m Q := by
  obtain ⟨hz1, hz3⟩ := hd
  subst hz3
  exact r_ishl hz1 k
theorem s_ishr {a b : Int32} (hd : ax_dc y pc (.ishr) 1 pc1) (k : ax_R d B y pc1 ls (.int (a >>> (b &&& 31)) :: st) sh m Q) : ax_R d B y pc ls (.int b :: .int a :: st) sh m Q := by
  obtain ⟨hz1, hz3⟩ := hd
  subst hz3
  exact r_ishr hz1 k
theorem s_idiv {a b : Int32} (hd : ax_dc y pc (.idiv) 1 pc1) (hn : ¬ b = 0) (k : ax_R d B y pc1 ls (.int (a / b) :: st) sh m Q) : ax_R d B y pc ls (.int b :: .int a :: st) sh m Q := by
  obtain ⟨hz1, hz3⟩ := hd
  subst hz3
  exact r_idiv hz1 hn k
theorem s_irem {a b : Int32} (hd : ax_dc y pc (.irem) 1 pc1) (hn : ¬ b = 0) (k : ax_R d B y pc1 ls (.int (a - a / b * b) :: st) sh m Q) : ax_R d B y pc ls (.int b :: .int a :: st) sh m Q := by
  obtain ⟨hz1, hz3⟩ := hd
  subst hz3
  exact r_irem hz1 hn k
theorem s_ineg {a : Int32} (hd : ax_dc y pc (.ineg) 1 pc1) (k : ax_R d B y pc1 ls (.int (-a) :: st) sh m Q) : ax_R d B y pc ls (.int a :: st) sh m Q := by
  obtain ⟨hz1, hz3⟩ := hd
  subst hz3
  exact r_ineg hz1 k
theorem s_ladd {a b : Int64} (hd : ax_dc y pc (.ladd) 1 pc1) (k : ax_R d B y pc1 ls (.long (a + b) :: st) sh m Q) : ax_R d B y pc ls (.long b :: .long a :: st) sh m Q := by
  obtain ⟨hz1, hz3⟩ := hd
  subst hz3
  exact r_ladd hz1 k
theorem s_land {a b : Int64} (hd : ax_dc y pc (.land) 1 pc1) (k : ax_R d B y pc1 ls (.long (a &&& b) :: st) sh m Q) : ax_R d B y pc ls (.long b :: .long a :: st) sh m Q := by
  obtain ⟨hz1, hz3⟩ := hd
  subst hz3
  exact r_land hz1 k
theorem s_lor {a b : Int64} (hd : ax_dc y pc (.lor) 1 pc1) (k : ax_R d B y pc1 ls (.long (a ||| b) :: st) sh m Q) : ax_R d B y pc ls (.long b :: .long a :: st) sh m Q := by
  obtain ⟨hz1, hz3⟩ := hd
  subst hz3
  exact r_lor hz1 k
theorem s_iushr {a b : Int32} (hd : ax_dc y pc (.iushr) 1 pc1) (k : ax_R d B y pc1 ls (.int ((a.toUInt32 >>> (b.toUInt32 &&& Int32.toUInt32 31)).toInt32) :: st) sh m Q) : ax_R d B y pc ls (.int b :: .int a :: st) sh m Q := by
  obtain ⟨hz1, hz3⟩ := hd
  subst hz3
  exact r_iushr hz1 k
theorem s_lushr {a : Int64} {b : Int32} (hd : ax_dc y pc (.lushr) 1 pc1) (k : ax_R d B y pc1 ls (.long ((a.toUInt64 >>> (b.toInt64.toUInt64 &&& Int64.toUInt64 63)).toInt64) :: st) sh m Q) : ax_R d B y pc ls (.int b :: .long a :: st) sh m Q := by
  obtain ⟨hz1, hz3⟩ := hd
  subst hz3
  exact r_lushr hz1 k
theorem s_lshl {a : Int64} {b : Int32} (hd : ax_dc y pc (.lshl) 1 pc1) (k : ax_R d B y pc1 ls (.long (a <<< (b.toInt64 &&& 63)) :: st) sh m Q) : ax_R d B y pc ls (.int b :: .long a :: st) sh m Q := by
  obtain ⟨hz1, hz3⟩ := hd
  subst hz3
  exact r_lshl hz1 k
theorem s_lshr {a : Int64} {b : Int32} (hd : ax_dc y pc (.lshr) 1 pc1) (k : ax_R d B y pc1 ls (.long (a >>> (b.toInt64 &&& 63)) :: st) sh m Q) : ax_R d B y pc ls (.int b :: .long a :: st) sh m Q := by
  obtain ⟨hz1, hz3⟩ := hd
  subst hz3
  exact r_lshr hz1 k
theorem s_i2l {a : Int32} (hd : ax_dc y pc (.i2l) 1 pc1) (k : ax_R d B y pc1 ls (.long a.toInt64 :: st) sh m Q) : ax_R d B y pc ls (.int a :: st) sh m Q := by
  obtain ⟨hz1, hz3⟩ := hd
  subst hz3
  exact r_i2l hz1 k
theorem s_l2i {a : Int64} (hd : ax_dc y pc (.l2i) 1 pc1) (k : ax_R d B y pc1 ls (.int a.toInt32 :: st) sh m Q) : ax_R d B y pc ls (.long a :: st) sh m Q := by
  obtain ⟨hz1, hz3⟩ := hd
  subst hz3
  exact r_l2i hz1 k
theorem s_i2b {a : Int32} (hd : ax_dc y pc (.i2b) 1 pc1) (k : ax_R d B y pc1 ls (.int a.toInt8.toInt32 :: st) sh m Q) : ax_R d B y pc ls (.int a :: st) sh m Q := by
  obtain ⟨hz1, hz3⟩ := hd
  subst hz3
  exact r_i2b hz1 k
theorem s_i2s {a : Int32} (hd : ax_dc y pc (.i2s) 1 pc1) (k : ax_R d B y pc1 ls (.int a.toInt16.toInt32 :: st) sh m Q) : ax_R d B y pc ls (.int a :: st) sh m Q := by
  obtain ⟨hz1, hz3⟩ := hd
  subst hz3
  exact r_i2s hz1 k
theorem s_dup {v : Value} (hd : ax_dc y pc (.dup) 1 pc1) (hv : v.category = 1) (k : ax_R d B y pc1 ls (v :: v :: st) sh m Q) : ax_R d B y pc ls (v :: st) sh m Q := by
  obtain ⟨hz1, hz3⟩ := hd
  subst hz3
  exact r_dup hz1 hv k
theorem s_pop {v : Value} (hd : ax_dc y pc (.pop) 1 pc1) (hv : v.category = 1) (k : ax_R d B y pc1 ls st sh m Q) : ax_R d B y pc ls (v :: st) sh m Q := by
  obtain ⟨hz1, hz3⟩ := hd
  subst hz3
  exact r_pop hz1 hv k
theorem s_dup2 {v w : Value} (hd : ax_dc y pc (.dup2) 1 pc1) (hv : v.category = 1) (hw : w.category = 1) (k : ax_R d B y pc1 ls (v :: w :: v :: w :: st) sh m Q) : ax_R d B y pc ls (v :: w :: st) sh m Q := by
  obtain ⟨hz1, hz3⟩ := hd
  subst hz3
  exact r_dup2 hz1 hv hw k
theorem s_goto {off : Int} {tgt : Nat} (hd : ax_dj y pc (.goto off) 3 pc1 off tgt) (k : ax_R d B y tgt ls st sh m Q) : ax_R d B y pc ls st sh m Q := by
  obtain ⟨hz1, hz3, hz2⟩ := hd
  subst hz3
  exact r_goto hz1 hz2 k
theorem s_if_eq {a : Int32} {off : Int} {tgt : Nat} (hd : ax_dj y pc (.ifCond .eq off) 3 pc1 off tgt) (kt : a = 0 → ax_R d B y tgt ls st sh m Q) (kf : ¬ a = 0 → ax_R d B y pc1 ls st sh m Q) : ax_R d B y pc ls (.int a :: st) sh m Q := by
  obtain ⟨hz1, hz3, hz2⟩ := hd
  subst hz3
  exact r_if_eq hz1 hz2 kt kf
theorem s_icmp_eq {a b : Int32} {off : Int} {tgt : Nat} (hd : ax_dj y pc (.if_icmp .eq off) 3 pc1 off tgt) (kt : a = b → ax_R d B y tgt ls st sh m Q) (kf : ¬ a = b → ax_R d B y pc1 ls st sh m Q) : ax_R d B y pc ls (.int b :: .int a :: st) sh m Q := by
  obtain ⟨hz1, hz3, hz2⟩ := hd
  subst hz3
  exact r_icmp_eq hz1 hz2 kt kf
theorem s_if_ne {a : Int32} {off : Int} {tgt : Nat} (hd : ax_dj y pc (.ifCond .ne off) 3 pc1 off tgt) (kt : ¬ a = 0 → ax_R d B y tgt ls st sh m Q) (kf : a = 0 → ax_R d B y pc1 ls st sh m Q) : ax_R d B y pc ls (.int a :: st) sh m Q := by
  obtain ⟨hz1, hz3, hz2⟩ := hd
  subst hz3
  exact r_if_ne hz1 hz2 kt kf
theorem s_icmp_ne {a b : Int32} {off : Int} {tgt : Nat} (hd : ax_dj y pc (.if_icmp .ne off) 3 pc1 off tgt) (kt : ¬ a = b → ax_R d B y tgt ls st sh m Q) (kf : a = b → ax_R d B y pc1 ls st sh m Q) : ax_R d B y pc ls (.int b :: .int a :: st) sh m Q := by
  obtain ⟨hz1, hz3, hz2⟩ := hd
  subst hz3
  exact r_icmp_ne hz1 hz2 kt kf
theorem s_if_lt {a : Int32} {off : Int} {tgt : Nat} (hd : ax_dj y pc (.ifCond .lt off) 3 pc1 off tgt) (kt : a < 0 → ax_R d B y tgt ls st sh m Q) (kf : ¬ a < 0 → ax_R d B y pc1 ls st sh m Q) : ax_R d B y pc ls (.int a :: st) sh m Q := by
  obtain ⟨hz1, hz3, hz2⟩ := hd
  subst hz3
  exact r_if_lt hz1 hz2 kt kf
theorem s_icmp_lt {a b : Int32} {off : Int} {tgt : Nat} (hd : ax_dj y pc (.if_icmp .lt off) 3 pc1 off tgt) (kt : a < b → ax_R d B y tgt ls st sh m Q) (kf : ¬ a < b → ax_R d B y pc1 ls st sh m Q) : ax_R d B y pc ls (.int b :: .int a :: st) sh m Q := by
  obtain ⟨hz1, hz3, hz2⟩ := hd
  subst hz3
  exact r_icmp_lt hz1 hz2 kt kf
theorem s_if_ge {a : Int32} {off : Int} {tgt : Nat} (hd : ax_dj y pc (.ifCond .ge off) 3 pc1 off tgt) (kt : 0 ≤ a → ax_R d B y tgt ls st sh m Q) (kf : ¬ 0 ≤ a → ax_R d B y pc1 ls st sh m Q) : ax_R d B y pc ls (.int a :: st) sh m Q := by
  obtain ⟨hz1, hz3, hz2⟩ := hd
  subst hz3
  exact r_if_ge hz1 hz2 kt kf
theorem s_icmp_ge {a b : Int32} {off : Int} {tgt : Nat} (hd : ax_dj y pc (.if_icmp .ge off) 3 pc1 off tgt) (kt : b ≤ a → ax_R d B y tgt ls st sh m Q) (kf : ¬ b ≤ a → ax_R d B y pc1 ls st sh m Q) : ax_R d B y pc ls (.int b :: .int a :: st) sh m Q := by
  obtain ⟨hz1, hz3, hz2⟩ := hd
  subst hz3
  exact r_icmp_ge hz1 hz2 kt kf
theorem s_if_gt {a : Int32} {off : Int} {tgt : Nat} (hd : ax_dj y pc (.ifCond .gt off) 3 pc1 off tgt) (kt : 0 < a → ax_R d B y tgt ls st sh m Q) (kf : ¬ 0 < a → ax_R d B y pc1 ls st sh m Q) : ax_R d B y pc ls (.int a :: st) sh m Q := by
  obtain ⟨hz1, hz3, hz2⟩ := hd
  subst hz3
  exact r_if_gt hz1 hz2 kt kf
theorem s_icmp_gt {a b : Int32} {off : Int} {tgt : Nat} (hd : ax_dj y pc (.if_icmp .gt off) 3 pc1 off tgt) (kt : b < a → ax_R d B y tgt ls st sh m Q) (kf : ¬ b < a → ax_R d B y pc1 ls st sh m Q) : ax_R d B y pc ls (.int b :: .int a :: st) sh m Q := by
  obtain ⟨hz1, hz3, hz2⟩ := hd
  subst hz3
  exact r_icmp_gt hz1 hz2 kt kf
theorem s_if_le {a : Int32} {off : Int} {tgt : Nat} (hd : ax_dj y pc (.ifCond .le off) 3 pc1 off tgt) (kt : a ≤ 0 → ax_R d B y tgt ls st sh m Q) (kf : ¬ a ≤ 0 → ax_R d B y pc1 ls st sh m Q) : ax_R d B y pc ls (.int a :: st) sh m Q := by
  obtain ⟨hz1, hz3, hz2⟩ := hd
  subst hz3
  exact r_if_le hz1 hz2 kt kf
theorem s_icmp_le {a b : Int32} {off : Int} {tgt : Nat} (hd : ax_dj y pc (.if_icmp .le off) 3 pc1 off tgt) (kt : a ≤ b → ax_R d B y tgt ls st sh m Q) (kf : ¬ a ≤ b → ax_R d B y pc1 ls st sh m Q) : ax_R d B y pc ls (.int b :: .int a :: st) sh m Q := by
  obtain ⟨hz1, hz3, hz2⟩ := hd
  subst hz3
  exact r_icmp_le hz1 hz2 kt kf
theorem s_ifnull {x : Nat} {off : Int} (hd : ax_dc y pc (.ifnull off) 3 pc1) (k : ax_R d B y pc1 ls st sh m Q) : ax_R d B y pc ls (.ref x :: st) sh m Q := by
  obtain ⟨hz1, hz3⟩ := hd
  subst hz3
  exact r_ifnull hz1 k
theorem s_ifnullN {off : Int} {tgt : Nat} (hd : ax_dj y pc (.ifnull off) 3 pc1 off tgt) (k : ax_R d B y tgt ls st sh m Q) : ax_R d B y pc ls (.null :: st) sh m Q := by
  obtain ⟨hz1, hz3, hz2⟩ := hd
  subst hz3
  exact r_ifnullN hz1 hz2 k
theorem s_ifnonnull {x : Nat} {off : Int} {tgt : Nat} (hd : ax_dj y pc (.ifnonnull off) 3 pc1 off tgt) (k : ax_R d B y tgt ls st sh m Q) : ax_R d B y pc ls (.ref x :: st) sh m Q := by
  obtain ⟨hz1, hz3, hz2⟩ := hd
  subst hz3
  exact r_ifnonnull hz1 hz2 k
theorem s_ifnonnullN {off : Int} (hd : ax_dc y pc (.ifnonnull off) 3 pc1) (k : ax_R d B y pc1 ls st sh m Q) : ax_R d B y pc ls (.null :: st) sh m Q := by
  obtain ⟨hz1, hz3⟩ := hd
  subst hz3
  exact r_ifnonnullN hz1 k
theorem s_tabOut {dflt lo hi : Int} {offs : Array Int} {len : Nat} {x : Int32} {tgt : Nat} (hd : ax_dj y pc (.tableswitch dflt lo hi offs) len pc1 dflt tgt) (h : x.toInt < lo ∨ hi < x.toInt) (k : ax_R d B y tgt ls st sh m Q) : ax_R d B y pc ls (.int x :: st) sh m Q := by
  obtain ⟨hz1, hz3, hz2⟩ := hd
  subst hz3
  exact r_tabOut hz1 h hz2 k
theorem s_tabIn {dflt lo hi : Int} {offs : Array Int} {len : Nat} {x : Int32} {off : Int} {tgt : Nat} (hd : ax_dj y pc (.tableswitch dflt lo hi offs) len pc1 off tgt) (h1 : ¬ x.toInt < lo) (h2 : ¬ hi < x.toInt) (ho : offs[(x.toInt - lo).toNat]? = some off) (k : ax_R d B y tgt ls st sh m Q) : ax_R d B y pc ls (.int x :: st) sh m Q := by
  obtain ⟨hz1, hz3, hz2⟩ := hd
  subst hz3
  exact r_tabIn hz1 h1 h2 ho hz2 k
theorem s_lcmp {a b : Int64} (hd : ax_dc y pc (.lcmp) 1 pc1) (k : ax_R d B y pc1 ls (.int (lg_cmp a b) :: st) sh m Q) : ax_R d B y pc ls (.long b :: .long a :: st) sh m Q := by
  obtain ⟨hz1, hz3⟩ := hd
  subst hz3
  exact r_lcmp hz1 k
theorem s_iret {v : Int32} (hd : ax_dc y pc (.ireturn) 1 pc1) (hr : y.2.2.2 = some .int) (hq : Q (some (.int v)) sh m) : ax_R d B y pc ls [.int v] sh m Q := by
  obtain ⟨hz1, hz3⟩ := hd
  subst hz3
  exact r_iret hz1 hr hq
theorem s_zret {v : Int32} (hd : ax_dc y pc (.ireturn) 1 pc1) (hr : y.2.2.2 = some .boolean) (hv : v = 0 ∨ v = 1) (hq : Q (some (.int v)) sh m) : ax_R d B y pc ls [.int v] sh m Q := by
  obtain ⟨hz1, hz3⟩ := hd
  subst hz3
  exact r_zret hz1 hr hv hq
theorem s_vret (hd : ax_dc y pc (.return_) 1 pc1) (hr : y.2.2.2 = none) (hq : Q none sh m) : ax_R d B y pc ls [] sh m Q := by
  obtain ⟨hz1, hz3⟩ := hd
  subst hz3
  exact r_vret hz1 hr hq
theorem s_aret {v : Value} {C : String} (hd : ax_dc y pc (.areturn) 1 pc1) (hr : y.2.2.2 = some (.object C)) (hv : v = .null ∨ ∃ k, v = .ref k) (hq : Q (some v) sh m) : ax_R d B y pc ls [v] sh m Q := by
  obtain ⟨hz1, hz3⟩ := hd
  subst hz3
  exact r_aret hz1 hr hv hq
theorem s_get {idx ci k i : Nat} {rs : List (Option (Option Nat))} {r : Option (Option Nat)} (hd : ax_dc y pc (.getfield idx) 3 pc1) (fl : ax_fl y.1.cls idx ci k) (ho : sh[i]? = some (0, ci, rs)) (hr : rs[k]? = some r) (kk : ax_R d B y pc1 ls (ax_fv m i k r :: st) sh m Q) : ax_R d B y pc ls (.ref i :: st) sh m Q := by
  obtain ⟨hz1, hz3⟩ := hd
  subst hz3
  exact r_get hz1 fl ho hr kk
theorem s_geti {idx ci k i : Nat} {rs : List (Option (Option Nat))} (hd : ax_dc y pc (.getfield idx) 3 pc1) (fl : ax_fl y.1.cls idx ci k) (ho : sh[i]? = some (0, ci, rs)) (hr : rs[k]? = some none) (kk : ax_R d B y pc1 ls (.int (m i k) :: st) sh m Q) : ax_R d B y pc ls (.ref i :: st) sh m Q := by
  obtain ⟨hz1, hz3⟩ := hd
  subst hz3
  exact r_geti hz1 fl ho hr kk
theorem s_getr {idx ci k i q : Nat} {rs : List (Option (Option Nat))} (hd : ax_dc y pc (.getfield idx) 3 pc1) (fl : ax_fl y.1.cls idx ci k) (ho : sh[i]? = some (0, ci, rs)) (hr : rs[k]? = some (some (some q))) (kk : ax_R d B y pc1 ls (.ref q :: st) sh m Q) : ax_R d B y pc ls (.ref i :: st) sh m Q := by
  obtain ⟨hz1, hz3⟩ := hd
  subst hz3
  exact r_getr hz1 fl ho hr kk
theorem s_puti {idx ci k i : Nat} {x : Int32} {ty : FieldType} {rs : List (Option (Option Nat))} (hd : ax_dc y pc (.putfield idx) 3 pc1) (fl : ax_fl y.1.cls idx ci k) (fp : ax_fp ci k ty false) (hn : narrow ty (.int x) = .int x) (hfit : fits ty (.int x) = true) (ho : sh[i]? = some (0, ci, rs)) (hr : rs[k]? = some none) (kk : ax_R d B y pc1 ls st sh (ax_up m i k x) Q) : ax_R d B y pc ls (.int x :: .ref i :: st) sh m Q := by
  obtain ⟨hz1, hz3⟩ := hd
  subst hz3
  exact r_puti hz1 fl fp hn hfit ho hr kk
theorem s_putr {idx ci k i q : Nat} {ty : FieldType} {rs : List (Option (Option Nat))} {sh' : ax_S} (hd : ax_dc y pc (.putfield idx) 3 pc1) (hnm2 : y.1.name = "<init>") (fl : ax_fl y.1.cls idx ci k) (fp : ax_fp ci k ty true) (hown : ∀ q, ax_cl[ci]? = some q → q.1 = y.1.cls) (hn : ∀ a, narrow ty (.ref a) = .ref a) (hfit : ∀ a, fits ty (.ref a) = true) (hnl : ∀ host T, ax_cl[ci]? = some T → ¬ Cond.fieldLinkNest y.1.cls idx (T.2.1 k).1 (T.2.1 k).2.1 (T.2.1 k).2.2.1 host ∈ ax_wt) (ho : sh[i]? = some (0, ci, rs)) (hr : k < rs.length) (hs : sh.set i (0, ci, rs.set k (some (some q))) = sh') (kk : ax_R d B y pc1 ls st sh' m Q) : ax_R d B y pc ls (.ref q :: .ref i :: st) sh m Q := by
  obtain ⟨hz1, hz3⟩ := hd
  subst hz3
  exact r_putr hz1 hnm2 fl fp hown hn hfit hnl ho hr hs kk
theorem s_iald {i n : Nat} {rs : List (Option (Option Nat))} {j : Int32} (hd : ax_dc y pc (.iaload) 1 pc1) (ho : sh[i]? = some (1, n, rs)) (hin : vp_in j n) (kk : ax_R d B y pc1 ls (.int (m i j.toNatClampNeg) :: st) sh m Q) : ax_R d B y pc ls (.int j :: .ref i :: st) sh m Q := by
  obtain ⟨hz1, hz3⟩ := hd
  subst hz3
  exact r_iald hz1 ho hin kk
theorem s_zald {i n : Nat} {rs : List (Option (Option Nat))} {j : Int32} (hd : ax_dc y pc (.baload) 1 pc1) (ho : sh[i]? = some (2, n, rs)) (hin : vp_in j n) (kk : ax_R d B y pc1 ls (.int (m i j.toNatClampNeg) :: st) sh m Q) : ax_R d B y pc ls (.int j :: .ref i :: st) sh m Q := by
  obtain ⟨hz1, hz3⟩ := hd
  subst hz3
  exact r_zald hz1 ho hin kk
theorem s_iast {i n : Nat} {rs : List (Option (Option Nat))} {j x : Int32} (hd : ax_dc y pc (.iastore) 1 pc1) (ho : sh[i]? = some (1, n, rs)) (hin : vp_in j n) (kk : ax_R d B y pc1 ls st sh (ax_up m i j.toNatClampNeg x) Q) : ax_R d B y pc ls (.int x :: .int j :: .ref i :: st) sh m Q := by
  obtain ⟨hz1, hz3⟩ := hd
  subst hz3
  exact r_iast hz1 ho hin kk
theorem s_zast {i n : Nat} {rs : List (Option (Option Nat))} {j x x' : Int32} (hd : ax_dc y pc (.bastore) 1 pc1) (ho : sh[i]? = some (2, n, rs)) (hin : vp_in j n) (hx : vp_nar .boolean x = x') (kk : ax_R d B y pc1 ls st sh (ax_up m i j.toNatClampNeg x') Q) : ax_R d B y pc ls (.int x :: .int j :: .ref i :: st) sh m Q := by
  obtain ⟨hz1, hz3⟩ := hd
  subst hz3
  exact r_zast hz1 ho hin hx kk
theorem s_alen {i n k : Nat} {rs : List (Option (Option Nat))} {v : Int32} (hd : ax_dc y pc (.arraylength) 1 pc1) (ho : sh[i]? = some (k + 1, n, rs)) (hv : Int32.ofNat n = v) (kk : ax_R d B y pc1 ls (.int v :: st) sh m Q) : ax_R d B y pc ls (.ref i :: st) sh m Q := by
  obtain ⟨hz1, hz3⟩ := hd
  subst hz3
  exact r_alen hz1 ho hv kk
theorem s_aald {i n q : Nat} {rs : List (Option (Option Nat))} {j : Int32} (hd : ax_dc y pc (.aaload) 1 pc1) (ho : sh[i]? = some (3, n, rs)) (hin : vp_in j n) (hq : (rs.getD j.toNatClampNeg none).getD none = some q) (kk : ax_R d B y pc1 ls (.ref q :: st) sh m Q) : ax_R d B y pc ls (.int j :: .ref i :: st) sh m Q := by
  obtain ⟨hz1, hz3⟩ := hd
  subst hz3
  exact r_aald hz1 ho hin hq kk
theorem s_aast {i n q : Nat} {rs ro : List (Option (Option Nat))} {j : Int32} {sh' : ax_S} (hd : ax_dc y pc (.aastore) 1 pc1) (ho : sh[i]? = some (3, n, rs)) (hv : sh[q]? = some (0, 1, ro)) (hin : vp_in j n) (hl : j.toNatClampNeg < rs.length) (hs : sh.set i (3, n, rs.set j.toNatClampNeg (some (some q))) = sh') (kk : ax_R d B y pc1 ls st sh' m Q) : ax_R d B y pc ls (.ref q :: .int j :: .ref i :: st) sh m Q := by
  obtain ⟨hz1, hz3⟩ := hd
  subst hz3
  exact r_aast hz1 ho hv hin hl hs kk
theorem s_new {idx ci : Nat} {C : String} {Tb : u_T} {N : Nat} {rs : List (Option (Option Nat))} (ty : Nat → FieldType) (hd : ax_dc y pc (.new idx) 3 pc1) (hc : ax_cl[ci]? = some (C, Tb, N)) (hin : ∀ w ∈ u_ws C Tb N, w ∈ ax_wt) (hty : ∀ k, k < N → parseFieldDescriptor (Tb k).2.2.1 = some (ty k)) (hw : Cond.classLink y.1.cls idx C ∈ ax_wt ∧ Cond.instantiable C N ∈ ax_wt ∧ Cond.initialized C ∈ ax_wt) (hN : rs.length = N) (hr : ∀ j, j < N → (rs.getD j none = none ∨ rs.getD j none = some none) ∧ defaultValue (ty j) = ax_dv (rs.getD j none)) (hm : ∀ j, m sh.length j = 0) (hB : sh.length + 1 ≤ B.1 ∧ ax_sl sh + N ≤ B.2) (hlt : sh.length < 1000) (kk : ax_R d B y pc1 ls (.ref sh.length :: st) (sh ++ [(0, ci, rs)]) m Q) : ax_R d B y pc ls st sh m Q := by
  obtain ⟨hz1, hz3⟩ := hd
  subst hz3
  exact r_new ty hz1 hc hin hty hw hN hr hm hB hlt kk
theorem s_newi {N : Nat} {n : Int32} (hd : ax_dc y pc (.newarray .int) 2 pc1) (hw : Cond.arrayClass .int ∈ ax_wt) (hn : ¬ n < 0) (hN : n.toNatClampNeg = N) (hb : N * componentBytes .int ≤ 536870912) (hm : m sh.length = fun _ => 0) (hB : sh.length + 1 ≤ B.1 ∧ ax_sl sh + N ≤ B.2) (hlt : sh.length < 1000) (kk : ax_R d B y pc1 ls (.ref sh.length :: st) (sh ++ [(1, N, [])]) m Q) : ax_R d B y pc ls (.int n :: st) sh m Q := by
  obtain ⟨hz1, hz3⟩ := hd
  subst hz3
  exact r_newi hz1 hw hn hN hb hm hB hlt kk
theorem s_newz {N : Nat} {n : Int32} (hd : ax_dc y pc (.newarray .boolean) 2 pc1) (hw : Cond.arrayClass .boolean ∈ ax_wt) (hn : ¬ n < 0) (hN : n.toNatClampNeg = N) (hb : N * componentBytes .boolean ≤ 536870912) (hm : m sh.length = fun _ => 0) (hB : sh.length + 1 ≤ B.1 ∧ ax_sl sh + N ≤ B.2) (hlt : sh.length < 1000) (kk : ax_R d B y pc1 ls (.ref sh.length :: st) (sh ++ [(2, N, [])]) m Q) : ax_R d B y pc ls (.int n :: st) sh m Q := by
  obtain ⟨hz1, hz3⟩ := hd
  subst hz3
  exact r_newz hz1 hw hn hN hb hm hB hlt kk
theorem s_newq {N idx : Nat} {n : Int32} {rs : List (Option (Option Nat))} (hd : ax_dc y pc (.anewarray idx) 3 pc1) (hw : Cond.classLink y.1.cls idx RX1 ∈ ax_wt) (hn : ¬ n < 0) (hN : n.toNatClampNeg = N) (hb : N * 4 ≤ 536870912) (hrs : ∀ j, (rs.getD j none).getD none = none) (hB : sh.length + 1 ≤ B.1 ∧ ax_sl sh + N ≤ B.2) (hlt : sh.length < 1000) (kk : ax_R d B y pc1 ls (.ref sh.length :: st) (sh ++ [(3, N, rs)]) m Q) : ax_R d B y pc ls (.int n :: st) sh m Q := by
  obtain ⟨hz1, hz3⟩ := hd
  subst hz3
  exact r_newq hz1 hw hn hN hb hrs hB hlt kk
theorem s_obj {idx i : Nat} (hd : ax_dc y pc (.invokespecial idx) 3 pc1) (hw : Cond.methodLink y.1.cls idx Lib.objectInit ∈ ax_wt) (hw2 : Cond.instanceMethod Lib.objectInit ∈ ax_wt) (hw3 : Cond.code Lib.objectInit ⟨#[0xb1]⟩ 1 none ∈ ax_wt) (hd1 : 1 ≤ d) (hst : (st.map fun v => v.category).sum ≤ 8) (kk : ax_R d B y pc1 ls st sh m Q) : ax_R d B y pc ls (.ref i :: st) sh m Q := by
  obtain ⟨hz1, hz3⟩ := hd
  subst hz3
  exact r_obj hz1 hw hw2 hw3 hd1 hst kk
theorem s_abs {idx : Nat} {x : Int32} (hd : ax_dc y pc (.invokestatic idx) 3 pc1) (hw : Cond.methodLink y.1.cls idx Lib.Math.abs.name ∈ ax_wt) (hw2 : Cond.static Lib.Math.abs.name ∈ ax_wt ∧ Cond.initialized "java/lang/Math" ∈ ax_wt ∧ Cond.code Lib.Math.abs.name Lib.Math.abs.code 1 (some .int) ∈ ax_wt) (hd1 : 1 ≤ d) (hst : (st.map fun v => v.category).sum ≤ 8) (kk : ax_R d B y pc1 ls (.int (if 0 ≤ x then x else 0 - x) :: st) sh m Q) : ax_R d B y pc ls (.int x :: st) sh m Q := by
  obtain ⟨hz1, hz3⟩ := hd
  subst hz3
  exact r_abs hz1 hw hw2 hd1 hst kk
theorem s_min {idx : Nat} {x z : Int32} (hd : ax_dc y pc (.invokestatic idx) 3 pc1) (hw : Cond.methodLink y.1.cls idx Lib.Math.min.name ∈ ax_wt) (hw2 : Cond.static Lib.Math.min.name ∈ ax_wt ∧ Cond.initialized "java/lang/Math" ∈ ax_wt ∧ Cond.code Lib.Math.min.name Lib.Math.min.code 2 (some .int) ∈ ax_wt) (hd1 : 1 ≤ d) (hst : (st.map fun v => v.category).sum ≤ 8) (kk : ax_R d B y pc1 ls (.int (if z < x then z else x) :: st) sh m Q) : ax_R d B y pc ls (.int z :: .int x :: st) sh m Q := by
  obtain ⟨hz1, hz3⟩ := hd
  subst hz3
  exact r_min hz1 hw hw2 hd1 hst kk
theorem s_max {idx : Nat} {x z : Int32} (hd : ax_dc y pc (.invokestatic idx) 3 pc1) (hw : Cond.methodLink y.1.cls idx Lib.Math.max.name ∈ ax_wt) (hw2 : Cond.static Lib.Math.max.name ∈ ax_wt ∧ Cond.initialized "java/lang/Math" ∈ ax_wt ∧ Cond.code Lib.Math.max.name Lib.Math.max.code 2 (some .int) ∈ ax_wt) (hd1 : 1 ≤ d) (hst : (st.map fun v => v.category).sum ≤ 8) (kk : ax_R d B y pc1 ls (.int (if x < z then z else x) :: st) sh m Q) : ax_R d B y pc ls (.int z :: .int x :: st) sh m Q := by
  obtain ⟨hz1, hz3⟩ := hd
  subst hz3
  exact r_max hz1 hw hw2 hd1 hst kk
theorem s_copy {idx i0 i1 n0 n1 : Nat} {rs0 rs1 : List (Option (Option Nat))} {n : Int32} {k : Nat} (hd : ax_dc y pc (.invokestatic idx) 3 pc1) (hw : Cond.methodLink y.1.cls idx arraycopyName ∈ ax_wt) (hw2 : Cond.native arraycopyName ∈ ax_wt ∧ Cond.static arraycopyName ∈ ax_wt ∧ Cond.initialized "java/lang/System" ∈ ax_wt) (h0 : sh[i0]? = some (1, n0, rs0)) (h1 : sh[i1]? = some (1, n1, rs1)) (hn : ¬ n < 0) (hk : n.toNatClampNeg = k) (hl0 : k ≤ n0) (hl1 : k ≤ n1) (hd1 : 1 ≤ d) (hst : (st.map fun v => v.category).sum ≤ 8) (kk : ax_R d B y pc1 ls st sh (fun a => if a = i1 then va_cpy (m i0) (m i1) 0 0 k else m a) Q) : ax_R d B y pc ls (.int n :: .int 0 :: .ref i1 :: .int 0 :: .ref i0 :: st) sh m Q := by
  obtain ⟨hz1, hz3⟩ := hd
  subst hz3
  exact r_copy hz1 hw hw2 h0 h1 hn hk hl0 hl1 hd1 hst kk
theorem s_callV {y' : ax_Y} {idx n ci i d' : Nat} {rs : List (Option (Option Nat))} {q : vw_C} {As stk : List Value} {Q' : ax_P} {B' : Nat × Nat} (hd : ax_dc y pc (.invokevirtual idx) 3 pc1) (hc : ax_code y') (hm : ax_mv y.1.cls idx y' n) (hq : ax_cl[ci]? = some q) (hqc : q.1 = y'.1.cls) (ho : sh[i]? = some (0, ci, rs)) (hn : As.length = n) (hstk : stk = As.reverse ++ .ref i :: st) (hw : (st.map fun v => v.category).sum ≤ 8) (hdd : d' + 1 ≤ d) (hfit : (ax_a1 (.ref i :: As)).length ≤ y'.2.2.1) (hB : sh.length ≤ B'.1 ∧ ax_sl sh ≤ B'.2 ∧ B'.1 ≤ B.1 ∧ B'.2 ≤ B.2) (hr : ax_RM d' B' y' (.ref i :: As) sh m Q') (hQ : ∀ r sh' m', Q' r sh' m' → sh'.length = B'.1 ∧ ax_sl sh' = B'.2) (kk : ∀ r sh' m', Q' r sh' m' → ax_R d B y pc1 ls (r.toList ++ st) sh' m' Q) : ax_R d B y pc ls stk sh m Q := by
  obtain ⟨hz1, hz3⟩ := hd
  subst hz3
  exact r_callV hz1 hc hm hq hqc ho hn hstk hw hdd hfit hB hr hQ kk
theorem s_callS {y' : ax_Y} {idx n d' : Nat} {As stk : List Value} {Q' : ax_P} {B' : Nat × Nat} (hd : ax_dc y pc (.invokestatic idx) 3 pc1) (hc : ax_code y') (hm : ax_ms y.1.cls idx y' n) (hn : As.length = n) (hstk : stk = As.reverse ++ st) (hw : (st.map fun v => v.category).sum ≤ 8) (hdd : d' + 1 ≤ d) (hfit : (ax_a1 As).length ≤ y'.2.2.1) (hB : sh.length ≤ B'.1 ∧ ax_sl sh ≤ B'.2 ∧ B'.1 ≤ B.1 ∧ B'.2 ≤ B.2) (hr : ax_RM d' B' y' As sh m Q') (hQ : ∀ r sh' m', Q' r sh' m' → sh'.length = B'.1 ∧ ax_sl sh' = B'.2) (kk : ∀ r sh' m', Q' r sh' m' → ax_R d B y pc1 ls (r.toList ++ st) sh' m' Q) : ax_R d B y pc ls stk sh m Q := by
  obtain ⟨hz1, hz3⟩ := hd
  subst hz3
  exact r_callS hz1 hc hm hn hstk hw hdd hfit hB hr hQ kk
theorem s_callI {y' : ax_Y} {idx n i d' : Nat} {o : ax_O} {As stk : List Value} {Q' : ax_P} {B' : Nat × Nat} (hd : ax_dc y pc (.invokespecial idx) 3 pc1) (hc : ax_code y') (hm : ax_mi y.1.cls idx y' n) (ho : sh[i]? = some o) (hn : As.length = n) (hstk : stk = As.reverse ++ .ref i :: st) (hw : (st.map fun v => v.category).sum ≤ 8) (hdd : d' + 1 ≤ d) (hfit : (ax_a1 (.ref i :: As)).length ≤ y'.2.2.1) (hB : sh.length ≤ B'.1 ∧ ax_sl sh ≤ B'.2 ∧ B'.1 ≤ B.1 ∧ B'.2 ≤ B.2) (hr : ax_RM d' B' y' (.ref i :: As) sh m Q') (hQ : ∀ r sh' m', Q' r sh' m' → sh'.length = B'.1 ∧ ax_sl sh' = B'.2) (kk : ∀ r sh' m', Q' r sh' m' → ax_R d B y pc1 ls (r.toList ++ st) sh' m' Q) : ax_R d B y pc ls stk sh m Q := by
  obtain ⟨hz1, hz3⟩ := hd
  subst hz3
  exact r_callI hz1 hc hm ho hn hstk hw hdd hfit hB hr hQ kk
theorem s_ldcs {i j : Nat} {tx : String} (hd : ax_dc y pc (.ldc i) 2 pc1) (ho : y.1.cls = RX4) (hj : ax_tx[j]? = some (i, tx)) (kk : ax_R d B y pc1 ls (.ref (1000 + j) :: st) sh m Q) : ax_R d B y pc ls st sh m Q := by
  obtain ⟨hz1, hz3⟩ := hd
  subst hz3
  exact r_ldcs hz1 ho hj kk
theorem s_sval {idx j : Nat} (hd : ax_dc y pc (.getfield idx) 3 pc1) (hj : j < 11) (hw : Cond.fieldLink y.1.cls idx "java/lang/String" "value" "[B" ∈ ax_wt) (kk : ax_R d B y pc1 ls (.ref (2000 + j) :: st) sh m Q) : ax_R d B y pc ls (.ref (1000 + j) :: st) sh m Q := by
  obtain ⟨hz1, hz3⟩ := hd
  subst hz3
  exact r_sval hz1 hj hw kk
theorem s_scod {idx j : Nat} (hd : ax_dc y pc (.getfield idx) 3 pc1) (hj : j < 11) (hw : Cond.fieldLink y.1.cls idx "java/lang/String" "coder" "B" ∈ ax_wt) (kk : ax_R d B y pc1 ls (.int 0 :: st) sh m Q) : ax_R d B y pc ls (.ref (1000 + j) :: st) sh m Q := by
  obtain ⟨hz1, hz3⟩ := hd
  subst hz3
  exact r_scod hz1 hj hw kk
theorem s_slen {j : Nat} {v : Int32} (hd : ax_dc y pc (.arraylength) 1 pc1) (hj : j < 11) (hv : Int32.ofNat (ax_tl.getD j 0) = v) (kk : ax_R d B y pc1 ls (.int v :: st) sh m Q) : ax_R d B y pc ls (.ref (2000 + j) :: st) sh m Q := by
  obtain ⟨hz1, hz3⟩ := hd
  subst hz3
  exact r_slen hz1 hj hv kk
theorem s_sbald {j : Nat} {i v : Int32} (hd : ax_dc y pc (.baload) 1 pc1) (hj : j < 11) (hin : vp_in i (ax_tl.getD j 0)) (hv : (ax_tb.getD j []).getD i.toNatClampNeg 0 = v) (kk : ax_R d B y pc1 ls (.int v :: st) sh m Q) : ax_R d B y pc ls (.int i :: .ref (2000 + j) :: st) sh m Q := by
  obtain ⟨hz1, hz3⟩ := hd
  subst hz3
  exact r_sbald hz1 hj hin hv kk
theorem s_gcs {idx : Nat} (hd : ax_dc y pc (.getstatic idx) 3 pc1) (hw : Cond.fieldLink y.1.cls idx "java/lang/String" "COMPACT_STRINGS" "Z" ∈ ax_wt) (kk : ax_R d B y pc1 ls (.int 1 :: st) sh m Q) : ax_R d B y pc ls st sh m Q := by
  obtain ⟨hz1, hz3⟩ := hd
  subst hz3
  exact r_gcs hz1 hw kk
theorem s_gsf {idx : Nat} (hd : ax_dc y pc (.getstatic idx) 3 pc1) (hw : Cond.fieldLink y.1.cls idx "jdk/internal/util/Preconditions" "SIOOBE_FORMATTER" "Ljava/util/function/BiFunction;" ∈ ax_wt) (kk : ∀ v : Value, (v = .null ∨ ∃ k, v = .ref k) → ax_R d B y pc1 ls (v :: st) sh m Q) : ax_R d B y pc ls st sh m Q := by
  obtain ⟨hz1, hz3⟩ := hd
  subst hz3
  exact r_gsf hz1 hw kk
theorem s_i2c {a : Int32} (hd : ax_dc y pc (.i2c) 1 pc1) (k : ax_R d B y pc1 ls (.int (a.toUInt32 % 65536).toInt32 :: st) sh m Q) : ax_R d B y pc ls (.int a :: st) sh m Q := by
  obtain ⟨hz1, hz3⟩ := hd
  subst hz3
  exact r_i2c hz1 k
theorem s_nret {v : Int32} {ty : FieldType} (hd : ax_dc y pc (.ireturn) 1 pc1) (hr : y.2.2.2 = some ty) (hv : narrow ty (.int v) = .int v) (hq : Q (some (.int v)) sh m) : ax_R d B y pc ls [.int v] sh m Q := by
  obtain ⟨hz1, hz3⟩ := hd
  subst hz3
  exact r_nret hz1 hr hv hq
theorem s_callT {y' : ax_Y} {idx n j d' : Nat} {As stk : List Value} {Q' : ax_P} {B' : Nat × Nat} (hd : ax_dc y pc (.invokevirtual idx) 3 pc1) (hc : ax_code y') (hl : Cond.methodLink y.1.cls idx y'.1 ∈ ax_wt) (hm : Cond.instanceMethod y'.1 ∈ ax_wt ∧ Cond.selects y'.1.cls y'.1 y'.1 ∈ ax_wt ∧ (parseMethodDescriptor y'.1.desc).map (fun d => d.parameters.length) = some n) (hj : j < 11) (hqc : y'.1.cls = "java/lang/String") (hn : As.length = n) (hstk : stk = As.reverse ++ .ref (1000 + j) :: st) (hw : (st.map fun v => v.category).sum ≤ 8) (hdd : d' + 1 ≤ d) (hfit : (ax_a1 (.ref (1000 + j) :: As)).length ≤ y'.2.2.1) (hB : sh.length ≤ B'.1 ∧ ax_sl sh ≤ B'.2 ∧ B'.1 ≤ B.1 ∧ B'.2 ≤ B.2) (hr : ax_RM d' B' y' (.ref (1000 + j) :: As) sh m Q') (hQ : ∀ r sh' m', Q' r sh' m' → sh'.length = B'.1 ∧ ax_sl sh' = B'.2) (kk : ∀ r sh' m', Q' r sh' m' → ax_R d B y pc1 ls (r.toList ++ st) sh' m' Q) : ax_R d B y pc ls stk sh m Q := by
  obtain ⟨hz1, hz3⟩ := hd
  subst hz3
  exact r_callT hz1 hc hl hm hj hqc hn hstk hw hdd hfit hB hr hQ kk
end AXW
