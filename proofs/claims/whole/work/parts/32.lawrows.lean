/-! THE LAW: its judgement has the script beside the world -/
def YL (nm : String) : ax_Y := (⟨RL, nm, "([I)Z"⟩, code, 4, ret)
def lw_B : Nat × Nat := (600000, 7302249)
def ax_RX (nm : String) (L : Nat) (xs : Nat → Int32) (pc : Nat) (ls : ax_L) (st : List Value) (sh : ax_S) (m : ax_M) : Prop :=
  ∀ (p : Program) (l : Launch) (e : Env) (s : State) (mm : MethodId) (b : Addr) (below : List Frame) (meth : Method) (c : Code) (G : ax_G) (H : Heap) (locs : List Loc) (lsA : Array Slot),
    ax_T p room_1 s mm #[Value.ref b] meth c G 0 0 H locs lsA 60 lw_B (YL nm) ls sh m → va_X b L xs s s.heap → b < G.1 → G.2.2.2.2 999 = b →
    W p l e room_1 s mm #[Value.ref b] below meth c H locs (sh.length - 0) (ax_sl sh - 0) (lw_Z below #[Value.ref b] s) (F0 mm pc lsA (st.map (ax_cv G)))
theorem ax_RX.at {nm : String} {L : Nat} {xs : Nat → Int32} {pc : Nat} {ls : ax_L} {st : List Value} {sh : ax_S} {m : ax_M} (h : ax_RX nm L xs pc ls st sh m) {p : Program} {l : Launch} {e : Env} {s : State} {mm : MethodId} {b : Addr} {below : List Frame} {meth : Method} {c : Code} {G : ax_G} {H : Heap} {locs : List Loc} {lsA : Array Slot} (T : ax_T p room_1 s mm #[Value.ref b] meth c G 0 0 H locs lsA 60 lw_B (YL nm) ls sh m) (hX : va_X b L xs s s.heap) (hb : b < G.1) (hg : G.2.2.2.2 999 = b) : W p l e room_1 s mm #[Value.ref b] below meth c H locs (sh.length - 0) (ax_sl sh - 0) (lw_Z below #[Value.ref b] s) (F0 mm pc lsA (st.map (ax_cv G))) := h _ _ _ _ _ _ _ _ _ _ _ _ _ T hX hb hg
section AXL
variable {nm : String} {L : Nat} {xs : Nat → Int32} {pc pc1 : Nat} {ls : ax_L} {st : List Value} {sh : ax_S} {m : ax_M}
theorem x_iconst {n : Int} {v : Int32} (hd0 : ax_dc (YL nm) pc (.iconst n) 1 pc1) (hv : Int32.ofInt n = v) (k : ax_RX nm L xs pc1 ls (.int v :: st) sh m) : ax_RX nm L xs pc ls st sh m := by
  obtain ⟨hd, h3⟩ := hd0
  subst h3
  intro _ _ _ _ _ _ _ _ _ _ _ _ _ T hX hb hg
  exact lv_iconst T.1.1 T.1.2.1 hd hv (k.at T hX hb hg)
theorem x_bipush {n : Int} {v : Int32} (hd0 : ax_dc (YL nm) pc (.bipush n) 2 pc1) (hv : (Int8.ofInt n).toInt32 = v) (k : ax_RX nm L xs pc1 ls (.int v :: st) sh m) : ax_RX nm L xs pc ls st sh m := by
  obtain ⟨hd, h3⟩ := hd0
  subst h3
  intro _ _ _ _ _ _ _ _ _ _ _ _ _ T hX hb hg
  exact lv_bipush T.1.1 T.1.2.1 hd hv (k.at T hX hb hg)
theorem x_ldc2 {i : Nat} {v : Int64} (hd0 : ax_dc (YL nm) pc (.ldc2_w i) 3 pc1) (hw : Cond.constantLong (YL nm).1.cls i v ∈ ax_wt) (k : ax_RX nm L xs pc1 ls (.long v :: st) sh m) : ax_RX nm L xs pc ls st sh m := by
  obtain ⟨hd, h3⟩ := hd0
  subst h3
  intro _ _ _ _ _ _ _ _ _ _ _ _ _ T hX hb hg
  exact lv_ldc2 T.1.1 T.1.2.1 T.1.2.2.2.2.1 (T.1.2.2.2.2.2.1 _ hw) hd (k.at T hX hb hg)
theorem x_iload_n {k0 : Fin 4} {i : Nat} {x : Int32} (hd0 : ax_dc (YL nm) pc (.iload_n k0) 1 pc1) (hk : (k0 : Nat) = i) (hl : ls[i]? = some (some (.int x))) (k : ax_RX nm L xs pc1 ls (.int x :: st) sh m) : ax_RX nm L xs pc ls st sh m := by
  obtain ⟨hd, h3⟩ := hd0
  subst h3
  intro _ _ _ _ _ _ _ _ _ _ _ _ _ T hX hb hg
  exact lv_iload_n T.1.1 T.1.2.1 hd hk (ax_ld T.2.2.2.1 hl) (k.at T hX hb hg)
theorem x_aload_n {k0 : Fin 4} {i : Nat} {x : Nat} (hd0 : ax_dc (YL nm) pc (.aload_n k0) 1 pc1) (hk : (k0 : Nat) = i) (hl : ls[i]? = some (some (.ref x))) (k : ax_RX nm L xs pc1 ls (.ref x :: st) sh m) : ax_RX nm L xs pc ls st sh m := by
  obtain ⟨hd, h3⟩ := hd0
  subst h3
  intro _ _ _ _ _ _ _ _ _ _ _ _ _ T hX hb hg
  exact lv_aload_n T.1.1 T.1.2.1 hd hk (ax_ld T.2.2.2.1 hl) (k.at T hX hb hg)
theorem x_istore_n {k0 : Fin 4} {i : Nat} {x : Int32} {ls' : ax_L} (hd0 : ax_dc (YL nm) pc (.istore_n k0) 1 pc1) (hk : (k0 : Nat) = i) (ho : ax_ok ls i (YL nm).2.2.1 = true) (hs : ls.set i (some (.int x)) = ls') (k : ax_RX nm L xs pc1 ls' st sh m) : ax_RX nm L xs pc ls (.int x :: st) sh m := by
  obtain ⟨hd, h3⟩ := hd0
  subst h3
  intro _ _ _ _ _ _ _ _ _ _ _ _ _ T hX hb hg
  exact lv_istore_n T.1.1 T.1.2.1 hd hk T.2.2.2.1 (ax_okn ho) rfl (fun _ hl => k.at ⟨T.1, T.2.1, T.2.2.1, by rw [← hs]; exact ax_sto ho hl, T.2.2.2.2⟩ hX hb hg)
theorem x_astore_n {k0 : Fin 4} {i : Nat} {x : Nat} {ls' : ax_L} (hd0 : ax_dc (YL nm) pc (.astore_n k0) 1 pc1) (hk : (k0 : Nat) = i) (ho : ax_ok ls i (YL nm).2.2.1 = true) (hs : ls.set i (some (.ref x)) = ls') (k : ax_RX nm L xs pc1 ls' st sh m) : ax_RX nm L xs pc ls (.ref x :: st) sh m := by
  obtain ⟨hd, h3⟩ := hd0
  subst h3
  intro _ _ _ _ _ _ _ _ _ _ _ _ _ T hX hb hg
  exact lv_astore_n T.1.1 T.1.2.1 hd hk T.2.2.2.1 (ax_okn ho) rfl (fun _ hl => k.at ⟨T.1, T.2.1, T.2.2.1, by rw [← hs]; exact ax_sto ho hl, T.2.2.2.2⟩ hX hb hg)
theorem x_iinc {i : Nat} {n : Int} {x v : Int32} {ls' : ax_L} (hd0 : ax_dc (YL nm) pc (.iinc i n) 3 pc1) (hl : ls[i]? = some (some (.int x))) (hv : x + Int32.ofInt n = v) (ho : ax_ok ls i (YL nm).2.2.1 = true) (hs : ls.set i (some (.int v)) = ls') (k : ax_RX nm L xs pc1 ls' st sh m) : ax_RX nm L xs pc ls st sh m := by
  obtain ⟨hd, h3⟩ := hd0
  subst h3
  intro _ _ _ _ _ _ _ _ _ _ _ _ _ T hX hb hg
  obtain ⟨j, hj⟩ := List.getElem?_of_mem (ax_al_mem (i := 0).mpr ⟨i, .int x, hl, rfl⟩)
  rw [Nat.zero_add] at hj
  exact lv_iinc T.1.1 T.1.2.1 hd T.2.2.2.1 hj hv (ax_okn ho) rfl (fun _ h => k.at ⟨T.1, T.2.1, T.2.2.1, by rw [← hs]; exact ax_sto ho h, T.2.2.2.2⟩ hX hb hg)
theorem x_iadd {a b : Int32} (hd0 : ax_dc (YL nm) pc (.iadd) 1 pc1) (k : ax_RX nm L xs pc1 ls (.int (a + b) :: st) sh m) : ax_RX nm L xs pc ls (.int b :: .int a :: st) sh m := by
  obtain ⟨hd, h3⟩ := hd0
  subst h3
  intro _ _ _ _ _ _ _ _ _ _ _ _ _ T hX hb hg
  exact lv_iadd T.1.1 T.1.2.1 hd (k.at T hX hb hg)
theorem x_isub {a b : Int32} (hd0 : ax_dc (YL nm) pc (.isub) 1 pc1) (k : ax_RX nm L xs pc1 ls (.int (a - b) :: st) sh m) : ax_RX nm L xs pc ls (.int b :: .int a :: st) sh m := by
  obtain ⟨hd, h3⟩ := hd0
  subst h3
  intro _ _ _ _ _ _ _ _ _ _ _ _ _ T hX hb hg
  exact lv_isub T.1.1 T.1.2.1 hd (k.at T hX hb hg)
theorem x_iand {a b : Int32} (hd0 : ax_dc (YL nm) pc (.iand) 1 pc1) (k : ax_RX nm L xs pc1 ls (.int (a &&& b) :: st) sh m) : ax_RX nm L xs pc ls (.int b :: .int a :: st) sh m := by
  obtain ⟨hd, h3⟩ := hd0
  subst h3
  intro _ _ _ _ _ _ _ _ _ _ _ _ _ T hX hb hg
  exact lv_iand T.1.1 T.1.2.1 hd (k.at T hX hb hg)
theorem x_i2l {a : Int32} (hd0 : ax_dc (YL nm) pc (.i2l) 1 pc1) (k : ax_RX nm L xs pc1 ls (.long a.toInt64 :: st) sh m) : ax_RX nm L xs pc ls (.int a :: st) sh m := by
  obtain ⟨hd, h3⟩ := hd0
  subst h3
  intro _ _ _ _ _ _ _ _ _ _ _ _ _ T hX hb hg
  exact lv_i2l T.1.1 T.1.2.1 hd rfl (k.at T hX hb hg)
theorem x_lshl {a : Int64} {b : Int32} (hd0 : ax_dc (YL nm) pc (.lshl) 1 pc1) (k : ax_RX nm L xs pc1 ls (.long (a <<< (b.toInt64 &&& 63)) :: st) sh m) : ax_RX nm L xs pc ls (.int b :: .long a :: st) sh m := by
  obtain ⟨hd, h3⟩ := hd0
  subst h3
  intro _ _ _ _ _ _ _ _ _ _ _ _ _ T hX hb hg
  exact lv_lshl T.1.1 T.1.2.1 hd rfl (k.at T hX hb hg)
theorem x_land {a b : Int64} (hd0 : ax_dc (YL nm) pc (.land) 1 pc1) (k : ax_RX nm L xs pc1 ls (.long (a &&& b) :: st) sh m) : ax_RX nm L xs pc ls (.long b :: .long a :: st) sh m := by
  obtain ⟨hd, h3⟩ := hd0
  subst h3
  intro _ _ _ _ _ _ _ _ _ _ _ _ _ T hX hb hg
  exact lv_land T.1.1 T.1.2.1 hd (k.at T hX hb hg)
theorem x_lor {a b : Int64} (hd0 : ax_dc (YL nm) pc (.lor) 1 pc1) (k : ax_RX nm L xs pc1 ls (.long (a ||| b) :: st) sh m) : ax_RX nm L xs pc ls (.long b :: .long a :: st) sh m := by
  obtain ⟨hd, h3⟩ := hd0
  subst h3
  intro _ _ _ _ _ _ _ _ _ _ _ _ _ T hX hb hg
  exact lv_lor T.1.1 T.1.2.1 hd (k.at T hX hb hg)
theorem x_dup {v : Value} (hd0 : ax_dc (YL nm) pc (.dup) 1 pc1) (hv : v.category = 1) (k : ax_RX nm L xs pc1 ls (v :: v :: st) sh m) : ax_RX nm L xs pc ls (v :: st) sh m := by
  obtain ⟨hd, h3⟩ := hd0
  subst h3
  intro _ _ _ _ _ _ _ _ _ _ _ _ _ T hX hb hg
  exact lv_dup T.1.1 T.1.2.1 hd ((ax_cvcat _ _).trans hv) (k.at T hX hb hg)
theorem x_goto {off : Int} {tgt : Nat} (hd0 : ax_dj (YL nm) pc (.goto off) 3 pc1 off tgt) (k : ax_RX nm L xs tgt ls st sh m) : ax_RX nm L xs pc ls st sh m := by
  obtain ⟨hd, h3, ht⟩ := hd0
  subst h3
  intro _ _ _ _ _ _ _ _ _ _ _ _ _ T hX hb hg
  exact lv_goto T.1.1 T.1.2.1 hd ht (k.at T hX hb hg)
theorem x_icmp_gt {a b : Int32} {off : Int} {tgt : Nat} (hd0 : ax_dj (YL nm) pc (.if_icmp .gt off) 3 pc1 off tgt) (kt : b < a → ax_RX nm L xs tgt ls st sh m) (kf : ¬ b < a → ax_RX nm L xs pc1 ls st sh m) : ax_RX nm L xs pc ls (.int b :: .int a :: st) sh m := by
  obtain ⟨hd, h3, ht⟩ := hd0
  subst h3
  intro _ _ _ _ _ _ _ _ _ _ _ _ _ T hX hb hg
  exact lv_icmp_gt T.1.1 T.1.2.1 hd ht (fun h => (kt h).at T hX hb hg) (fun h => (kf h).at T hX hb hg)
theorem x_icmp_eq {a b : Int32} {off : Int} {tgt : Nat} (hd0 : ax_dj (YL nm) pc (.if_icmp .eq off) 3 pc1 off tgt) (kt : a = b → ax_RX nm L xs tgt ls st sh m) (kf : ¬ a = b → ax_RX nm L xs pc1 ls st sh m) : ax_RX nm L xs pc ls (.int b :: .int a :: st) sh m := by
  obtain ⟨hd, h3, ht⟩ := hd0
  subst h3
  intro _ _ _ _ _ _ _ _ _ _ _ _ _ T hX hb hg
  exact lv_icmp_eq T.1.1 T.1.2.1 hd ht (fun h => (kt h).at T hX hb hg) (fun h => (kf h).at T hX hb hg)
theorem x_tabIn {dflt lo hi : Int} {offs : Array Int} {len : Nat} {x : Int32} {off : Int} {tgt : Nat} (hd0 : ax_dj (YL nm) pc (.tableswitch dflt lo hi offs) len pc1 off tgt) (h1 : ¬ x.toInt < lo) (h2 : ¬ hi < x.toInt) (ho : offs[(x.toInt - lo).toNat]? = some off) (k : ax_RX nm L xs tgt ls st sh m) : ax_RX nm L xs pc ls (.int x :: st) sh m := by
  obtain ⟨hd, h3, ht⟩ := hd0
  subst h3
  intro _ _ _ _ _ _ _ _ _ _ _ _ _ T hX hb hg
  exact lv_tableIn T.1.1 T.1.2.1 hd h1 h2 ho ht (k.at T hX hb hg)
theorem x_tabOut {dflt lo hi : Int} {offs : Array Int} {len : Nat} {x : Int32} {tgt : Nat} (hd0 : ax_dj (YL nm) pc (.tableswitch dflt lo hi offs) len pc1 dflt tgt) (h : x.toInt < lo ∨ hi < x.toInt) (k : ax_RX nm L xs tgt ls st sh m) : ax_RX nm L xs pc ls (.int x :: st) sh m := by
  obtain ⟨hd, h3, ht⟩ := hd0
  subst h3
  intro _ _ _ _ _ _ _ _ _ _ _ _ _ T hX hb hg
  exact lv_tableOut T.1.1 T.1.2.1 hd h ht (k.at T hX hb hg)
theorem x_slen {v : Int32} (hd0 : ax_dc (YL nm) pc .arraylength 1 pc1) (hv : Int32.ofNat L = v) (k : ax_RX nm L xs pc1 ls (.int v :: st) sh m) : ax_RX nm L xs pc ls (.ref 2999 :: st) sh m := by
  obtain ⟨hd, h3⟩ := hd0
  subst h3
  subst hv
  intro p l e s mm b below meth c G H locs lsA T hX hb hg
  show W _ _ _ _ _ _ _ _ _ _ _ _ _ _ _ (F0 _ pc _ (.ref (ax_ad G 2999) :: st.map (ax_cv G)))
  rw [show ax_ad G 2999 = b by rw [show (2999 : Nat) = 2000 + 999 from rfl, ax_adv (by decide)]; exact hg]
  exact va_slen T.1.1 T.1.2.1 hX (by rw [T.1.2.2.2.2.2.2.2.2.2.2.2.2.2]; exact hb) (fun q => absurd hb (Nat.not_lt.mpr q)) T.2.2.1 hd (k.at T hX hb hg)
theorem x_sld {i : Int32} (hd0 : ax_dc (YL nm) pc .iaload 1 pc1) (hin : vp_in i L) (k : ax_RX nm L xs pc1 ls (.int (xs i.toNatClampNeg) :: st) sh m) : ax_RX nm L xs pc ls (.int i :: .ref 2999 :: st) sh m := by
  obtain ⟨hd, h3⟩ := hd0
  subst h3
  intro p l e s mm b below meth c G H locs lsA T hX hb hg
  show W _ _ _ _ _ _ _ _ _ _ _ _ _ _ _ (F0 _ pc _ (.int i :: .ref (ax_ad G 2999) :: st.map (ax_cv G)))
  rw [show ax_ad G 2999 = b by rw [show (2999 : Nat) = 2000 + 999 from rfl, ax_adv (by decide)]; exact hg]
  exact va_sld T.1.1 T.1.2.1 hX (by rw [T.1.2.2.2.2.2.2.2.2.2.2.2.2.2]; exact hb) (fun q => absurd hb (Nat.not_lt.mpr q)) T.2.2.1 hin hd (k.at T hX hb hg)
theorem x_ret (hd0 : ax_dc (YL nm) pc .ireturn 1 pc1) : ax_RX nm L xs pc ls [.int 1] sh m := by
  intro p l e s mm b below meth c G H locs lsA T hX hb hg
  have h1 := T.2.2.2.2.2.2.1
  have h2 := T.2.2.2.2.2.2.2
  refine va_forget (fun q hq => ?_) ?_
  · have hz := T.1.2.2.2.2.2.2.2.2.2.2.2.2.2
    have := T.2.2.1.2.2 q hq
    unfold ax_A at this
    omega
  refine W.widen (k := 600000) (n := 7302249) (by unfold lw_B at h1; dsimp only at h1; omega) (by unfold lw_B at h2; dsimp only at h2; omega) ?_
  exact lw_ret T.1.1 T.1.2.1 T.1.2.2.1 T.1.2.2.2.2.2.2.1 hd0.1
/-- behind a call, towards any end -/
theorem ax_backZ {d : Nat} {B : Nat × Nat} {y : ax_Y} {p : Program} {l : Launch} {e : Env} {R : Room} {s : State} {mm : MethodId} {args : Array Value} {below : List Frame} {meth : Method} {c : Code} {G : ax_G} {b0 b1 : Nat} {H : Heap} {locs : List Loc} {lsA : Array Slot} {stk : List Value} {a : Array Value} {Q' : ax_P} {B' : Nat × Nat} {Z : State → Prop}
    (T : ax_T p R s mm args meth c G b0 b1 H locs lsA d B y ls sh m) (hB : sh.length ≤ B'.1 ∧ ax_sl sh ≤ B'.2 ∧ B'.1 ≤ B.1 ∧ B'.2 ≤ B.2)
    (hr : va_Run p l e R s mm args below meth c H locs (sh.length - b0) (ax_sl sh - b1) (B'.1 - sh.length) (B'.2 - ax_sl sh) (F0 mm pc lsA stk) (st.map (ax_cv G)) (ax_Qc G Q' a) (ax_A G))
    (hQ : ∀ r sh' m', Q' r sh' m' → sh'.length = B'.1 ∧ ax_sl sh' = B'.2) (kk : ∀ r sh' m' H1 locs1, Q' r sh' m' → ax_T p R s mm args meth c G b0 b1 H1 locs1 lsA d B y ls sh' m' → W p l e R s mm args below meth c H1 locs1 (sh'.length - b0) (ax_sl sh' - b1) Z (F0 mm (pc + 3) lsA ((r.toList ++ st).map (ax_cv G)))) :
    W p l e R s mm args below meth c H locs (sh.length - b0) (ax_sl sh - b1) Z (F0 mm pc lsA stk) := by
  intro T0 hT X
  obtain ⟨v, st₀, t, T', Lx, h0, X', hL, e1, e2, ⟨⟨r, sh', m', hv, hq, hw⟩, hz, hk⟩, stp⟩ := hr T0 hT X
  cases hv
  rw [h0] at hz hk
  obtain ⟨F, ⟨z2, z3⟩, hS, hl, h1, h2, h3, h4⟩ := T
  obtain ⟨q1, q2⟩ := hQ r sh' m' hq
  rw [← e1] at hw hz hk
  have T1 : ax_T p R s mm args meth c G b0 b1 T'.heap (locs ++ Lx) lsA d B y ls sh' m' := ⟨F, hw, ⟨Nat.le_trans hS.1 hz, fun q g1 g2 => (hk q (Nat.lt_of_lt_of_le g1 hS.1) g2).trans (hS.2.1 q g1 g2), fun q hq => (List.mem_append.mp hq).elim (hS.2.2 q) (hL q)⟩, hl, by omega, by omega, by omega, by omega⟩
  have k1 := kk r sh' m' _ _ hq T1
  rw [q1, q2, show B'.1 - b0 = sh.length - b0 + (B'.1 - sh.length) by omega, show B'.2 - b1 = ax_sl sh - b1 + (B'.2 - ax_sl sh) by omega] at k1
  obtain ⟨t2, a1, b2⟩ := k1 T' rfl X'
  refine ⟨t2, stp t2 ?_, b2⟩
  have : (r.map (ax_cv G)).toList ++ st.map (ax_cv G) = (r.toList ++ st).map (ax_cv G) := by cases r <;> rfl
  rw [this]
  exact a1
theorem x_callV {y' : ax_Y} {idx n ci i d' : Nat} {rs : List (Option (Option Nat))} {q : vw_C} {As stk : List Value} {Q' : ax_P} {B' : Nat × Nat} (hd0 : ax_dc (YL nm) pc (.invokevirtual idx) 3 pc1) (hc : ax_code y') (hm : ax_mv (YL nm).1.cls idx y' n) (hq : ax_cl[ci]? = some q) (hqc : q.1 = y'.1.cls) (ho : sh[i]? = some (0, ci, rs)) (hn : As.length = n) (hstk : stk = As.reverse ++ .ref i :: st) (hw : (st.map fun v => v.category).sum ≤ 8) (hdd : d' + 1 ≤ 60) (hfit : (ax_a1 (.ref i :: As)).length ≤ y'.2.2.1) (hB : sh.length ≤ B'.1 ∧ ax_sl sh ≤ B'.2 ∧ B'.1 ≤ lw_B.1 ∧ B'.2 ≤ lw_B.2) (hr : ax_RM d' B' y' (.ref i :: As) sh m Q') (hQ : ∀ r sh' m', Q' r sh' m' → sh'.length = B'.1 ∧ ax_sl sh' = B'.2) (kk : ∀ r sh' m', Q' r sh' m' → ax_RX nm L xs pc1 ls (r.toList ++ st) sh' m') : ax_RX nm L xs pc ls stk sh m := by
  obtain ⟨hd, h3⟩ := hd0
  subst h3
  intro p l e s mm b below meth c G H locs lsA T hX hbb hg
  refine ax_size T (fun hz => ?_)
  have hM := ax_met l G hc hfit ⟨hB.1, hB.2.1⟩ hr
  have hp := ax_pre T hz (.ref i :: As)
  have hrecv := va_recv T.1.2.2.2.2.2.2.2.2.1.1 T.2.1.2 hq (ax_w_at (G := G) (m := m) ho)
  have hf := T.1.2.2.2.2.2.2.2.2.2.1
  have hlo := T.1.2.2.2.2.2.2.2.2.2.2.1
  have hr1 := T.1.2.2.2.2.2.2.2.2.2.2.2.1
  have hr2 := T.1.2.2.2.2.2.2.2.2.2.2.2.2.1
  have hr3 := T.2.2.2.2
  have h21 := hc.2.2.2.2
  have hR : (ax_rm d' (B'.1 - sh.length) (B'.2 - ax_sl sh)).frames + 1 ≤ room_1.frames ∧ 8 + (y'.2.2.1 + 11) + (ax_rm d' (B'.1 - sh.length) (B'.2 - ax_sl sh)).locals ≤ room_1.locals := by
    show d' + 1 ≤ _ ∧ 8 + (_ + 11) + 40 * d' ≤ _
    omega
  have hts := T.1.2.2.2.2.2.1
  have hstm : stk.map (ax_cv G) = (As.map (ax_cv G)).reverse ++ .ref (G.1 + i) :: st.map (ax_cv G) := by
    rw [hstk, List.map_append, List.map_reverse, List.map_cons]
    show _ ++ Value.ref (ax_ad G i) :: _ = _
    rw [ax_ilt T.2.1 ho]
  have hcons : (Value.ref i :: As).map (ax_cv G) = .ref (G.1 + i) :: As.map (ax_cv G) := by
    show Value.ref (ax_ad G i) :: _ = _
    rw [ax_ilt T.2.1 ho]
  rw [hstm]
  rw [hcons] at hp
  rcases hm.1 with hl | ⟨host, hl⟩
  · have cw : CallW room_1 s #[Value.ref b] (YL nm).1.cls y'.1.cls idx y'.1 y'.2.1 y'.2.2.1 y'.2.2.2 (ax_ws y') (ax_rm d' (B'.1 - sh.length) (B'.2 - ax_sl sh)) (B'.1 - sh.length) (B'.2 - ax_sl sh) n := ⟨callB_of n hts (ax_wsIn hc) rfl rfl rfl (hts _ hc.2.1) (hts _ hl) ⟨hc.2.2.2.1.1, hc.2.2.2.1.2, hm.2.2.2⟩ hR, hts _ hm.2.1, hts _ hm.2.2.1⟩
    exact ax_backZ T hB (va_runV (As := As.map (ax_cv G)) (rest := st.map (ax_cv G)) ⟨T.1.1, T.1.2.1, T.1.2.2.2.1, T.1.2.2.2.2.1, hts⟩ hM cw ⟨hp.1, by rw [← hqc]; exact hrecv, hp.2⟩ rfl (by rw [List.length_map]; exact hn) (ax_sz T) rfl (lv_room (by rw [ax_catm]; exact hw)) hd (by omega)) hQ (fun r sh' m' _ _ hq T1 => (kk r sh' m' hq).at T1 hX hbb hg)
  · have cw : va_CN room_1 s #[Value.ref b] (YL nm).1.cls idx y'.1 host y'.2.1 y'.2.2.1 y'.2.2.2 (ax_ws y') (ax_rm d' (B'.1 - sh.length) (B'.2 - ax_sl sh)) (B'.1 - sh.length) (B'.2 - ax_sl sh) n := va_cnB n hts (ax_wsIn hc) rfl rfl rfl (va_tabs rfl rfl (hts _ hl)) (hts _ hc.2.1) ⟨hc.2.2.2.1.1, hc.2.2.2.1.2, hm.2.2.2⟩ hR
    exact ax_backZ T hB (va_runVN (As := As.map (ax_cv G)) (rest := st.map (ax_cv G)) (C := y'.1.cls) ⟨T.1.1, T.1.2.1, T.1.2.2.2.1, T.1.2.2.2.2.1, hts⟩ hM ⟨cw, hts _ hm.2.1, hts _ hm.2.2.1⟩ ⟨hp.1, by rw [← hqc]; exact hrecv, hp.2⟩ rfl (by rw [List.length_map]; exact hn) (ax_sz T) rfl (lv_room (by rw [ax_catm]; exact hw)) hd (by omega)) hQ (fun r sh' m' _ _ hq T1 => (kk r sh' m' hq).at T1 hX hbb hg)
theorem x_callI {y' : ax_Y} {idx n i d' : Nat} {o : ax_O} {As stk : List Value} {Q' : ax_P} {B' : Nat × Nat} (hd0 : ax_dc (YL nm) pc (.invokespecial idx) 3 pc1) (hc : ax_code y') (hm : ax_mi (YL nm).1.cls idx y' n) (ho : sh[i]? = some o) (hn : As.length = n) (hstk : stk = As.reverse ++ .ref i :: st) (hw : (st.map fun v => v.category).sum ≤ 8) (hdd : d' + 1 ≤ 60) (hfit : (ax_a1 (.ref i :: As)).length ≤ y'.2.2.1) (hB : sh.length ≤ B'.1 ∧ ax_sl sh ≤ B'.2 ∧ B'.1 ≤ lw_B.1 ∧ B'.2 ≤ lw_B.2) (hr : ax_RM d' B' y' (.ref i :: As) sh m Q') (hQ : ∀ r sh' m', Q' r sh' m' → sh'.length = B'.1 ∧ ax_sl sh' = B'.2) (kk : ∀ r sh' m', Q' r sh' m' → ax_RX nm L xs pc1 ls (r.toList ++ st) sh' m') : ax_RX nm L xs pc ls stk sh m := by
  obtain ⟨hd, h3⟩ := hd0
  subst h3
  intro p l e s mm b below meth c G H locs lsA T hX hbb hg
  refine ax_size T (fun hz => ?_)
  have hM := ax_met l G hc hfit ⟨hB.1, hB.2.1⟩ hr
  have hp := ax_pre T hz (.ref i :: As)
  have hf := T.1.2.2.2.2.2.2.2.2.2.1
  have hlo := T.1.2.2.2.2.2.2.2.2.2.2.1
  have hr1 := T.1.2.2.2.2.2.2.2.2.2.2.2.1
  have hr2 := T.1.2.2.2.2.2.2.2.2.2.2.2.2.1
  have hr3 := T.2.2.2.2
  have h21 := hc.2.2.2.2
  have hR : (ax_rm d' (B'.1 - sh.length) (B'.2 - ax_sl sh)).frames + 1 ≤ room_1.frames ∧ 8 + (y'.2.2.1 + 11) + (ax_rm d' (B'.1 - sh.length) (B'.2 - ax_sl sh)).locals ≤ room_1.locals := by
    show d' + 1 ≤ _ ∧ 8 + (_ + 11) + 40 * d' ≤ _
    omega
  have hts := T.1.2.2.2.2.2.1
  have hstm : stk.map (ax_cv G) = (As.map (ax_cv G)).reverse ++ .ref (G.1 + i) :: st.map (ax_cv G) := by
    rw [hstk, List.map_append, List.map_reverse, List.map_cons]
    show _ ++ Value.ref (ax_ad G i) :: _ = _
    rw [ax_ilt T.2.1 ho]
  have hcons : (Value.ref i :: As).map (ax_cv G) = .ref (G.1 + i) :: As.map (ax_cv G) := by
    show Value.ref (ax_ad G i) :: _ = _
    rw [ax_ilt T.2.1 ho]
  rw [hstm]
  rw [hcons] at hp
  rcases hm.1 with hl | ⟨host, hl⟩
  · have cb : CallB room_1 s #[Value.ref b] (YL nm).1.cls idx y'.1 y'.2.1 y'.2.2.1 y'.2.2.2 (ax_ws y') (ax_rm d' (B'.1 - sh.length) (B'.2 - ax_sl sh)) (B'.1 - sh.length) (B'.2 - ax_sl sh) n := callB_of n hts (ax_wsIn hc) rfl rfl rfl (hts _ hc.2.1) (hts _ hl) ⟨hc.2.2.2.1.1, hc.2.2.2.1.2, hm.2.2.2.2⟩ hR
    rw [hm.2.2.2.1] at cb
    exact ax_backZ T hB (va_runI (As := As.map (ax_cv G)) (rest := st.map (ax_cv G)) ⟨T.1.1, T.1.2.1, T.1.2.2.2.1, T.1.2.2.2.2.1, hts⟩ hM ⟨cb, hm.2.2.1, hts _ hm.2.1⟩ hp rfl (by rw [List.length_map]; exact hn) (ax_sz T) rfl (lv_room (by rw [ax_catm]; exact hw)) hd (by omega)) hQ (fun r sh' m' _ _ hq T1 => (kk r sh' m' hq).at T1 hX hbb hg)
  · have cw : va_CN room_1 s #[Value.ref b] (YL nm).1.cls idx y'.1 host y'.2.1 y'.2.2.1 y'.2.2.2 (ax_ws y') (ax_rm d' (B'.1 - sh.length) (B'.2 - ax_sl sh)) (B'.1 - sh.length) (B'.2 - ax_sl sh) n := va_cnB n hts (ax_wsIn hc) rfl rfl rfl (va_tabs rfl rfl (hts _ hl)) (hts _ hc.2.1) ⟨hc.2.2.2.1.1, hc.2.2.2.1.2, hm.2.2.2.2⟩ hR
    rw [hm.2.2.2.1] at cw
    exact ax_backZ T hB (va_runIN (As := As.map (ax_cv G)) (rest := st.map (ax_cv G)) ⟨T.1.1, T.1.2.1, T.1.2.2.2.1, T.1.2.2.2.2.1, hts⟩ hM ⟨cw, hm.2.2.1, hts _ hm.2.1⟩ hp rfl (by rw [List.length_map]; exact hn) (ax_sz T) rfl (lv_room (by rw [ax_catm]; exact hw)) hd (by omega)) hQ (fun r sh' m' _ _ hq T1 => (kk r sh' m' hq).at T1 hX hbb hg)
/-- behind a making: where the new cell lies -/
theorem ax_madeZ {d : Nat} {B : Nat × Nat} {y : ax_Y} {Z : State → Prop} {p : Program} {l : Launch} {e : Env} {R : Room} {s : State} {mm : MethodId} {args : Array Value} {below : List Frame} {meth : Method} {c : Code} {G : ax_G} {b0 b1 : Nat} {H H1 : Heap} {locs : List Loc} {lsA : Array Slot} {o : ax_O} {x : va_E} {q pc' : Nat}
    (T : ax_T p R s mm args meth c G b0 b1 H locs lsA d B y ls sh m) (hx : x = ax_e G m sh.length o) (hB : sh.length + 1 ≤ B.1 ∧ ax_sl sh + ax_n o ≤ B.2) (hlt : sh.length < 1000) (kk : ∀ H1 locs1, ax_T p R s mm args meth c G b0 b1 H1 locs1 lsA d B y ls (sh ++ [o]) m → W p l e R s mm args below meth c H1 locs1 ((sh ++ [o]).length - b0) (ax_sl (sh ++ [o]) - b1) Z (F0 mm pc' lsA ((Value.ref sh.length :: st).map (ax_cv G))))
    (hP : va_P G.2.1 ax_cl (ax_w G sh m ++ [(q, x)]) H1) (hD : va_D (ax_A G) (ax_w G sh m ++ [(q, x)])) (hS : va_S (ax_A G) s.heap H1 locs) : W p l e R s mm args below meth c H1 locs (sh.length - b0 + 1) (ax_sl sh - b1 + ax_n o) Z (F0 mm pc' lsA (.ref q :: st.map (ax_cv G))) := by
  intro T' hT X
  obtain ⟨F, ⟨z2, z3⟩, -, hl, h1, h2, h3, h4⟩ := T
  have hz := X.heapSize
  rw [hT, F.2.2.2.2.2.2.2.2.2.2.2.2.2] at hz
  have hwl : (ax_w G sh m).length = sh.length := by simp [ax_w]
  have hqat : (ax_w G sh m ++ [(q, x)])[sh.length]? = some (q, x) := by rw [List.getElem?_append_right (by omega), hwl, Nat.sub_self]; rfl
  have hql : q < H1.size := (hP _ _ hqat).lt
  have hqA : G.1 ≤ q := hD.2 _ _ hqat
  have hq : q = G.1 + sh.length := by
    rcases Nat.lt_or_ge q (G.1 + sh.length) with hlt2 | hge
    · exfalso
      obtain ⟨i, rfl⟩ := Nat.exists_eq_add_of_le hqA
      have hi : i < sh.length := by omega
      obtain ⟨oi, hoi⟩ : ∃ oi, sh[i]? = some oi := ⟨sh[i], List.getElem?_eq_getElem hi⟩
      have hat : (ax_w G sh m ++ [(G.1 + i, x)])[i]? = some (G.1 + i, ax_e G m i oi) := by rw [List.getElem?_append_left (by omega)]; exact ax_w_at hoi
      have := hD.1 i sh.length _ _ hat hqat rfl
      omega
    · omega
  subst hq
  subst hx
  rw [← ax_w_push] at hP
  have el : (sh ++ [o]).length = sh.length + 1 := by simp
  have T1 : ax_T p R s mm args meth c G b0 b1 H1 locs lsA d B y ls (sh ++ [o]) m := ⟨F, ⟨by rw [el]; omega, hP⟩, hS, hl, by rw [el]; omega, by rw [ax_sl_push]; omega, by rw [el]; omega, by rw [ax_sl_push]; omega⟩
  have k1 := kk _ _ T1
  rw [el, ax_sl_push, show sh.length + 1 - b0 = sh.length - b0 + 1 by omega, show ax_sl sh + ax_n o - b1 = ax_sl sh - b1 + ax_n o by omega] at k1
  simp only [List.map_cons, ax_cv, ax_adlt hlt] at k1
  exact k1 T' hT X
theorem x_new {idx ci : Nat} {C : String} {Tb : u_T} {N : Nat} {rs : List (Option (Option Nat))} (ty : Nat → FieldType) (hd0 : ax_dc (YL nm) pc (.new idx) 3 pc1) (hc : ax_cl[ci]? = some (C, Tb, N)) (hin : ∀ w ∈ u_ws C Tb N, w ∈ ax_wt) (hty : ∀ k, k < N → parseFieldDescriptor (Tb k).2.2.1 = some (ty k)) (hw : Cond.classLink (YL nm).1.cls idx C ∈ ax_wt ∧ Cond.instantiable C N ∈ ax_wt ∧ Cond.initialized C ∈ ax_wt) (hN : rs.length = N) (hr : ∀ j, j < N → (rs.getD j none = none ∨ rs.getD j none = some none) ∧ defaultValue (ty j) = ax_dv (rs.getD j none)) (hm : ∀ j, m sh.length j = 0) (hB : sh.length + 1 ≤ lw_B.1 ∧ ax_sl sh + N ≤ lw_B.2) (hlt : sh.length < 1000) (kk : ax_RX nm L xs pc1 ls (.ref sh.length :: st) (sh ++ [(0, ci, rs)]) m) : ax_RX nm L xs pc ls st sh m := by
  obtain ⟨hd, h3⟩ := hd0
  subst h3
  intro p l e s mm b below meth c G H locs lsA T hX hbb hg
  have hR : sh.length - 0 + 1 ≤ room_1.cells ∧ ax_sl sh - 0 + N ≤ room_1.slots := by
    have := T.1.2.2.2.2.2.2.2.2.2.2.2.1
    have := T.1.2.2.2.2.2.2.2.2.2.2.2.2.1
    have := T.2.2.2.2
    omega
  refine va_new (D := G.2.1) (fs := rs.mapIdx (fun j r => ax_f G m sh.length j r)) T.1.1 T.1.2.1 T.1.2.2.2.2.2.1 hin ty hty T.1.2.2.2.2.1 (T.1.2.2.2.2.2.1 _ hw.1) (T.1.2.2.2.2.2.1 _ hw.2.1) (T.1.2.2.2.2.2.1 _ hw.2.2) T.1.2.2.2.2.2.2.2.2.1.1 T.2.1.2 (ax_D G sh m) T.2.2.1 (fun q hq => Nat.le_trans T.1.2.2.2.2.2.2.2.2.1.2.2.2 hq) hc ?_ hR.1 hR.2 hd ?_
  · intro j hj
    obtain ⟨h1, h2⟩ := hr j hj
    rw [h2]
    have hjl : j < rs.length := by omega
    have e1 : rs.getD j none = rs[j] := by simp [List.getD_eq_getElem?_getD, hjl]
    rw [e1] at h1 ⊢
    simp only [vp_V, List.getD_eq_getElem?_getD, List.getElem?_mapIdx, List.getElem?_eq_getElem hjl, Option.map_some, Option.getD_some]
    rcases h1 with h1 | h1 <;> rw [h1]
    · simp [ax_dv, ax_f, hm]
    · rfl
  · intro q H1 hP hD hS
    have h := ax_madeZ (l := l) (e := e) (below := below) (Z := lw_Z below #[Value.ref b] s) (o := (0, ci, rs)) T rfl (by rw [show ax_n (0, ci, rs) = N from hN]; exact hB) hlt (fun H1 locs1 T1 => kk.at T1 hX hbb hg) hP hD hS
    rw [show ax_n (0, ci, rs) = N from hN] at h
    exact h
end AXL
