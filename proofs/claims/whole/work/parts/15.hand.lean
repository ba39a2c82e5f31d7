/-! methods by hand: rows that are looked at before they are used, and the String constants -/
theorem SH_small0 : ∀ o ∈ SH, o.2.1 < 65536 := by decide +kernel
theorem SH_small {k a n : Nat} {rs : List (Option (Option Nat))} (h : SH[k]? = some (a, n, rs)) : n < 65536 := SH_small0 _ (List.mem_of_getElem? h)
theorem ax_vp {a : Int32} {n : Nat} (hn : n < 65536) (h1 : ¬ a < 0) (h2 : ¬ nI n ≤ a) : vp_in a n := by
  rcases pk_ix a (show n < 2 ^ 31 by omega) with h | h | ⟨j, hj, rfl⟩
  · exact absurd h h1
  · exact absurd h h2
  · exact vp_in_nI hj (by omega)
theorem ax_vn {a : Int32} {n : Nat} (hn : n < 65536) (h2 : nI n ≤ a) : n ≤ a.toNatClampNeg := by
  have h := Int32.le_iff_toInt_le.mp h2
  rw [nI_toInt (by omega)] at h
  show n ≤ a.toInt.toNat
  omega
def F7_at (k0 n0 : Nat) (a1 : Int32) (m : ax_M) : Int32 := if a1 < 0 ∨ n0 ≤ a1.toNatClampNeg then 0 else m k0 a1.toNatClampNeg
theorem uX7_at (k0 n0 : Nat) (a1 : Int32) (m : ax_M) (h0 : SH[k0]? = some (1, n0, [])) : ax_NM 0 Y7_at [.ref k0, .int a1] m (fun r m1 => r = some (.int (F7_at k0 n0 a1 m)) ∧ m1 = m) := by
  show ax_N 0 Y7_at 0 [some (.ref k0), some (.int a1)] [] m _
  have hn := SH_small h0
  refine s_iload_n eX7_at_0 rfl rfl ?_
  refine s_if_lt eX7_at_1 (fun h => ?_) (fun h => ?_)
  · refine s_iconst (v := 0) eX7_at_16 rfl ?_
    exact s_iret eX7_at_17 rfl ⟨rfl, by rw [F7_at, if_pos (Or.inl h)], rfl⟩
  · refine s_iload_n eX7_at_4 rfl rfl ?_
    refine s_aload_n eX7_at_5 rfl rfl ?_
    refine s_alen (v := nI n0) eX7_at_6 h0 rfl ?_
    refine s_icmp_ge eX7_at_7 (fun h2 => ?_) (fun h2 => ?_)
    · refine s_iconst (v := 0) eX7_at_16 rfl ?_
      exact s_iret eX7_at_17 rfl ⟨rfl, by rw [F7_at, if_pos (Or.inr (ax_vn hn h2))], rfl⟩
    · have hv := ax_vp hn h h2
      refine s_aload_n eX7_at_10 rfl rfl ?_
      refine s_iload_n eX7_at_11 rfl rfl ?_
      refine s_iald eX7_at_12 h0 hv ?_
      refine s_goto eX7_at_13 ?_
      exact s_iret eX7_at_17 rfl ⟨rfl, by rw [F7_at, if_neg hv], rfl⟩
def F7_put (k0 n0 : Nat) (a1 a2 : Int32) (m : ax_M) : ax_M := if a1 < 0 ∨ n0 ≤ a1.toNatClampNeg then m else ax_up m k0 a1.toNatClampNeg a2
theorem uX7_put (k0 n0 : Nat) (a1 a2 : Int32) (m : ax_M) (h0 : SH[k0]? = some (1, n0, [])) : ax_NM 0 Y7_put [.ref k0, .int a1, .int a2] m (fun r m1 => r = none ∧ m1 = F7_put k0 n0 a1 a2 m) := by
  show ax_N 0 Y7_put 0 [some (.ref k0), some (.int a1), some (.int a2)] [] m _
  have hn := SH_small h0
  refine s_iload_n eX7_put_0 rfl rfl ?_
  refine s_if_lt eX7_put_1 (fun h => ?_) (fun h => ?_)
  · exact s_vret eX7_put_14 rfl ⟨rfl, rfl, by rw [F7_put, if_pos (Or.inl h)]⟩
  · refine s_iload_n eX7_put_4 rfl rfl ?_
    refine s_aload_n eX7_put_5 rfl rfl ?_
    refine s_alen (v := nI n0) eX7_put_6 h0 rfl ?_
    refine s_icmp_ge eX7_put_7 (fun h2 => ?_) (fun h2 => ?_)
    · exact s_vret eX7_put_14 rfl ⟨rfl, rfl, by rw [F7_put, if_pos (Or.inr (ax_vn hn h2))]⟩
    · have hv := ax_vp hn h h2
      refine s_aload_n eX7_put_10 rfl rfl ?_
      refine s_iload_n eX7_put_11 rfl rfl ?_
      refine s_iload_n eX7_put_12 rfl rfl ?_
      refine s_iast eX7_put_13 h0 hv ?_
      exact s_vret eX7_put_14 rfl ⟨rfl, rfl, by rw [F7_put, if_neg hv]⟩
/-- the first of row k0 come into row k1, as many as both have -/
def F7_copyRow (k0 n0 k1 n1 : Nat) (m : ax_M) : ax_M := fun a => if a = k1 then va_cpy (m k0) (m k1) 0 0 (if n1 < n0 then n1 else n0) else m a
theorem uX7_copyRow (k0 n0 k1 n1 : Nat) (m : ax_M) (h0 : SH[k0]? = some (1, n0, [])) (h1 : SH[k1]? = some (1, n1, [])) : ax_NM 1 Y7_copyRow [.ref k0, .ref k1] m (fun r m1 => r = none ∧ m1 = F7_copyRow k0 n0 k1 n1 m) := by
  show ax_N 1 Y7_copyRow 0 [some (.ref k0), some (.ref k1)] [] m _
  have hn0 := SH_small h0
  have hn1 := SH_small h1
  refine s_aload_n eX7_copyRow_0 rfl rfl ?_
  refine s_iconst (v := 0) eX7_copyRow_1 rfl ?_
  refine s_aload_n eX7_copyRow_2 rfl rfl ?_
  refine s_iconst (v := 0) eX7_copyRow_3 rfl ?_
  refine s_aload_n eX7_copyRow_4 rfl rfl ?_
  refine s_alen (v := nI n0) eX7_copyRow_5 h0 rfl ?_
  refine s_aload_n eX7_copyRow_6 rfl rfl ?_
  refine s_alen (v := nI n1) eX7_copyRow_7 h1 rfl ?_
  refine s_min eX7_copyRow_8 lX7_177 wM_min (Nat.le_of_ble_eq_true rfl) (Nat.le_of_ble_eq_true rfl) ?_
  have e : (if nI n1 < nI n0 then nI n1 else nI n0) = nI (if n1 < n0 then n1 else n0) := by
    by_cases h : n1 < n0
    · rw [if_pos h, if_pos ((nI_ltI (by omega) (by omega)).mpr h)]
    · rw [if_neg h, if_neg (fun q => h ((nI_ltI (by omega) (by omega)).mp q))]
  rw [e]
  have hl : (if n1 < n0 then n1 else n0) ≤ n0 ∧ (if n1 < n0 then n1 else n0) ≤ n1 := by split <;> omega
  refine s_copy (k := if n1 < n0 then n1 else n0) eX7_copyRow_11 lX7_325 wC h0 h1 (nI_pos (by omega)) (nI_clamp (by omega)) hl.1 hl.2 (Nat.le_of_ble_eq_true rfl) (Nat.le_of_ble_eq_true rfl) ?_
  exact s_vret eX7_copyRow_14 rfl ⟨rfl, rfl, rfl⟩
section AXJ
variable {d d' : Nat} {y y' : ax_Y} {pc pc1 : Nat} {ls : ax_L} {st As stk : List Value} {m m' : ax_M} {P : Option Value → ax_M → Prop} {idx n j : Nat} {v : Value}
theorem n_callT (hd : ax_dc y pc (.invokevirtual idx) 3 pc1) (hc : ax_code y') (hl : Cond.methodLink y.1.cls idx y'.1 ∈ ax_wt) (hm : Cond.instanceMethod y'.1 ∈ ax_wt ∧ Cond.selects y'.1.cls y'.1 y'.1 ∈ ax_wt ∧ (parseMethodDescriptor y'.1.desc).map (fun d => d.parameters.length) = some n) (hj : j < 11) (hqc : y'.1.cls = "java/lang/String") (hn : As.length = n) (hstk : stk = As.reverse ++ .ref (1000 + j) :: st) (hw : (st.map fun v => v.category).sum ≤ 8) (hdd : d' + 1 ≤ d) (hfit : (ax_a1 (.ref (1000 + j) :: As)).length ≤ y'.2.2.1) (hr : ax_NM d' y' (.ref (1000 + j) :: As) m (fun r m1 => r = some v ∧ m1 = m')) (kk : ax_N d y pc1 ls (v :: st) m' P) : ax_N d y pc ls stk m P := by
  refine s_callT (B' := BB) hd hc hl hm hj hqc hn hstk hw hdd hfit ⟨Nat.le_of_eq SH_len, Nat.le_of_eq SH_sl, Nat.le_refl _, Nat.le_refl _⟩ hr.rm (fun r sh' m1 h => by rw [h.1]; exact ⟨SH_len, SH_sl⟩) (fun r sh' m1 h => ?_)
  obtain ⟨rfl, rfl, rfl⟩ := h
  exact kk
end AXJ
theorem cJ_coder (j : Nat) (hj : j < 11) (m : ax_M) : ax_NM 0 Y0_coder_7d493 [.ref (1000 + j)] m (fun r m1 => r = some (.int 0) ∧ m1 = m) := by
  show ax_N 0 Y0_coder_7d493 0 [some (.ref (1000 + j))] [] m _
  refine s_gcs eJ0_coder_7d493_0 fJ0_38 ?_
  refine s_if_eq eJ0_coder_7d493_3 (fun h => absurd h (by decide)) (fun _ => ?_)
  refine s_aload_n eJ0_coder_7d493_6 rfl rfl ?_
  refine s_scod eJ0_coder_7d493_7 hj fJ0_15 ?_
  refine s_goto eJ0_coder_7d493_10 ?_
  exact s_nret eJ0_coder_7d493_14 rfl (by decide +kernel) ⟨rfl, rfl, rfl⟩
theorem cJ_isLatin1 (j : Nat) (hj : j < 11) (m : ax_M) : ax_NM 0 Y0_isLatin1_aae02 [.ref (1000 + j)] m (fun r m1 => r = some (.int 1) ∧ m1 = m) := by
  show ax_N 0 Y0_isLatin1_aae02 0 [some (.ref (1000 + j))] [] m _
  refine s_gcs eJ0_isLatin1_aae02_0 fJ0_38 ?_
  refine s_if_eq eJ0_isLatin1_aae02_3 (fun h => absurd h (by decide)) (fun _ => ?_)
  refine s_aload_n eJ0_isLatin1_aae02_6 rfl rfl ?_
  refine s_scod eJ0_isLatin1_aae02_7 hj fJ0_15 ?_
  refine s_if_ne eJ0_isLatin1_aae02_10 (fun h => absurd rfl h) (fun _ => ?_)
  refine s_iconst (v := 1) eJ0_isLatin1_aae02_13 rfl ?_
  refine s_goto eJ0_isLatin1_aae02_14 ?_
  exact s_zret eJ0_isLatin1_aae02_18 rfl (Or.inr rfl) ⟨rfl, rfl, rfl⟩
theorem cJ_length (j : Nat) (hj : j < 11) (m : ax_M) : ax_NM 1 Y0_length_8abf5 [.ref (1000 + j)] m (fun r m1 => r = some (.int (nI (ax_tl.getD j 0))) ∧ m1 = m) := by
  show ax_N 1 Y0_length_8abf5 0 [some (.ref (1000 + j))] [] m _
  refine s_aload_n eJ0_length_8abf5_0 rfl rfl ?_
  refine s_sval eJ0_length_8abf5_1 hj fJ0_9 ?_
  refine s_slen (v := nI (ax_tl.getD j 0)) eJ0_length_8abf5_4 hj rfl ?_
  refine s_aload_n eJ0_length_8abf5_5 rfl rfl ?_
  refine n_callT (As := []) eJ0_length_8abf5_6 kJ0_coder_7d493 lJ0_335 mJ0_335 hj rfl rfl rfl (Nat.le_of_ble_eq_true rfl) (Nat.le_of_ble_eq_true rfl) (Nat.le_of_ble_eq_true rfl) (cJ_coder j hj m) ?_
  refine s_ishr eJ0_length_8abf5_9 ?_
  exact s_iret eJ0_length_8abf5_10 rfl ⟨rfl, by rw [sb_shr0], rfl⟩
theorem cJ_pre (a b : Int32) (v : Value) (hv : v = .null ∨ ∃ k, v = .ref k) (h1 : ¬ a < 0) (h2 : a < b) (m : ax_M) : ax_NM 0 Y3_checkIndex_8e157 [.int a, .int b, v] m (fun r m1 => r = some (.int a) ∧ m1 = m) := by
  have hs : ax_NM 0 Y3_checkIndex_8e157 [.int a, .int b, v] m (fun r m1 => r = some (.int a) ∧ m1 = m) = ax_N 0 Y3_checkIndex_8e157 0 [some (.int a), some (.int b), some v] [] m (fun r m1 => r = some (.int a) ∧ m1 = m) := by
    rcases hv with rfl | ⟨k, rfl⟩ <;> rfl
  rw [hs]
  refine s_iload_n eJ3_checkIndex_8e157_0 rfl rfl ?_
  refine s_if_lt eJ3_checkIndex_8e157_1 (fun h => absurd h h1) (fun _ => ?_)
  refine s_iload_n eJ3_checkIndex_8e157_4 rfl rfl ?_
  refine s_iload_n eJ3_checkIndex_8e157_5 rfl rfl ?_
  refine s_icmp_lt eJ3_checkIndex_8e157_6 (fun _ => ?_) (fun h => absurd h2 h)
  refine s_iload_n eJ3_checkIndex_8e157_16 rfl rfl ?_
  exact s_iret eJ3_checkIndex_8e157_17 rfl ⟨rfl, rfl, rfl⟩
theorem cJ_check (a b : Int32) (h1 : ¬ a < 0) (h2 : a < b) (m : ax_M) : ax_NM 1 Y0_checkIndex_df160 [.int a, .int b] m (fun r m1 => r = none ∧ m1 = m) := by
  show ax_N 1 Y0_checkIndex_df160 0 [some (.int a), some (.int b)] [] m _
  refine s_iload_n eJ0_checkIndex_df160_0 rfl rfl ?_
  refine s_iload_n eJ0_checkIndex_df160_1 rfl rfl ?_
  refine s_gsf eJ0_checkIndex_df160_2 fJ0_1053 (fun v hv => ?_)
  have hf : (ax_a1 [.int a, .int b, v]).length ≤ (Y3_checkIndex_8e157).2.2.1 := by rcases hv with rfl | ⟨k, rfl⟩ <;> exact Nat.le_of_ble_eq_true rfl
  refine n_callSi (As := [.int a, .int b, v]) eJ0_checkIndex_df160_5 kJ3_checkIndex_8e157 lJ0_1059 rfl rfl (Nat.le_of_ble_eq_true rfl) (Nat.le_of_ble_eq_true rfl) hf (cJ_pre a b v hv h1 h2 m) ?_
  refine s_pop eJ0_checkIndex_df160_8 rfl ?_
  exact s_vret eJ0_checkIndex_df160_9 rfl ⟨rfl, rfl, rfl⟩
theorem ax_asc : ∀ j, j < 11 → ∀ i, i < 8 → ((((ax_tb.getD j []).getD i 0) &&& 255).toUInt32 % 65536).toInt32 = (ax_tb.getD j []).getD i 0 := by decide +kernel
theorem ax_tl8 : ∀ j, j < 11 → ax_tl.getD j 0 < 8 := by decide +kernel
theorem cJ_latChar (j : Nat) (hj : j < 11) (i : Int32) (hi : vp_in i (ax_tl.getD j 0)) (m : ax_M) : ax_NM 2 Y1_charAt_3b067 [.ref (2000 + j), .int i] m (fun r m1 => r = some (.int ((ax_tb.getD j []).getD i.toNatClampNeg 0)) ∧ m1 = m) := by
  show ax_N 2 Y1_charAt_3b067 0 [some (.ref (2000 + j)), some (.int i)] [] m _
  have h8 := ax_tl8 j hj
  obtain ⟨k, hk, rfl⟩ := vp_in_of hi (by omega)
  refine s_iload_n eJ1_charAt_3b067_0 rfl rfl ?_
  refine s_aload_n eJ1_charAt_3b067_1 rfl rfl ?_
  refine s_slen (v := nI (ax_tl.getD j 0)) eJ1_charAt_3b067_2 hj rfl ?_
  refine n_callSv (As := [.int (nI k), .int (nI (ax_tl.getD j 0))]) eJ1_charAt_3b067_3 kJ0_checkIndex_df160 lJ1_9 rfl rfl (Nat.le_of_ble_eq_true rfl) (Nat.le_of_ble_eq_true rfl) (Nat.le_of_ble_eq_true rfl) (cJ_check _ _ (nI_pos (by omega)) (nI_lt hk (by omega)) m) ?_
  refine s_aload_n eJ1_charAt_3b067_6 rfl rfl ?_
  refine s_iload_n eJ1_charAt_3b067_7 rfl rfl ?_
  refine s_sbald eJ1_charAt_3b067_8 hj hi rfl ?_
  refine s_sipush (v := 255) eJ1_charAt_3b067_9 rfl ?_
  refine s_iand eJ1_charAt_3b067_12 ?_
  refine s_i2c eJ1_charAt_3b067_13 ?_
  refine s_nret eJ1_charAt_3b067_14 rfl (pk_nc _) ⟨rfl, ?_, rfl⟩
  rw [nI_clamp (by omega), ax_asc j hj k (by omega)]
theorem cJ_charAt (j : Nat) (hj : j < 11) (i : Int32) (hi : vp_in i (ax_tl.getD j 0)) (m : ax_M) : ax_NM 3 Y0_charAt_5068e [.ref (1000 + j), .int i] m (fun r m1 => r = some (.int ((ax_tb.getD j []).getD i.toNatClampNeg 0)) ∧ m1 = m) := by
  show ax_N 3 Y0_charAt_5068e 0 [some (.ref (1000 + j)), some (.int i)] [] m _
  have h8 := ax_tl8 j hj
  refine s_aload_n eJ0_charAt_5068e_0 rfl rfl ?_
  refine n_callT (As := []) eJ0_charAt_5068e_1 kJ0_isLatin1_aae02 lJ0_492 mJ0_492 hj rfl rfl rfl (Nat.le_of_ble_eq_true rfl) (Nat.le_of_ble_eq_true rfl) (Nat.le_of_ble_eq_true rfl) (cJ_isLatin1 j hj m) ?_
  refine s_if_eq eJ0_charAt_5068e_4 (fun h => absurd h (by decide)) (fun _ => ?_)
  refine s_aload_n eJ0_charAt_5068e_7 rfl rfl ?_
  refine s_sval eJ0_charAt_5068e_8 hj fJ0_9 ?_
  refine s_iload_n eJ0_charAt_5068e_11 rfl rfl ?_
  refine n_callSi (As := [.ref (2000 + j), .int i]) eJ0_charAt_5068e_12 kJ1_charAt_3b067 lJ0_495 rfl rfl (Nat.le_of_ble_eq_true rfl) (Nat.le_of_ble_eq_true rfl) (Nat.le_of_ble_eq_true rfl) (cJ_latChar j hj i hi m) ?_
  refine s_nret eJ0_charAt_5068e_15 rfl ?_ ⟨rfl, rfl, rfl⟩
  obtain ⟨k, hk, rfl⟩ := vp_in_of hi (by omega)
  rw [nI_clamp (by omega), ← ax_asc j hj k (by omega)]
  exact pk_nc _
section AXS2
variable {d : Nat} {y : ax_Y} {pc pc1 : Nat} {ls : ax_L} {st : List Value} {m : ax_M} {P : Option Value → ax_M → Prop} {idx j : Nat}
theorem n_slen (hd : ax_dc y pc (.invokevirtual idx) 3 pc1) (hl : Cond.methodLink y.1.cls idx yJ0_length_8abf5 ∈ ax_wt) (hm : Cond.instanceMethod (Y0_length_8abf5).1 ∈ ax_wt ∧ Cond.selects (Y0_length_8abf5).1.cls (Y0_length_8abf5).1 (Y0_length_8abf5).1 ∈ ax_wt ∧ (parseMethodDescriptor (Y0_length_8abf5).1.desc).map (fun d => d.parameters.length) = some 0) (hj : j < 11) (hw : (st.map fun v => v.category).sum ≤ 8) (hdd : 2 ≤ d) (kk : ax_N d y pc1 ls (.int (nI (ax_tl.getD j 0)) :: st) m P) : ax_N d y pc ls (.ref (1000 + j) :: st) m P := n_callT (As := []) hd kJ0_length_8abf5 hl hm hj rfl rfl rfl hw hdd (Nat.le_of_ble_eq_true rfl) (cJ_length j hj m) kk
theorem n_schr {i : Int32} (hd : ax_dc y pc (.invokevirtual idx) 3 pc1) (hl : Cond.methodLink y.1.cls idx yJ0_charAt_5068e ∈ ax_wt) (hm : Cond.instanceMethod (Y0_charAt_5068e).1 ∈ ax_wt ∧ Cond.selects (Y0_charAt_5068e).1.cls (Y0_charAt_5068e).1 (Y0_charAt_5068e).1 ∈ ax_wt ∧ (parseMethodDescriptor (Y0_charAt_5068e).1.desc).map (fun d => d.parameters.length) = some 1) (hj : j < 11) (hi : vp_in i (ax_tl.getD j 0)) (hw : (st.map fun v => v.category).sum ≤ 8) (hdd : 4 ≤ d) (kk : ax_N d y pc1 ls (.int ((ax_tb.getD j []).getD i.toNatClampNeg 0) :: st) m P) : ax_N d y pc ls (.int i :: .ref (1000 + j) :: st) m P := n_callT (As := [.int i]) hd kJ0_charAt_5068e hl hm hj rfl rfl rfl hw hdd (Nat.le_of_ble_eq_true rfl) (cJ_charAt j hj i hi m) kk
end AXS2
theorem b_ite {c : Prop} [Decidable c] {a b : Int32} (ha : a = 0 ∨ a = 1) (hb : b = 0 ∨ b = 1) : (if c then a else b) = 0 ∨ (if c then a else b) = 1 := by
  by_cases h : c
  · rw [if_pos h]; exact ha
  · rw [if_neg h]; exact hb
