/-! THE WORLD: the cells that both objects are, once they are made -/
def SH : ax_S := [
  (0, 7, [some (some 1), some (some 10), some (some 19), some (some 38), some (some 39), some (some 41), some (some 55), some (some 59), some (some 70), none, none]),
  (0, 1, [none, none, none, none, none, some (some 2), some (some 3), some (some 4), some (some 5), some (some 6), some (some 7), some (some 8), some (some 9)]),
  (1, 4, []),
  (1, 4, []),
  (1, 4, []),
  (1, 4, []),
  (1, 6, []),
  (1, 6, []),
  (1, 6, []),
  (1, 6, []),
  (0, 1, [none, none, none, none, none, some (some 11), some (some 12), some (some 13), some (some 14), some (some 15), some (some 16), some (some 17), some (some 18)]),
  (1, 4, []),
  (1, 4, []),
  (1, 4, []),
  (1, 4, []),
  (1, 6, []),
  (1, 6, []),
  (1, 6, []),
  (1, 6, []),
  (3, 2, [some (some 20), some (some 29)]),
  (0, 1, [none, none, none, none, none, some (some 21), some (some 22), some (some 23), some (some 24), some (some 25), some (some 26), some (some 27), some (some 28)]),
  (1, 4, []),
  (1, 4, []),
  (1, 4, []),
  (1, 4, []),
  (1, 6, []),
  (1, 6, []),
  (1, 6, []),
  (1, 6, []),
  (0, 1, [none, none, none, none, none, some (some 30), some (some 31), some (some 32), some (some 33), some (some 34), some (some 35), some (some 36), some (some 37)]),
  (1, 4, []),
  (1, 4, []),
  (1, 4, []),
  (1, 4, []),
  (1, 6, []),
  (1, 6, []),
  (1, 6, []),
  (1, 6, []),
  (2, 2, []),
  (0, 0, [some (some 40), none]),
  (1, 24, []),
  (0, 4, [some (some 42), some (some 44), some (some 53), none, none, none, none, none, none, none]),
  (0, 6, [some (some 43), none]),
  (1, 320, []),
  (0, 1, [none, none, none, none, none, some (some 45), some (some 46), some (some 47), some (some 48), some (some 49), some (some 50), some (some 51), some (some 52)]),
  (1, 4, []),
  (1, 4, []),
  (1, 4, []),
  (1, 4, []),
  (1, 6, []),
  (1, 6, []),
  (1, 6, []),
  (1, 6, []),
  (0, 0, [some (some 54), none]),
  (1, 24, []),
  (0, 2, [some (some 56), some (some 57), some (some 58), none, none]),
  (1, 49, []),
  (1, 7, []),
  (1, 7, []),
  (0, 3, [some (some 60), some (some 61), some (some 62), some (some 63), none, some (some 64), some (some 65), some (some 66), some (some 67), some (some 68), none, some (some 69)]),
  (1, 120, []),
  (1, 120, []),
  (1, 120, []),
  (1, 120, []),
  (1, 4096, []),
  (1, 180, []),
  (1, 180, []),
  (1, 180, []),
  (1, 180, []),
  (1, 900, []),
  (0, 5, [some (some 71), some (some 72), some (some 73)]),
  (1, 160, []),
  (1, 4, []),
  (1, 4, []),
  (0, 8, [some (some 75), some (some 76), none, none, none, none, some (some 77), none, some (some 78), some (some 79), some (some 80), none, none, none, none, none, none, none, none, none, none, some (some 81), none, none, none, none, none, none, none, none, some (some 82), some (some 83), none, none, some (some 84), none, none, some (some 85), some (some 86), some (some 87), some (some 88), some (some 89), none, some (some 90), some (some 91), some (some 92), none, some (some 93), some (some 94), some (some 95), some (some 96), none]),
  (1, 132, []),
  (1, 8, []),
  (1, 24, []),
  (1, 33, []),
  (1, 8, []),
  (1, 24, []),
  (1, 320, []),
  (1, 12, []),
  (1, 54, []),
  (1, 7, []),
  (1, 1024, []),
  (1, 7, []),
  (1, 4096, []),
  (1, 4096, []),
  (1, 4096, []),
  (1, 4096, []),
  (1, 400, []),
  (1, 20480, []),
  (2, 2, []),
  (1, 4, []),
  (1, 4, []),
  (1, 160, [])]
theorem shp_0 : SH[0]? = some (0, 7, [some (some 1), some (some 10), some (some 19), some (some 38), some (some 39), some (some 41), some (some 55), some (some 59), some (some 70), none, none]) := rfl
theorem shp_1 : SH[1]? = some (0, 1, [none, none, none, none, none, some (some 2), some (some 3), some (some 4), some (some 5), some (some 6), some (some 7), some (some 8), some (some 9)]) := rfl
theorem shp_2 : SH[2]? = some (1, 4, []) := rfl
theorem shp_3 : SH[3]? = some (1, 4, []) := rfl
theorem shp_4 : SH[4]? = some (1, 4, []) := rfl
theorem shp_5 : SH[5]? = some (1, 4, []) := rfl
theorem shp_6 : SH[6]? = some (1, 6, []) := rfl
theorem shp_7 : SH[7]? = some (1, 6, []) := rfl
theorem shp_8 : SH[8]? = some (1, 6, []) := rfl
theorem shp_9 : SH[9]? = some (1, 6, []) := rfl
theorem shp_10 : SH[10]? = some (0, 1, [none, none, none, none, none, some (some 11), some (some 12), some (some 13), some (some 14), some (some 15), some (some 16), some (some 17), some (some 18)]) := rfl
theorem shp_11 : SH[11]? = some (1, 4, []) := rfl
theorem shp_12 : SH[12]? = some (1, 4, []) := rfl
theorem shp_13 : SH[13]? = some (1, 4, []) := rfl
theorem shp_14 : SH[14]? = some (1, 4, []) := rfl
theorem shp_15 : SH[15]? = some (1, 6, []) := rfl
theorem shp_16 : SH[16]? = some (1, 6, []) := rfl
theorem shp_17 : SH[17]? = some (1, 6, []) := rfl
theorem shp_18 : SH[18]? = some (1, 6, []) := rfl
theorem shp_19 : SH[19]? = some (3, 2, [some (some 20), some (some 29)]) := rfl
theorem shp_20 : SH[20]? = some (0, 1, [none, none, none, none, none, some (some 21), some (some 22), some (some 23), some (some 24), some (some 25), some (some 26), some (some 27), some (some 28)]) := rfl
theorem shp_21 : SH[21]? = some (1, 4, []) := rfl
theorem shp_22 : SH[22]? = some (1, 4, []) := rfl
theorem shp_23 : SH[23]? = some (1, 4, []) := rfl
theorem shp_24 : SH[24]? = some (1, 4, []) := rfl
theorem shp_25 : SH[25]? = some (1, 6, []) := rfl
theorem shp_26 : SH[26]? = some (1, 6, []) := rfl
theorem shp_27 : SH[27]? = some (1, 6, []) := rfl
theorem shp_28 : SH[28]? = some (1, 6, []) := rfl
theorem shp_29 : SH[29]? = some (0, 1, [none, none, none, none, none, some (some 30), some (some 31), some (some 32), some (some 33), some (some 34), some (some 35), some (some 36), some (some 37)]) := rfl
theorem shp_30 : SH[30]? = some (1, 4, []) := rfl
theorem shp_31 : SH[31]? = some (1, 4, []) := rfl
theorem shp_32 : SH[32]? = some (1, 4, []) := rfl
theorem shp_33 : SH[33]? = some (1, 4, []) := rfl
theorem shp_34 : SH[34]? = some (1, 6, []) := rfl
theorem shp_35 : SH[35]? = some (1, 6, []) := rfl
theorem shp_36 : SH[36]? = some (1, 6, []) := rfl
theorem shp_37 : SH[37]? = some (1, 6, []) := rfl
theorem shp_38 : SH[38]? = some (2, 2, []) := rfl
theorem shp_39 : SH[39]? = some (0, 0, [some (some 40), none]) := rfl
theorem shp_40 : SH[40]? = some (1, 24, []) := rfl
theorem shp_41 : SH[41]? = some (0, 4, [some (some 42), some (some 44), some (some 53), none, none, none, none, none, none, none]) := rfl
theorem shp_42 : SH[42]? = some (0, 6, [some (some 43), none]) := rfl
theorem shp_43 : SH[43]? = some (1, 320, []) := rfl
theorem shp_44 : SH[44]? = some (0, 1, [none, none, none, none, none, some (some 45), some (some 46), some (some 47), some (some 48), some (some 49), some (some 50), some (some 51), some (some 52)]) := rfl
theorem shp_45 : SH[45]? = some (1, 4, []) := rfl
theorem shp_46 : SH[46]? = some (1, 4, []) := rfl
theorem shp_47 : SH[47]? = some (1, 4, []) := rfl
theorem shp_48 : SH[48]? = some (1, 4, []) := rfl
theorem shp_49 : SH[49]? = some (1, 6, []) := rfl
theorem shp_50 : SH[50]? = some (1, 6, []) := rfl
theorem shp_51 : SH[51]? = some (1, 6, []) := rfl
theorem shp_52 : SH[52]? = some (1, 6, []) := rfl
theorem shp_53 : SH[53]? = some (0, 0, [some (some 54), none]) := rfl
theorem shp_54 : SH[54]? = some (1, 24, []) := rfl
theorem shp_55 : SH[55]? = some (0, 2, [some (some 56), some (some 57), some (some 58), none, none]) := rfl
theorem shp_56 : SH[56]? = some (1, 49, []) := rfl
theorem shp_57 : SH[57]? = some (1, 7, []) := rfl
theorem shp_58 : SH[58]? = some (1, 7, []) := rfl
theorem shp_59 : SH[59]? = some (0, 3, [some (some 60), some (some 61), some (some 62), some (some 63), none, some (some 64), some (some 65), some (some 66), some (some 67), some (some 68), none, some (some 69)]) := rfl
theorem shp_60 : SH[60]? = some (1, 120, []) := rfl
theorem shp_61 : SH[61]? = some (1, 120, []) := rfl
theorem shp_62 : SH[62]? = some (1, 120, []) := rfl
theorem shp_63 : SH[63]? = some (1, 120, []) := rfl
theorem shp_64 : SH[64]? = some (1, 4096, []) := rfl
theorem shp_65 : SH[65]? = some (1, 180, []) := rfl
theorem shp_66 : SH[66]? = some (1, 180, []) := rfl
theorem shp_67 : SH[67]? = some (1, 180, []) := rfl
theorem shp_68 : SH[68]? = some (1, 180, []) := rfl
theorem shp_69 : SH[69]? = some (1, 900, []) := rfl
theorem shp_70 : SH[70]? = some (0, 5, [some (some 71), some (some 72), some (some 73)]) := rfl
theorem shp_71 : SH[71]? = some (1, 160, []) := rfl
theorem shp_72 : SH[72]? = some (1, 4, []) := rfl
theorem shp_73 : SH[73]? = some (1, 4, []) := rfl
theorem shp_74 : SH[74]? = some (0, 8, [some (some 75), some (some 76), none, none, none, none, some (some 77), none, some (some 78), some (some 79), some (some 80), none, none, none, none, none, none, none, none, none, none, some (some 81), none, none, none, none, none, none, none, none, some (some 82), some (some 83), none, none, some (some 84), none, none, some (some 85), some (some 86), some (some 87), some (some 88), some (some 89), none, some (some 90), some (some 91), some (some 92), none, some (some 93), some (some 94), some (some 95), some (some 96), none]) := rfl
theorem shp_75 : SH[75]? = some (1, 132, []) := rfl
theorem shp_76 : SH[76]? = some (1, 8, []) := rfl
theorem shp_77 : SH[77]? = some (1, 24, []) := rfl
theorem shp_78 : SH[78]? = some (1, 33, []) := rfl
theorem shp_79 : SH[79]? = some (1, 8, []) := rfl
theorem shp_80 : SH[80]? = some (1, 24, []) := rfl
theorem shp_81 : SH[81]? = some (1, 320, []) := rfl
theorem shp_82 : SH[82]? = some (1, 12, []) := rfl
theorem shp_83 : SH[83]? = some (1, 54, []) := rfl
theorem shp_84 : SH[84]? = some (1, 7, []) := rfl
theorem shp_85 : SH[85]? = some (1, 1024, []) := rfl
theorem shp_86 : SH[86]? = some (1, 7, []) := rfl
theorem shp_87 : SH[87]? = some (1, 4096, []) := rfl
theorem shp_88 : SH[88]? = some (1, 4096, []) := rfl
theorem shp_89 : SH[89]? = some (1, 4096, []) := rfl
theorem shp_90 : SH[90]? = some (1, 4096, []) := rfl
theorem shp_91 : SH[91]? = some (1, 400, []) := rfl
theorem shp_92 : SH[92]? = some (1, 20480, []) := rfl
theorem shp_93 : SH[93]? = some (2, 2, []) := rfl
theorem shp_94 : SH[94]? = some (1, 4, []) := rfl
theorem shp_95 : SH[95]? = some (1, 4, []) := rfl
theorem shp_96 : SH[96]? = some (1, 160, []) := rfl
def BB : Nat × Nat := (97, 46250)
theorem SH_len : SH.length = BB.1 := rfl
theorem SH_sl : ax_sl SH = BB.2 := by decide +kernel
def isG (g : Nat) : Prop := SH[g]? = some (0, 1, [none, none, none, none, none, some (some (g + 1)), some (some (g + 2)), some (some (g + 3)), some (some (g + 4)), some (some (g + 5)), some (some (g + 6)), some (some (g + 7)), some (some (g + 8))]) ∧ SH[g + 1]? = some (1, 4, []) ∧ SH[g + 2]? = some (1, 4, []) ∧ SH[g + 3]? = some (1, 4, []) ∧ SH[g + 4]? = some (1, 4, []) ∧ SH[g + 5]? = some (1, 6, []) ∧ SH[g + 6]? = some (1, 6, []) ∧ SH[g + 7]? = some (1, 6, []) ∧ SH[g + 8]? = some (1, 6, [])
def isD (g : Nat) : Prop := SH[g]? = some (0, 0, [some (some (g + 1)), none]) ∧ SH[g + 1]? = some (1, 24, [])
theorem isG_1 : isG 1 := ⟨rfl, rfl, rfl, rfl, rfl, rfl, rfl, rfl, rfl⟩
theorem isG_10 : isG 10 := ⟨rfl, rfl, rfl, rfl, rfl, rfl, rfl, rfl, rfl⟩
theorem isG_20 : isG 20 := ⟨rfl, rfl, rfl, rfl, rfl, rfl, rfl, rfl, rfl⟩
theorem isG_29 : isG 29 := ⟨rfl, rfl, rfl, rfl, rfl, rfl, rfl, rfl, rfl⟩
theorem isD_39 : isD 39 := ⟨rfl, rfl⟩
theorem isG_44 : isG 44 := ⟨rfl, rfl, rfl, rfl, rfl, rfl, rfl, rfl, rfl⟩
theorem isD_53 : isD 53 := ⟨rfl, rfl⟩
/-- the judgement over the made world -/
abbrev ax_N (d : Nat) (y : ax_Y) (pc : Nat) (ls : ax_L) (st : List Value) (m : ax_M) (P : Option Value → ax_M → Prop) : Prop := ax_R d BB y pc ls st SH m (fun r sh' m' => sh' = SH ∧ P r m')
def ax_NM (d : Nat) (y : ax_Y) (vs : List Value) (m : ax_M) (P : Option Value → ax_M → Prop) : Prop := ax_N d y 0 (ax_as y.2.2.1 vs) [] m P
theorem ax_NM.rm {d : Nat} {y : ax_Y} {vs : List Value} {m : ax_M} {P : Option Value → ax_M → Prop} (h : ax_NM d y vs m P) : ax_RM d BB y vs SH m (fun r sh' m' => sh' = SH ∧ P r m') := h
def ax_le : ax_L → ax_L → Prop
  | [], [] => True
  | none :: a, _ :: b => ax_le a b
  | some v :: a, w :: b => w = some v ∧ ax_le a b
  | _, _ => False
theorem ax_le_at : ∀ {a b : ax_L} {k : Nat} {v : Value}, ax_le a b → a[k]? = some (some v) → b[k]? = some (some v)
  | [], b, k, v, _, h => by simp at h
  | none :: a, w :: b, 0, v, _, h => by simp at h
  | none :: a, w :: b, k + 1, v, hl, h => by
    have := ax_le_at (k := k) (show ax_le a b from hl) (by simpa using h)
    simpa using this
  | some u :: a, w :: b, 0, v, hl, h => by
    simp at h
    subst h
    simp [hl.1]
  | some u :: a, w :: b, k + 1, v, hl, h => by
    have := ax_le_at (k := k) hl.2 (by simpa using h)
    simpa using this
  | none :: a, [], k, v, hl, h => hl.elim
  | some u :: a, [], k, v, hl, h => hl.elim
theorem ax_forgetP {d : Nat} {B : Nat × Nat} {y : ax_Y} {pc : Nat} {ls ls' : ax_L} {st : List Value} {sh : ax_S} {m : ax_M} {Q : ax_P} (h : ax_le ls' ls) (k : ax_R d B y pc ls' st sh m Q) : ax_R d B y pc ls st sh m Q := by
  intro _ _ _ _ _ _ _ _ _ _ G _ _ _ _ _ T
  refine k.at ⟨T.1, T.2.1, T.2.2.1, ⟨T.2.2.2.1.1, T.2.2.2.1.2.1, fun q hq => T.2.2.2.1.2.2 q ?_⟩, T.2.2.2.2⟩
  obtain ⟨i, v, hi, rfl⟩ := ax_al_mem.mp hq
  exact ax_al_mem.mpr ⟨i, v, ax_le_at h hi, rfl⟩
def ax_leb (a b : ax_L) : Prop := a.length = b.length ∧ ∀ k, k < a.length → a[k]? = some none ∨ a[k]? = b[k]?
theorem ax_forget {d : Nat} {B : Nat × Nat} {y : ax_Y} {pc : Nat} {ls ls' : ax_L} {st : List Value} {sh : ax_S} {m : ax_M} {Q : ax_P} (h : (List.zipWith (fun a b : Option Value => match a with | none => none | some _ => b) ls' ls) = ls') (k : ax_R d B y pc ls' st sh m Q) : ax_R d B y pc ls st sh m Q := by
  intro _ _ _ _ _ _ _ _ _ _ G _ _ _ _ _ T
  refine k.at ⟨T.1, T.2.1, T.2.2.1, ⟨T.2.2.2.1.1, T.2.2.2.1.2.1, fun q hq => T.2.2.2.1.2.2 q ?_⟩, T.2.2.2.2⟩
  obtain ⟨i, v, hi, rfl⟩ := ax_al_mem.mp hq
  refine ax_al_mem.mpr ⟨i, v, ?_, rfl⟩
  have h2 := hi
  rw [← h, List.getElem?_zipWith, hi] at h2
  cases hb : ls[i]? with
  | none => rw [hb] at h2; simp at h2
  | some w => rw [hb] at h2; simpa using h2
theorem ax_swout {x : Int32} (n : Nat) (hn : n < 1000) (h : ∀ k : Nat, k ≤ n → ¬ x = Int32.ofNat k) : x.toInt < 0 ∨ (n : Int) < x.toInt := by
  rcases Int.lt_or_le x.toInt 0 with h0 | h0
  · exact Or.inl h0
  · rcases Int.lt_or_le (n : Int) x.toInt with h1 | h1
    · exact Or.inr h1
    · exfalso
      refine h x.toInt.toNat (by omega) ?_
      apply Int32.toInt_inj.mp
      rw [show (Int32.ofNat x.toInt.toNat).toInt = ((x.toInt.toNat : Nat) : Int) from nI_toInt (by omega)]
      omega
section AXK
variable {d d' : Nat} {y y' : ax_Y} {pc pc1 : Nat} {ls : ax_L} {st As stk : List Value} {m m' : ax_M} {P : Option Value → ax_M → Prop} {idx n ci i : Nat} {rs : List (Option (Option Nat))} {q : vw_C} {v : Value}
theorem n_callVi (hd : ax_dc y pc (.invokevirtual idx) 3 pc1) (hc : ax_code y') (hm : ax_mv y.1.cls idx y' n) (hq : ax_cl[ci]? = some q) (hqc : q.1 = y'.1.cls) (ho : SH[i]? = some (0, ci, rs)) (hn : As.length = n) (hstk : stk = As.reverse ++ .ref i :: st) (hw : (st.map fun v => v.category).sum ≤ 8) (hdd : d' + 1 ≤ d) (hfit : (ax_a1 (.ref i :: As)).length ≤ y'.2.2.1) (hr : ax_NM d' y' (.ref i :: As) m (fun r m1 => r = some v ∧ m1 = m')) (kk : ax_N d y pc1 ls (v :: st) m' P) : ax_N d y pc ls stk m P := by
  refine s_callV (B' := BB) hd hc hm hq hqc ho hn hstk hw hdd hfit ⟨Nat.le_of_eq SH_len, Nat.le_of_eq SH_sl, Nat.le_refl _, Nat.le_refl _⟩ hr.rm (fun r sh' m1 h => by rw [h.1]; exact ⟨SH_len, SH_sl⟩) (fun r sh' m1 h => ?_)
  obtain ⟨rfl, rfl, rfl⟩ := h
  exact kk
theorem n_callVv (hd : ax_dc y pc (.invokevirtual idx) 3 pc1) (hc : ax_code y') (hm : ax_mv y.1.cls idx y' n) (hq : ax_cl[ci]? = some q) (hqc : q.1 = y'.1.cls) (ho : SH[i]? = some (0, ci, rs)) (hn : As.length = n) (hstk : stk = As.reverse ++ .ref i :: st) (hw : (st.map fun v => v.category).sum ≤ 8) (hdd : d' + 1 ≤ d) (hfit : (ax_a1 (.ref i :: As)).length ≤ y'.2.2.1) (hr : ax_NM d' y' (.ref i :: As) m (fun r m1 => r = none ∧ m1 = m')) (kk : ax_N d y pc1 ls st m' P) : ax_N d y pc ls stk m P := by
  refine s_callV (B' := BB) hd hc hm hq hqc ho hn hstk hw hdd hfit ⟨Nat.le_of_eq SH_len, Nat.le_of_eq SH_sl, Nat.le_refl _, Nat.le_refl _⟩ hr.rm (fun r sh' m1 h => by rw [h.1]; exact ⟨SH_len, SH_sl⟩) (fun r sh' m1 h => ?_)
  obtain ⟨rfl, rfl, rfl⟩ := h
  exact kk
theorem n_callSi (hd : ax_dc y pc (.invokestatic idx) 3 pc1) (hc : ax_code y') (hm : ax_ms y.1.cls idx y' n) (hn : As.length = n) (hstk : stk = As.reverse ++ st) (hw : (st.map fun v => v.category).sum ≤ 8) (hdd : d' + 1 ≤ d) (hfit : (ax_a1 As).length ≤ y'.2.2.1) (hr : ax_NM d' y' As m (fun r m1 => r = some v ∧ m1 = m')) (kk : ax_N d y pc1 ls (v :: st) m' P) : ax_N d y pc ls stk m P := by
  refine s_callS (B' := BB) hd hc hm hn hstk hw hdd hfit ⟨Nat.le_of_eq SH_len, Nat.le_of_eq SH_sl, Nat.le_refl _, Nat.le_refl _⟩ hr.rm (fun r sh' m1 h => by rw [h.1]; exact ⟨SH_len, SH_sl⟩) (fun r sh' m1 h => ?_)
  obtain ⟨rfl, rfl, rfl⟩ := h
  exact kk
theorem n_callSv (hd : ax_dc y pc (.invokestatic idx) 3 pc1) (hc : ax_code y') (hm : ax_ms y.1.cls idx y' n) (hn : As.length = n) (hstk : stk = As.reverse ++ st) (hw : (st.map fun v => v.category).sum ≤ 8) (hdd : d' + 1 ≤ d) (hfit : (ax_a1 As).length ≤ y'.2.2.1) (hr : ax_NM d' y' As m (fun r m1 => r = none ∧ m1 = m')) (kk : ax_N d y pc1 ls st m' P) : ax_N d y pc ls stk m P := by
  refine s_callS (B' := BB) hd hc hm hn hstk hw hdd hfit ⟨Nat.le_of_eq SH_len, Nat.le_of_eq SH_sl, Nat.le_refl _, Nat.le_refl _⟩ hr.rm (fun r sh' m1 h => by rw [h.1]; exact ⟨SH_len, SH_sl⟩) (fun r sh' m1 h => ?_)
  obtain ⟨rfl, rfl, rfl⟩ := h
  exact kk
/-- an image is loaded -/
theorem n_img {j : Int32} (hd : ax_dc y pc .aaload 1 pc1) (hin : vp_in j 2) (kt : j = 0 → ax_N d y pc1 ls (.ref 20 :: st) m P) (kf : ¬ j = 0 → ax_N d y pc1 ls (.ref 29 :: st) m P) : ax_N d y pc ls (.int j :: .ref 19 :: st) m P := by
  obtain ⟨k, hk, rfl⟩ := vp_in_of hin (by decide)
  match k, hk with
  | 0, _ =>
    refine s_aald (j := nI 0) (q := 20) (n := 2) hd shp_19 (vp_in_nI (by decide) (by decide)) (by decide +kernel) ?_
    exact kt rfl
  | 1, _ =>
    refine s_aald (j := nI 1) (q := 29) (n := 2) hd shp_19 (vp_in_nI (by decide) (by decide)) (by decide +kernel) ?_
    exact kf (by decide)
end AXK
theorem ax_eqN {d : Nat} {y : ax_Y} {pc : Nat} {ls ls' : ax_L} {st st' : List Value} {m m' : ax_M} {P : Option Value → ax_M → Prop} (h1 : ls' = ls) (h2 : st' = st) (h3 : m' = m) (J : ax_N d y pc ls' st' m' P) : ax_N d y pc ls st m P := by
  subst h1; subst h2; subst h3
  exact J
