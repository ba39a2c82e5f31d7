/-! X8_layPairs X8_tracePairs X8_pairsOf X8_errands -/
theorem clX8_layPairs_13 {P : Option Value → ax_M → Prop} : ∀ (n : Nat) (v1 v2 v3 v4 v5 : Int32) (m : ax_M), E8_layPairs_13 n v1 v2 v3 v4 v5 m → (ax_N 5 Y8_layPairs 146 [some (.ref 74), some (.int v1), some (.int v2), some (.int v3), some (.int v4), some (.int ((L8_layPairs_13 n v1 v2 v3 v4 v5 m).1)), none, none, none, none] [] ((L8_layPairs_13 n v1 v2 v3 v4 v5 m).2) P) → ax_N 5 Y8_layPairs 13 [some (.ref 74), some (.int v1), some (.int v2), some (.int v3), some (.int v4), some (.int v5), none, none, none, none] [] m P := by
  intro n
  induction n with
  | zero => intro v1 v2 v3 v4 v5 m hD; exact absurd hD id
  | succ n ih =>
    intro v1 v2 v3 v4 v5 m hD hx
    have E : L8_layPairs_13 (n + 1) v1 v2 v3 v4 v5 m = (if (m 74 3) ≤ v5 then (v5, m) else L8_layPairs_13 n v1 v2 v3 v4 (v5 + 1) (ax_up (if (if ((v2 >>> (v5 &&& (31 : Int32))) &&& 1) = 0 then (1 : Int32) else 0) = 0 then m else (if (F8_hasErrand v5 (m 76 (Int32.toNatClampNeg (2 * v1))) (m 76 (Int32.toNatClampNeg ((2 * v1) + 1))) m) = 0 then m else (ax_up (ax_up m 84 (Int32.toNatClampNeg (m 74 35)) v5) 74 35 (((ax_up m 84 (Int32.toNatClampNeg (m 74 35)) v5) 74 35) + 1)))) 74 36 (((if (if ((v2 >>> (v5 &&& (31 : Int32))) &&& 1) = 0 then (1 : Int32) else 0) = 0 then m else (if (F8_hasErrand v5 (m 76 (Int32.toNatClampNeg (2 * v1))) (m 76 (Int32.toNatClampNeg ((2 * v1) + 1))) m) = 0 then m else (ax_up (ax_up m 84 (Int32.toNatClampNeg (m 74 35)) v5) 74 35 (((ax_up m 84 (Int32.toNatClampNeg (m 74 35)) v5) 74 35) + 1)))) 74 36) ||| (if (if ((v2 >>> (v5 &&& (31 : Int32))) &&& 1) = 0 then (1 : Int32) else 0) = 0 then (0 : Int32) else if (F8_hasErrand v5 ((if (if ((v2 >>> (v5 &&& (31 : Int32))) &&& 1) = 0 then (1 : Int32) else 0) = 0 then m else (if (F8_hasErrand v5 (m 76 (Int32.toNatClampNeg (2 * v1))) (m 76 (Int32.toNatClampNeg ((2 * v1) + 1))) m) = 0 then m else (ax_up (ax_up m 84 (Int32.toNatClampNeg (m 74 35)) v5) 74 35 (((ax_up m 84 (Int32.toNatClampNeg (m 74 35)) v5) 74 35) + 1)))) 76 (Int32.toNatClampNeg ((2 * v1) + 1))) ((if (if ((v2 >>> (v5 &&& (31 : Int32))) &&& 1) = 0 then (1 : Int32) else 0) = 0 then m else (if (F8_hasErrand v5 (m 76 (Int32.toNatClampNeg (2 * v1))) (m 76 (Int32.toNatClampNeg ((2 * v1) + 1))) m) = 0 then m else (ax_up (ax_up m 84 (Int32.toNatClampNeg (m 74 35)) v5) 74 35 (((ax_up m 84 (Int32.toNatClampNeg (m 74 35)) v5) 74 35) + 1)))) 76 (Int32.toNatClampNeg (2 * v1))) (if (if ((v2 >>> (v5 &&& (31 : Int32))) &&& 1) = 0 then (1 : Int32) else 0) = 0 then m else (if (F8_hasErrand v5 (m 76 (Int32.toNatClampNeg (2 * v1))) (m 76 (Int32.toNatClampNeg ((2 * v1) + 1))) m) = 0 then m else (ax_up (ax_up m 84 (Int32.toNatClampNeg (m 74 35)) v5) 74 35 (((ax_up m 84 (Int32.toNatClampNeg (m 74 35)) v5) 74 35) + 1))))) = 0 then (0 : Int32) else (1 : Int32) <<< (v5 &&& (31 : Int32)))))) := by rw [L8_layPairs_13]
    have hD : ((¬ ((m 74 3) ≤ v5) → ((¬ ((if ((v2 >>> (v5 &&& (31 : Int32))) &&& 1) = 0 then (1 : Int32) else 0) = 0) → ((vp_in (2 * v1) 8) ∧ (vp_in ((2 * v1) + 1) 8) ∧ (D8_hasErrand v5 (m 76 (Int32.toNatClampNeg (2 * v1))) (m 76 (Int32.toNatClampNeg ((2 * v1) + 1))) m) ∧ (¬ ((F8_hasErrand v5 (m 76 (Int32.toNatClampNeg (2 * v1))) (m 76 (Int32.toNatClampNeg ((2 * v1) + 1))) m) = 0) → ((vp_in (m 74 35) 7))))) ∧ (¬ ((if ((v2 >>> (v5 &&& (31 : Int32))) &&& 1) = 0 then (1 : Int32) else 0) = 0) → ((vp_in ((2 * v1) + 1) 8) ∧ (vp_in (2 * v1) 8) ∧ (D8_hasErrand v5 ((if (if ((v2 >>> (v5 &&& (31 : Int32))) &&& 1) = 0 then (1 : Int32) else 0) = 0 then m else (if (F8_hasErrand v5 (m 76 (Int32.toNatClampNeg (2 * v1))) (m 76 (Int32.toNatClampNeg ((2 * v1) + 1))) m) = 0 then m else (ax_up (ax_up m 84 (Int32.toNatClampNeg (m 74 35)) v5) 74 35 (((ax_up m 84 (Int32.toNatClampNeg (m 74 35)) v5) 74 35) + 1)))) 76 (Int32.toNatClampNeg ((2 * v1) + 1))) ((if (if ((v2 >>> (v5 &&& (31 : Int32))) &&& 1) = 0 then (1 : Int32) else 0) = 0 then m else (if (F8_hasErrand v5 (m 76 (Int32.toNatClampNeg (2 * v1))) (m 76 (Int32.toNatClampNeg ((2 * v1) + 1))) m) = 0 then m else (ax_up (ax_up m 84 (Int32.toNatClampNeg (m 74 35)) v5) 74 35 (((ax_up m 84 (Int32.toNatClampNeg (m 74 35)) v5) 74 35) + 1)))) 76 (Int32.toNatClampNeg (2 * v1))) (if (if ((v2 >>> (v5 &&& (31 : Int32))) &&& 1) = 0 then (1 : Int32) else 0) = 0 then m else (if (F8_hasErrand v5 (m 76 (Int32.toNatClampNeg (2 * v1))) (m 76 (Int32.toNatClampNeg ((2 * v1) + 1))) m) = 0 then m else (ax_up (ax_up m 84 (Int32.toNatClampNeg (m 74 35)) v5) 74 35 (((ax_up m 84 (Int32.toNatClampNeg (m 74 35)) v5) 74 35) + 1))))))) ∧ (E8_layPairs_13 n v1 v2 v3 v4 (v5 + 1) (ax_up (if (if ((v2 >>> (v5 &&& (31 : Int32))) &&& 1) = 0 then (1 : Int32) else 0) = 0 then m else (if (F8_hasErrand v5 (m 76 (Int32.toNatClampNeg (2 * v1))) (m 76 (Int32.toNatClampNeg ((2 * v1) + 1))) m) = 0 then m else (ax_up (ax_up m 84 (Int32.toNatClampNeg (m 74 35)) v5) 74 35 (((ax_up m 84 (Int32.toNatClampNeg (m 74 35)) v5) 74 35) + 1)))) 74 36 (((if (if ((v2 >>> (v5 &&& (31 : Int32))) &&& 1) = 0 then (1 : Int32) else 0) = 0 then m else (if (F8_hasErrand v5 (m 76 (Int32.toNatClampNeg (2 * v1))) (m 76 (Int32.toNatClampNeg ((2 * v1) + 1))) m) = 0 then m else (ax_up (ax_up m 84 (Int32.toNatClampNeg (m 74 35)) v5) 74 35 (((ax_up m 84 (Int32.toNatClampNeg (m 74 35)) v5) 74 35) + 1)))) 74 36) ||| (if (if ((v2 >>> (v5 &&& (31 : Int32))) &&& 1) = 0 then (1 : Int32) else 0) = 0 then (0 : Int32) else if (F8_hasErrand v5 ((if (if ((v2 >>> (v5 &&& (31 : Int32))) &&& 1) = 0 then (1 : Int32) else 0) = 0 then m else (if (F8_hasErrand v5 (m 76 (Int32.toNatClampNeg (2 * v1))) (m 76 (Int32.toNatClampNeg ((2 * v1) + 1))) m) = 0 then m else (ax_up (ax_up m 84 (Int32.toNatClampNeg (m 74 35)) v5) 74 35 (((ax_up m 84 (Int32.toNatClampNeg (m 74 35)) v5) 74 35) + 1)))) 76 (Int32.toNatClampNeg ((2 * v1) + 1))) ((if (if ((v2 >>> (v5 &&& (31 : Int32))) &&& 1) = 0 then (1 : Int32) else 0) = 0 then m else (if (F8_hasErrand v5 (m 76 (Int32.toNatClampNeg (2 * v1))) (m 76 (Int32.toNatClampNeg ((2 * v1) + 1))) m) = 0 then m else (ax_up (ax_up m 84 (Int32.toNatClampNeg (m 74 35)) v5) 74 35 (((ax_up m 84 (Int32.toNatClampNeg (m 74 35)) v5) 74 35) + 1)))) 76 (Int32.toNatClampNeg (2 * v1))) (if (if ((v2 >>> (v5 &&& (31 : Int32))) &&& 1) = 0 then (1 : Int32) else 0) = 0 then m else (if (F8_hasErrand v5 (m 76 (Int32.toNatClampNeg (2 * v1))) (m 76 (Int32.toNatClampNeg ((2 * v1) + 1))) m) = 0 then m else (ax_up (ax_up m 84 (Int32.toNatClampNeg (m 74 35)) v5) 74 35 (((ax_up m 84 (Int32.toNatClampNeg (m 74 35)) v5) 74 35) + 1))))) = 0 then (0 : Int32) else (1 : Int32) <<< (v5 &&& (31 : Int32))))))))) := hD
    refine s_iload eX8_layPairs_13 rfl ?_
    refine s_aload_n eX8_layPairs_15 rfl rfl ?_
    refine s_geti eX8_layPairs_16 fX8_202 shp_74 rfl ?_
    refine s_icmp_ge eX8_layPairs_19 (fun h1 => ?_) (fun h1 => ?_)
    · skip
      rw [if_pos h1] at E
      rw [E] at hx
      exact hx
    · skip
      rw [if_neg h1] at E
      have hD := hD h1
      refine s_iload_n eX8_layPairs_22 rfl rfl ?_
      refine s_iload eX8_layPairs_23 rfl ?_
      refine s_ishr eX8_layPairs_25 ?_
      refine s_iconst (v := 1) eX8_layPairs_26 rfl ?_
      refine s_iand eX8_layPairs_27 ?_
      have J2 : ax_N 5 Y8_layPairs 36 [some (.ref 74), some (.int v1), some (.int v2), some (.int v3), some (.int v4), some (.int v5), none, none, none, none] [.int (if ((v2 >>> (v5 &&& (31 : Int32))) &&& 1) = 0 then (1 : Int32) else 0)] m P := by
        refine s_istore (ls' := [some (.ref 74), some (.int v1), some (.int v2), some (.int v3), some (.int v4), some (.int v5), some (.int (if ((v2 >>> (v5 &&& (31 : Int32))) &&& 1) = 0 then (1 : Int32) else 0)), none, none, none]) eX8_layPairs_36 rfl rfl ?_
        refine s_iload eX8_layPairs_38 rfl ?_
        obtain ⟨s3, hD⟩ := hD
        have J4 : ax_N 5 Y8_layPairs 91 [some (.ref 74), some (.int v1), some (.int v2), some (.int v3), some (.int v4), some (.int v5), some (.int (if ((v2 >>> (v5 &&& (31 : Int32))) &&& 1) = 0 then (1 : Int32) else 0)), none, none, none] [] ((if (if ((v2 >>> (v5 &&& (31 : Int32))) &&& 1) = 0 then (1 : Int32) else 0) = 0 then m else (if (F8_hasErrand v5 (m 76 (Int32.toNatClampNeg (2 * v1))) (m 76 (Int32.toNatClampNeg ((2 * v1) + 1))) m) = 0 then m else (ax_up (ax_up m 84 (Int32.toNatClampNeg (m 74 35)) v5) 74 35 (((ax_up m 84 (Int32.toNatClampNeg (m 74 35)) v5) 74 35) + 1))))) P := by
          refine s_aload_n eX8_layPairs_91 rfl rfl ?_
          refine s_dup eX8_layPairs_92 rfl ?_
          refine s_geti eX8_layPairs_93 fX8_279 shp_74 rfl ?_
          refine s_iload eX8_layPairs_96 rfl ?_
          obtain ⟨s5, hD⟩ := hD
          have J6 : ax_N 5 Y8_layPairs 136 [some (.ref 74), some (.int v1), some (.int v2), some (.int v3), some (.int v4), some (.int v5), some (.int (if ((v2 >>> (v5 &&& (31 : Int32))) &&& 1) = 0 then (1 : Int32) else 0)), none, none, none] [.int (if (if ((v2 >>> (v5 &&& (31 : Int32))) &&& 1) = 0 then (1 : Int32) else 0) = 0 then (0 : Int32) else if (F8_hasErrand v5 ((if (if ((v2 >>> (v5 &&& (31 : Int32))) &&& 1) = 0 then (1 : Int32) else 0) = 0 then m else (if (F8_hasErrand v5 (m 76 (Int32.toNatClampNeg (2 * v1))) (m 76 (Int32.toNatClampNeg ((2 * v1) + 1))) m) = 0 then m else (ax_up (ax_up m 84 (Int32.toNatClampNeg (m 74 35)) v5) 74 35 (((ax_up m 84 (Int32.toNatClampNeg (m 74 35)) v5) 74 35) + 1)))) 76 (Int32.toNatClampNeg ((2 * v1) + 1))) ((if (if ((v2 >>> (v5 &&& (31 : Int32))) &&& 1) = 0 then (1 : Int32) else 0) = 0 then m else (if (F8_hasErrand v5 (m 76 (Int32.toNatClampNeg (2 * v1))) (m 76 (Int32.toNatClampNeg ((2 * v1) + 1))) m) = 0 then m else (ax_up (ax_up m 84 (Int32.toNatClampNeg (m 74 35)) v5) 74 35 (((ax_up m 84 (Int32.toNatClampNeg (m 74 35)) v5) 74 35) + 1)))) 76 (Int32.toNatClampNeg (2 * v1))) (if (if ((v2 >>> (v5 &&& (31 : Int32))) &&& 1) = 0 then (1 : Int32) else 0) = 0 then m else (if (F8_hasErrand v5 (m 76 (Int32.toNatClampNeg (2 * v1))) (m 76 (Int32.toNatClampNeg ((2 * v1) + 1))) m) = 0 then m else (ax_up (ax_up m 84 (Int32.toNatClampNeg (m 74 35)) v5) 74 35 (((ax_up m 84 (Int32.toNatClampNeg (m 74 35)) v5) 74 35) + 1))))) = 0 then (0 : Int32) else (1 : Int32) <<< (v5 &&& (31 : Int32))), .int ((if (if ((v2 >>> (v5 &&& (31 : Int32))) &&& 1) = 0 then (1 : Int32) else 0) = 0 then m else (if (F8_hasErrand v5 (m 76 (Int32.toNatClampNeg (2 * v1))) (m 76 (Int32.toNatClampNeg ((2 * v1) + 1))) m) = 0 then m else (ax_up (ax_up m 84 (Int32.toNatClampNeg (m 74 35)) v5) 74 35 (((ax_up m 84 (Int32.toNatClampNeg (m 74 35)) v5) 74 35) + 1)))) 74 36), .ref 74] ((if (if ((v2 >>> (v5 &&& (31 : Int32))) &&& 1) = 0 then (1 : Int32) else 0) = 0 then m else (if (F8_hasErrand v5 (m 76 (Int32.toNatClampNeg (2 * v1))) (m 76 (Int32.toNatClampNeg ((2 * v1) + 1))) m) = 0 then m else (ax_up (ax_up m 84 (Int32.toNatClampNeg (m 74 35)) v5) 74 35 (((ax_up m 84 (Int32.toNatClampNeg (m 74 35)) v5) 74 35) + 1))))) P := by
            refine s_ior eX8_layPairs_136 ?_
            refine s_puti eX8_layPairs_137 fX8_279 pX8_36 rfl rfl shp_74 rfl ?_
            refine s_iinc (v := v5 + 1) (ls' := [some (.ref 74), some (.int v1), some (.int v2), some (.int v3), some (.int v4), some (.int (v5 + 1)), some (.int (if ((v2 >>> (v5 &&& (31 : Int32))) &&& 1) = 0 then (1 : Int32) else 0)), none, none, none]) eX8_layPairs_140 rfl rfl rfl rfl ?_
            refine s_goto eX8_layPairs_143 ?_
            refine ax_forget (ls' := [some (.ref 74), some (.int v1), some (.int v2), some (.int v3), some (.int v4), some (.int (v5 + 1)), none, none, none, none]) rfl ?_
            rw [E] at hx
            exact ih v1 v2 v3 v4 (v5 + 1) ((ax_up (if (if ((v2 >>> (v5 &&& (31 : Int32))) &&& 1) = 0 then (1 : Int32) else 0) = 0 then m else (if (F8_hasErrand v5 (m 76 (Int32.toNatClampNeg (2 * v1))) (m 76 (Int32.toNatClampNeg ((2 * v1) + 1))) m) = 0 then m else (ax_up (ax_up m 84 (Int32.toNatClampNeg (m 74 35)) v5) 74 35 (((ax_up m 84 (Int32.toNatClampNeg (m 74 35)) v5) 74 35) + 1)))) 74 36 (((if (if ((v2 >>> (v5 &&& (31 : Int32))) &&& 1) = 0 then (1 : Int32) else 0) = 0 then m else (if (F8_hasErrand v5 (m 76 (Int32.toNatClampNeg (2 * v1))) (m 76 (Int32.toNatClampNeg ((2 * v1) + 1))) m) = 0 then m else (ax_up (ax_up m 84 (Int32.toNatClampNeg (m 74 35)) v5) 74 35 (((ax_up m 84 (Int32.toNatClampNeg (m 74 35)) v5) 74 35) + 1)))) 74 36) ||| (if (if ((v2 >>> (v5 &&& (31 : Int32))) &&& 1) = 0 then (1 : Int32) else 0) = 0 then (0 : Int32) else if (F8_hasErrand v5 ((if (if ((v2 >>> (v5 &&& (31 : Int32))) &&& 1) = 0 then (1 : Int32) else 0) = 0 then m else (if (F8_hasErrand v5 (m 76 (Int32.toNatClampNeg (2 * v1))) (m 76 (Int32.toNatClampNeg ((2 * v1) + 1))) m) = 0 then m else (ax_up (ax_up m 84 (Int32.toNatClampNeg (m 74 35)) v5) 74 35 (((ax_up m 84 (Int32.toNatClampNeg (m 74 35)) v5) 74 35) + 1)))) 76 (Int32.toNatClampNeg ((2 * v1) + 1))) ((if (if ((v2 >>> (v5 &&& (31 : Int32))) &&& 1) = 0 then (1 : Int32) else 0) = 0 then m else (if (F8_hasErrand v5 (m 76 (Int32.toNatClampNeg (2 * v1))) (m 76 (Int32.toNatClampNeg ((2 * v1) + 1))) m) = 0 then m else (ax_up (ax_up m 84 (Int32.toNatClampNeg (m 74 35)) v5) 74 35 (((ax_up m 84 (Int32.toNatClampNeg (m 74 35)) v5) 74 35) + 1)))) 76 (Int32.toNatClampNeg (2 * v1))) (if (if ((v2 >>> (v5 &&& (31 : Int32))) &&& 1) = 0 then (1 : Int32) else 0) = 0 then m else (if (F8_hasErrand v5 (m 76 (Int32.toNatClampNeg (2 * v1))) (m 76 (Int32.toNatClampNeg ((2 * v1) + 1))) m) = 0 then m else (ax_up (ax_up m 84 (Int32.toNatClampNeg (m 74 35)) v5) 74 35 (((ax_up m 84 (Int32.toNatClampNeg (m 74 35)) v5) 74 35) + 1))))) = 0 then (0 : Int32) else (1 : Int32) <<< (v5 &&& (31 : Int32)))))) hD hx
          have hD := s5
          refine s_if_eq eX8_layPairs_98 (fun h7 => ?_) (fun h7 => ?_)
          · skip
            refine s_iconst (v := 0) eX8_layPairs_135 rfl ?_
            exact ax_eqN rfl (by rw [show (if (if ((v2 >>> (v5 &&& (31 : Int32))) &&& 1) = 0 then (1 : Int32) else 0) = 0 then (0 : Int32) else if (F8_hasErrand v5 ((if (if ((v2 >>> (v5 &&& (31 : Int32))) &&& 1) = 0 then (1 : Int32) else 0) = 0 then m else (if (F8_hasErrand v5 (m 76 (Int32.toNatClampNeg (2 * v1))) (m 76 (Int32.toNatClampNeg ((2 * v1) + 1))) m) = 0 then m else (ax_up (ax_up m 84 (Int32.toNatClampNeg (m 74 35)) v5) 74 35 (((ax_up m 84 (Int32.toNatClampNeg (m 74 35)) v5) 74 35) + 1)))) 76 (Int32.toNatClampNeg ((2 * v1) + 1))) ((if (if ((v2 >>> (v5 &&& (31 : Int32))) &&& 1) = 0 then (1 : Int32) else 0) = 0 then m else (if (F8_hasErrand v5 (m 76 (Int32.toNatClampNeg (2 * v1))) (m 76 (Int32.toNatClampNeg ((2 * v1) + 1))) m) = 0 then m else (ax_up (ax_up m 84 (Int32.toNatClampNeg (m 74 35)) v5) 74 35 (((ax_up m 84 (Int32.toNatClampNeg (m 74 35)) v5) 74 35) + 1)))) 76 (Int32.toNatClampNeg (2 * v1))) (if (if ((v2 >>> (v5 &&& (31 : Int32))) &&& 1) = 0 then (1 : Int32) else 0) = 0 then m else (if (F8_hasErrand v5 (m 76 (Int32.toNatClampNeg (2 * v1))) (m 76 (Int32.toNatClampNeg ((2 * v1) + 1))) m) = 0 then m else (ax_up (ax_up m 84 (Int32.toNatClampNeg (m 74 35)) v5) 74 35 (((ax_up m 84 (Int32.toNatClampNeg (m 74 35)) v5) 74 35) + 1))))) = 0 then (0 : Int32) else (1 : Int32) <<< (v5 &&& (31 : Int32)) : Int32) = 0 by rw [if_pos h7]]) rfl J6
          · skip
            have hD := hD h7
            refine s_aload_n eX8_layPairs_101 rfl rfl ?_
            refine s_iload eX8_layPairs_102 rfl ?_
            refine s_aload_n eX8_layPairs_104 rfl rfl ?_
            refine s_getr (q := 76) eX8_layPairs_105 fX8_13 shp_74 rfl ?_
            refine s_iconst (v := 2) eX8_layPairs_108 rfl ?_
            refine s_iload_n eX8_layPairs_109 rfl rfl ?_
            refine s_imul eX8_layPairs_110 ?_
            refine s_iconst (v := 1) eX8_layPairs_111 rfl ?_
            refine s_iadd eX8_layPairs_112 ?_
            obtain ⟨q8, hD⟩ := hD
            refine s_iald eX8_layPairs_113 shp_76 q8 ?_
            refine s_aload_n eX8_layPairs_114 rfl rfl ?_
            refine s_getr (q := 76) eX8_layPairs_115 fX8_13 shp_74 rfl ?_
            refine s_iconst (v := 2) eX8_layPairs_118 rfl ?_
            refine s_iload_n eX8_layPairs_119 rfl rfl ?_
            refine s_imul eX8_layPairs_120 ?_
            obtain ⟨q9, hD⟩ := hD
            refine s_iald eX8_layPairs_121 shp_76 q9 ?_
            have q10 := hD
            refine n_callVi (As := [.int v5, .int ((if (if ((v2 >>> (v5 &&& (31 : Int32))) &&& 1) = 0 then (1 : Int32) else 0) = 0 then m else (if (F8_hasErrand v5 (m 76 (Int32.toNatClampNeg (2 * v1))) (m 76 (Int32.toNatClampNeg ((2 * v1) + 1))) m) = 0 then m else (ax_up (ax_up m 84 (Int32.toNatClampNeg (m 74 35)) v5) 74 35 (((ax_up m 84 (Int32.toNatClampNeg (m 74 35)) v5) 74 35) + 1)))) 76 (Int32.toNatClampNeg ((2 * v1) + 1))), .int ((if (if ((v2 >>> (v5 &&& (31 : Int32))) &&& 1) = 0 then (1 : Int32) else 0) = 0 then m else (if (F8_hasErrand v5 (m 76 (Int32.toNatClampNeg (2 * v1))) (m 76 (Int32.toNatClampNeg ((2 * v1) + 1))) m) = 0 then m else (ax_up (ax_up m 84 (Int32.toNatClampNeg (m 74 35)) v5) 74 35 (((ax_up m 84 (Int32.toNatClampNeg (m 74 35)) v5) 74 35) + 1)))) 76 (Int32.toNatClampNeg (2 * v1)))]) eX8_layPairs_122 kX8_hasErrand lX8_282 rfl rfl shp_74 rfl rfl (Nat.le_of_ble_eq_true rfl) (Nat.le_of_ble_eq_true rfl) (Nat.le_of_ble_eq_true rfl) (uX8_hasErrand v5 ((if (if ((v2 >>> (v5 &&& (31 : Int32))) &&& 1) = 0 then (1 : Int32) else 0) = 0 then m else (if (F8_hasErrand v5 (m 76 (Int32.toNatClampNeg (2 * v1))) (m 76 (Int32.toNatClampNeg ((2 * v1) + 1))) m) = 0 then m else (ax_up (ax_up m 84 (Int32.toNatClampNeg (m 74 35)) v5) 74 35 (((ax_up m 84 (Int32.toNatClampNeg (m 74 35)) v5) 74 35) + 1)))) 76 (Int32.toNatClampNeg ((2 * v1) + 1))) ((if (if ((v2 >>> (v5 &&& (31 : Int32))) &&& 1) = 0 then (1 : Int32) else 0) = 0 then m else (if (F8_hasErrand v5 (m 76 (Int32.toNatClampNeg (2 * v1))) (m 76 (Int32.toNatClampNeg ((2 * v1) + 1))) m) = 0 then m else (ax_up (ax_up m 84 (Int32.toNatClampNeg (m 74 35)) v5) 74 35 (((ax_up m 84 (Int32.toNatClampNeg (m 74 35)) v5) 74 35) + 1)))) 76 (Int32.toNatClampNeg (2 * v1))) ((if (if ((v2 >>> (v5 &&& (31 : Int32))) &&& 1) = 0 then (1 : Int32) else 0) = 0 then m else (if (F8_hasErrand v5 (m 76 (Int32.toNatClampNeg (2 * v1))) (m 76 (Int32.toNatClampNeg ((2 * v1) + 1))) m) = 0 then m else (ax_up (ax_up m 84 (Int32.toNatClampNeg (m 74 35)) v5) 74 35 (((ax_up m 84 (Int32.toNatClampNeg (m 74 35)) v5) 74 35) + 1))))) q10) ?_
            refine s_if_eq eX8_layPairs_125 (fun h11 => ?_) (fun h11 => ?_)
            · skip
              refine s_iconst (v := 0) eX8_layPairs_135 rfl ?_
              exact ax_eqN rfl (by rw [show (if (if ((v2 >>> (v5 &&& (31 : Int32))) &&& 1) = 0 then (1 : Int32) else 0) = 0 then (0 : Int32) else if (F8_hasErrand v5 ((if (if ((v2 >>> (v5 &&& (31 : Int32))) &&& 1) = 0 then (1 : Int32) else 0) = 0 then m else (if (F8_hasErrand v5 (m 76 (Int32.toNatClampNeg (2 * v1))) (m 76 (Int32.toNatClampNeg ((2 * v1) + 1))) m) = 0 then m else (ax_up (ax_up m 84 (Int32.toNatClampNeg (m 74 35)) v5) 74 35 (((ax_up m 84 (Int32.toNatClampNeg (m 74 35)) v5) 74 35) + 1)))) 76 (Int32.toNatClampNeg ((2 * v1) + 1))) ((if (if ((v2 >>> (v5 &&& (31 : Int32))) &&& 1) = 0 then (1 : Int32) else 0) = 0 then m else (if (F8_hasErrand v5 (m 76 (Int32.toNatClampNeg (2 * v1))) (m 76 (Int32.toNatClampNeg ((2 * v1) + 1))) m) = 0 then m else (ax_up (ax_up m 84 (Int32.toNatClampNeg (m 74 35)) v5) 74 35 (((ax_up m 84 (Int32.toNatClampNeg (m 74 35)) v5) 74 35) + 1)))) 76 (Int32.toNatClampNeg (2 * v1))) (if (if ((v2 >>> (v5 &&& (31 : Int32))) &&& 1) = 0 then (1 : Int32) else 0) = 0 then m else (if (F8_hasErrand v5 (m 76 (Int32.toNatClampNeg (2 * v1))) (m 76 (Int32.toNatClampNeg ((2 * v1) + 1))) m) = 0 then m else (ax_up (ax_up m 84 (Int32.toNatClampNeg (m 74 35)) v5) 74 35 (((ax_up m 84 (Int32.toNatClampNeg (m 74 35)) v5) 74 35) + 1))))) = 0 then (0 : Int32) else (1 : Int32) <<< (v5 &&& (31 : Int32)) : Int32) = 0 by rw [if_neg h7, if_pos h11]]) rfl J6
            · skip
              refine s_iconst (v := 1) eX8_layPairs_128 rfl ?_
              refine s_iload eX8_layPairs_129 rfl ?_
              refine s_ishl eX8_layPairs_131 ?_
              refine s_goto eX8_layPairs_132 ?_
              exact ax_eqN rfl (by rw [show (if (if ((v2 >>> (v5 &&& (31 : Int32))) &&& 1) = 0 then (1 : Int32) else 0) = 0 then (0 : Int32) else if (F8_hasErrand v5 ((if (if ((v2 >>> (v5 &&& (31 : Int32))) &&& 1) = 0 then (1 : Int32) else 0) = 0 then m else (if (F8_hasErrand v5 (m 76 (Int32.toNatClampNeg (2 * v1))) (m 76 (Int32.toNatClampNeg ((2 * v1) + 1))) m) = 0 then m else (ax_up (ax_up m 84 (Int32.toNatClampNeg (m 74 35)) v5) 74 35 (((ax_up m 84 (Int32.toNatClampNeg (m 74 35)) v5) 74 35) + 1)))) 76 (Int32.toNatClampNeg ((2 * v1) + 1))) ((if (if ((v2 >>> (v5 &&& (31 : Int32))) &&& 1) = 0 then (1 : Int32) else 0) = 0 then m else (if (F8_hasErrand v5 (m 76 (Int32.toNatClampNeg (2 * v1))) (m 76 (Int32.toNatClampNeg ((2 * v1) + 1))) m) = 0 then m else (ax_up (ax_up m 84 (Int32.toNatClampNeg (m 74 35)) v5) 74 35 (((ax_up m 84 (Int32.toNatClampNeg (m 74 35)) v5) 74 35) + 1)))) 76 (Int32.toNatClampNeg (2 * v1))) (if (if ((v2 >>> (v5 &&& (31 : Int32))) &&& 1) = 0 then (1 : Int32) else 0) = 0 then m else (if (F8_hasErrand v5 (m 76 (Int32.toNatClampNeg (2 * v1))) (m 76 (Int32.toNatClampNeg ((2 * v1) + 1))) m) = 0 then m else (ax_up (ax_up m 84 (Int32.toNatClampNeg (m 74 35)) v5) 74 35 (((ax_up m 84 (Int32.toNatClampNeg (m 74 35)) v5) 74 35) + 1))))) = 0 then (0 : Int32) else (1 : Int32) <<< (v5 &&& (31 : Int32)) : Int32) = (1 : Int32) <<< (v5 &&& (31 : Int32)) by rw [if_neg h7, if_neg h11]]) rfl J6
        have hD := s3
        refine s_if_eq eX8_layPairs_40 (fun h12 => ?_) (fun h12 => ?_)
        · skip
          exact ax_eqN rfl rfl (by rw [show ((if (if ((v2 >>> (v5 &&& (31 : Int32))) &&& 1) = 0 then (1 : Int32) else 0) = 0 then m else (if (F8_hasErrand v5 (m 76 (Int32.toNatClampNeg (2 * v1))) (m 76 (Int32.toNatClampNeg ((2 * v1) + 1))) m) = 0 then m else (ax_up (ax_up m 84 (Int32.toNatClampNeg (m 74 35)) v5) 74 35 (((ax_up m 84 (Int32.toNatClampNeg (m 74 35)) v5) 74 35) + 1)))) : ax_M) = m by rw [if_pos h12]]) J4
        · skip
          have hD := hD h12
          refine s_aload_n eX8_layPairs_43 rfl rfl ?_
          refine s_iload eX8_layPairs_44 rfl ?_
          refine s_aload_n eX8_layPairs_46 rfl rfl ?_
          refine s_getr (q := 76) eX8_layPairs_47 fX8_13 shp_74 rfl ?_
          refine s_iconst (v := 2) eX8_layPairs_50 rfl ?_
          refine s_iload_n eX8_layPairs_51 rfl rfl ?_
          refine s_imul eX8_layPairs_52 ?_
          obtain ⟨q13, hD⟩ := hD
          refine s_iald eX8_layPairs_53 shp_76 q13 ?_
          refine s_aload_n eX8_layPairs_54 rfl rfl ?_
          refine s_getr (q := 76) eX8_layPairs_55 fX8_13 shp_74 rfl ?_
          refine s_iconst (v := 2) eX8_layPairs_58 rfl ?_
          refine s_iload_n eX8_layPairs_59 rfl rfl ?_
          refine s_imul eX8_layPairs_60 ?_
          refine s_iconst (v := 1) eX8_layPairs_61 rfl ?_
          refine s_iadd eX8_layPairs_62 ?_
          obtain ⟨q14, hD⟩ := hD
          refine s_iald eX8_layPairs_63 shp_76 q14 ?_
          obtain ⟨q15, hD⟩ := hD
          refine n_callVi (As := [.int v5, .int (m 76 (Int32.toNatClampNeg (2 * v1))), .int (m 76 (Int32.toNatClampNeg ((2 * v1) + 1)))]) eX8_layPairs_64 kX8_hasErrand lX8_282 rfl rfl shp_74 rfl rfl (Nat.le_of_ble_eq_true rfl) (Nat.le_of_ble_eq_true rfl) (Nat.le_of_ble_eq_true rfl) (uX8_hasErrand v5 (m 76 (Int32.toNatClampNeg (2 * v1))) (m 76 (Int32.toNatClampNeg ((2 * v1) + 1))) m q15) ?_
          refine s_if_eq eX8_layPairs_67 (fun h16 => ?_) (fun h16 => ?_)
          · skip
            exact ax_eqN rfl rfl (by rw [show ((if (if ((v2 >>> (v5 &&& (31 : Int32))) &&& 1) = 0 then (1 : Int32) else 0) = 0 then m else (if (F8_hasErrand v5 (m 76 (Int32.toNatClampNeg (2 * v1))) (m 76 (Int32.toNatClampNeg ((2 * v1) + 1))) m) = 0 then m else (ax_up (ax_up m 84 (Int32.toNatClampNeg (m 74 35)) v5) 74 35 (((ax_up m 84 (Int32.toNatClampNeg (m 74 35)) v5) 74 35) + 1)))) : ax_M) = m by rw [if_neg h12, if_pos h16]]) J4
          · skip
            have hD := hD h16
            refine s_aload_n eX8_layPairs_70 rfl rfl ?_
            refine s_getr (q := 84) eX8_layPairs_71 fX8_44 shp_74 rfl ?_
            refine s_aload_n eX8_layPairs_74 rfl rfl ?_
            refine s_geti eX8_layPairs_75 fX8_276 shp_74 rfl ?_
            refine s_iload eX8_layPairs_78 rfl ?_
            have q17 := hD
            refine s_iast eX8_layPairs_80 shp_84 q17 ?_
            refine s_aload_n eX8_layPairs_81 rfl rfl ?_
            refine s_dup eX8_layPairs_82 rfl ?_
            refine s_geti eX8_layPairs_83 fX8_276 shp_74 rfl ?_
            refine s_iconst (v := 1) eX8_layPairs_86 rfl ?_
            refine s_iadd eX8_layPairs_87 ?_
            refine s_puti eX8_layPairs_88 fX8_276 pX8_35 rfl rfl shp_74 rfl ?_
            exact ax_eqN rfl rfl (by rw [show ((if (if ((v2 >>> (v5 &&& (31 : Int32))) &&& 1) = 0 then (1 : Int32) else 0) = 0 then m else (if (F8_hasErrand v5 (m 76 (Int32.toNatClampNeg (2 * v1))) (m 76 (Int32.toNatClampNeg ((2 * v1) + 1))) m) = 0 then m else (ax_up (ax_up m 84 (Int32.toNatClampNeg (m 74 35)) v5) 74 35 (((ax_up m 84 (Int32.toNatClampNeg (m 74 35)) v5) 74 35) + 1)))) : ax_M) = (ax_up (ax_up m 84 (Int32.toNatClampNeg (m 74 35)) v5) 74 35 (((ax_up m 84 (Int32.toNatClampNeg (m 74 35)) v5) 74 35) + 1)) by rw [if_neg h12, if_neg h16]]) J4
      refine s_if_ne eX8_layPairs_28 (fun h18 => ?_) (fun h18 => ?_)
      · skip
        refine s_iconst (v := 0) eX8_layPairs_35 rfl ?_
        exact ax_eqN rfl (by rw [show (if ((v2 >>> (v5 &&& (31 : Int32))) &&& 1) = 0 then (1 : Int32) else 0 : Int32) = 0 by rw [if_neg h18]]) rfl J2
      · skip
        refine s_iconst (v := 1) eX8_layPairs_31 rfl ?_
        refine s_goto eX8_layPairs_32 ?_
        exact ax_eqN rfl (by rw [show (if ((v2 >>> (v5 &&& (31 : Int32))) &&& 1) = 0 then (1 : Int32) else 0 : Int32) = 1 by rw [if_pos h18]]) rfl J2
theorem clX8_layPairs_194 {P : Option Value → ax_M → Prop} : ∀ (n : Nat) (v1 v2 v3 v4 v5 : Int32) (m : ax_M), E8_layPairs_194 n v1 v2 v3 v4 v5 m → (ax_N 5 Y8_layPairs 225 [some (.ref 74), some (.int v1), some (.int v2), some (.int v3), some (.int v4), some (.int ((L8_layPairs_194 n v1 v2 v3 v4 v5 m).1)), none, none, none, none] [] ((L8_layPairs_194 n v1 v2 v3 v4 v5 m).2) P) → ax_N 5 Y8_layPairs 194 [some (.ref 74), some (.int v1), some (.int v2), some (.int v3), some (.int v4), some (.int v5), none, none, none, none] [] m P := by
  intro n
  induction n with
  | zero => intro v1 v2 v3 v4 v5 m hD; exact absurd hD id
  | succ n ih =>
    intro v1 v2 v3 v4 v5 m hD hx
    have E : L8_layPairs_194 (n + 1) v1 v2 v3 v4 v5 m = (if 128 ≤ v5 then (v5, m) else L8_layPairs_194 n v1 v2 v3 v4 (v5 + 1) (ax_up m 85 (Int32.toNatClampNeg ((128 * (m 74 35)) + v5)) 0)) := by rw [L8_layPairs_194]
    have hD : ((¬ (128 ≤ v5) → ((vp_in ((128 * (m 74 35)) + v5) 1024) ∧ (E8_layPairs_194 n v1 v2 v3 v4 (v5 + 1) (ax_up m 85 (Int32.toNatClampNeg ((128 * (m 74 35)) + v5)) 0))))) := hD
    refine s_iload eX8_layPairs_194 rfl ?_
    refine s_sipush (v := 128) eX8_layPairs_196 rfl ?_
    refine s_icmp_ge eX8_layPairs_199 (fun h1 => ?_) (fun h1 => ?_)
    · skip
      rw [if_pos h1] at E
      rw [E] at hx
      exact hx
    · skip
      rw [if_neg h1] at E
      have hD := hD h1
      refine s_aload_n eX8_layPairs_202 rfl rfl ?_
      refine s_getr (q := 85) eX8_layPairs_203 fX8_47 shp_74 rfl ?_
      refine s_sipush (v := 128) eX8_layPairs_206 rfl ?_
      refine s_aload_n eX8_layPairs_209 rfl rfl ?_
      refine s_geti eX8_layPairs_210 fX8_276 shp_74 rfl ?_
      refine s_imul eX8_layPairs_213 ?_
      refine s_iload eX8_layPairs_214 rfl ?_
      refine s_iadd eX8_layPairs_216 ?_
      refine s_iconst (v := 0) eX8_layPairs_217 rfl ?_
      obtain ⟨q2, hD⟩ := hD
      refine s_iast eX8_layPairs_218 shp_85 q2 ?_
      refine s_iinc (v := v5 + 1) (ls' := [some (.ref 74), some (.int v1), some (.int v2), some (.int v3), some (.int v4), some (.int (v5 + 1)), none, none, none, none]) eX8_layPairs_219 rfl rfl rfl rfl ?_
      refine s_goto eX8_layPairs_222 ?_
      rw [E] at hx
      exact ih v1 v2 v3 v4 (v5 + 1) ((ax_up m 85 (Int32.toNatClampNeg ((128 * (m 74 35)) + v5)) 0)) hD hx
theorem clX8_layPairs_270 {P : Option Value → ax_M → Prop} : ∀ (n : Nat) (v1 v2 v3 v4 v5 v6 v7 v8 : Int32) (m : ax_M), E8_layPairs_270 n v1 v2 v3 v4 v5 v6 v7 v8 m → (ax_N 5 Y8_layPairs 314 [some (.ref 74), some (.int v1), some (.int v2), some (.int v3), some (.int v4), some (.int v5), some (.int v6), some (.int ((L8_layPairs_270 n v1 v2 v3 v4 v5 v6 v7 v8 m).1)), some (.int ((L8_layPairs_270 n v1 v2 v3 v4 v5 v6 v7 v8 m).2)), none] [] m P) → ax_N 5 Y8_layPairs 270 [some (.ref 74), some (.int v1), some (.int v2), some (.int v3), some (.int v4), some (.int v5), some (.int v6), some (.int v7), some (.int v8), none] [] m P := by
  intro n
  induction n with
  | zero => intro v1 v2 v3 v4 v5 v6 v7 v8 m hD; exact absurd hD id
  | succ n ih =>
    intro v1 v2 v3 v4 v5 v6 v7 v8 m hD hx
    have E : L8_layPairs_270 (n + 1) v1 v2 v3 v4 v5 v6 v7 v8 m = (if 7 ≤ v8 then (v7, v8) else L8_layPairs_270 n v1 v2 v3 v4 v5 v6 (if (F8_afterPair v1 v5 v8 v6 v4 m) ≤ v7 then (v7 : Int32) else F8_afterPair v1 v5 v8 v6 v4 m) (v8 + 1) m) := by rw [L8_layPairs_270]
    have hD : ((¬ (7 ≤ v8) → ((D8_afterPair v1 v5 v8 v6 v4 m) ∧ (E8_layPairs_270 n v1 v2 v3 v4 v5 v6 (if (F8_afterPair v1 v5 v8 v6 v4 m) ≤ v7 then (v7 : Int32) else F8_afterPair v1 v5 v8 v6 v4 m) (v8 + 1) m)))) := hD
    refine s_iload eX8_layPairs_270 rfl ?_
    refine s_bipush (v := 7) eX8_layPairs_272 rfl ?_
    refine s_icmp_ge eX8_layPairs_274 (fun h1 => ?_) (fun h1 => ?_)
    · skip
      rw [if_pos h1] at E
      rw [E] at hx
      exact hx
    · skip
      rw [if_neg h1] at E
      have hD := hD h1
      refine s_aload_n eX8_layPairs_277 rfl rfl ?_
      refine s_iload_n eX8_layPairs_278 rfl rfl ?_
      refine s_iload eX8_layPairs_279 rfl ?_
      refine s_iload eX8_layPairs_281 rfl ?_
      refine s_iload eX8_layPairs_283 rfl ?_
      refine s_iload eX8_layPairs_285 rfl ?_
      obtain ⟨q2, hD⟩ := hD
      refine n_callVi (As := [.int v1, .int v5, .int v8, .int v6, .int v4]) eX8_layPairs_287 kX8_afterPair lX8_285 rfl rfl shp_74 rfl rfl (Nat.le_of_ble_eq_true rfl) (Nat.le_of_ble_eq_true rfl) (Nat.le_of_ble_eq_true rfl) (uX8_afterPair v1 v5 v8 v6 v4 m q2) ?_
      refine s_istore (ls' := [some (.ref 74), some (.int v1), some (.int v2), some (.int v3), some (.int v4), some (.int v5), some (.int v6), some (.int v7), some (.int v8), some (.int (F8_afterPair v1 v5 v8 v6 v4 m))]) eX8_layPairs_290 rfl rfl ?_
      refine s_iload eX8_layPairs_292 rfl ?_
      refine s_iload eX8_layPairs_294 rfl ?_
      have J3 : ax_N 5 Y8_layPairs 306 [some (.ref 74), some (.int v1), some (.int v2), some (.int v3), some (.int v4), some (.int v5), some (.int v6), some (.int v7), some (.int v8), some (.int (F8_afterPair v1 v5 v8 v6 v4 m))] [.int (if (F8_afterPair v1 v5 v8 v6 v4 m) ≤ v7 then (v7 : Int32) else F8_afterPair v1 v5 v8 v6 v4 m)] m P := by
        refine s_istore (ls' := [some (.ref 74), some (.int v1), some (.int v2), some (.int v3), some (.int v4), some (.int v5), some (.int v6), some (.int (if (F8_afterPair v1 v5 v8 v6 v4 m) ≤ v7 then (v7 : Int32) else F8_afterPair v1 v5 v8 v6 v4 m)), some (.int v8), some (.int (F8_afterPair v1 v5 v8 v6 v4 m))]) eX8_layPairs_306 rfl rfl ?_
        refine s_iinc (v := v8 + 1) (ls' := [some (.ref 74), some (.int v1), some (.int v2), some (.int v3), some (.int v4), some (.int v5), some (.int v6), some (.int (if (F8_afterPair v1 v5 v8 v6 v4 m) ≤ v7 then (v7 : Int32) else F8_afterPair v1 v5 v8 v6 v4 m)), some (.int (v8 + 1)), some (.int (F8_afterPair v1 v5 v8 v6 v4 m))]) eX8_layPairs_308 rfl rfl rfl rfl ?_
        refine s_goto eX8_layPairs_311 ?_
        refine ax_forget (ls' := [some (.ref 74), some (.int v1), some (.int v2), some (.int v3), some (.int v4), some (.int v5), some (.int v6), some (.int (if (F8_afterPair v1 v5 v8 v6 v4 m) ≤ v7 then (v7 : Int32) else F8_afterPair v1 v5 v8 v6 v4 m)), some (.int (v8 + 1)), none]) rfl ?_
        rw [E] at hx
        exact ih v1 v2 v3 v4 v5 v6 (if (F8_afterPair v1 v5 v8 v6 v4 m) ≤ v7 then (v7 : Int32) else F8_afterPair v1 v5 v8 v6 v4 m) (v8 + 1) m hD hx
      refine s_icmp_le eX8_layPairs_296 (fun h4 => ?_) (fun h4 => ?_)
      · skip
        refine s_iload eX8_layPairs_304 rfl ?_
        exact ax_eqN rfl (by rw [show (if (F8_afterPair v1 v5 v8 v6 v4 m) ≤ v7 then (v7 : Int32) else F8_afterPair v1 v5 v8 v6 v4 m : Int32) = v7 by rw [if_pos h4]]) rfl J3
      · skip
        refine s_iload eX8_layPairs_299 rfl ?_
        refine s_goto eX8_layPairs_301 ?_
        exact ax_eqN rfl (by rw [show (if (F8_afterPair v1 v5 v8 v6 v4 m) ≤ v7 then (v7 : Int32) else F8_afterPair v1 v5 v8 v6 v4 m : Int32) = F8_afterPair v1 v5 v8 v6 v4 m by rw [if_neg h4]]) rfl J3
theorem clX8_layPairs_241 {P : Option Value → ax_M → Prop} : ∀ (n : Nat) (v1 v2 v3 v4 v5 v6 : Int32) (m : ax_M), E8_layPairs_241 n v1 v2 v3 v4 v5 v6 m → (ax_N 5 Y8_layPairs 336 [some (.ref 74), some (.int v1), some (.int v2), some (.int v3), some (.int v4), some (.int v5), some (.int ((L8_layPairs_241 n v1 v2 v3 v4 v5 v6 m).1)), none, none, none] [] ((L8_layPairs_241 n v1 v2 v3 v4 v5 v6 m).2) P) → ax_N 5 Y8_layPairs 241 [some (.ref 74), some (.int v1), some (.int v2), some (.int v3), some (.int v4), some (.int v5), some (.int v6), none, none, none] [] m P := by
  intro n
  induction n with
  | zero => intro v1 v2 v3 v4 v5 v6 m hD; exact absurd hD id
  | succ n ih =>
    intro v1 v2 v3 v4 v5 v6 m hD hx
    have E : L8_layPairs_241 (n + 1) v1 v2 v3 v4 v5 v6 m = (if 128 ≤ v6 then (v6, m) else L8_layPairs_241 n v1 v2 v3 v4 v5 (v6 + 1) (ax_up m 85 (Int32.toNatClampNeg ((128 * v5) + v6)) ((L8_layPairs_270 130 v1 v2 v3 v4 v5 v6 (m 85 (Int32.toNatClampNeg ((128 * (v5 + 1)) + v6))) 0 m).1))) := by rw [L8_layPairs_241]
    have hD : ((¬ (128 ≤ v6) → ((vp_in ((128 * (v5 + 1)) + v6) 1024) ∧ (E8_layPairs_270 130 v1 v2 v3 v4 v5 v6 (m 85 (Int32.toNatClampNeg ((128 * (v5 + 1)) + v6))) 0 m) ∧ (vp_in ((128 * v5) + v6) 1024) ∧ (E8_layPairs_241 n v1 v2 v3 v4 v5 (v6 + 1) (ax_up m 85 (Int32.toNatClampNeg ((128 * v5) + v6)) ((L8_layPairs_270 130 v1 v2 v3 v4 v5 v6 (m 85 (Int32.toNatClampNeg ((128 * (v5 + 1)) + v6))) 0 m).1)))))) := hD
    refine s_iload eX8_layPairs_241 rfl ?_
    refine s_sipush (v := 128) eX8_layPairs_243 rfl ?_
    refine s_icmp_ge eX8_layPairs_246 (fun h1 => ?_) (fun h1 => ?_)
    · skip
      rw [if_pos h1] at E
      rw [E] at hx
      exact hx
    · skip
      rw [if_neg h1] at E
      have hD := hD h1
      refine s_aload_n eX8_layPairs_249 rfl rfl ?_
      refine s_getr (q := 85) eX8_layPairs_250 fX8_47 shp_74 rfl ?_
      refine s_sipush (v := 128) eX8_layPairs_253 rfl ?_
      refine s_iload eX8_layPairs_256 rfl ?_
      refine s_iconst (v := 1) eX8_layPairs_258 rfl ?_
      refine s_iadd eX8_layPairs_259 ?_
      refine s_imul eX8_layPairs_260 ?_
      refine s_iload eX8_layPairs_261 rfl ?_
      refine s_iadd eX8_layPairs_263 ?_
      obtain ⟨q2, hD⟩ := hD
      refine s_iald eX8_layPairs_264 shp_85 q2 ?_
      refine s_istore (ls' := [some (.ref 74), some (.int v1), some (.int v2), some (.int v3), some (.int v4), some (.int v5), some (.int v6), some (.int (m 85 (Int32.toNatClampNeg ((128 * (v5 + 1)) + v6)))), none, none]) eX8_layPairs_265 rfl rfl ?_
      refine s_iconst (v := 0) eX8_layPairs_267 rfl ?_
      refine s_istore (ls' := [some (.ref 74), some (.int v1), some (.int v2), some (.int v3), some (.int v4), some (.int v5), some (.int v6), some (.int (m 85 (Int32.toNatClampNeg ((128 * (v5 + 1)) + v6)))), some (.int 0), none]) eX8_layPairs_268 rfl rfl ?_
      obtain ⟨q3, hD⟩ := hD
      refine clX8_layPairs_270 130 v1 v2 v3 v4 v5 v6 (m 85 (Int32.toNatClampNeg ((128 * (v5 + 1)) + v6))) 0 m q3 ?_
      refine s_aload_n eX8_layPairs_314 rfl rfl ?_
      refine s_getr (q := 85) eX8_layPairs_315 fX8_47 shp_74 rfl ?_
      refine s_sipush (v := 128) eX8_layPairs_318 rfl ?_
      refine s_iload eX8_layPairs_321 rfl ?_
      refine s_imul eX8_layPairs_323 ?_
      refine s_iload eX8_layPairs_324 rfl ?_
      refine s_iadd eX8_layPairs_326 ?_
      refine s_iload eX8_layPairs_327 rfl ?_
      obtain ⟨q4, hD⟩ := hD
      refine s_iast eX8_layPairs_329 shp_85 q4 ?_
      refine s_iinc (v := v6 + 1) (ls' := [some (.ref 74), some (.int v1), some (.int v2), some (.int v3), some (.int v4), some (.int v5), some (.int (v6 + 1)), some (.int ((L8_layPairs_270 130 v1 v2 v3 v4 v5 v6 (m 85 (Int32.toNatClampNeg ((128 * (v5 + 1)) + v6))) 0 m).1)), some (.int ((L8_layPairs_270 130 v1 v2 v3 v4 v5 v6 (m 85 (Int32.toNatClampNeg ((128 * (v5 + 1)) + v6))) 0 m).2)), none]) eX8_layPairs_330 rfl rfl rfl rfl ?_
      refine s_goto eX8_layPairs_333 ?_
      refine ax_forget (ls' := [some (.ref 74), some (.int v1), some (.int v2), some (.int v3), some (.int v4), some (.int v5), some (.int (v6 + 1)), none, none, none]) rfl ?_
      rw [E] at hx
      exact ih v1 v2 v3 v4 v5 (v6 + 1) ((ax_up m 85 (Int32.toNatClampNeg ((128 * v5) + v6)) ((L8_layPairs_270 130 v1 v2 v3 v4 v5 v6 (m 85 (Int32.toNatClampNeg ((128 * (v5 + 1)) + v6))) 0 m).1))) hD hx
theorem clX8_layPairs_233 {P : Option Value → ax_M → Prop} : ∀ (n : Nat) (v1 v2 v3 v4 v5 : Int32) (m : ax_M), E8_layPairs_233 n v1 v2 v3 v4 v5 m → (ax_N 5 Y8_layPairs 342 [some (.ref 74), some (.int v1), some (.int v2), some (.int v3), some (.int v4), some (.int ((L8_layPairs_233 n v1 v2 v3 v4 v5 m).1)), none, none, none, none] [] ((L8_layPairs_233 n v1 v2 v3 v4 v5 m).2) P) → ax_N 5 Y8_layPairs 233 [some (.ref 74), some (.int v1), some (.int v2), some (.int v3), some (.int v4), some (.int v5), none, none, none, none] [] m P := by
  intro n
  induction n with
  | zero => intro v1 v2 v3 v4 v5 m hD; exact absurd hD id
  | succ n ih =>
    intro v1 v2 v3 v4 v5 m hD hx
    have E : L8_layPairs_233 (n + 1) v1 v2 v3 v4 v5 m = (if v5 < 0 then (v5, m) else L8_layPairs_233 n v1 v2 v3 v4 (v5 + (-1)) (L8_layPairs_241 130 v1 v2 v3 v4 v5 0 m).2) := by rw [L8_layPairs_233]
    have hD : ((¬ (v5 < 0) → ((E8_layPairs_241 130 v1 v2 v3 v4 v5 0 m) ∧ (E8_layPairs_233 n v1 v2 v3 v4 (v5 + (-1)) (L8_layPairs_241 130 v1 v2 v3 v4 v5 0 m).2)))) := hD
    refine s_iload eX8_layPairs_233 rfl ?_
    refine s_if_lt eX8_layPairs_235 (fun h1 => ?_) (fun h1 => ?_)
    · skip
      rw [if_pos h1] at E
      rw [E] at hx
      exact hx
    · skip
      rw [if_neg h1] at E
      have hD := hD h1
      refine s_iconst (v := 0) eX8_layPairs_238 rfl ?_
      refine s_istore (ls' := [some (.ref 74), some (.int v1), some (.int v2), some (.int v3), some (.int v4), some (.int v5), some (.int 0), none, none, none]) eX8_layPairs_239 rfl rfl ?_
      obtain ⟨q2, hD⟩ := hD
      refine clX8_layPairs_241 130 v1 v2 v3 v4 v5 0 m q2 ?_
      refine s_iinc (v := v5 + (-1)) (ls' := [some (.ref 74), some (.int v1), some (.int v2), some (.int v3), some (.int v4), some (.int (v5 + (-1))), some (.int ((L8_layPairs_241 130 v1 v2 v3 v4 v5 0 m).1)), none, none, none]) eX8_layPairs_336 rfl rfl rfl rfl ?_
      refine s_goto eX8_layPairs_339 ?_
      refine ax_forget (ls' := [some (.ref 74), some (.int v1), some (.int v2), some (.int v3), some (.int v4), some (.int (v5 + (-1))), none, none, none, none]) rfl ?_
      rw [E] at hx
      exact ih v1 v2 v3 v4 (v5 + (-1)) ((L8_layPairs_241 130 v1 v2 v3 v4 v5 0 m).2) hD hx
theorem cK8_layPairs_342 (v1 v2 v3 v4 v5 : Int32) (m : ax_M) {P : Option Value → ax_M → Prop} (hP : P (some (.int (K8_layPairs_342 v1 v2 v3 v4 v5 m).1)) (K8_layPairs_342 v1 v2 v3 v4 v5 m).2) : ax_N 5 Y8_layPairs 342 [some (.ref 74), some (.int v1), some (.int v2), some (.int v3), some (.int v4), some (.int v5), none, none, none, none] [] m P := by
  have E : K8_layPairs_342 v1 v2 v3 v4 v5 m = (m 85 (Int32.toNatClampNeg 0), m) := rfl
  refine s_aload_n eX8_layPairs_342 rfl rfl ?_
  refine s_getr (q := 85) eX8_layPairs_343 fX8_47 shp_74 rfl ?_
  refine s_iconst (v := 0) eX8_layPairs_346 rfl ?_
  refine s_iald eX8_layPairs_347 shp_85 (by unfold vp_in; decide) ?_
  rw [E] at hP
  exact s_iret eX8_layPairs_348 rfl ⟨rfl, hP⟩
theorem cK8_layPairs_191 (v1 v2 v3 v4 v5 : Int32) (m : ax_M) {P : Option Value → ax_M → Prop} (hD : HK8_layPairs_191 v1 v2 v3 v4 v5 m) (hP : P (some (.int (K8_layPairs_191 v1 v2 v3 v4 v5 m).1)) (K8_layPairs_191 v1 v2 v3 v4 v5 m).2) : ax_N 5 Y8_layPairs 191 [some (.ref 74), some (.int v1), some (.int v2), some (.int v3), some (.int v4), some (.int v5), none, none, none, none] [] m P := by
  have E : K8_layPairs_191 v1 v2 v3 v4 v5 m = (K8_layPairs_342 v1 v2 v3 v4 ((L8_layPairs_233 130 v1 v2 v3 v4 (((L8_layPairs_194 130 v1 v2 v3 v4 0 m).2 74 35) - 1) (L8_layPairs_194 130 v1 v2 v3 v4 0 m).2).1) (L8_layPairs_233 130 v1 v2 v3 v4 (((L8_layPairs_194 130 v1 v2 v3 v4 0 m).2 74 35) - 1) (L8_layPairs_194 130 v1 v2 v3 v4 0 m).2).2) := rfl
  unfold HK8_layPairs_191 at hD
  refine s_iconst (v := 0) eX8_layPairs_191 rfl ?_
  refine s_istore (ls' := [some (.ref 74), some (.int v1), some (.int v2), some (.int v3), some (.int v4), some (.int 0), none, none, none, none]) eX8_layPairs_192 rfl rfl ?_
  obtain ⟨q1, hD⟩ := hD
  refine clX8_layPairs_194 130 v1 v2 v3 v4 0 m q1 ?_
  refine s_aload_n eX8_layPairs_225 rfl rfl ?_
  refine s_geti eX8_layPairs_226 fX8_276 shp_74 rfl ?_
  refine s_iconst (v := 1) eX8_layPairs_229 rfl ?_
  refine s_isub eX8_layPairs_230 ?_
  refine s_istore (ls' := [some (.ref 74), some (.int v1), some (.int v2), some (.int v3), some (.int v4), some (.int (((L8_layPairs_194 130 v1 v2 v3 v4 0 m).2 74 35) - 1)), none, none, none, none]) eX8_layPairs_231 rfl rfl ?_
  have q2 := hD
  refine clX8_layPairs_233 130 v1 v2 v3 v4 (((L8_layPairs_194 130 v1 v2 v3 v4 0 m).2 74 35) - 1) ((L8_layPairs_194 130 v1 v2 v3 v4 0 m).2) q2 ?_
  refine cK8_layPairs_342 v1 v2 v3 v4 ((L8_layPairs_233 130 v1 v2 v3 v4 (((L8_layPairs_194 130 v1 v2 v3 v4 0 m).2 74 35) - 1) (L8_layPairs_194 130 v1 v2 v3 v4 0 m).2).1) ((L8_layPairs_233 130 v1 v2 v3 v4 (((L8_layPairs_194 130 v1 v2 v3 v4 0 m).2 74 35) - 1) (L8_layPairs_194 130 v1 v2 v3 v4 0 m).2).2) ?_
  rw [E] at hP
  exact hP
theorem cK8_layPairs_171 (v1 v2 v3 v4 v5 : Int32) (m : ax_M) {P : Option Value → ax_M → Prop} (hD : HK8_layPairs_171 v1 v2 v3 v4 v5 m) (hP : P (some (.int (K8_layPairs_171 v1 v2 v3 v4 v5 m).1)) (K8_layPairs_171 v1 v2 v3 v4 v5 m).2) : ax_N 5 Y8_layPairs 171 [some (.ref 74), some (.int v1), some (.int v2), some (.int v3), some (.int v4), some (.int v5), none, none, none, none] [] m P := by
  have E : K8_layPairs_171 v1 v2 v3 v4 v5 m = (K8_layPairs_191 v1 v2 v3 v4 v5 (ax_up m 74 36 ((m 74 36) ||| (if v3 = 1 then (64 : Int32) else 0)))) := rfl
  unfold HK8_layPairs_171 at hD
  refine s_aload_n eX8_layPairs_171 rfl rfl ?_
  refine s_dup eX8_layPairs_172 rfl ?_
  refine s_geti eX8_layPairs_173 fX8_279 shp_74 rfl ?_
  refine s_iload_n eX8_layPairs_176 rfl rfl ?_
  refine s_iconst (v := 1) eX8_layPairs_177 rfl ?_
  have J1 : ax_N 5 Y8_layPairs 187 [some (.ref 74), some (.int v1), some (.int v2), some (.int v3), some (.int v4), some (.int v5), none, none, none, none] [.int (if v3 = 1 then (64 : Int32) else 0), .int (m 74 36), .ref 74] m P := by
    refine s_ior eX8_layPairs_187 ?_
    refine s_puti eX8_layPairs_188 fX8_279 pX8_36 rfl rfl shp_74 rfl ?_
    refine cK8_layPairs_191 v1 v2 v3 v4 v5 ((ax_up m 74 36 ((m 74 36) ||| (if v3 = 1 then (64 : Int32) else 0)))) hD ?_
    rw [E] at hP
    exact hP
  refine s_icmp_ne eX8_layPairs_178 (fun h2 => ?_) (fun h2 => ?_)
  · skip
    refine s_iconst (v := 0) eX8_layPairs_186 rfl ?_
    exact ax_eqN rfl (by rw [show (if v3 = 1 then (64 : Int32) else 0 : Int32) = 0 by rw [if_neg h2]]) rfl J1
  · skip
    refine s_bipush (v := 64) eX8_layPairs_181 rfl ?_
    refine s_goto eX8_layPairs_183 ?_
    exact ax_eqN rfl (by rw [show (if v3 = 1 then (64 : Int32) else 0 : Int32) = 64 by rw [if_pos h2]]) rfl J1
theorem cK8_layPairs_146 (v1 v2 v3 v4 v5 : Int32) (m : ax_M) {P : Option Value → ax_M → Prop} (hD : HK8_layPairs_146 v1 v2 v3 v4 v5 m) (hP : P (some (.int (K8_layPairs_146 v1 v2 v3 v4 v5 m).1)) (K8_layPairs_146 v1 v2 v3 v4 v5 m).2) : ax_N 5 Y8_layPairs 146 [some (.ref 74), some (.int v1), some (.int v2), some (.int v3), some (.int v4), some (.int v5), none, none, none, none] [] m P := by
  have E : K8_layPairs_146 v1 v2 v3 v4 v5 m = (K8_layPairs_171 v1 v2 v3 v4 v5 (if v3 = 0 then (ax_up (ax_up m 84 (Int32.toNatClampNeg (m 74 35)) 6) 74 35 (((ax_up m 84 (Int32.toNatClampNeg (m 74 35)) 6) 74 35) + 1)) else m)) := rfl
  unfold HK8_layPairs_146 at hD
  refine s_iload_n eX8_layPairs_146 rfl rfl ?_
  obtain ⟨s1, hD⟩ := hD
  have J2 : ax_N 5 Y8_layPairs 171 [some (.ref 74), some (.int v1), some (.int v2), some (.int v3), some (.int v4), some (.int v5), none, none, none, none] [] ((if v3 = 0 then (ax_up (ax_up m 84 (Int32.toNatClampNeg (m 74 35)) 6) 74 35 (((ax_up m 84 (Int32.toNatClampNeg (m 74 35)) 6) 74 35) + 1)) else m)) P := by
    refine cK8_layPairs_171 v1 v2 v3 v4 v5 ((if v3 = 0 then (ax_up (ax_up m 84 (Int32.toNatClampNeg (m 74 35)) 6) 74 35 (((ax_up m 84 (Int32.toNatClampNeg (m 74 35)) 6) 74 35) + 1)) else m)) hD ?_
    rw [E] at hP
    exact hP
  have hD := s1
  refine s_if_ne eX8_layPairs_147 (fun h3 => ?_) (fun h3 => ?_)
  · skip
    exact ax_eqN rfl rfl (by rw [show ((if v3 = 0 then (ax_up (ax_up m 84 (Int32.toNatClampNeg (m 74 35)) 6) 74 35 (((ax_up m 84 (Int32.toNatClampNeg (m 74 35)) 6) 74 35) + 1)) else m) : ax_M) = m by rw [if_neg h3]]) J2
  · skip
    have hD := hD h3
    refine s_aload_n eX8_layPairs_150 rfl rfl ?_
    refine s_getr (q := 84) eX8_layPairs_151 fX8_44 shp_74 rfl ?_
    refine s_aload_n eX8_layPairs_154 rfl rfl ?_
    refine s_geti eX8_layPairs_155 fX8_276 shp_74 rfl ?_
    refine s_bipush (v := 6) eX8_layPairs_158 rfl ?_
    have q4 := hD
    refine s_iast eX8_layPairs_160 shp_84 q4 ?_
    refine s_aload_n eX8_layPairs_161 rfl rfl ?_
    refine s_dup eX8_layPairs_162 rfl ?_
    refine s_geti eX8_layPairs_163 fX8_276 shp_74 rfl ?_
    refine s_iconst (v := 1) eX8_layPairs_166 rfl ?_
    refine s_iadd eX8_layPairs_167 ?_
    refine s_puti eX8_layPairs_168 fX8_276 pX8_35 rfl rfl shp_74 rfl ?_
    exact ax_eqN rfl rfl (by rw [show ((if v3 = 0 then (ax_up (ax_up m 84 (Int32.toNatClampNeg (m 74 35)) 6) 74 35 (((ax_up m 84 (Int32.toNatClampNeg (m 74 35)) 6) 74 35) + 1)) else m) : ax_M) = (ax_up (ax_up m 84 (Int32.toNatClampNeg (m 74 35)) 6) 74 35 (((ax_up m 84 (Int32.toNatClampNeg (m 74 35)) 6) 74 35) + 1)) by rw [if_pos h3]]) J2
theorem uX8_layPairs (a1 : Int32) (a2 : Int32) (a3 : Int32) (a4 : Int32) (m : ax_M) (hD : D8_layPairs a1 a2 a3 a4 m) : ax_NM 5 Y8_layPairs [.ref 74, .int a1, .int a2, .int a3, .int a4] m (fun r m1 => r = some (.int (F8_layPairs a1 a2 a3 a4 m).1) ∧ m1 = (F8_layPairs a1 a2 a3 a4 m).2) := by
  have E : F8_layPairs a1 a2 a3 a4 m = (K8_layPairs_146 a1 a2 a3 a4 ((L8_layPairs_13 130 a1 a2 a3 a4 0 (ax_up (ax_up m 74 35 0) 74 36 0)).1) (L8_layPairs_13 130 a1 a2 a3 a4 0 (ax_up (ax_up m 74 35 0) 74 36 0)).2) := rfl
  unfold D8_layPairs at hD
  show ax_N 5 Y8_layPairs 0 [some (.ref 74), some (.int a1), some (.int a2), some (.int a3), some (.int a4), none, none, none, none, none] [] m _
  refine s_aload_n eX8_layPairs_0 rfl rfl ?_
  refine s_iconst (v := 0) eX8_layPairs_1 rfl ?_
  refine s_puti eX8_layPairs_2 fX8_276 pX8_35 rfl rfl shp_74 rfl ?_
  refine s_aload_n eX8_layPairs_5 rfl rfl ?_
  refine s_iconst (v := 0) eX8_layPairs_6 rfl ?_
  refine s_puti eX8_layPairs_7 fX8_279 pX8_36 rfl rfl shp_74 rfl ?_
  refine s_iconst (v := 0) eX8_layPairs_10 rfl ?_
  refine s_istore (ls' := [some (.ref 74), some (.int a1), some (.int a2), some (.int a3), some (.int a4), some (.int 0), none, none, none, none]) eX8_layPairs_11 rfl rfl ?_
  obtain ⟨q1, hD⟩ := hD
  refine clX8_layPairs_13 130 a1 a2 a3 a4 0 ((ax_up (ax_up m 74 35 0) 74 36 0)) q1 ?_
  refine cK8_layPairs_146 a1 a2 a3 a4 ((L8_layPairs_13 130 a1 a2 a3 a4 0 (ax_up (ax_up m 74 35 0) 74 36 0)).1) ((L8_layPairs_13 130 a1 a2 a3 a4 0 (ax_up (ax_up m 74 35 0) 74 36 0)).2) hD ?_
  exact ⟨by rw [E], by rw [E]⟩
theorem clX8_tracePairs_2 {P : Option Value → ax_M → Prop} : ∀ (n : Nat) (v1 v2 v3 : Int32) (m : ax_M), E8_tracePairs_2 n v1 v2 v3 m → (ax_N 5 Y8_tracePairs 22 [some (.ref 74), some (.int v1), some (.int v2), some (.int ((L8_tracePairs_2 n v1 v2 v3 m).1)), none, none] [] ((L8_tracePairs_2 n v1 v2 v3 m).2) P) → ax_N 5 Y8_tracePairs 2 [some (.ref 74), some (.int v1), some (.int v2), some (.int v3), none, none] [] m P := by
  intro n
  induction n with
  | zero => intro v1 v2 v3 m hD; exact absurd hD id
  | succ n ih =>
    intro v1 v2 v3 m hD hx
    have E : L8_tracePairs_2 (n + 1) v1 v2 v3 m = (if 7 ≤ v3 then (v3, m) else L8_tracePairs_2 n v1 v2 (v3 + 1) (ax_up m 86 (Int32.toNatClampNeg v3) ((-4)))) := by rw [L8_tracePairs_2]
    have hD : ((¬ (7 ≤ v3) → ((vp_in v3 7) ∧ (E8_tracePairs_2 n v1 v2 (v3 + 1) (ax_up m 86 (Int32.toNatClampNeg v3) ((-4))))))) := hD
    refine s_iload_n eX8_tracePairs_2 rfl rfl ?_
    refine s_bipush (v := 7) eX8_tracePairs_3 rfl ?_
    refine s_icmp_ge eX8_tracePairs_5 (fun h1 => ?_) (fun h1 => ?_)
    · skip
      rw [if_pos h1] at E
      rw [E] at hx
      exact hx
    · skip
      rw [if_neg h1] at E
      have hD := hD h1
      refine s_aload_n eX8_tracePairs_8 rfl rfl ?_
      refine s_getr (q := 86) eX8_tracePairs_9 fX8_50 shp_74 rfl ?_
      refine s_iload_n eX8_tracePairs_12 rfl rfl ?_
      refine s_bipush (v := (-4)) eX8_tracePairs_13 rfl ?_
      obtain ⟨q2, hD⟩ := hD
      refine s_iast eX8_tracePairs_15 shp_86 q2 ?_
      refine s_iinc (v := v3 + 1) (ls' := [some (.ref 74), some (.int v1), some (.int v2), some (.int (v3 + 1)), none, none]) eX8_tracePairs_16 rfl rfl rfl rfl ?_
      refine s_goto eX8_tracePairs_19 ?_
      rw [E] at hx
      exact ih v1 v2 (v3 + 1) ((ax_up m 86 (Int32.toNatClampNeg v3) ((-4)))) hD hx
theorem clX8_tracePairs_39 {P : Option Value → ax_M → Prop} : ∀ (n : Nat) (v1 v2 v3 v4 v5 : Int32) (m : ax_M), E8_tracePairs_39 n v1 v2 v3 v4 v5 m → (ax_N 5 Y8_tracePairs 79 [some (.ref 74), some (.int v1), some (.int v2), some (.int v3), some (.int v4), some (.int ((L8_tracePairs_39 n v1 v2 v3 v4 v5 m)))] [] m P) → ax_N 5 Y8_tracePairs 39 [some (.ref 74), some (.int v1), some (.int v2), some (.int v3), some (.int v4), some (.int v5)] [] m P := by
  intro n
  induction n with
  | zero => intro v1 v2 v3 v4 v5 m hD; exact absurd hD id
  | succ n ih =>
    intro v1 v2 v3 v4 v5 m hD hx
    have E : L8_tracePairs_39 (n + 1) v1 v2 v3 v4 v5 m = (if 7 ≤ v5 then v5 else (if (F8_afterPair v1 v4 v5 v3 v2 m) = (m 85 (Int32.toNatClampNeg ((128 * v4) + v3))) then v5 else L8_tracePairs_39 n v1 v2 v3 v4 (v5 + 1) m)) := by rw [L8_tracePairs_39]
    have hD : ((¬ (7 ≤ v5) → ((D8_afterPair v1 v4 v5 v3 v2 m) ∧ (vp_in ((128 * v4) + v3) 1024) ∧ (¬ ((F8_afterPair v1 v4 v5 v3 v2 m) = (m 85 (Int32.toNatClampNeg ((128 * v4) + v3)))) → ((E8_tracePairs_39 n v1 v2 v3 v4 (v5 + 1) m)))))) := hD
    refine s_iload eX8_tracePairs_39 rfl ?_
    refine s_bipush (v := 7) eX8_tracePairs_41 rfl ?_
    refine s_icmp_ge eX8_tracePairs_43 (fun h1 => ?_) (fun h1 => ?_)
    · skip
      rw [if_pos h1] at E
      rw [E] at hx
      exact hx
    · skip
      rw [if_neg h1] at E
      have hD := hD h1
      refine s_aload_n eX8_tracePairs_46 rfl rfl ?_
      refine s_iload_n eX8_tracePairs_47 rfl rfl ?_
      refine s_iload eX8_tracePairs_48 rfl ?_
      refine s_iload eX8_tracePairs_50 rfl ?_
      refine s_iload_n eX8_tracePairs_52 rfl rfl ?_
      refine s_iload_n eX8_tracePairs_53 rfl rfl ?_
      obtain ⟨q2, hD⟩ := hD
      refine n_callVi (As := [.int v1, .int v4, .int v5, .int v3, .int v2]) eX8_tracePairs_54 kX8_afterPair lX8_285 rfl rfl shp_74 rfl rfl (Nat.le_of_ble_eq_true rfl) (Nat.le_of_ble_eq_true rfl) (Nat.le_of_ble_eq_true rfl) (uX8_afterPair v1 v4 v5 v3 v2 m q2) ?_
      refine s_aload_n eX8_tracePairs_57 rfl rfl ?_
      refine s_getr (q := 85) eX8_tracePairs_58 fX8_47 shp_74 rfl ?_
      refine s_sipush (v := 128) eX8_tracePairs_61 rfl ?_
      refine s_iload eX8_tracePairs_64 rfl ?_
      refine s_imul eX8_tracePairs_66 ?_
      refine s_iload_n eX8_tracePairs_67 rfl rfl ?_
      refine s_iadd eX8_tracePairs_68 ?_
      obtain ⟨q3, hD⟩ := hD
      refine s_iald eX8_tracePairs_69 shp_85 q3 ?_
      refine s_icmp_eq eX8_tracePairs_70 (fun h4 => ?_) (fun h4 => ?_)
      · skip
        rw [if_pos h4] at E
        rw [E] at hx
        exact hx
      · skip
        rw [if_neg h4] at E
        have hD := hD h4
        refine s_iinc (v := v5 + 1) (ls' := [some (.ref 74), some (.int v1), some (.int v2), some (.int v3), some (.int v4), some (.int (v5 + 1))]) eX8_tracePairs_73 rfl rfl rfl rfl ?_
        refine s_goto eX8_tracePairs_76 ?_
        rw [E] at hx
        exact ih v1 v2 v3 v4 (v5 + 1) m hD hx
theorem clX8_tracePairs_27 {P : Option Value → ax_M → Prop} : ∀ (n : Nat) (v1 v2 v3 v4 : Int32) (m : ax_M), E8_tracePairs_27 n v1 v2 v3 v4 m → (ax_N 5 Y8_tracePairs 127 [some (.ref 74), some (.int v1), some (.int v2), some (.int ((L8_tracePairs_27 n v1 v2 v3 v4 m).1)), some (.int ((L8_tracePairs_27 n v1 v2 v3 v4 m).2.1)), none] [] ((L8_tracePairs_27 n v1 v2 v3 v4 m).2.2) P) → ax_N 5 Y8_tracePairs 27 [some (.ref 74), some (.int v1), some (.int v2), some (.int v3), some (.int v4), none] [] m P := by
  intro n
  induction n with
  | zero => intro v1 v2 v3 v4 m hD; exact absurd hD id
  | succ n ih =>
    intro v1 v2 v3 v4 m hD hx
    have E : L8_tracePairs_27 (n + 1) v1 v2 v3 v4 m = (if (m 74 35) ≤ v4 then (v3, v4, m) else L8_tracePairs_27 n v1 v2 (if 7 ≤ ((L8_tracePairs_39 64 v1 v2 v3 v4 0 m)) then (v3 : Int32) else v3 ||| ((1 : Int32) <<< (((L8_tracePairs_39 64 v1 v2 v3 v4 0 m)) &&& (31 : Int32)))) (v4 + 1) (if 7 ≤ ((L8_tracePairs_39 64 v1 v2 v3 v4 0 m)) then m else (ax_up (ax_up m 86 (Int32.toNatClampNeg (m 84 (Int32.toNatClampNeg v4))) ((L8_tracePairs_39 64 v1 v2 v3 v4 0 m))) 86 (Int32.toNatClampNeg ((L8_tracePairs_39 64 v1 v2 v3 v4 0 m))) ((ax_up m 86 (Int32.toNatClampNeg (m 84 (Int32.toNatClampNeg v4))) ((L8_tracePairs_39 64 v1 v2 v3 v4 0 m))) 84 (Int32.toNatClampNeg v4))))) := by rw [L8_tracePairs_27]
    have hD : ((¬ ((m 74 35) ≤ v4) → ((E8_tracePairs_39 64 v1 v2 v3 v4 0 m) ∧ (¬ (7 ≤ ((L8_tracePairs_39 64 v1 v2 v3 v4 0 m))) → ((vp_in v4 7) ∧ (vp_in (m 84 (Int32.toNatClampNeg v4)) 7) ∧ (vp_in v4 7) ∧ (vp_in ((L8_tracePairs_39 64 v1 v2 v3 v4 0 m)) 7))) ∧ (E8_tracePairs_27 n v1 v2 (if 7 ≤ ((L8_tracePairs_39 64 v1 v2 v3 v4 0 m)) then (v3 : Int32) else v3 ||| ((1 : Int32) <<< (((L8_tracePairs_39 64 v1 v2 v3 v4 0 m)) &&& (31 : Int32)))) (v4 + 1) (if 7 ≤ ((L8_tracePairs_39 64 v1 v2 v3 v4 0 m)) then m else (ax_up (ax_up m 86 (Int32.toNatClampNeg (m 84 (Int32.toNatClampNeg v4))) ((L8_tracePairs_39 64 v1 v2 v3 v4 0 m))) 86 (Int32.toNatClampNeg ((L8_tracePairs_39 64 v1 v2 v3 v4 0 m))) ((ax_up m 86 (Int32.toNatClampNeg (m 84 (Int32.toNatClampNeg v4))) ((L8_tracePairs_39 64 v1 v2 v3 v4 0 m))) 84 (Int32.toNatClampNeg v4)))))))) := hD
    refine s_iload eX8_tracePairs_27 rfl ?_
    refine s_aload_n eX8_tracePairs_29 rfl rfl ?_
    refine s_geti eX8_tracePairs_30 fX8_276 shp_74 rfl ?_
    refine s_icmp_ge eX8_tracePairs_33 (fun h1 => ?_) (fun h1 => ?_)
    · skip
      rw [if_pos h1] at E
      rw [E] at hx
      exact hx
    · skip
      rw [if_neg h1] at E
      have hD := hD h1
      refine s_iconst (v := 0) eX8_tracePairs_36 rfl ?_
      refine s_istore (ls' := [some (.ref 74), some (.int v1), some (.int v2), some (.int v3), some (.int v4), some (.int 0)]) eX8_tracePairs_37 rfl rfl ?_
      obtain ⟨q2, hD⟩ := hD
      refine clX8_tracePairs_39 64 v1 v2 v3 v4 0 m q2 ?_
      refine s_iload eX8_tracePairs_79 rfl ?_
      refine s_bipush (v := 7) eX8_tracePairs_81 rfl ?_
      obtain ⟨s3, hD⟩ := hD
      have J4 : ax_N 5 Y8_tracePairs 121 [some (.ref 74), some (.int v1), some (.int v2), some (.int (if 7 ≤ ((L8_tracePairs_39 64 v1 v2 v3 v4 0 m)) then (v3 : Int32) else v3 ||| ((1 : Int32) <<< (((L8_tracePairs_39 64 v1 v2 v3 v4 0 m)) &&& (31 : Int32))))), some (.int v4), some (.int ((L8_tracePairs_39 64 v1 v2 v3 v4 0 m)))] [] ((if 7 ≤ ((L8_tracePairs_39 64 v1 v2 v3 v4 0 m)) then m else (ax_up (ax_up m 86 (Int32.toNatClampNeg (m 84 (Int32.toNatClampNeg v4))) ((L8_tracePairs_39 64 v1 v2 v3 v4 0 m))) 86 (Int32.toNatClampNeg ((L8_tracePairs_39 64 v1 v2 v3 v4 0 m))) ((ax_up m 86 (Int32.toNatClampNeg (m 84 (Int32.toNatClampNeg v4))) ((L8_tracePairs_39 64 v1 v2 v3 v4 0 m))) 84 (Int32.toNatClampNeg v4))))) P := by
        refine s_iinc (v := v4 + 1) (ls' := [some (.ref 74), some (.int v1), some (.int v2), some (.int (if 7 ≤ ((L8_tracePairs_39 64 v1 v2 v3 v4 0 m)) then (v3 : Int32) else v3 ||| ((1 : Int32) <<< (((L8_tracePairs_39 64 v1 v2 v3 v4 0 m)) &&& (31 : Int32))))), some (.int (v4 + 1)), some (.int ((L8_tracePairs_39 64 v1 v2 v3 v4 0 m)))]) eX8_tracePairs_121 rfl rfl rfl rfl ?_
        refine s_goto eX8_tracePairs_124 ?_
        refine ax_forget (ls' := [some (.ref 74), some (.int v1), some (.int v2), some (.int (if 7 ≤ ((L8_tracePairs_39 64 v1 v2 v3 v4 0 m)) then (v3 : Int32) else v3 ||| ((1 : Int32) <<< (((L8_tracePairs_39 64 v1 v2 v3 v4 0 m)) &&& (31 : Int32))))), some (.int (v4 + 1)), none]) rfl ?_
        rw [E] at hx
        exact ih v1 v2 (if 7 ≤ ((L8_tracePairs_39 64 v1 v2 v3 v4 0 m)) then (v3 : Int32) else v3 ||| ((1 : Int32) <<< (((L8_tracePairs_39 64 v1 v2 v3 v4 0 m)) &&& (31 : Int32)))) (v4 + 1) ((if 7 ≤ ((L8_tracePairs_39 64 v1 v2 v3 v4 0 m)) then m else (ax_up (ax_up m 86 (Int32.toNatClampNeg (m 84 (Int32.toNatClampNeg v4))) ((L8_tracePairs_39 64 v1 v2 v3 v4 0 m))) 86 (Int32.toNatClampNeg ((L8_tracePairs_39 64 v1 v2 v3 v4 0 m))) ((ax_up m 86 (Int32.toNatClampNeg (m 84 (Int32.toNatClampNeg v4))) ((L8_tracePairs_39 64 v1 v2 v3 v4 0 m))) 84 (Int32.toNatClampNeg v4))))) hD hx
      have hD := s3
      refine s_icmp_ge eX8_tracePairs_83 (fun h5 => ?_) (fun h5 => ?_)
      · skip
        exact ax_eqN (by rw [show (if 7 ≤ ((L8_tracePairs_39 64 v1 v2 v3 v4 0 m)) then (v3 : Int32) else v3 ||| ((1 : Int32) <<< (((L8_tracePairs_39 64 v1 v2 v3 v4 0 m)) &&& (31 : Int32))) : Int32) = v3 by rw [if_pos h5]]) rfl (by rw [show ((if 7 ≤ ((L8_tracePairs_39 64 v1 v2 v3 v4 0 m)) then m else (ax_up (ax_up m 86 (Int32.toNatClampNeg (m 84 (Int32.toNatClampNeg v4))) ((L8_tracePairs_39 64 v1 v2 v3 v4 0 m))) 86 (Int32.toNatClampNeg ((L8_tracePairs_39 64 v1 v2 v3 v4 0 m))) ((ax_up m 86 (Int32.toNatClampNeg (m 84 (Int32.toNatClampNeg v4))) ((L8_tracePairs_39 64 v1 v2 v3 v4 0 m))) 84 (Int32.toNatClampNeg v4)))) : ax_M) = m by rw [if_pos h5]]) J4
      · skip
        have hD := hD h5
        refine s_aload_n eX8_tracePairs_86 rfl rfl ?_
        refine s_getr (q := 86) eX8_tracePairs_87 fX8_50 shp_74 rfl ?_
        refine s_aload_n eX8_tracePairs_90 rfl rfl ?_
        refine s_getr (q := 84) eX8_tracePairs_91 fX8_44 shp_74 rfl ?_
        refine s_iload eX8_tracePairs_94 rfl ?_
        obtain ⟨q6, hD⟩ := hD
        refine s_iald eX8_tracePairs_96 shp_84 q6 ?_
        refine s_iload eX8_tracePairs_97 rfl ?_
        obtain ⟨q7, hD⟩ := hD
        refine s_iast eX8_tracePairs_99 shp_86 q7 ?_
        refine s_aload_n eX8_tracePairs_100 rfl rfl ?_
        refine s_getr (q := 86) eX8_tracePairs_101 fX8_50 shp_74 rfl ?_
        refine s_iload eX8_tracePairs_104 rfl ?_
        refine s_aload_n eX8_tracePairs_106 rfl rfl ?_
        refine s_getr (q := 84) eX8_tracePairs_107 fX8_44 shp_74 rfl ?_
        refine s_iload eX8_tracePairs_110 rfl ?_
        obtain ⟨q8, hD⟩ := hD
        refine s_iald eX8_tracePairs_112 shp_84 q8 ?_
        have q9 := hD
        refine s_iast eX8_tracePairs_113 shp_86 q9 ?_
        refine s_iload_n eX8_tracePairs_114 rfl rfl ?_
        refine s_iconst (v := 1) eX8_tracePairs_115 rfl ?_
        refine s_iload eX8_tracePairs_116 rfl ?_
        refine s_ishl eX8_tracePairs_118 ?_
        refine s_ior eX8_tracePairs_119 ?_
        refine s_istore_n (ls' := [some (.ref 74), some (.int v1), some (.int v2), some (.int (v3 ||| ((1 : Int32) <<< (((L8_tracePairs_39 64 v1 v2 v3 v4 0 m)) &&& (31 : Int32))))), some (.int v4), some (.int ((L8_tracePairs_39 64 v1 v2 v3 v4 0 m)))]) eX8_tracePairs_120 rfl rfl rfl ?_
        exact ax_eqN (by rw [show (if 7 ≤ ((L8_tracePairs_39 64 v1 v2 v3 v4 0 m)) then (v3 : Int32) else v3 ||| ((1 : Int32) <<< (((L8_tracePairs_39 64 v1 v2 v3 v4 0 m)) &&& (31 : Int32))) : Int32) = v3 ||| ((1 : Int32) <<< (((L8_tracePairs_39 64 v1 v2 v3 v4 0 m)) &&& (31 : Int32))) by rw [if_neg h5]]) rfl (by rw [show ((if 7 ≤ ((L8_tracePairs_39 64 v1 v2 v3 v4 0 m)) then m else (ax_up (ax_up m 86 (Int32.toNatClampNeg (m 84 (Int32.toNatClampNeg v4))) ((L8_tracePairs_39 64 v1 v2 v3 v4 0 m))) 86 (Int32.toNatClampNeg ((L8_tracePairs_39 64 v1 v2 v3 v4 0 m))) ((ax_up m 86 (Int32.toNatClampNeg (m 84 (Int32.toNatClampNeg v4))) ((L8_tracePairs_39 64 v1 v2 v3 v4 0 m))) 84 (Int32.toNatClampNeg v4)))) : ax_M) = (ax_up (ax_up m 86 (Int32.toNatClampNeg (m 84 (Int32.toNatClampNeg v4))) ((L8_tracePairs_39 64 v1 v2 v3 v4 0 m))) 86 (Int32.toNatClampNeg ((L8_tracePairs_39 64 v1 v2 v3 v4 0 m))) ((ax_up m 86 (Int32.toNatClampNeg (m 84 (Int32.toNatClampNeg v4))) ((L8_tracePairs_39 64 v1 v2 v3 v4 0 m))) 84 (Int32.toNatClampNeg v4))) by rw [if_neg h5]]) J4
theorem uX8_tracePairs (a1 : Int32) (a2 : Int32) (m : ax_M) (hD : D8_tracePairs a1 a2 m) : ax_NM 5 Y8_tracePairs [.ref 74, .int a1, .int a2] m (fun r m1 => r = none ∧ m1 = F8_tracePairs a1 a2 m) := by
  have E : F8_tracePairs a1 a2 m = (L8_tracePairs_27 64 a1 a2 0 0 (L8_tracePairs_2 64 a1 a2 0 m).2).2.2 := rfl
  unfold D8_tracePairs at hD
  show ax_N 5 Y8_tracePairs 0 [some (.ref 74), some (.int a1), some (.int a2), none, none, none] [] m _
  refine s_iconst (v := 0) eX8_tracePairs_0 rfl ?_
  refine s_istore_n (ls' := [some (.ref 74), some (.int a1), some (.int a2), some (.int 0), none, none]) eX8_tracePairs_1 rfl rfl rfl ?_
  obtain ⟨q1, hD⟩ := hD
  refine clX8_tracePairs_2 64 a1 a2 0 m q1 ?_
  refine s_iconst (v := 0) eX8_tracePairs_22 rfl ?_
  refine s_istore_n (ls' := [some (.ref 74), some (.int a1), some (.int a2), some (.int 0), none, none]) eX8_tracePairs_23 rfl rfl rfl ?_
  refine s_iconst (v := 0) eX8_tracePairs_24 rfl ?_
  refine s_istore (ls' := [some (.ref 74), some (.int a1), some (.int a2), some (.int 0), some (.int 0), none]) eX8_tracePairs_25 rfl rfl ?_
  have q2 := hD
  refine clX8_tracePairs_27 64 a1 a2 0 0 ((L8_tracePairs_2 64 a1 a2 0 m).2) q2 ?_
  exact s_vret eX8_tracePairs_127 rfl ⟨rfl, rfl, by rw [E]⟩
theorem uX8_pairsOf (a0 : Int32) (m : ax_M) : ax_NM 0 Y8_pairsOf [.int a0] m (fun r m1 => r = some (.int (F8_pairsOf a0 m)) ∧ m1 = m) := by
  have E : F8_pairsOf a0 m = (((a0 + 1000) - 1) / 1000) := rfl
  show ax_N 0 Y8_pairsOf 0 [some (.int a0)] [] m _
  refine s_iload_n eX8_pairsOf_0 rfl rfl ?_
  refine s_sipush (v := 1000) eX8_pairsOf_1 rfl ?_
  refine s_iadd eX8_pairsOf_4 ?_
  refine s_iconst (v := 1) eX8_pairsOf_5 rfl ?_
  refine s_isub eX8_pairsOf_6 ?_
  refine s_sipush (v := 1000) eX8_pairsOf_7 rfl ?_
  refine s_idiv eX8_pairsOf_10 (by decide) ?_
  exact s_iret eX8_pairsOf_11 rfl ⟨rfl, by rw [E], rfl⟩
theorem uX8_errands (a1 : Int32) (a2 : Int32) (m : ax_M) (hD : D8_errands a1 a2 m) : ax_NM 6 Y8_errands [.ref 74, .int a1, .int a2] m (fun r m1 => r = some (.int (F8_errands a1 a2 m).1) ∧ m1 = (F8_errands a1 a2 m).2) := by
  have E : F8_errands a1 a2 m = (if (F8_isBridge a1 m) = 0 then ((-1), m) else (if a2 = 0 then (if a2 = 0 then (F8_pairsOf ((F8_layPairs a1 0 ((-4)) 0 m).1) (F8_tracePairs a1 0 (F8_layPairs a1 0 ((-4)) 0 m).2), (F8_tracePairs a1 0 (F8_layPairs a1 0 ((-4)) 0 m).2)) else ((F8_tracePairs a1 0 (F8_layPairs a1 0 ((-4)) 0 m).2) 86 (Int32.toNatClampNeg (a2 - 10)), (F8_tracePairs a1 0 (F8_layPairs a1 0 ((-4)) 0 m).2))) else (if (F8_in (Int32.toInt64 a2) 10 (Int32.toInt64 (9 + (m 74 3))) m) = 0 then ((-1), m) else (if a2 = 0 then (F8_pairsOf ((F8_layPairs a1 0 ((-4)) 0 m).1) (F8_tracePairs a1 0 (F8_layPairs a1 0 ((-4)) 0 m).2), (F8_tracePairs a1 0 (F8_layPairs a1 0 ((-4)) 0 m).2)) else ((F8_tracePairs a1 0 (F8_layPairs a1 0 ((-4)) 0 m).2) 86 (Int32.toNatClampNeg (a2 - 10)), (F8_tracePairs a1 0 (F8_layPairs a1 0 ((-4)) 0 m).2)))))) := rfl
  unfold D8_errands at hD
  show ax_N 6 Y8_errands 0 [some (.ref 74), some (.int a1), some (.int a2), none] [] m _
  refine s_aload_n eX8_errands_0 rfl rfl ?_
  refine s_iload_n eX8_errands_1 rfl rfl ?_
  refine n_callVi (As := [.int a1]) eX8_errands_2 kX8_isBridge lX8_208 rfl rfl shp_74 rfl rfl (Nat.le_of_ble_eq_true rfl) (Nat.le_of_ble_eq_true rfl) (Nat.le_of_ble_eq_true rfl) (uX8_isBridge a1 m) ?_
  refine s_if_eq eX8_errands_5 (fun h1 => ?_) (fun h1 => ?_)
  · skip
    rw [if_pos h1] at E
    refine s_iconst (v := (-1)) eX8_errands_31 rfl ?_
    exact s_iret eX8_errands_32 rfl ⟨rfl, by rw [E], by rw [E]⟩
  · skip
    rw [if_neg h1] at E
    have hD := hD h1
    refine s_iload_n eX8_errands_8 rfl rfl ?_
    refine s_if_eq eX8_errands_9 (fun h2 => ?_) (fun h2 => ?_)
    · skip
      rw [if_pos h2] at E
      have hD := hD.1 h2
      refine s_aload_n eX8_errands_33 rfl rfl ?_
      refine s_iload_n eX8_errands_34 rfl rfl ?_
      refine s_iconst (v := 0) eX8_errands_35 rfl ?_
      refine s_bipush (v := (-4)) eX8_errands_36 rfl ?_
      refine s_iconst (v := 0) eX8_errands_38 rfl ?_
      obtain ⟨q3, hD⟩ := hD
      refine n_callVi (As := [.int a1, .int 0, .int ((-4)), .int 0]) eX8_errands_39 kX8_layPairs lX8_295 rfl rfl shp_74 rfl rfl (Nat.le_of_ble_eq_true rfl) (Nat.le_of_ble_eq_true rfl) (Nat.le_of_ble_eq_true rfl) (uX8_layPairs a1 0 ((-4)) 0 m q3) ?_
      refine s_istore_n (ls' := [some (.ref 74), some (.int a1), some (.int a2), some (.int ((F8_layPairs a1 0 ((-4)) 0 m).1))]) eX8_errands_42 rfl rfl rfl ?_
      refine s_aload_n eX8_errands_43 rfl rfl ?_
      refine s_iload_n eX8_errands_44 rfl rfl ?_
      refine s_iconst (v := 0) eX8_errands_45 rfl ?_
      obtain ⟨q4, hD⟩ := hD
      refine n_callVv (As := [.int a1, .int 0]) eX8_errands_46 kX8_tracePairs lX8_298 rfl rfl shp_74 rfl rfl (Nat.le_of_ble_eq_true rfl) (Nat.le_of_ble_eq_true rfl) (Nat.le_of_ble_eq_true rfl) (uX8_tracePairs a1 0 ((F8_layPairs a1 0 ((-4)) 0 m).2) q4) ?_
      refine s_iload_n eX8_errands_49 rfl rfl ?_
      refine s_if_ne eX8_errands_50 (fun h5 => ?_) (fun h5 => ?_)
      · skip
        exact absurd h2 h5
      · skip
        rw [if_pos h5] at E
        refine s_iload_n eX8_errands_53 rfl rfl ?_
        refine n_callSi (As := [.int ((F8_layPairs a1 0 ((-4)) 0 m).1)]) eX8_errands_54 kX8_pairsOf lX8_302 rfl rfl (Nat.le_of_ble_eq_true rfl) (Nat.le_of_ble_eq_true rfl) (Nat.le_of_ble_eq_true rfl) (uX8_pairsOf ((F8_layPairs a1 0 ((-4)) 0 m).1) ((F8_tracePairs a1 0 (F8_layPairs a1 0 ((-4)) 0 m).2))) ?_
        refine s_goto eX8_errands_57 ?_
        exact s_iret eX8_errands_69 rfl ⟨rfl, by rw [E], by rw [E]⟩
    · skip
      rw [if_neg h2] at E
      have hD := hD.2 h2
      refine s_iload_n eX8_errands_12 rfl rfl ?_
      refine s_i2l eX8_errands_13 ?_
      refine s_ldc2 eX8_errands_14 qX8_293 ?_
      refine s_bipush (v := 9) eX8_errands_17 rfl ?_
      refine s_aload_n eX8_errands_19 rfl rfl ?_
      refine s_geti eX8_errands_20 fX8_202 shp_74 rfl ?_
      refine s_iadd eX8_errands_23 ?_
      refine s_i2l eX8_errands_24 ?_
      refine n_callSi (As := [.long (Int32.toInt64 a2), .long 10, .long (Int32.toInt64 (9 + (m 74 3)))]) eX8_errands_25 kX8_in lX8_87 rfl rfl (Nat.le_of_ble_eq_true rfl) (Nat.le_of_ble_eq_true rfl) (Nat.le_of_ble_eq_true rfl) (uX8_in (Int32.toInt64 a2) 10 (Int32.toInt64 (9 + (m 74 3))) m) ?_
      refine s_if_ne eX8_errands_28 (fun h6 => ?_) (fun h6 => ?_)
      · skip
        rw [if_neg h6] at E
        have hD := hD h6
        refine s_aload_n eX8_errands_33 rfl rfl ?_
        refine s_iload_n eX8_errands_34 rfl rfl ?_
        refine s_iconst (v := 0) eX8_errands_35 rfl ?_
        refine s_bipush (v := (-4)) eX8_errands_36 rfl ?_
        refine s_iconst (v := 0) eX8_errands_38 rfl ?_
        obtain ⟨q7, hD⟩ := hD
        refine n_callVi (As := [.int a1, .int 0, .int ((-4)), .int 0]) eX8_errands_39 kX8_layPairs lX8_295 rfl rfl shp_74 rfl rfl (Nat.le_of_ble_eq_true rfl) (Nat.le_of_ble_eq_true rfl) (Nat.le_of_ble_eq_true rfl) (uX8_layPairs a1 0 ((-4)) 0 m q7) ?_
        refine s_istore_n (ls' := [some (.ref 74), some (.int a1), some (.int a2), some (.int ((F8_layPairs a1 0 ((-4)) 0 m).1))]) eX8_errands_42 rfl rfl rfl ?_
        refine s_aload_n eX8_errands_43 rfl rfl ?_
        refine s_iload_n eX8_errands_44 rfl rfl ?_
        refine s_iconst (v := 0) eX8_errands_45 rfl ?_
        obtain ⟨q8, hD⟩ := hD
        refine n_callVv (As := [.int a1, .int 0]) eX8_errands_46 kX8_tracePairs lX8_298 rfl rfl shp_74 rfl rfl (Nat.le_of_ble_eq_true rfl) (Nat.le_of_ble_eq_true rfl) (Nat.le_of_ble_eq_true rfl) (uX8_tracePairs a1 0 ((F8_layPairs a1 0 ((-4)) 0 m).2) q8) ?_
        refine s_iload_n eX8_errands_49 rfl rfl ?_
        refine s_if_ne eX8_errands_50 (fun h9 => ?_) (fun h9 => ?_)
        · skip
          rw [if_neg h9] at E
          have hD := hD h9
          refine s_aload_n eX8_errands_60 rfl rfl ?_
          refine s_getr (q := 86) eX8_errands_61 fX8_50 shp_74 rfl ?_
          refine s_iload_n eX8_errands_64 rfl rfl ?_
          refine s_bipush (v := 10) eX8_errands_65 rfl ?_
          refine s_isub eX8_errands_67 ?_
          have q10 := hD
          refine s_iald eX8_errands_68 shp_86 q10 ?_
          exact s_iret eX8_errands_69 rfl ⟨rfl, by rw [E], by rw [E]⟩
        · skip
          exact absurd h9 h2
      · skip
        rw [if_pos h6] at E
        refine s_iconst (v := (-1)) eX8_errands_31 rfl ?_
        exact s_iret eX8_errands_32 rfl ⟨rfl, by rw [E], by rw [E]⟩
