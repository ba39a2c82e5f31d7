/-! the law: its operations -/
section AXO
variable {nm : String} {L : Nat} {xs : Nat → Int32} {pc pc1 : Nat} {ls : ax_L} {st As stk : List Value} {m m' : ax_M} {y' : ax_Y} {idx n ci i d' : Nat} {rs : List (Option (Option Nat))} {q : vw_C} {v : Value}
theorem x_callVi (hd : ax_dc (YL nm) pc (.invokevirtual idx) 3 pc1) (hc : ax_code y') (hm : ax_mv (YL nm).1.cls idx y' n) (hq : ax_cl[ci]? = some q) (hqc : q.1 = y'.1.cls) (ho : SH[i]? = some (0, ci, rs)) (hn : As.length = n) (hstk : stk = As.reverse ++ .ref i :: st) (hw : (st.map fun v => v.category).sum ≤ 8) (hdd : d' + 1 ≤ 60) (hfit : (ax_a1 (.ref i :: As)).length ≤ y'.2.2.1) (hr : ax_NM d' y' (.ref i :: As) m (fun r m1 => r = some v ∧ m1 = m')) (kk : ax_RX nm L xs pc1 ls (v :: st) SH m') : ax_RX nm L xs pc ls stk SH m := by
  refine x_callV (B' := BB) hd hc hm hq hqc ho hn hstk hw hdd hfit ⟨Nat.le_of_eq SH_len, Nat.le_of_eq SH_sl, by decide, by decide⟩ hr.rm (fun r sh' m1 h => by rw [h.1]; exact ⟨SH_len, SH_sl⟩) (fun r sh' m1 h => ?_)
  obtain ⟨rfl, rfl, rfl⟩ := h
  exact kk
end AXO
theorem lw_op0 {nm : String} {L : Nat} {xs : Nat → Int32} (i : Int32) (a1 a2 : Int32) (m : ax_M) (hv1 : vp_in (i + 1) L) (ha1 : a1 = xs (i + 1).toNatClampNeg) (hv2 : vp_in (i + 2) L) (ha2 : a2 = xs (i + 2).toNatClampNeg) (hD0 : D7_feed (((Int32.toInt64 a1) <<< (Int32.toInt64 32 &&& 63)) ||| ((Int32.toInt64 a2) &&& (4294967295))) m) (hD1 : D8_feed (((Int32.toInt64 a1) <<< (Int32.toInt64 32 &&& 63)) ||| ((Int32.toInt64 a2) &&& (4294967295))) (F7_feed (((Int32.toInt64 a1) <<< (Int32.toInt64 32 &&& 63)) ||| ((Int32.toInt64 a2) &&& (4294967295))) m).2) (heq : (F7_feed (((Int32.toInt64 a1) <<< (Int32.toInt64 32 &&& 63)) ||| ((Int32.toInt64 a2) &&& (4294967295))) m).1 = (F8_feed (((Int32.toInt64 a1) <<< (Int32.toInt64 32 &&& 63)) ||| ((Int32.toInt64 a2) &&& (4294967295))) (F7_feed (((Int32.toInt64 a1) <<< (Int32.toInt64 32 &&& 63)) ||| ((Int32.toInt64 a2) &&& (4294967295))) m).2).1) (hk : ax_RX nm L xs 1407 [some (.ref 2999), some (.ref 0), some (.ref 74), some (.int i)] [] SH ((F8_feed (((Int32.toInt64 a1) <<< (Int32.toInt64 32 &&& 63)) ||| ((Int32.toInt64 a2) &&& (4294967295))) (F7_feed (((Int32.toInt64 a1) <<< (Int32.toInt64 32 &&& 63)) ||| ((Int32.toInt64 a2) &&& (4294967295))) m).2).2)) : ax_RX nm L xs 196 [some (.ref 2999), some (.ref 0), some (.ref 74), some (.int i)] [] SH m := by
  refine x_aload_n (eL_196 nm) rfl rfl ?_
  refine x_aload_n (eL_197 nm) rfl rfl ?_
  refine x_iload_n (eL_198 nm) rfl rfl ?_
  refine x_iconst (v := 1) (eL_199 nm) rfl ?_
  refine x_iadd (eL_200 nm) ?_
  refine x_sld (eL_201 nm) hv1 ?_
  rw [← ha1]
  refine x_i2l (eL_202 nm) ?_
  refine x_bipush (v := 32) (eL_203 nm) rfl ?_
  refine x_lshl (eL_205 nm) ?_
  refine x_aload_n (eL_206 nm) rfl rfl ?_
  refine x_iload_n (eL_207 nm) rfl rfl ?_
  refine x_iconst (v := 2) (eL_208 nm) rfl ?_
  refine x_iadd (eL_209 nm) ?_
  refine x_sld (eL_210 nm) hv2 ?_
  rw [← ha2]
  refine x_i2l (eL_211 nm) ?_
  refine x_ldc2 (eL_212 nm) qL_13 ?_
  refine x_land (eL_215 nm) ?_
  refine x_lor (eL_216 nm) ?_
  refine x_callVi (As := [.long (((Int32.toInt64 a1) <<< (Int32.toInt64 32 &&& 63)) ||| ((Int32.toInt64 a2) &&& (4294967295)))]) (eL_217 nm) kX7_feed lL_15 rfl rfl shp_0 rfl rfl (Nat.le_of_ble_eq_true rfl) (Nat.le_of_ble_eq_true rfl) (Nat.le_of_ble_eq_true rfl) (uX7_feed (((Int32.toInt64 a1) <<< (Int32.toInt64 32 &&& 63)) ||| ((Int32.toInt64 a2) &&& (4294967295))) m hD0) ?_
  refine x_aload_n (eL_220 nm) rfl rfl ?_
  refine x_aload_n (eL_221 nm) rfl rfl ?_
  refine x_iload_n (eL_222 nm) rfl rfl ?_
  refine x_iconst (v := 1) (eL_223 nm) rfl ?_
  refine x_iadd (eL_224 nm) ?_
  refine x_sld (eL_225 nm) hv1 ?_
  rw [← ha1]
  refine x_i2l (eL_226 nm) ?_
  refine x_bipush (v := 32) (eL_227 nm) rfl ?_
  refine x_lshl (eL_229 nm) ?_
  refine x_aload_n (eL_230 nm) rfl rfl ?_
  refine x_iload_n (eL_231 nm) rfl rfl ?_
  refine x_iconst (v := 2) (eL_232 nm) rfl ?_
  refine x_iadd (eL_233 nm) ?_
  refine x_sld (eL_234 nm) hv2 ?_
  rw [← ha2]
  refine x_i2l (eL_235 nm) ?_
  refine x_ldc2 (eL_236 nm) qL_13 ?_
  refine x_land (eL_239 nm) ?_
  refine x_lor (eL_240 nm) ?_
  refine x_callVi (As := [.long (((Int32.toInt64 a1) <<< (Int32.toInt64 32 &&& 63)) ||| ((Int32.toInt64 a2) &&& (4294967295)))]) (eL_241 nm) kX8_feed lL_19 rfl rfl shp_74 rfl rfl (Nat.le_of_ble_eq_true rfl) (Nat.le_of_ble_eq_true rfl) (Nat.le_of_ble_eq_true rfl) (uX8_feed (((Int32.toInt64 a1) <<< (Int32.toInt64 32 &&& 63)) ||| ((Int32.toInt64 a2) &&& (4294967295))) ((F7_feed (((Int32.toInt64 a1) <<< (Int32.toInt64 32 &&& 63)) ||| ((Int32.toInt64 a2) &&& (4294967295))) m).2) hD1) ?_
  refine x_icmp_eq (eL_244 nm) (fun _ => ?_) (fun h => absurd heq h)
  exact hk
theorem lw_op1 {nm : String} {L : Nat} {xs : Nat → Int32} (i : Int32) (a1 : Int32) (m : ax_M) (hv1 : vp_in (i + 1) L) (ha1 : a1 = xs (i + 1).toNatClampNeg) (heq : (F7_end a1 m).1 = (F8_end a1 (F7_end a1 m).2).1) (hk : ax_RX nm L xs 1407 [some (.ref 2999), some (.ref 0), some (.ref 74), some (.int i)] [] SH ((F8_end a1 (F7_end a1 m).2).2)) : ax_RX nm L xs 249 [some (.ref 2999), some (.ref 0), some (.ref 74), some (.int i)] [] SH m := by
  refine x_aload_n (eL_249 nm) rfl rfl ?_
  refine x_aload_n (eL_250 nm) rfl rfl ?_
  refine x_iload_n (eL_251 nm) rfl rfl ?_
  refine x_iconst (v := 1) (eL_252 nm) rfl ?_
  refine x_iadd (eL_253 nm) ?_
  refine x_sld (eL_254 nm) hv1 ?_
  rw [← ha1]
  refine x_callVi (As := [.int a1]) (eL_255 nm) kX7_end lL_20 rfl rfl shp_0 rfl rfl (Nat.le_of_ble_eq_true rfl) (Nat.le_of_ble_eq_true rfl) (Nat.le_of_ble_eq_true rfl) (uX7_end a1 m) ?_
  refine x_aload_n (eL_258 nm) rfl rfl ?_
  refine x_aload_n (eL_259 nm) rfl rfl ?_
  refine x_iload_n (eL_260 nm) rfl rfl ?_
  refine x_iconst (v := 1) (eL_261 nm) rfl ?_
  refine x_iadd (eL_262 nm) ?_
  refine x_sld (eL_263 nm) hv1 ?_
  rw [← ha1]
  refine x_callVi (As := [.int a1]) (eL_264 nm) kX8_end lL_24 rfl rfl shp_74 rfl rfl (Nat.le_of_ble_eq_true rfl) (Nat.le_of_ble_eq_true rfl) (Nat.le_of_ble_eq_true rfl) (uX8_end a1 ((F7_end a1 m).2)) ?_
  refine x_icmp_eq (eL_267 nm) (fun _ => ?_) (fun h => absurd heq h)
  exact hk
theorem lw_op2 {nm : String} {L : Nat} {xs : Nat → Int32} (i : Int32) (m : ax_M) (hD0 : D7_text m) (hD1 : D8_text (F7_text m).2) (heq : (F7_text m).1 = (F8_text (F7_text m).2).1) (hk : ax_RX nm L xs 1407 [some (.ref 2999), some (.ref 0), some (.ref 74), some (.int i)] [] SH ((F8_text (F7_text m).2).2)) : ax_RX nm L xs 272 [some (.ref 2999), some (.ref 0), some (.ref 74), some (.int i)] [] SH m := by
  refine x_aload_n (eL_272 nm) rfl rfl ?_
  refine x_callVi (As := []) (eL_273 nm) kX7_text lL_25 rfl rfl shp_0 rfl rfl (Nat.le_of_ble_eq_true rfl) (Nat.le_of_ble_eq_true rfl) (Nat.le_of_ble_eq_true rfl) (uX7_text m hD0) ?_
  refine x_aload_n (eL_276 nm) rfl rfl ?_
  refine x_callVi (As := []) (eL_277 nm) kX8_text lL_29 rfl rfl shp_74 rfl rfl (Nat.le_of_ble_eq_true rfl) (Nat.le_of_ble_eq_true rfl) (Nat.le_of_ble_eq_true rfl) (uX8_text ((F7_text m).2) hD1) ?_
  refine x_icmp_eq (eL_280 nm) (fun _ => ?_) (fun h => absurd heq h)
  exact hk
theorem lw_op3 {nm : String} {L : Nat} {xs : Nat → Int32} (i : Int32) (m : ax_M) (heq : (F7_fault m) = (F8_fault m)) (hk : ax_RX nm L xs 1407 [some (.ref 2999), some (.ref 0), some (.ref 74), some (.int i)] [] SH m) : ax_RX nm L xs 285 [some (.ref 2999), some (.ref 0), some (.ref 74), some (.int i)] [] SH m := by
  refine x_aload_n (eL_285 nm) rfl rfl ?_
  refine x_callVi (As := []) (eL_286 nm) kX7_fault lL_30 rfl rfl shp_0 rfl rfl (Nat.le_of_ble_eq_true rfl) (Nat.le_of_ble_eq_true rfl) (Nat.le_of_ble_eq_true rfl) (uX7_fault m) ?_
  refine x_aload_n (eL_289 nm) rfl rfl ?_
  refine x_callVi (As := []) (eL_290 nm) kX8_fault lL_33 rfl rfl shp_74 rfl rfl (Nat.le_of_ble_eq_true rfl) (Nat.le_of_ble_eq_true rfl) (Nat.le_of_ble_eq_true rfl) (uX8_fault m) ?_
  refine x_icmp_eq (eL_293 nm) (fun _ => ?_) (fun h => absurd heq h)
  exact hk
theorem lw_op4 {nm : String} {L : Nat} {xs : Nat → Int32} (i : Int32) (a1 : Int32) (m : ax_M) (hv1 : vp_in (i + 1) L) (ha1 : a1 = xs (i + 1).toNatClampNeg) (heq : (F7_rule a1 m) = (F8_rule a1 m)) (hk : ax_RX nm L xs 1407 [some (.ref 2999), some (.ref 0), some (.ref 74), some (.int i)] [] SH m) : ax_RX nm L xs 298 [some (.ref 2999), some (.ref 0), some (.ref 74), some (.int i)] [] SH m := by
  refine x_aload_n (eL_298 nm) rfl rfl ?_
  refine x_aload_n (eL_299 nm) rfl rfl ?_
  refine x_iload_n (eL_300 nm) rfl rfl ?_
  refine x_iconst (v := 1) (eL_301 nm) rfl ?_
  refine x_iadd (eL_302 nm) ?_
  refine x_sld (eL_303 nm) hv1 ?_
  rw [← ha1]
  refine x_callVi (As := [.int a1]) (eL_304 nm) kX7_rule lL_34 rfl rfl shp_0 rfl rfl (Nat.le_of_ble_eq_true rfl) (Nat.le_of_ble_eq_true rfl) (Nat.le_of_ble_eq_true rfl) (uX7_rule a1 m) ?_
  refine x_aload_n (eL_307 nm) rfl rfl ?_
  refine x_aload_n (eL_308 nm) rfl rfl ?_
  refine x_iload_n (eL_309 nm) rfl rfl ?_
  refine x_iconst (v := 1) (eL_310 nm) rfl ?_
  refine x_iadd (eL_311 nm) ?_
  refine x_sld (eL_312 nm) hv1 ?_
  rw [← ha1]
  refine x_callVi (As := [.int a1]) (eL_313 nm) kX8_rule lL_37 rfl rfl shp_74 rfl rfl (Nat.le_of_ble_eq_true rfl) (Nat.le_of_ble_eq_true rfl) (Nat.le_of_ble_eq_true rfl) (uX8_rule a1 m) ?_
  refine x_icmp_eq (eL_316 nm) (fun _ => ?_) (fun h => absurd heq h)
  exact hk
theorem lw_op5 {nm : String} {L : Nat} {xs : Nat → Int32} (i : Int32) (a1 a2 : Int32) (m : ax_M) (hv1 : vp_in (i + 1) L) (ha1 : a1 = xs (i + 1).toNatClampNeg) (hv2 : vp_in (i + 2) L) (ha2 : a2 = xs (i + 2).toNatClampNeg) (hD1 : D8_bridge a1 a2 m) (heq : (F7_bridge a1 a2 m) = (F8_bridge a1 a2 m)) (hk : ax_RX nm L xs 1407 [some (.ref 2999), some (.ref 0), some (.ref 74), some (.int i)] [] SH m) : ax_RX nm L xs 321 [some (.ref 2999), some (.ref 0), some (.ref 74), some (.int i)] [] SH m := by
  refine x_aload_n (eL_321 nm) rfl rfl ?_
  refine x_aload_n (eL_322 nm) rfl rfl ?_
  refine x_iload_n (eL_323 nm) rfl rfl ?_
  refine x_iconst (v := 1) (eL_324 nm) rfl ?_
  refine x_iadd (eL_325 nm) ?_
  refine x_sld (eL_326 nm) hv1 ?_
  rw [← ha1]
  refine x_aload_n (eL_327 nm) rfl rfl ?_
  refine x_iload_n (eL_328 nm) rfl rfl ?_
  refine x_iconst (v := 2) (eL_329 nm) rfl ?_
  refine x_iadd (eL_330 nm) ?_
  refine x_sld (eL_331 nm) hv2 ?_
  rw [← ha2]
  refine x_callVi (As := [.int a1, .int a2]) (eL_332 nm) kX7_bridge lL_38 rfl rfl shp_0 rfl rfl (Nat.le_of_ble_eq_true rfl) (Nat.le_of_ble_eq_true rfl) (Nat.le_of_ble_eq_true rfl) (uX7_bridge a1 a2 m) ?_
  refine x_aload_n (eL_335 nm) rfl rfl ?_
  refine x_aload_n (eL_336 nm) rfl rfl ?_
  refine x_iload_n (eL_337 nm) rfl rfl ?_
  refine x_iconst (v := 1) (eL_338 nm) rfl ?_
  refine x_iadd (eL_339 nm) ?_
  refine x_sld (eL_340 nm) hv1 ?_
  rw [← ha1]
  refine x_aload_n (eL_341 nm) rfl rfl ?_
  refine x_iload_n (eL_342 nm) rfl rfl ?_
  refine x_iconst (v := 2) (eL_343 nm) rfl ?_
  refine x_iadd (eL_344 nm) ?_
  refine x_sld (eL_345 nm) hv2 ?_
  rw [← ha2]
  refine x_callVi (As := [.int a1, .int a2]) (eL_346 nm) kX8_bridge lL_42 rfl rfl shp_74 rfl rfl (Nat.le_of_ble_eq_true rfl) (Nat.le_of_ble_eq_true rfl) (Nat.le_of_ble_eq_true rfl) (uX8_bridge a1 a2 m hD1) ?_
  refine x_icmp_eq (eL_349 nm) (fun _ => ?_) (fun h => absurd heq h)
  exact hk
theorem lw_op6 {nm : String} {L : Nat} {xs : Nat → Int32} (i : Int32) (a1 a2 : Int32) (m : ax_M) (hv1 : vp_in (i + 1) L) (ha1 : a1 = xs (i + 1).toNatClampNeg) (hv2 : vp_in (i + 2) L) (ha2 : a2 = xs (i + 2).toNatClampNeg) (hD1 : D8_one a1 a2 m) (heq : (F7_one a1 a2 m) = (F8_one a1 a2 m)) (hk : ax_RX nm L xs 1407 [some (.ref 2999), some (.ref 0), some (.ref 74), some (.int i)] [] SH m) : ax_RX nm L xs 354 [some (.ref 2999), some (.ref 0), some (.ref 74), some (.int i)] [] SH m := by
  refine x_aload_n (eL_354 nm) rfl rfl ?_
  refine x_aload_n (eL_355 nm) rfl rfl ?_
  refine x_iload_n (eL_356 nm) rfl rfl ?_
  refine x_iconst (v := 1) (eL_357 nm) rfl ?_
  refine x_iadd (eL_358 nm) ?_
  refine x_sld (eL_359 nm) hv1 ?_
  rw [← ha1]
  refine x_aload_n (eL_360 nm) rfl rfl ?_
  refine x_iload_n (eL_361 nm) rfl rfl ?_
  refine x_iconst (v := 2) (eL_362 nm) rfl ?_
  refine x_iadd (eL_363 nm) ?_
  refine x_sld (eL_364 nm) hv2 ?_
  rw [← ha2]
  refine x_callVi (As := [.int a1, .int a2]) (eL_365 nm) kX7_one lL_43 rfl rfl shp_0 rfl rfl (Nat.le_of_ble_eq_true rfl) (Nat.le_of_ble_eq_true rfl) (Nat.le_of_ble_eq_true rfl) (uX7_one a1 a2 m) ?_
  refine x_aload_n (eL_368 nm) rfl rfl ?_
  refine x_aload_n (eL_369 nm) rfl rfl ?_
  refine x_iload_n (eL_370 nm) rfl rfl ?_
  refine x_iconst (v := 1) (eL_371 nm) rfl ?_
  refine x_iadd (eL_372 nm) ?_
  refine x_sld (eL_373 nm) hv1 ?_
  rw [← ha1]
  refine x_aload_n (eL_374 nm) rfl rfl ?_
  refine x_iload_n (eL_375 nm) rfl rfl ?_
  refine x_iconst (v := 2) (eL_376 nm) rfl ?_
  refine x_iadd (eL_377 nm) ?_
  refine x_sld (eL_378 nm) hv2 ?_
  rw [← ha2]
  refine x_callVi (As := [.int a1, .int a2]) (eL_379 nm) kX8_one lL_46 rfl rfl shp_74 rfl rfl (Nat.le_of_ble_eq_true rfl) (Nat.le_of_ble_eq_true rfl) (Nat.le_of_ble_eq_true rfl) (uX8_one a1 a2 m hD1) ?_
  refine x_icmp_eq (eL_382 nm) (fun _ => ?_) (fun h => absurd heq h)
  exact hk
theorem lw_op7 {nm : String} {L : Nat} {xs : Nat → Int32} (i : Int32) (a1 : Int32) (m : ax_M) (hv1 : vp_in (i + 1) L) (ha1 : a1 = xs (i + 1).toNatClampNeg) (hD1 : D8_stones a1 m) (heq : (F7_stones a1 m) = (F8_stones a1 m)) (hk : ax_RX nm L xs 1407 [some (.ref 2999), some (.ref 0), some (.ref 74), some (.int i)] [] SH m) : ax_RX nm L xs 387 [some (.ref 2999), some (.ref 0), some (.ref 74), some (.int i)] [] SH m := by
  refine x_aload_n (eL_387 nm) rfl rfl ?_
  refine x_aload_n (eL_388 nm) rfl rfl ?_
  refine x_iload_n (eL_389 nm) rfl rfl ?_
  refine x_iconst (v := 1) (eL_390 nm) rfl ?_
  refine x_iadd (eL_391 nm) ?_
  refine x_sld (eL_392 nm) hv1 ?_
  rw [← ha1]
  refine x_callVi (As := [.int a1]) (eL_393 nm) kX7_stones lL_47 rfl rfl shp_0 rfl rfl (Nat.le_of_ble_eq_true rfl) (Nat.le_of_ble_eq_true rfl) (Nat.le_of_ble_eq_true rfl) (uX7_stones a1 m) ?_
  refine x_aload_n (eL_396 nm) rfl rfl ?_
  refine x_aload_n (eL_397 nm) rfl rfl ?_
  refine x_iload_n (eL_398 nm) rfl rfl ?_
  refine x_iconst (v := 1) (eL_399 nm) rfl ?_
  refine x_iadd (eL_400 nm) ?_
  refine x_sld (eL_401 nm) hv1 ?_
  rw [← ha1]
  refine x_callVi (As := [.int a1]) (eL_402 nm) kX8_stones lL_50 rfl rfl shp_74 rfl rfl (Nat.le_of_ble_eq_true rfl) (Nat.le_of_ble_eq_true rfl) (Nat.le_of_ble_eq_true rfl) (uX8_stones a1 m hD1) ?_
  refine x_icmp_eq (eL_405 nm) (fun _ => ?_) (fun h => absurd heq h)
  exact hk
theorem lw_op8 {nm : String} {L : Nat} {xs : Nat → Int32} (i : Int32) (a1 a2 : Int32) (m : ax_M) (hv1 : vp_in (i + 1) L) (ha1 : a1 = xs (i + 1).toNatClampNeg) (hv2 : vp_in (i + 2) L) (ha2 : a2 = xs (i + 2).toNatClampNeg) (hD1 : D8_heap a1 a2 (F7_heap a1 a2 m).2) (heq : (F7_heap a1 a2 m).1 = (F8_heap a1 a2 (F7_heap a1 a2 m).2).1) (hk : ax_RX nm L xs 1407 [some (.ref 2999), some (.ref 0), some (.ref 74), some (.int i)] [] SH ((F8_heap a1 a2 (F7_heap a1 a2 m).2).2)) : ax_RX nm L xs 410 [some (.ref 2999), some (.ref 0), some (.ref 74), some (.int i)] [] SH m := by
  refine x_aload_n (eL_410 nm) rfl rfl ?_
  refine x_aload_n (eL_411 nm) rfl rfl ?_
  refine x_iload_n (eL_412 nm) rfl rfl ?_
  refine x_iconst (v := 1) (eL_413 nm) rfl ?_
  refine x_iadd (eL_414 nm) ?_
  refine x_sld (eL_415 nm) hv1 ?_
  rw [← ha1]
  refine x_aload_n (eL_416 nm) rfl rfl ?_
  refine x_iload_n (eL_417 nm) rfl rfl ?_
  refine x_iconst (v := 2) (eL_418 nm) rfl ?_
  refine x_iadd (eL_419 nm) ?_
  refine x_sld (eL_420 nm) hv2 ?_
  rw [← ha2]
  refine x_callVi (As := [.int a1, .int a2]) (eL_421 nm) kX7_heap lL_51 rfl rfl shp_0 rfl rfl (Nat.le_of_ble_eq_true rfl) (Nat.le_of_ble_eq_true rfl) (Nat.le_of_ble_eq_true rfl) (uX7_heap a1 a2 m) ?_
  refine x_aload_n (eL_424 nm) rfl rfl ?_
  refine x_aload_n (eL_425 nm) rfl rfl ?_
  refine x_iload_n (eL_426 nm) rfl rfl ?_
  refine x_iconst (v := 1) (eL_427 nm) rfl ?_
  refine x_iadd (eL_428 nm) ?_
  refine x_sld (eL_429 nm) hv1 ?_
  rw [← ha1]
  refine x_aload_n (eL_430 nm) rfl rfl ?_
  refine x_iload_n (eL_431 nm) rfl rfl ?_
  refine x_iconst (v := 2) (eL_432 nm) rfl ?_
  refine x_iadd (eL_433 nm) ?_
  refine x_sld (eL_434 nm) hv2 ?_
  rw [← ha2]
  refine x_callVi (As := [.int a1, .int a2]) (eL_435 nm) kX8_heap lL_54 rfl rfl shp_74 rfl rfl (Nat.le_of_ble_eq_true rfl) (Nat.le_of_ble_eq_true rfl) (Nat.le_of_ble_eq_true rfl) (uX8_heap a1 a2 ((F7_heap a1 a2 m).2) hD1) ?_
  refine x_icmp_eq (eL_438 nm) (fun _ => ?_) (fun h => absurd heq h)
  exact hk
theorem lw_op9 {nm : String} {L : Nat} {xs : Nat → Int32} (i : Int32) (a1 a2 : Int32) (m : ax_M) (hv1 : vp_in (i + 1) L) (ha1 : a1 = xs (i + 1).toNatClampNeg) (hv2 : vp_in (i + 2) L) (ha2 : a2 = xs (i + 2).toNatClampNeg) (hD1 : D8_play a1 a2 (F7_play a1 a2 m).2) (heq : (F7_play a1 a2 m).1 = (F8_play a1 a2 (F7_play a1 a2 m).2).1) (hk : ax_RX nm L xs 1407 [some (.ref 2999), some (.ref 0), some (.ref 74), some (.int i)] [] SH ((F8_play a1 a2 (F7_play a1 a2 m).2).2)) : ax_RX nm L xs 443 [some (.ref 2999), some (.ref 0), some (.ref 74), some (.int i)] [] SH m := by
  refine x_aload_n (eL_443 nm) rfl rfl ?_
  refine x_aload_n (eL_444 nm) rfl rfl ?_
  refine x_iload_n (eL_445 nm) rfl rfl ?_
  refine x_iconst (v := 1) (eL_446 nm) rfl ?_
  refine x_iadd (eL_447 nm) ?_
  refine x_sld (eL_448 nm) hv1 ?_
  rw [← ha1]
  refine x_aload_n (eL_449 nm) rfl rfl ?_
  refine x_iload_n (eL_450 nm) rfl rfl ?_
  refine x_iconst (v := 2) (eL_451 nm) rfl ?_
  refine x_iadd (eL_452 nm) ?_
  refine x_sld (eL_453 nm) hv2 ?_
  rw [← ha2]
  refine x_callVi (As := [.int a1, .int a2]) (eL_454 nm) kX7_play lL_55 rfl rfl shp_0 rfl rfl (Nat.le_of_ble_eq_true rfl) (Nat.le_of_ble_eq_true rfl) (Nat.le_of_ble_eq_true rfl) (uX7_play a1 a2 m) ?_
  refine x_aload_n (eL_457 nm) rfl rfl ?_
  refine x_aload_n (eL_458 nm) rfl rfl ?_
  refine x_iload_n (eL_459 nm) rfl rfl ?_
  refine x_iconst (v := 1) (eL_460 nm) rfl ?_
  refine x_iadd (eL_461 nm) ?_
  refine x_sld (eL_462 nm) hv1 ?_
  rw [← ha1]
  refine x_aload_n (eL_463 nm) rfl rfl ?_
  refine x_iload_n (eL_464 nm) rfl rfl ?_
  refine x_iconst (v := 2) (eL_465 nm) rfl ?_
  refine x_iadd (eL_466 nm) ?_
  refine x_sld (eL_467 nm) hv2 ?_
  rw [← ha2]
  refine x_callVi (As := [.int a1, .int a2]) (eL_468 nm) kX8_play lL_58 rfl rfl shp_74 rfl rfl (Nat.le_of_ble_eq_true rfl) (Nat.le_of_ble_eq_true rfl) (Nat.le_of_ble_eq_true rfl) (uX8_play a1 a2 ((F7_play a1 a2 m).2) hD1) ?_
  refine x_icmp_eq (eL_471 nm) (fun _ => ?_) (fun h => absurd heq h)
  exact hk
theorem lw_op10 {nm : String} {L : Nat} {xs : Nat → Int32} (i : Int32) (a1 a2 : Int32) (m : ax_M) (hv1 : vp_in (i + 1) L) (ha1 : a1 = xs (i + 1).toNatClampNeg) (hv2 : vp_in (i + 2) L) (ha2 : a2 = xs (i + 2).toNatClampNeg) (hD1 : D8_weigh a1 a2 (F7_weigh a1 a2 m).2) (heq : (F7_weigh a1 a2 m).1 = (F8_weigh a1 a2 (F7_weigh a1 a2 m).2).1) (hk : ax_RX nm L xs 1407 [some (.ref 2999), some (.ref 0), some (.ref 74), some (.int i)] [] SH ((F8_weigh a1 a2 (F7_weigh a1 a2 m).2).2)) : ax_RX nm L xs 476 [some (.ref 2999), some (.ref 0), some (.ref 74), some (.int i)] [] SH m := by
  refine x_aload_n (eL_476 nm) rfl rfl ?_
  refine x_aload_n (eL_477 nm) rfl rfl ?_
  refine x_iload_n (eL_478 nm) rfl rfl ?_
  refine x_iconst (v := 1) (eL_479 nm) rfl ?_
  refine x_iadd (eL_480 nm) ?_
  refine x_sld (eL_481 nm) hv1 ?_
  rw [← ha1]
  refine x_aload_n (eL_482 nm) rfl rfl ?_
  refine x_iload_n (eL_483 nm) rfl rfl ?_
  refine x_iconst (v := 2) (eL_484 nm) rfl ?_
  refine x_iadd (eL_485 nm) ?_
  refine x_sld (eL_486 nm) hv2 ?_
  rw [← ha2]
  refine x_callVi (As := [.int a1, .int a2]) (eL_487 nm) kX7_weigh lL_59 rfl rfl shp_0 rfl rfl (Nat.le_of_ble_eq_true rfl) (Nat.le_of_ble_eq_true rfl) (Nat.le_of_ble_eq_true rfl) (uX7_weigh a1 a2 m) ?_
  refine x_aload_n (eL_490 nm) rfl rfl ?_
  refine x_aload_n (eL_491 nm) rfl rfl ?_
  refine x_iload_n (eL_492 nm) rfl rfl ?_
  refine x_iconst (v := 1) (eL_493 nm) rfl ?_
  refine x_iadd (eL_494 nm) ?_
  refine x_sld (eL_495 nm) hv1 ?_
  rw [← ha1]
  refine x_aload_n (eL_496 nm) rfl rfl ?_
  refine x_iload_n (eL_497 nm) rfl rfl ?_
  refine x_iconst (v := 2) (eL_498 nm) rfl ?_
  refine x_iadd (eL_499 nm) ?_
  refine x_sld (eL_500 nm) hv2 ?_
  rw [← ha2]
  refine x_callVi (As := [.int a1, .int a2]) (eL_501 nm) kX8_weigh lL_62 rfl rfl shp_74 rfl rfl (Nat.le_of_ble_eq_true rfl) (Nat.le_of_ble_eq_true rfl) (Nat.le_of_ble_eq_true rfl) (uX8_weigh a1 a2 ((F7_weigh a1 a2 m).2) hD1) ?_
  refine x_icmp_eq (eL_504 nm) (fun _ => ?_) (fun h => absurd heq h)
  exact hk
theorem lw_op11 {nm : String} {L : Nat} {xs : Nat → Int32} (i : Int32) (a1 a2 a3 : Int32) (m : ax_M) (hv1 : vp_in (i + 1) L) (ha1 : a1 = xs (i + 1).toNatClampNeg) (hv2 : vp_in (i + 2) L) (ha2 : a2 = xs (i + 2).toNatClampNeg) (hv3 : vp_in (i + 3) L) (ha3 : a3 = xs (i + 3).toNatClampNeg) (hD1 : D8_send a1 a2 a3 (F7_send a1 a2 a3 m).2) (heq : (F7_send a1 a2 a3 m).1 = (F8_send a1 a2 a3 (F7_send a1 a2 a3 m).2).1) (hk : ax_RX nm L xs 1407 [some (.ref 2999), some (.ref 0), some (.ref 74), some (.int i)] [] SH ((F8_send a1 a2 a3 (F7_send a1 a2 a3 m).2).2)) : ax_RX nm L xs 509 [some (.ref 2999), some (.ref 0), some (.ref 74), some (.int i)] [] SH m := by
  refine x_aload_n (eL_509 nm) rfl rfl ?_
  refine x_aload_n (eL_510 nm) rfl rfl ?_
  refine x_iload_n (eL_511 nm) rfl rfl ?_
  refine x_iconst (v := 1) (eL_512 nm) rfl ?_
  refine x_iadd (eL_513 nm) ?_
  refine x_sld (eL_514 nm) hv1 ?_
  rw [← ha1]
  refine x_aload_n (eL_515 nm) rfl rfl ?_
  refine x_iload_n (eL_516 nm) rfl rfl ?_
  refine x_iconst (v := 2) (eL_517 nm) rfl ?_
  refine x_iadd (eL_518 nm) ?_
  refine x_sld (eL_519 nm) hv2 ?_
  rw [← ha2]
  refine x_aload_n (eL_520 nm) rfl rfl ?_
  refine x_iload_n (eL_521 nm) rfl rfl ?_
  refine x_iconst (v := 3) (eL_522 nm) rfl ?_
  refine x_iadd (eL_523 nm) ?_
  refine x_sld (eL_524 nm) hv3 ?_
  rw [← ha3]
  refine x_callVi (As := [.int a1, .int a2, .int a3]) (eL_525 nm) kX7_send lL_63 rfl rfl shp_0 rfl rfl (Nat.le_of_ble_eq_true rfl) (Nat.le_of_ble_eq_true rfl) (Nat.le_of_ble_eq_true rfl) (uX7_send a1 a2 a3 m) ?_
  refine x_aload_n (eL_528 nm) rfl rfl ?_
  refine x_aload_n (eL_529 nm) rfl rfl ?_
  refine x_iload_n (eL_530 nm) rfl rfl ?_
  refine x_iconst (v := 1) (eL_531 nm) rfl ?_
  refine x_iadd (eL_532 nm) ?_
  refine x_sld (eL_533 nm) hv1 ?_
  rw [← ha1]
  refine x_aload_n (eL_534 nm) rfl rfl ?_
  refine x_iload_n (eL_535 nm) rfl rfl ?_
  refine x_iconst (v := 2) (eL_536 nm) rfl ?_
  refine x_iadd (eL_537 nm) ?_
  refine x_sld (eL_538 nm) hv2 ?_
  rw [← ha2]
  refine x_aload_n (eL_539 nm) rfl rfl ?_
  refine x_iload_n (eL_540 nm) rfl rfl ?_
  refine x_iconst (v := 3) (eL_541 nm) rfl ?_
  refine x_iadd (eL_542 nm) ?_
  refine x_sld (eL_543 nm) hv3 ?_
  rw [← ha3]
  refine x_callVi (As := [.int a1, .int a2, .int a3]) (eL_544 nm) kX8_send lL_67 rfl rfl shp_74 rfl rfl (Nat.le_of_ble_eq_true rfl) (Nat.le_of_ble_eq_true rfl) (Nat.le_of_ble_eq_true rfl) (uX8_send a1 a2 a3 ((F7_send a1 a2 a3 m).2) hD1) ?_
  refine x_icmp_eq (eL_547 nm) (fun _ => ?_) (fun h => absurd heq h)
  exact hk
theorem lw_op12 {nm : String} {L : Nat} {xs : Nat → Int32} (i : Int32) (a1 a2 : Int32) (m : ax_M) (hv1 : vp_in (i + 1) L) (ha1 : a1 = xs (i + 1).toNatClampNeg) (hv2 : vp_in (i + 2) L) (ha2 : a2 = xs (i + 2).toNatClampNeg) (hD0 : D7_feast a1 a2 m) (hD1 : D8_feast a1 a2 (F7_feast a1 a2 m).2) (heq : (F7_feast a1 a2 m).1 = (F8_feast a1 a2 (F7_feast a1 a2 m).2).1) (hk : ax_RX nm L xs 1407 [some (.ref 2999), some (.ref 0), some (.ref 74), some (.int i)] [] SH ((F8_feast a1 a2 (F7_feast a1 a2 m).2).2)) : ax_RX nm L xs 552 [some (.ref 2999), some (.ref 0), some (.ref 74), some (.int i)] [] SH m := by
  refine x_aload_n (eL_552 nm) rfl rfl ?_
  refine x_aload_n (eL_553 nm) rfl rfl ?_
  refine x_iload_n (eL_554 nm) rfl rfl ?_
  refine x_iconst (v := 1) (eL_555 nm) rfl ?_
  refine x_iadd (eL_556 nm) ?_
  refine x_sld (eL_557 nm) hv1 ?_
  rw [← ha1]
  refine x_aload_n (eL_558 nm) rfl rfl ?_
  refine x_iload_n (eL_559 nm) rfl rfl ?_
  refine x_iconst (v := 2) (eL_560 nm) rfl ?_
  refine x_iadd (eL_561 nm) ?_
  refine x_sld (eL_562 nm) hv2 ?_
  rw [← ha2]
  refine x_callVi (As := [.int a1, .int a2]) (eL_563 nm) kX7_feast lL_68 rfl rfl shp_0 rfl rfl (Nat.le_of_ble_eq_true rfl) (Nat.le_of_ble_eq_true rfl) (Nat.le_of_ble_eq_true rfl) (uX7_feast a1 a2 m hD0) ?_
  refine x_aload_n (eL_566 nm) rfl rfl ?_
  refine x_aload_n (eL_567 nm) rfl rfl ?_
  refine x_iload_n (eL_568 nm) rfl rfl ?_
  refine x_iconst (v := 1) (eL_569 nm) rfl ?_
  refine x_iadd (eL_570 nm) ?_
  refine x_sld (eL_571 nm) hv1 ?_
  rw [← ha1]
  refine x_aload_n (eL_572 nm) rfl rfl ?_
  refine x_iload_n (eL_573 nm) rfl rfl ?_
  refine x_iconst (v := 2) (eL_574 nm) rfl ?_
  refine x_iadd (eL_575 nm) ?_
  refine x_sld (eL_576 nm) hv2 ?_
  rw [← ha2]
  refine x_callVi (As := [.int a1, .int a2]) (eL_577 nm) kX8_feast lL_71 rfl rfl shp_74 rfl rfl (Nat.le_of_ble_eq_true rfl) (Nat.le_of_ble_eq_true rfl) (Nat.le_of_ble_eq_true rfl) (uX8_feast a1 a2 ((F7_feast a1 a2 m).2) hD1) ?_
  refine x_icmp_eq (eL_580 nm) (fun _ => ?_) (fun h => absurd heq h)
  exact hk
theorem lw_op13 {nm : String} {L : Nat} {xs : Nat → Int32} (i : Int32) (a1 a2 a3 a4 a5 : Int32) (m : ax_M) (hv1 : vp_in (i + 1) L) (ha1 : a1 = xs (i + 1).toNatClampNeg) (hv2 : vp_in (i + 2) L) (ha2 : a2 = xs (i + 2).toNatClampNeg) (hv3 : vp_in (i + 3) L) (ha3 : a3 = xs (i + 3).toNatClampNeg) (hv4 : vp_in (i + 4) L) (ha4 : a4 = xs (i + 4).toNatClampNeg) (hv5 : vp_in (i + 5) L) (ha5 : a5 = xs (i + 5).toNatClampNeg) (hD1 : D8_can a1 a2 a3 a4 a5 m) (heq : (F7_can a1 a2 a3 a4 a5 m) = (F8_can a1 a2 a3 a4 a5 m)) (hk : ax_RX nm L xs 1407 [some (.ref 2999), some (.ref 0), some (.ref 74), some (.int i)] [] SH m) : ax_RX nm L xs 585 [some (.ref 2999), some (.ref 0), some (.ref 74), some (.int i)] [] SH m := by
  refine x_aload_n (eL_585 nm) rfl rfl ?_
  refine x_aload_n (eL_586 nm) rfl rfl ?_
  refine x_iload_n (eL_587 nm) rfl rfl ?_
  refine x_iconst (v := 1) (eL_588 nm) rfl ?_
  refine x_iadd (eL_589 nm) ?_
  refine x_sld (eL_590 nm) hv1 ?_
  rw [← ha1]
  refine x_aload_n (eL_591 nm) rfl rfl ?_
  refine x_iload_n (eL_592 nm) rfl rfl ?_
  refine x_iconst (v := 2) (eL_593 nm) rfl ?_
  refine x_iadd (eL_594 nm) ?_
  refine x_sld (eL_595 nm) hv2 ?_
  rw [← ha2]
  refine x_aload_n (eL_596 nm) rfl rfl ?_
  refine x_iload_n (eL_597 nm) rfl rfl ?_
  refine x_iconst (v := 3) (eL_598 nm) rfl ?_
  refine x_iadd (eL_599 nm) ?_
  refine x_sld (eL_600 nm) hv3 ?_
  rw [← ha3]
  refine x_aload_n (eL_601 nm) rfl rfl ?_
  refine x_iload_n (eL_602 nm) rfl rfl ?_
  refine x_iconst (v := 4) (eL_603 nm) rfl ?_
  refine x_iadd (eL_604 nm) ?_
  refine x_sld (eL_605 nm) hv4 ?_
  rw [← ha4]
  refine x_aload_n (eL_606 nm) rfl rfl ?_
  refine x_iload_n (eL_607 nm) rfl rfl ?_
  refine x_iconst (v := 5) (eL_608 nm) rfl ?_
  refine x_iadd (eL_609 nm) ?_
  refine x_sld (eL_610 nm) hv5 ?_
  rw [← ha5]
  refine x_callVi (As := [.int a1, .int a2, .int a3, .int a4, .int a5]) (eL_611 nm) kX7_can lL_72 rfl rfl shp_0 rfl rfl (Nat.le_of_ble_eq_true rfl) (Nat.le_of_ble_eq_true rfl) (Nat.le_of_ble_eq_true rfl) (uX7_can a1 a2 a3 a4 a5 m) ?_
  refine x_aload_n (eL_614 nm) rfl rfl ?_
  refine x_aload_n (eL_615 nm) rfl rfl ?_
  refine x_iload_n (eL_616 nm) rfl rfl ?_
  refine x_iconst (v := 1) (eL_617 nm) rfl ?_
  refine x_iadd (eL_618 nm) ?_
  refine x_sld (eL_619 nm) hv1 ?_
  rw [← ha1]
  refine x_aload_n (eL_620 nm) rfl rfl ?_
  refine x_iload_n (eL_621 nm) rfl rfl ?_
  refine x_iconst (v := 2) (eL_622 nm) rfl ?_
  refine x_iadd (eL_623 nm) ?_
  refine x_sld (eL_624 nm) hv2 ?_
  rw [← ha2]
  refine x_aload_n (eL_625 nm) rfl rfl ?_
  refine x_iload_n (eL_626 nm) rfl rfl ?_
  refine x_iconst (v := 3) (eL_627 nm) rfl ?_
  refine x_iadd (eL_628 nm) ?_
  refine x_sld (eL_629 nm) hv3 ?_
  rw [← ha3]
  refine x_aload_n (eL_630 nm) rfl rfl ?_
  refine x_iload_n (eL_631 nm) rfl rfl ?_
  refine x_iconst (v := 4) (eL_632 nm) rfl ?_
  refine x_iadd (eL_633 nm) ?_
  refine x_sld (eL_634 nm) hv4 ?_
  rw [← ha4]
  refine x_aload_n (eL_635 nm) rfl rfl ?_
  refine x_iload_n (eL_636 nm) rfl rfl ?_
  refine x_iconst (v := 5) (eL_637 nm) rfl ?_
  refine x_iadd (eL_638 nm) ?_
  refine x_sld (eL_639 nm) hv5 ?_
  rw [← ha5]
  refine x_callVi (As := [.int a1, .int a2, .int a3, .int a4, .int a5]) (eL_640 nm) kX8_can lL_76 rfl rfl shp_74 rfl rfl (Nat.le_of_ble_eq_true rfl) (Nat.le_of_ble_eq_true rfl) (Nat.le_of_ble_eq_true rfl) (uX8_can a1 a2 a3 a4 a5 m hD1) ?_
  refine x_icmp_eq (eL_643 nm) (fun _ => ?_) (fun h => absurd heq h)
  exact hk
theorem lw_op14 {nm : String} {L : Nat} {xs : Nat → Int32} (i : Int32) (a1 a2 a3 a4 a5 : Int32) (m : ax_M) (hv1 : vp_in (i + 1) L) (ha1 : a1 = xs (i + 1).toNatClampNeg) (hv2 : vp_in (i + 2) L) (ha2 : a2 = xs (i + 2).toNatClampNeg) (hv3 : vp_in (i + 3) L) (ha3 : a3 = xs (i + 3).toNatClampNeg) (hv4 : vp_in (i + 4) L) (ha4 : a4 = xs (i + 4).toNatClampNeg) (hv5 : vp_in (i + 5) L) (ha5 : a5 = xs (i + 5).toNatClampNeg) (hD1 : D8_cross a1 a2 a3 a4 a5 (F7_cross a1 a2 a3 a4 a5 m).2) (heq : (F7_cross a1 a2 a3 a4 a5 m).1 = (F8_cross a1 a2 a3 a4 a5 (F7_cross a1 a2 a3 a4 a5 m).2).1) (hk : ax_RX nm L xs 1407 [some (.ref 2999), some (.ref 0), some (.ref 74), some (.int i)] [] SH ((F8_cross a1 a2 a3 a4 a5 (F7_cross a1 a2 a3 a4 a5 m).2).2)) : ax_RX nm L xs 648 [some (.ref 2999), some (.ref 0), some (.ref 74), some (.int i)] [] SH m := by
  refine x_aload_n (eL_648 nm) rfl rfl ?_
  refine x_aload_n (eL_649 nm) rfl rfl ?_
  refine x_iload_n (eL_650 nm) rfl rfl ?_
  refine x_iconst (v := 1) (eL_651 nm) rfl ?_
  refine x_iadd (eL_652 nm) ?_
  refine x_sld (eL_653 nm) hv1 ?_
  rw [← ha1]
  refine x_aload_n (eL_654 nm) rfl rfl ?_
  refine x_iload_n (eL_655 nm) rfl rfl ?_
  refine x_iconst (v := 2) (eL_656 nm) rfl ?_
  refine x_iadd (eL_657 nm) ?_
  refine x_sld (eL_658 nm) hv2 ?_
  rw [← ha2]
  refine x_aload_n (eL_659 nm) rfl rfl ?_
  refine x_iload_n (eL_660 nm) rfl rfl ?_
  refine x_iconst (v := 3) (eL_661 nm) rfl ?_
  refine x_iadd (eL_662 nm) ?_
  refine x_sld (eL_663 nm) hv3 ?_
  rw [← ha3]
  refine x_aload_n (eL_664 nm) rfl rfl ?_
  refine x_iload_n (eL_665 nm) rfl rfl ?_
  refine x_iconst (v := 4) (eL_666 nm) rfl ?_
  refine x_iadd (eL_667 nm) ?_
  refine x_sld (eL_668 nm) hv4 ?_
  rw [← ha4]
  refine x_aload_n (eL_669 nm) rfl rfl ?_
  refine x_iload_n (eL_670 nm) rfl rfl ?_
  refine x_iconst (v := 5) (eL_671 nm) rfl ?_
  refine x_iadd (eL_672 nm) ?_
  refine x_sld (eL_673 nm) hv5 ?_
  rw [← ha5]
  refine x_callVi (As := [.int a1, .int a2, .int a3, .int a4, .int a5]) (eL_674 nm) kX7_cross lL_77 rfl rfl shp_0 rfl rfl (Nat.le_of_ble_eq_true rfl) (Nat.le_of_ble_eq_true rfl) (Nat.le_of_ble_eq_true rfl) (uX7_cross a1 a2 a3 a4 a5 m) ?_
  refine x_aload_n (eL_677 nm) rfl rfl ?_
  refine x_aload_n (eL_678 nm) rfl rfl ?_
  refine x_iload_n (eL_679 nm) rfl rfl ?_
  refine x_iconst (v := 1) (eL_680 nm) rfl ?_
  refine x_iadd (eL_681 nm) ?_
  refine x_sld (eL_682 nm) hv1 ?_
  rw [← ha1]
  refine x_aload_n (eL_683 nm) rfl rfl ?_
  refine x_iload_n (eL_684 nm) rfl rfl ?_
  refine x_iconst (v := 2) (eL_685 nm) rfl ?_
  refine x_iadd (eL_686 nm) ?_
  refine x_sld (eL_687 nm) hv2 ?_
  rw [← ha2]
  refine x_aload_n (eL_688 nm) rfl rfl ?_
  refine x_iload_n (eL_689 nm) rfl rfl ?_
  refine x_iconst (v := 3) (eL_690 nm) rfl ?_
  refine x_iadd (eL_691 nm) ?_
  refine x_sld (eL_692 nm) hv3 ?_
  rw [← ha3]
  refine x_aload_n (eL_693 nm) rfl rfl ?_
  refine x_iload_n (eL_694 nm) rfl rfl ?_
  refine x_iconst (v := 4) (eL_695 nm) rfl ?_
  refine x_iadd (eL_696 nm) ?_
  refine x_sld (eL_697 nm) hv4 ?_
  rw [← ha4]
  refine x_aload_n (eL_698 nm) rfl rfl ?_
  refine x_iload_n (eL_699 nm) rfl rfl ?_
  refine x_iconst (v := 5) (eL_700 nm) rfl ?_
  refine x_iadd (eL_701 nm) ?_
  refine x_sld (eL_702 nm) hv5 ?_
  rw [← ha5]
  refine x_callVi (As := [.int a1, .int a2, .int a3, .int a4, .int a5]) (eL_703 nm) kX8_cross lL_80 rfl rfl shp_74 rfl rfl (Nat.le_of_ble_eq_true rfl) (Nat.le_of_ble_eq_true rfl) (Nat.le_of_ble_eq_true rfl) (uX8_cross a1 a2 a3 a4 a5 ((F7_cross a1 a2 a3 a4 a5 m).2) hD1) ?_
  refine x_icmp_eq (eL_706 nm) (fun _ => ?_) (fun h => absurd heq h)
  exact hk
theorem lw_op15 {nm : String} {L : Nat} {xs : Nat → Int32} (i : Int32) (a1 a2 a3 a4 : Int32) (m : ax_M) (hv1 : vp_in (i + 1) L) (ha1 : a1 = xs (i + 1).toNatClampNeg) (hv2 : vp_in (i + 2) L) (ha2 : a2 = xs (i + 2).toNatClampNeg) (hv3 : vp_in (i + 3) L) (ha3 : a3 = xs (i + 3).toNatClampNeg) (hv4 : vp_in (i + 4) L) (ha4 : a4 = xs (i + 4).toNatClampNeg) (hD0 : D7_balance a1 a2 a3 a4 m) (hD1 : D8_balance a1 a2 a3 a4 m) (heq : (F7_balance a1 a2 a3 a4 m) = (F8_balance a1 a2 a3 a4 m)) (hk : ax_RX nm L xs 1407 [some (.ref 2999), some (.ref 0), some (.ref 74), some (.int i)] [] SH m) : ax_RX nm L xs 711 [some (.ref 2999), some (.ref 0), some (.ref 74), some (.int i)] [] SH m := by
  refine x_aload_n (eL_711 nm) rfl rfl ?_
  refine x_aload_n (eL_712 nm) rfl rfl ?_
  refine x_iload_n (eL_713 nm) rfl rfl ?_
  refine x_iconst (v := 1) (eL_714 nm) rfl ?_
  refine x_iadd (eL_715 nm) ?_
  refine x_sld (eL_716 nm) hv1 ?_
  rw [← ha1]
  refine x_aload_n (eL_717 nm) rfl rfl ?_
  refine x_iload_n (eL_718 nm) rfl rfl ?_
  refine x_iconst (v := 2) (eL_719 nm) rfl ?_
  refine x_iadd (eL_720 nm) ?_
  refine x_sld (eL_721 nm) hv2 ?_
  rw [← ha2]
  refine x_aload_n (eL_722 nm) rfl rfl ?_
  refine x_iload_n (eL_723 nm) rfl rfl ?_
  refine x_iconst (v := 3) (eL_724 nm) rfl ?_
  refine x_iadd (eL_725 nm) ?_
  refine x_sld (eL_726 nm) hv3 ?_
  rw [← ha3]
  refine x_aload_n (eL_727 nm) rfl rfl ?_
  refine x_iload_n (eL_728 nm) rfl rfl ?_
  refine x_iconst (v := 4) (eL_729 nm) rfl ?_
  refine x_iadd (eL_730 nm) ?_
  refine x_sld (eL_731 nm) hv4 ?_
  rw [← ha4]
  refine x_callVi (As := [.int a1, .int a2, .int a3, .int a4]) (eL_732 nm) kX7_balance lL_81 rfl rfl shp_0 rfl rfl (Nat.le_of_ble_eq_true rfl) (Nat.le_of_ble_eq_true rfl) (Nat.le_of_ble_eq_true rfl) (uX7_balance a1 a2 a3 a4 m hD0) ?_
  refine x_aload_n (eL_735 nm) rfl rfl ?_
  refine x_aload_n (eL_736 nm) rfl rfl ?_
  refine x_iload_n (eL_737 nm) rfl rfl ?_
  refine x_iconst (v := 1) (eL_738 nm) rfl ?_
  refine x_iadd (eL_739 nm) ?_
  refine x_sld (eL_740 nm) hv1 ?_
  rw [← ha1]
  refine x_aload_n (eL_741 nm) rfl rfl ?_
  refine x_iload_n (eL_742 nm) rfl rfl ?_
  refine x_iconst (v := 2) (eL_743 nm) rfl ?_
  refine x_iadd (eL_744 nm) ?_
  refine x_sld (eL_745 nm) hv2 ?_
  rw [← ha2]
  refine x_aload_n (eL_746 nm) rfl rfl ?_
  refine x_iload_n (eL_747 nm) rfl rfl ?_
  refine x_iconst (v := 3) (eL_748 nm) rfl ?_
  refine x_iadd (eL_749 nm) ?_
  refine x_sld (eL_750 nm) hv3 ?_
  rw [← ha3]
  refine x_aload_n (eL_751 nm) rfl rfl ?_
  refine x_iload_n (eL_752 nm) rfl rfl ?_
  refine x_iconst (v := 4) (eL_753 nm) rfl ?_
  refine x_iadd (eL_754 nm) ?_
  refine x_sld (eL_755 nm) hv4 ?_
  rw [← ha4]
  refine x_callVi (As := [.int a1, .int a2, .int a3, .int a4]) (eL_756 nm) kX8_balance lL_85 rfl rfl shp_74 rfl rfl (Nat.le_of_ble_eq_true rfl) (Nat.le_of_ble_eq_true rfl) (Nat.le_of_ble_eq_true rfl) (uX8_balance a1 a2 a3 a4 m hD1) ?_
  refine x_icmp_eq (eL_759 nm) (fun _ => ?_) (fun h => absurd heq h)
  exact hk
theorem lw_op16 {nm : String} {L : Nat} {xs : Nat → Int32} (i : Int32) (a1 a2 : Int32) (m : ax_M) (hv1 : vp_in (i + 1) L) (ha1 : a1 = xs (i + 1).toNatClampNeg) (hv2 : vp_in (i + 2) L) (ha2 : a2 = xs (i + 2).toNatClampNeg) (hD0 : D7_fellows a1 a2 m) (hD1 : D8_fellows a1 a2 m) (heq : (F7_fellows a1 a2 m) = (F8_fellows a1 a2 m)) (hk : ax_RX nm L xs 1407 [some (.ref 2999), some (.ref 0), some (.ref 74), some (.int i)] [] SH m) : ax_RX nm L xs 764 [some (.ref 2999), some (.ref 0), some (.ref 74), some (.int i)] [] SH m := by
  refine x_aload_n (eL_764 nm) rfl rfl ?_
  refine x_aload_n (eL_765 nm) rfl rfl ?_
  refine x_iload_n (eL_766 nm) rfl rfl ?_
  refine x_iconst (v := 1) (eL_767 nm) rfl ?_
  refine x_iadd (eL_768 nm) ?_
  refine x_sld (eL_769 nm) hv1 ?_
  rw [← ha1]
  refine x_aload_n (eL_770 nm) rfl rfl ?_
  refine x_iload_n (eL_771 nm) rfl rfl ?_
  refine x_iconst (v := 2) (eL_772 nm) rfl ?_
  refine x_iadd (eL_773 nm) ?_
  refine x_sld (eL_774 nm) hv2 ?_
  rw [← ha2]
  refine x_callVi (As := [.int a1, .int a2]) (eL_775 nm) kX7_fellows lL_86 rfl rfl shp_0 rfl rfl (Nat.le_of_ble_eq_true rfl) (Nat.le_of_ble_eq_true rfl) (Nat.le_of_ble_eq_true rfl) (uX7_fellows a1 a2 m hD0) ?_
  refine x_aload_n (eL_778 nm) rfl rfl ?_
  refine x_aload_n (eL_779 nm) rfl rfl ?_
  refine x_iload_n (eL_780 nm) rfl rfl ?_
  refine x_iconst (v := 1) (eL_781 nm) rfl ?_
  refine x_iadd (eL_782 nm) ?_
  refine x_sld (eL_783 nm) hv1 ?_
  rw [← ha1]
  refine x_aload_n (eL_784 nm) rfl rfl ?_
  refine x_iload_n (eL_785 nm) rfl rfl ?_
  refine x_iconst (v := 2) (eL_786 nm) rfl ?_
  refine x_iadd (eL_787 nm) ?_
  refine x_sld (eL_788 nm) hv2 ?_
  rw [← ha2]
  refine x_callVi (As := [.int a1, .int a2]) (eL_789 nm) kX8_fellows lL_89 rfl rfl shp_74 rfl rfl (Nat.le_of_ble_eq_true rfl) (Nat.le_of_ble_eq_true rfl) (Nat.le_of_ble_eq_true rfl) (uX8_fellows a1 a2 m hD1) ?_
  refine x_icmp_eq (eL_792 nm) (fun _ => ?_) (fun h => absurd heq h)
  exact hk
theorem lw_op17 {nm : String} {L : Nat} {xs : Nat → Int32} (i : Int32) (a1 a2 : Int32) (m : ax_M) (hv1 : vp_in (i + 1) L) (ha1 : a1 = xs (i + 1).toNatClampNeg) (hv2 : vp_in (i + 2) L) (ha2 : a2 = xs (i + 2).toNatClampNeg) (hD0 : D7_errands a1 a2 m) (hD1 : D8_errands a1 a2 (F7_errands a1 a2 m).2) (heq : (F7_errands a1 a2 m).1 = (F8_errands a1 a2 (F7_errands a1 a2 m).2).1) (hk : ax_RX nm L xs 1407 [some (.ref 2999), some (.ref 0), some (.ref 74), some (.int i)] [] SH ((F8_errands a1 a2 (F7_errands a1 a2 m).2).2)) : ax_RX nm L xs 797 [some (.ref 2999), some (.ref 0), some (.ref 74), some (.int i)] [] SH m := by
  refine x_aload_n (eL_797 nm) rfl rfl ?_
  refine x_aload_n (eL_798 nm) rfl rfl ?_
  refine x_iload_n (eL_799 nm) rfl rfl ?_
  refine x_iconst (v := 1) (eL_800 nm) rfl ?_
  refine x_iadd (eL_801 nm) ?_
  refine x_sld (eL_802 nm) hv1 ?_
  rw [← ha1]
  refine x_aload_n (eL_803 nm) rfl rfl ?_
  refine x_iload_n (eL_804 nm) rfl rfl ?_
  refine x_iconst (v := 2) (eL_805 nm) rfl ?_
  refine x_iadd (eL_806 nm) ?_
  refine x_sld (eL_807 nm) hv2 ?_
  rw [← ha2]
  refine x_callVi (As := [.int a1, .int a2]) (eL_808 nm) kX7_errands lL_90 rfl rfl shp_0 rfl rfl (Nat.le_of_ble_eq_true rfl) (Nat.le_of_ble_eq_true rfl) (Nat.le_of_ble_eq_true rfl) (uX7_errands a1 a2 m hD0) ?_
  refine x_aload_n (eL_811 nm) rfl rfl ?_
  refine x_aload_n (eL_812 nm) rfl rfl ?_
  refine x_iload_n (eL_813 nm) rfl rfl ?_
  refine x_iconst (v := 1) (eL_814 nm) rfl ?_
  refine x_iadd (eL_815 nm) ?_
  refine x_sld (eL_816 nm) hv1 ?_
  rw [← ha1]
  refine x_aload_n (eL_817 nm) rfl rfl ?_
  refine x_iload_n (eL_818 nm) rfl rfl ?_
  refine x_iconst (v := 2) (eL_819 nm) rfl ?_
  refine x_iadd (eL_820 nm) ?_
  refine x_sld (eL_821 nm) hv2 ?_
  rw [← ha2]
  refine x_callVi (As := [.int a1, .int a2]) (eL_822 nm) kX8_errands lL_93 rfl rfl shp_74 rfl rfl (Nat.le_of_ble_eq_true rfl) (Nat.le_of_ble_eq_true rfl) (Nat.le_of_ble_eq_true rfl) (uX8_errands a1 a2 ((F7_errands a1 a2 m).2) hD1) ?_
  refine x_icmp_eq (eL_825 nm) (fun _ => ?_) (fun h => absurd heq h)
  exact hk
theorem lw_op18 {nm : String} {L : Nat} {xs : Nat → Int32} (i : Int32) (a1 a2 : Int32) (m : ax_M) (hv1 : vp_in (i + 1) L) (ha1 : a1 = xs (i + 1).toNatClampNeg) (hv2 : vp_in (i + 2) L) (ha2 : a2 = xs (i + 2).toNatClampNeg) (hD0 : D7_heaved a1 a2 m) (hD1 : D8_heaved a1 a2 (F7_heaved a1 a2 m).2) (heq : (F7_heaved a1 a2 m).1 = (F8_heaved a1 a2 (F7_heaved a1 a2 m).2).1) (hk : ax_RX nm L xs 1407 [some (.ref 2999), some (.ref 0), some (.ref 74), some (.int i)] [] SH ((F8_heaved a1 a2 (F7_heaved a1 a2 m).2).2)) : ax_RX nm L xs 830 [some (.ref 2999), some (.ref 0), some (.ref 74), some (.int i)] [] SH m := by
  refine x_aload_n (eL_830 nm) rfl rfl ?_
  refine x_aload_n (eL_831 nm) rfl rfl ?_
  refine x_iload_n (eL_832 nm) rfl rfl ?_
  refine x_iconst (v := 1) (eL_833 nm) rfl ?_
  refine x_iadd (eL_834 nm) ?_
  refine x_sld (eL_835 nm) hv1 ?_
  rw [← ha1]
  refine x_aload_n (eL_836 nm) rfl rfl ?_
  refine x_iload_n (eL_837 nm) rfl rfl ?_
  refine x_iconst (v := 2) (eL_838 nm) rfl ?_
  refine x_iadd (eL_839 nm) ?_
  refine x_sld (eL_840 nm) hv2 ?_
  rw [← ha2]
  refine x_callVi (As := [.int a1, .int a2]) (eL_841 nm) kX7_heaved lL_94 rfl rfl shp_0 rfl rfl (Nat.le_of_ble_eq_true rfl) (Nat.le_of_ble_eq_true rfl) (Nat.le_of_ble_eq_true rfl) (uX7_heaved a1 a2 m hD0) ?_
  refine x_aload_n (eL_844 nm) rfl rfl ?_
  refine x_aload_n (eL_845 nm) rfl rfl ?_
  refine x_iload_n (eL_846 nm) rfl rfl ?_
  refine x_iconst (v := 1) (eL_847 nm) rfl ?_
  refine x_iadd (eL_848 nm) ?_
  refine x_sld (eL_849 nm) hv1 ?_
  rw [← ha1]
  refine x_aload_n (eL_850 nm) rfl rfl ?_
  refine x_iload_n (eL_851 nm) rfl rfl ?_
  refine x_iconst (v := 2) (eL_852 nm) rfl ?_
  refine x_iadd (eL_853 nm) ?_
  refine x_sld (eL_854 nm) hv2 ?_
  rw [← ha2]
  refine x_callVi (As := [.int a1, .int a2]) (eL_855 nm) kX8_heaved lL_97 rfl rfl shp_74 rfl rfl (Nat.le_of_ble_eq_true rfl) (Nat.le_of_ble_eq_true rfl) (Nat.le_of_ble_eq_true rfl) (uX8_heaved a1 a2 ((F7_heaved a1 a2 m).2) hD1) ?_
  refine x_icmp_eq (eL_858 nm) (fun _ => ?_) (fun h => absurd heq h)
  exact hk
theorem lw_op19 {nm : String} {L : Nat} {xs : Nat → Int32} (i : Int32) (a1 a2 : Int32) (m : ax_M) (hv1 : vp_in (i + 1) L) (ha1 : a1 = xs (i + 1).toNatClampNeg) (hv2 : vp_in (i + 2) L) (ha2 : a2 = xs (i + 2).toNatClampNeg) (hD0 : D7_worth a1 a2 m) (hD1 : D8_worth a1 a2 (F7_worth a1 a2 m).2) (heq : (F7_worth a1 a2 m).1 = (F8_worth a1 a2 (F7_worth a1 a2 m).2).1) (hk : ax_RX nm L xs 1407 [some (.ref 2999), some (.ref 0), some (.ref 74), some (.int i)] [] SH ((F8_worth a1 a2 (F7_worth a1 a2 m).2).2)) : ax_RX nm L xs 863 [some (.ref 2999), some (.ref 0), some (.ref 74), some (.int i)] [] SH m := by
  refine x_aload_n (eL_863 nm) rfl rfl ?_
  refine x_aload_n (eL_864 nm) rfl rfl ?_
  refine x_iload_n (eL_865 nm) rfl rfl ?_
  refine x_iconst (v := 1) (eL_866 nm) rfl ?_
  refine x_iadd (eL_867 nm) ?_
  refine x_sld (eL_868 nm) hv1 ?_
  rw [← ha1]
  refine x_aload_n (eL_869 nm) rfl rfl ?_
  refine x_iload_n (eL_870 nm) rfl rfl ?_
  refine x_iconst (v := 2) (eL_871 nm) rfl ?_
  refine x_iadd (eL_872 nm) ?_
  refine x_sld (eL_873 nm) hv2 ?_
  rw [← ha2]
  refine x_callVi (As := [.int a1, .int a2]) (eL_874 nm) kX7_worth lL_98 rfl rfl shp_0 rfl rfl (Nat.le_of_ble_eq_true rfl) (Nat.le_of_ble_eq_true rfl) (Nat.le_of_ble_eq_true rfl) (uX7_worth a1 a2 m hD0) ?_
  refine x_aload_n (eL_877 nm) rfl rfl ?_
  refine x_aload_n (eL_878 nm) rfl rfl ?_
  refine x_iload_n (eL_879 nm) rfl rfl ?_
  refine x_iconst (v := 1) (eL_880 nm) rfl ?_
  refine x_iadd (eL_881 nm) ?_
  refine x_sld (eL_882 nm) hv1 ?_
  rw [← ha1]
  refine x_aload_n (eL_883 nm) rfl rfl ?_
  refine x_iload_n (eL_884 nm) rfl rfl ?_
  refine x_iconst (v := 2) (eL_885 nm) rfl ?_
  refine x_iadd (eL_886 nm) ?_
  refine x_sld (eL_887 nm) hv2 ?_
  rw [← ha2]
  refine x_callVi (As := [.int a1, .int a2]) (eL_888 nm) kX8_worth lL_101 rfl rfl shp_74 rfl rfl (Nat.le_of_ble_eq_true rfl) (Nat.le_of_ble_eq_true rfl) (Nat.le_of_ble_eq_true rfl) (uX8_worth a1 a2 ((F7_worth a1 a2 m).2) hD1) ?_
  refine x_icmp_eq (eL_891 nm) (fun _ => ?_) (fun h => absurd heq h)
  exact hk
theorem lw_op20 {nm : String} {L : Nat} {xs : Nat → Int32} (i : Int32) (a1 a2 a3 : Int32) (m : ax_M) (hv1 : vp_in (i + 1) L) (ha1 : a1 = xs (i + 1).toNatClampNeg) (hv2 : vp_in (i + 2) L) (ha2 : a2 = xs (i + 2).toNatClampNeg) (hv3 : vp_in (i + 3) L) (ha3 : a3 = xs (i + 3).toNatClampNeg) (hD0 : D7_hire a1 a2 a3 m) (hD1 : D8_hire a1 a2 a3 (F7_hire a1 a2 a3 m).2) (heq : (F7_hire a1 a2 a3 m).1 = (F8_hire a1 a2 a3 (F7_hire a1 a2 a3 m).2).1) (hk : ax_RX nm L xs 1407 [some (.ref 2999), some (.ref 0), some (.ref 74), some (.int i)] [] SH ((F8_hire a1 a2 a3 (F7_hire a1 a2 a3 m).2).2)) : ax_RX nm L xs 896 [some (.ref 2999), some (.ref 0), some (.ref 74), some (.int i)] [] SH m := by
  refine x_aload_n (eL_896 nm) rfl rfl ?_
  refine x_aload_n (eL_897 nm) rfl rfl ?_
  refine x_iload_n (eL_898 nm) rfl rfl ?_
  refine x_iconst (v := 1) (eL_899 nm) rfl ?_
  refine x_iadd (eL_900 nm) ?_
  refine x_sld (eL_901 nm) hv1 ?_
  rw [← ha1]
  refine x_aload_n (eL_902 nm) rfl rfl ?_
  refine x_iload_n (eL_903 nm) rfl rfl ?_
  refine x_iconst (v := 2) (eL_904 nm) rfl ?_
  refine x_iadd (eL_905 nm) ?_
  refine x_sld (eL_906 nm) hv2 ?_
  rw [← ha2]
  refine x_aload_n (eL_907 nm) rfl rfl ?_
  refine x_iload_n (eL_908 nm) rfl rfl ?_
  refine x_iconst (v := 3) (eL_909 nm) rfl ?_
  refine x_iadd (eL_910 nm) ?_
  refine x_sld (eL_911 nm) hv3 ?_
  rw [← ha3]
  refine x_callVi (As := [.int a1, .int a2, .int a3]) (eL_912 nm) kX7_hire lL_102 rfl rfl shp_0 rfl rfl (Nat.le_of_ble_eq_true rfl) (Nat.le_of_ble_eq_true rfl) (Nat.le_of_ble_eq_true rfl) (uX7_hire a1 a2 a3 m hD0) ?_
  refine x_aload_n (eL_915 nm) rfl rfl ?_
  refine x_aload_n (eL_916 nm) rfl rfl ?_
  refine x_iload_n (eL_917 nm) rfl rfl ?_
  refine x_iconst (v := 1) (eL_918 nm) rfl ?_
  refine x_iadd (eL_919 nm) ?_
  refine x_sld (eL_920 nm) hv1 ?_
  rw [← ha1]
  refine x_aload_n (eL_921 nm) rfl rfl ?_
  refine x_iload_n (eL_922 nm) rfl rfl ?_
  refine x_iconst (v := 2) (eL_923 nm) rfl ?_
  refine x_iadd (eL_924 nm) ?_
  refine x_sld (eL_925 nm) hv2 ?_
  rw [← ha2]
  refine x_aload_n (eL_926 nm) rfl rfl ?_
  refine x_iload_n (eL_927 nm) rfl rfl ?_
  refine x_iconst (v := 3) (eL_928 nm) rfl ?_
  refine x_iadd (eL_929 nm) ?_
  refine x_sld (eL_930 nm) hv3 ?_
  rw [← ha3]
  refine x_callVi (As := [.int a1, .int a2, .int a3]) (eL_931 nm) kX8_hire lL_105 rfl rfl shp_74 rfl rfl (Nat.le_of_ble_eq_true rfl) (Nat.le_of_ble_eq_true rfl) (Nat.le_of_ble_eq_true rfl) (uX8_hire a1 a2 a3 ((F7_hire a1 a2 a3 m).2) hD1) ?_
  refine x_icmp_eq (eL_934 nm) (fun _ => ?_) (fun h => absurd heq h)
  exact hk
theorem lw_op21 {nm : String} {L : Nat} {xs : Nat → Int32} (i : Int32) (a1 : Int32) (m : ax_M) (hv1 : vp_in (i + 1) L) (ha1 : a1 = xs (i + 1).toNatClampNeg) (hD0 : D7_plan a1 m) (hD1 : D8_plan a1 (F7_plan a1 m).2) (heq : (F7_plan a1 m).1 = (F8_plan a1 (F7_plan a1 m).2).1) (hk : ax_RX nm L xs 1407 [some (.ref 2999), some (.ref 0), some (.ref 74), some (.int i)] [] SH ((F8_plan a1 (F7_plan a1 m).2).2)) : ax_RX nm L xs 939 [some (.ref 2999), some (.ref 0), some (.ref 74), some (.int i)] [] SH m := by
  refine x_aload_n (eL_939 nm) rfl rfl ?_
  refine x_aload_n (eL_940 nm) rfl rfl ?_
  refine x_iload_n (eL_941 nm) rfl rfl ?_
  refine x_iconst (v := 1) (eL_942 nm) rfl ?_
  refine x_iadd (eL_943 nm) ?_
  refine x_sld (eL_944 nm) hv1 ?_
  rw [← ha1]
  refine x_callVi (As := [.int a1]) (eL_945 nm) kX7_plan lL_106 rfl rfl shp_0 rfl rfl (Nat.le_of_ble_eq_true rfl) (Nat.le_of_ble_eq_true rfl) (Nat.le_of_ble_eq_true rfl) (uX7_plan a1 m hD0) ?_
  refine x_aload_n (eL_948 nm) rfl rfl ?_
  refine x_aload_n (eL_949 nm) rfl rfl ?_
  refine x_iload_n (eL_950 nm) rfl rfl ?_
  refine x_iconst (v := 1) (eL_951 nm) rfl ?_
  refine x_iadd (eL_952 nm) ?_
  refine x_sld (eL_953 nm) hv1 ?_
  rw [← ha1]
  refine x_callVi (As := [.int a1]) (eL_954 nm) kX8_plan lL_109 rfl rfl shp_74 rfl rfl (Nat.le_of_ble_eq_true rfl) (Nat.le_of_ble_eq_true rfl) (Nat.le_of_ble_eq_true rfl) (uX8_plan a1 ((F7_plan a1 m).2) hD1) ?_
  refine x_icmp_eq (eL_957 nm) (fun _ => ?_) (fun h => absurd heq h)
  exact hk
theorem lw_op22 {nm : String} {L : Nat} {xs : Nat → Int32} (i : Int32) (a1 : Int32) (m : ax_M) (hv1 : vp_in (i + 1) L) (ha1 : a1 = xs (i + 1).toNatClampNeg) (hD0 : D7_reach a1 m) (hD1 : D8_reach a1 (F7_reach a1 m).2) (heq : (F7_reach a1 m).1 = (F8_reach a1 (F7_reach a1 m).2).1) (hk : ax_RX nm L xs 1407 [some (.ref 2999), some (.ref 0), some (.ref 74), some (.int i)] [] SH ((F8_reach a1 (F7_reach a1 m).2).2)) : ax_RX nm L xs 962 [some (.ref 2999), some (.ref 0), some (.ref 74), some (.int i)] [] SH m := by
  refine x_aload_n (eL_962 nm) rfl rfl ?_
  refine x_aload_n (eL_963 nm) rfl rfl ?_
  refine x_iload_n (eL_964 nm) rfl rfl ?_
  refine x_iconst (v := 1) (eL_965 nm) rfl ?_
  refine x_iadd (eL_966 nm) ?_
  refine x_sld (eL_967 nm) hv1 ?_
  rw [← ha1]
  refine x_callVi (As := [.int a1]) (eL_968 nm) kX7_reach lL_110 rfl rfl shp_0 rfl rfl (Nat.le_of_ble_eq_true rfl) (Nat.le_of_ble_eq_true rfl) (Nat.le_of_ble_eq_true rfl) (uX7_reach a1 m hD0) ?_
  refine x_aload_n (eL_971 nm) rfl rfl ?_
  refine x_aload_n (eL_972 nm) rfl rfl ?_
  refine x_iload_n (eL_973 nm) rfl rfl ?_
  refine x_iconst (v := 1) (eL_974 nm) rfl ?_
  refine x_iadd (eL_975 nm) ?_
  refine x_sld (eL_976 nm) hv1 ?_
  rw [← ha1]
  refine x_callVi (As := [.int a1]) (eL_977 nm) kX8_reach lL_113 rfl rfl shp_74 rfl rfl (Nat.le_of_ble_eq_true rfl) (Nat.le_of_ble_eq_true rfl) (Nat.le_of_ble_eq_true rfl) (uX8_reach a1 ((F7_reach a1 m).2) hD1) ?_
  refine x_icmp_eq (eL_980 nm) (fun _ => ?_) (fun h => absurd heq h)
  exact hk
theorem lw_op23 {nm : String} {L : Nat} {xs : Nat → Int32} (i : Int32) (m : ax_M) (hD0 : D7_ways m) (hD1 : D8_ways (F7_ways m).2) (heq : (F7_ways m).1 = (F8_ways (F7_ways m).2).1) (hk : ax_RX nm L xs 1407 [some (.ref 2999), some (.ref 0), some (.ref 74), some (.int i)] [] SH ((F8_ways (F7_ways m).2).2)) : ax_RX nm L xs 985 [some (.ref 2999), some (.ref 0), some (.ref 74), some (.int i)] [] SH m := by
  refine x_aload_n (eL_985 nm) rfl rfl ?_
  refine x_callVi (As := []) (eL_986 nm) kX7_ways lL_114 rfl rfl shp_0 rfl rfl (Nat.le_of_ble_eq_true rfl) (Nat.le_of_ble_eq_true rfl) (Nat.le_of_ble_eq_true rfl) (uX7_ways m hD0) ?_
  refine x_aload_n (eL_989 nm) rfl rfl ?_
  refine x_callVi (As := []) (eL_990 nm) kX8_ways lL_117 rfl rfl shp_74 rfl rfl (Nat.le_of_ble_eq_true rfl) (Nat.le_of_ble_eq_true rfl) (Nat.le_of_ble_eq_true rfl) (uX8_ways ((F7_ways m).2) hD1) ?_
  refine x_icmp_eq (eL_993 nm) (fun _ => ?_) (fun h => absurd heq h)
  exact hk
theorem lw_op24 {nm : String} {L : Nat} {xs : Nat → Int32} (i : Int32) (a1 a2 a3 : Int32) (m : ax_M) (hv1 : vp_in (i + 1) L) (ha1 : a1 = xs (i + 1).toNatClampNeg) (hv2 : vp_in (i + 2) L) (ha2 : a2 = xs (i + 2).toNatClampNeg) (hv3 : vp_in (i + 3) L) (ha3 : a3 = xs (i + 3).toNatClampNeg) (hD1 : D8_tell a1 a2 a3 (F7_tell a1 a2 a3 m).2) (heq : (F7_tell a1 a2 a3 m).1 = (F8_tell a1 a2 a3 (F7_tell a1 a2 a3 m).2).1) (hk : ax_RX nm L xs 1407 [some (.ref 2999), some (.ref 0), some (.ref 74), some (.int i)] [] SH ((F8_tell a1 a2 a3 (F7_tell a1 a2 a3 m).2).2)) : ax_RX nm L xs 998 [some (.ref 2999), some (.ref 0), some (.ref 74), some (.int i)] [] SH m := by
  refine x_aload_n (eL_998 nm) rfl rfl ?_
  refine x_aload_n (eL_999 nm) rfl rfl ?_
  refine x_iload_n (eL_1000 nm) rfl rfl ?_
  refine x_iconst (v := 1) (eL_1001 nm) rfl ?_
  refine x_iadd (eL_1002 nm) ?_
  refine x_sld (eL_1003 nm) hv1 ?_
  rw [← ha1]
  refine x_aload_n (eL_1004 nm) rfl rfl ?_
  refine x_iload_n (eL_1005 nm) rfl rfl ?_
  refine x_iconst (v := 2) (eL_1006 nm) rfl ?_
  refine x_iadd (eL_1007 nm) ?_
  refine x_sld (eL_1008 nm) hv2 ?_
  rw [← ha2]
  refine x_aload_n (eL_1009 nm) rfl rfl ?_
  refine x_iload_n (eL_1010 nm) rfl rfl ?_
  refine x_iconst (v := 3) (eL_1011 nm) rfl ?_
  refine x_iadd (eL_1012 nm) ?_
  refine x_sld (eL_1013 nm) hv3 ?_
  rw [← ha3]
  refine x_callVi (As := [.int a1, .int a2, .int a3]) (eL_1014 nm) kX7_tell lL_118 rfl rfl shp_0 rfl rfl (Nat.le_of_ble_eq_true rfl) (Nat.le_of_ble_eq_true rfl) (Nat.le_of_ble_eq_true rfl) (uX7_tell a1 a2 a3 m) ?_
  refine x_aload_n (eL_1017 nm) rfl rfl ?_
  refine x_aload_n (eL_1018 nm) rfl rfl ?_
  refine x_iload_n (eL_1019 nm) rfl rfl ?_
  refine x_iconst (v := 1) (eL_1020 nm) rfl ?_
  refine x_iadd (eL_1021 nm) ?_
  refine x_sld (eL_1022 nm) hv1 ?_
  rw [← ha1]
  refine x_aload_n (eL_1023 nm) rfl rfl ?_
  refine x_iload_n (eL_1024 nm) rfl rfl ?_
  refine x_iconst (v := 2) (eL_1025 nm) rfl ?_
  refine x_iadd (eL_1026 nm) ?_
  refine x_sld (eL_1027 nm) hv2 ?_
  rw [← ha2]
  refine x_aload_n (eL_1028 nm) rfl rfl ?_
  refine x_iload_n (eL_1029 nm) rfl rfl ?_
  refine x_iconst (v := 3) (eL_1030 nm) rfl ?_
  refine x_iadd (eL_1031 nm) ?_
  refine x_sld (eL_1032 nm) hv3 ?_
  rw [← ha3]
  refine x_callVi (As := [.int a1, .int a2, .int a3]) (eL_1033 nm) kX8_tell lL_121 rfl rfl shp_74 rfl rfl (Nat.le_of_ble_eq_true rfl) (Nat.le_of_ble_eq_true rfl) (Nat.le_of_ble_eq_true rfl) (uX8_tell a1 a2 a3 ((F7_tell a1 a2 a3 m).2) hD1) ?_
  refine x_icmp_eq (eL_1036 nm) (fun _ => ?_) (fun h => absurd heq h)
  exact hk
theorem lw_op25 {nm : String} {L : Nat} {xs : Nat → Int32} (i : Int32) (a1 : Int32) (m : ax_M) (hv1 : vp_in (i + 1) L) (ha1 : a1 = xs (i + 1).toNatClampNeg) (heq : (F7_forget a1 m).1 = (F8_forget a1 (F7_forget a1 m).2).1) (hk : ax_RX nm L xs 1407 [some (.ref 2999), some (.ref 0), some (.ref 74), some (.int i)] [] SH ((F8_forget a1 (F7_forget a1 m).2).2)) : ax_RX nm L xs 1041 [some (.ref 2999), some (.ref 0), some (.ref 74), some (.int i)] [] SH m := by
  refine x_aload_n (eL_1041 nm) rfl rfl ?_
  refine x_aload_n (eL_1042 nm) rfl rfl ?_
  refine x_iload_n (eL_1043 nm) rfl rfl ?_
  refine x_iconst (v := 1) (eL_1044 nm) rfl ?_
  refine x_iadd (eL_1045 nm) ?_
  refine x_sld (eL_1046 nm) hv1 ?_
  rw [← ha1]
  refine x_callVi (As := [.int a1]) (eL_1047 nm) kX7_forget lL_122 rfl rfl shp_0 rfl rfl (Nat.le_of_ble_eq_true rfl) (Nat.le_of_ble_eq_true rfl) (Nat.le_of_ble_eq_true rfl) (uX7_forget a1 m) ?_
  refine x_aload_n (eL_1050 nm) rfl rfl ?_
  refine x_aload_n (eL_1051 nm) rfl rfl ?_
  refine x_iload_n (eL_1052 nm) rfl rfl ?_
  refine x_iconst (v := 1) (eL_1053 nm) rfl ?_
  refine x_iadd (eL_1054 nm) ?_
  refine x_sld (eL_1055 nm) hv1 ?_
  rw [← ha1]
  refine x_callVi (As := [.int a1]) (eL_1056 nm) kX8_forget lL_125 rfl rfl shp_74 rfl rfl (Nat.le_of_ble_eq_true rfl) (Nat.le_of_ble_eq_true rfl) (Nat.le_of_ble_eq_true rfl) (uX8_forget a1 ((F7_forget a1 m).2)) ?_
  refine x_icmp_eq (eL_1059 nm) (fun _ => ?_) (fun h => absurd heq h)
  exact hk
theorem lw_op26 {nm : String} {L : Nat} {xs : Nat → Int32} (i : Int32) (m : ax_M) (hD0 : D7_judge m) (hD1 : D8_judge (F7_judge m).2) (heq : (F7_judge m).1 = (F8_judge (F7_judge m).2).1) (hk : ax_RX nm L xs 1407 [some (.ref 2999), some (.ref 0), some (.ref 74), some (.int i)] [] SH ((F8_judge (F7_judge m).2).2)) : ax_RX nm L xs 1064 [some (.ref 2999), some (.ref 0), some (.ref 74), some (.int i)] [] SH m := by
  refine x_aload_n (eL_1064 nm) rfl rfl ?_
  refine x_callVi (As := []) (eL_1065 nm) kX7_judge lL_126 rfl rfl shp_0 rfl rfl (Nat.le_of_ble_eq_true rfl) (Nat.le_of_ble_eq_true rfl) (Nat.le_of_ble_eq_true rfl) (uX7_judge m hD0) ?_
  refine x_aload_n (eL_1068 nm) rfl rfl ?_
  refine x_callVi (As := []) (eL_1069 nm) kX8_judge lL_129 rfl rfl shp_74 rfl rfl (Nat.le_of_ble_eq_true rfl) (Nat.le_of_ble_eq_true rfl) (Nat.le_of_ble_eq_true rfl) (uX8_judge ((F7_judge m).2) hD1) ?_
  refine x_icmp_eq (eL_1072 nm) (fun _ => ?_) (fun h => absurd heq h)
  exact hk
theorem lw_op27 {nm : String} {L : Nat} {xs : Nat → Int32} (i : Int32) (a1 : Int32) (m : ax_M) (hv1 : vp_in (i + 1) L) (ha1 : a1 = xs (i + 1).toNatClampNeg) (hD0 : D7_late a1 m) (hD1 : D8_late a1 (F7_late a1 m).2) (heq : (F7_late a1 m).1 = (F8_late a1 (F7_late a1 m).2).1) (hk : ax_RX nm L xs 1407 [some (.ref 2999), some (.ref 0), some (.ref 74), some (.int i)] [] SH ((F8_late a1 (F7_late a1 m).2).2)) : ax_RX nm L xs 1077 [some (.ref 2999), some (.ref 0), some (.ref 74), some (.int i)] [] SH m := by
  refine x_aload_n (eL_1077 nm) rfl rfl ?_
  refine x_aload_n (eL_1078 nm) rfl rfl ?_
  refine x_iload_n (eL_1079 nm) rfl rfl ?_
  refine x_iconst (v := 1) (eL_1080 nm) rfl ?_
  refine x_iadd (eL_1081 nm) ?_
  refine x_sld (eL_1082 nm) hv1 ?_
  rw [← ha1]
  refine x_callVi (As := [.int a1]) (eL_1083 nm) kX7_late lL_130 rfl rfl shp_0 rfl rfl (Nat.le_of_ble_eq_true rfl) (Nat.le_of_ble_eq_true rfl) (Nat.le_of_ble_eq_true rfl) (uX7_late a1 m hD0) ?_
  refine x_aload_n (eL_1086 nm) rfl rfl ?_
  refine x_aload_n (eL_1087 nm) rfl rfl ?_
  refine x_iload_n (eL_1088 nm) rfl rfl ?_
  refine x_iconst (v := 1) (eL_1089 nm) rfl ?_
  refine x_iadd (eL_1090 nm) ?_
  refine x_sld (eL_1091 nm) hv1 ?_
  rw [← ha1]
  refine x_callVi (As := [.int a1]) (eL_1092 nm) kX8_late lL_133 rfl rfl shp_74 rfl rfl (Nat.le_of_ble_eq_true rfl) (Nat.le_of_ble_eq_true rfl) (Nat.le_of_ble_eq_true rfl) (uX8_late a1 ((F7_late a1 m).2) hD1) ?_
  refine x_icmp_eq (eL_1095 nm) (fun _ => ?_) (fun h => absurd heq h)
  exact hk
theorem lw_op28 {nm : String} {L : Nat} {xs : Nat → Int32} (i : Int32) (a1 a2 a3 : Int32) (m : ax_M) (hv1 : vp_in (i + 1) L) (ha1 : a1 = xs (i + 1).toNatClampNeg) (hv2 : vp_in (i + 2) L) (ha2 : a2 = xs (i + 2).toNatClampNeg) (hv3 : vp_in (i + 3) L) (ha3 : a3 = xs (i + 3).toNatClampNeg) (hD0 : D7_fits a1 a2 a3 m) (hD1 : D8_fits a1 a2 a3 (F7_fits a1 a2 a3 m).2) (heq : (F7_fits a1 a2 a3 m).1 = (F8_fits a1 a2 a3 (F7_fits a1 a2 a3 m).2).1) (hk : ax_RX nm L xs 1407 [some (.ref 2999), some (.ref 0), some (.ref 74), some (.int i)] [] SH ((F8_fits a1 a2 a3 (F7_fits a1 a2 a3 m).2).2)) : ax_RX nm L xs 1100 [some (.ref 2999), some (.ref 0), some (.ref 74), some (.int i)] [] SH m := by
  refine x_aload_n (eL_1100 nm) rfl rfl ?_
  refine x_aload_n (eL_1101 nm) rfl rfl ?_
  refine x_iload_n (eL_1102 nm) rfl rfl ?_
  refine x_iconst (v := 1) (eL_1103 nm) rfl ?_
  refine x_iadd (eL_1104 nm) ?_
  refine x_sld (eL_1105 nm) hv1 ?_
  rw [← ha1]
  refine x_aload_n (eL_1106 nm) rfl rfl ?_
  refine x_iload_n (eL_1107 nm) rfl rfl ?_
  refine x_iconst (v := 2) (eL_1108 nm) rfl ?_
  refine x_iadd (eL_1109 nm) ?_
  refine x_sld (eL_1110 nm) hv2 ?_
  rw [← ha2]
  refine x_aload_n (eL_1111 nm) rfl rfl ?_
  refine x_iload_n (eL_1112 nm) rfl rfl ?_
  refine x_iconst (v := 3) (eL_1113 nm) rfl ?_
  refine x_iadd (eL_1114 nm) ?_
  refine x_sld (eL_1115 nm) hv3 ?_
  rw [← ha3]
  refine x_callVi (As := [.int a1, .int a2, .int a3]) (eL_1116 nm) kX7_fits lL_134 rfl rfl shp_0 rfl rfl (Nat.le_of_ble_eq_true rfl) (Nat.le_of_ble_eq_true rfl) (Nat.le_of_ble_eq_true rfl) (uX7_fits a1 a2 a3 m hD0) ?_
  refine x_aload_n (eL_1119 nm) rfl rfl ?_
  refine x_aload_n (eL_1120 nm) rfl rfl ?_
  refine x_iload_n (eL_1121 nm) rfl rfl ?_
  refine x_iconst (v := 1) (eL_1122 nm) rfl ?_
  refine x_iadd (eL_1123 nm) ?_
  refine x_sld (eL_1124 nm) hv1 ?_
  rw [← ha1]
  refine x_aload_n (eL_1125 nm) rfl rfl ?_
  refine x_iload_n (eL_1126 nm) rfl rfl ?_
  refine x_iconst (v := 2) (eL_1127 nm) rfl ?_
  refine x_iadd (eL_1128 nm) ?_
  refine x_sld (eL_1129 nm) hv2 ?_
  rw [← ha2]
  refine x_aload_n (eL_1130 nm) rfl rfl ?_
  refine x_iload_n (eL_1131 nm) rfl rfl ?_
  refine x_iconst (v := 3) (eL_1132 nm) rfl ?_
  refine x_iadd (eL_1133 nm) ?_
  refine x_sld (eL_1134 nm) hv3 ?_
  rw [← ha3]
  refine x_callVi (As := [.int a1, .int a2, .int a3]) (eL_1135 nm) kX8_fits lL_137 rfl rfl shp_74 rfl rfl (Nat.le_of_ble_eq_true rfl) (Nat.le_of_ble_eq_true rfl) (Nat.le_of_ble_eq_true rfl) (uX8_fits a1 a2 a3 ((F7_fits a1 a2 a3 m).2) hD1) ?_
  refine x_icmp_eq (eL_1138 nm) (fun _ => ?_) (fun h => absurd heq h)
  exact hk
theorem lw_op29 {nm : String} {L : Nat} {xs : Nat → Int32} (i : Int32) (a1 a2 a3 : Int32) (m : ax_M) (hv1 : vp_in (i + 1) L) (ha1 : a1 = xs (i + 1).toNatClampNeg) (hv2 : vp_in (i + 2) L) (ha2 : a2 = xs (i + 2).toNatClampNeg) (hv3 : vp_in (i + 3) L) (ha3 : a3 = xs (i + 3).toNatClampNeg) (hD0 : D7_season a1 a2 a3 m) (hD1 : D8_season a1 a2 a3 (F7_season a1 a2 a3 m).2) (heq : (F7_season a1 a2 a3 m).1 = (F8_season a1 a2 a3 (F7_season a1 a2 a3 m).2).1) (hk : ax_RX nm L xs 1407 [some (.ref 2999), some (.ref 0), some (.ref 74), some (.int i)] [] SH ((F8_season a1 a2 a3 (F7_season a1 a2 a3 m).2).2)) : ax_RX nm L xs 1143 [some (.ref 2999), some (.ref 0), some (.ref 74), some (.int i)] [] SH m := by
  refine x_aload_n (eL_1143 nm) rfl rfl ?_
  refine x_aload_n (eL_1144 nm) rfl rfl ?_
  refine x_iload_n (eL_1145 nm) rfl rfl ?_
  refine x_iconst (v := 1) (eL_1146 nm) rfl ?_
  refine x_iadd (eL_1147 nm) ?_
  refine x_sld (eL_1148 nm) hv1 ?_
  rw [← ha1]
  refine x_aload_n (eL_1149 nm) rfl rfl ?_
  refine x_iload_n (eL_1150 nm) rfl rfl ?_
  refine x_iconst (v := 2) (eL_1151 nm) rfl ?_
  refine x_iadd (eL_1152 nm) ?_
  refine x_sld (eL_1153 nm) hv2 ?_
  rw [← ha2]
  refine x_aload_n (eL_1154 nm) rfl rfl ?_
  refine x_iload_n (eL_1155 nm) rfl rfl ?_
  refine x_iconst (v := 3) (eL_1156 nm) rfl ?_
  refine x_iadd (eL_1157 nm) ?_
  refine x_sld (eL_1158 nm) hv3 ?_
  rw [← ha3]
  refine x_callVi (As := [.int a1, .int a2, .int a3]) (eL_1159 nm) kX7_season lL_138 rfl rfl shp_0 rfl rfl (Nat.le_of_ble_eq_true rfl) (Nat.le_of_ble_eq_true rfl) (Nat.le_of_ble_eq_true rfl) (uX7_season a1 a2 a3 m hD0) ?_
  refine x_aload_n (eL_1162 nm) rfl rfl ?_
  refine x_aload_n (eL_1163 nm) rfl rfl ?_
  refine x_iload_n (eL_1164 nm) rfl rfl ?_
  refine x_iconst (v := 1) (eL_1165 nm) rfl ?_
  refine x_iadd (eL_1166 nm) ?_
  refine x_sld (eL_1167 nm) hv1 ?_
  rw [← ha1]
  refine x_aload_n (eL_1168 nm) rfl rfl ?_
  refine x_iload_n (eL_1169 nm) rfl rfl ?_
  refine x_iconst (v := 2) (eL_1170 nm) rfl ?_
  refine x_iadd (eL_1171 nm) ?_
  refine x_sld (eL_1172 nm) hv2 ?_
  rw [← ha2]
  refine x_aload_n (eL_1173 nm) rfl rfl ?_
  refine x_iload_n (eL_1174 nm) rfl rfl ?_
  refine x_iconst (v := 3) (eL_1175 nm) rfl ?_
  refine x_iadd (eL_1176 nm) ?_
  refine x_sld (eL_1177 nm) hv3 ?_
  rw [← ha3]
  refine x_callVi (As := [.int a1, .int a2, .int a3]) (eL_1178 nm) kX8_season lL_141 rfl rfl shp_74 rfl rfl (Nat.le_of_ble_eq_true rfl) (Nat.le_of_ble_eq_true rfl) (Nat.le_of_ble_eq_true rfl) (uX8_season a1 a2 a3 ((F7_season a1 a2 a3 m).2) hD1) ?_
  refine x_icmp_eq (eL_1181 nm) (fun _ => ?_) (fun h => absurd heq h)
  exact hk
theorem lw_op30 {nm : String} {L : Nat} {xs : Nat → Int32} (i : Int32) (a1 : Int32) (m : ax_M) (hv1 : vp_in (i + 1) L) (ha1 : a1 = xs (i + 1).toNatClampNeg) (hD0 : D7_keep a1 m) (hD1 : D8_keep a1 (F7_keep a1 m).2) (heq : (F7_keep a1 m).1 = (F8_keep a1 (F7_keep a1 m).2).1) (hk : ax_RX nm L xs 1407 [some (.ref 2999), some (.ref 0), some (.ref 74), some (.int i)] [] SH ((F8_keep a1 (F7_keep a1 m).2).2)) : ax_RX nm L xs 1186 [some (.ref 2999), some (.ref 0), some (.ref 74), some (.int i)] [] SH m := by
  refine x_aload_n (eL_1186 nm) rfl rfl ?_
  refine x_aload_n (eL_1187 nm) rfl rfl ?_
  refine x_iload_n (eL_1188 nm) rfl rfl ?_
  refine x_iconst (v := 1) (eL_1189 nm) rfl ?_
  refine x_iadd (eL_1190 nm) ?_
  refine x_sld (eL_1191 nm) hv1 ?_
  rw [← ha1]
  refine x_callVi (As := [.int a1]) (eL_1192 nm) kX7_keep lL_142 rfl rfl shp_0 rfl rfl (Nat.le_of_ble_eq_true rfl) (Nat.le_of_ble_eq_true rfl) (Nat.le_of_ble_eq_true rfl) (uX7_keep a1 m hD0) ?_
  refine x_aload_n (eL_1195 nm) rfl rfl ?_
  refine x_aload_n (eL_1196 nm) rfl rfl ?_
  refine x_iload_n (eL_1197 nm) rfl rfl ?_
  refine x_iconst (v := 1) (eL_1198 nm) rfl ?_
  refine x_iadd (eL_1199 nm) ?_
  refine x_sld (eL_1200 nm) hv1 ?_
  rw [← ha1]
  refine x_callVi (As := [.int a1]) (eL_1201 nm) kX8_keep lL_145 rfl rfl shp_74 rfl rfl (Nat.le_of_ble_eq_true rfl) (Nat.le_of_ble_eq_true rfl) (Nat.le_of_ble_eq_true rfl) (uX8_keep a1 ((F7_keep a1 m).2) hD1) ?_
  refine x_icmp_eq (eL_1204 nm) (fun _ => ?_) (fun h => absurd heq h)
  exact hk
theorem lw_op31 {nm : String} {L : Nat} {xs : Nat → Int32} (i : Int32) (a1 : Int32) (m : ax_M) (hv1 : vp_in (i + 1) L) (ha1 : a1 = xs (i + 1).toNatClampNeg) (hD0 : D7_back a1 m) (hD1 : D8_back a1 (F7_back a1 m).2) (heq : (F7_back a1 m).1 = (F8_back a1 (F7_back a1 m).2).1) (hk : ax_RX nm L xs 1407 [some (.ref 2999), some (.ref 0), some (.ref 74), some (.int i)] [] SH ((F8_back a1 (F7_back a1 m).2).2)) : ax_RX nm L xs 1209 [some (.ref 2999), some (.ref 0), some (.ref 74), some (.int i)] [] SH m := by
  refine x_aload_n (eL_1209 nm) rfl rfl ?_
  refine x_aload_n (eL_1210 nm) rfl rfl ?_
  refine x_iload_n (eL_1211 nm) rfl rfl ?_
  refine x_iconst (v := 1) (eL_1212 nm) rfl ?_
  refine x_iadd (eL_1213 nm) ?_
  refine x_sld (eL_1214 nm) hv1 ?_
  rw [← ha1]
  refine x_callVi (As := [.int a1]) (eL_1215 nm) kX7_back lL_146 rfl rfl shp_0 rfl rfl (Nat.le_of_ble_eq_true rfl) (Nat.le_of_ble_eq_true rfl) (Nat.le_of_ble_eq_true rfl) (uX7_back a1 m hD0) ?_
  refine x_aload_n (eL_1218 nm) rfl rfl ?_
  refine x_aload_n (eL_1219 nm) rfl rfl ?_
  refine x_iload_n (eL_1220 nm) rfl rfl ?_
  refine x_iconst (v := 1) (eL_1221 nm) rfl ?_
  refine x_iadd (eL_1222 nm) ?_
  refine x_sld (eL_1223 nm) hv1 ?_
  rw [← ha1]
  refine x_callVi (As := [.int a1]) (eL_1224 nm) kX8_back lL_149 rfl rfl shp_74 rfl rfl (Nat.le_of_ble_eq_true rfl) (Nat.le_of_ble_eq_true rfl) (Nat.le_of_ble_eq_true rfl) (uX8_back a1 ((F7_back a1 m).2) hD1) ?_
  refine x_icmp_eq (eL_1227 nm) (fun _ => ?_) (fun h => absurd heq h)
  exact hk
theorem lw_op32 {nm : String} {L : Nat} {xs : Nat → Int32} (i : Int32) (a1 a2 a3 : Int32) (m : ax_M) (hv1 : vp_in (i + 1) L) (ha1 : a1 = xs (i + 1).toNatClampNeg) (hv2 : vp_in (i + 2) L) (ha2 : a2 = xs (i + 2).toNatClampNeg) (hv3 : vp_in (i + 3) L) (ha3 : a3 = xs (i + 3).toNatClampNeg) (hD0 : D7_sheet a1 a2 a3 m) (hD1 : D8_sheet a1 a2 a3 (F7_sheet a1 a2 a3 m).2) (heq : (F7_sheet a1 a2 a3 m).1 = (F8_sheet a1 a2 a3 (F7_sheet a1 a2 a3 m).2).1) (hk : ax_RX nm L xs 1407 [some (.ref 2999), some (.ref 0), some (.ref 74), some (.int i)] [] SH ((F8_sheet a1 a2 a3 (F7_sheet a1 a2 a3 m).2).2)) : ax_RX nm L xs 1232 [some (.ref 2999), some (.ref 0), some (.ref 74), some (.int i)] [] SH m := by
  refine x_aload_n (eL_1232 nm) rfl rfl ?_
  refine x_aload_n (eL_1233 nm) rfl rfl ?_
  refine x_iload_n (eL_1234 nm) rfl rfl ?_
  refine x_iconst (v := 1) (eL_1235 nm) rfl ?_
  refine x_iadd (eL_1236 nm) ?_
  refine x_sld (eL_1237 nm) hv1 ?_
  rw [← ha1]
  refine x_aload_n (eL_1238 nm) rfl rfl ?_
  refine x_iload_n (eL_1239 nm) rfl rfl ?_
  refine x_iconst (v := 2) (eL_1240 nm) rfl ?_
  refine x_iadd (eL_1241 nm) ?_
  refine x_sld (eL_1242 nm) hv2 ?_
  rw [← ha2]
  refine x_aload_n (eL_1243 nm) rfl rfl ?_
  refine x_iload_n (eL_1244 nm) rfl rfl ?_
  refine x_iconst (v := 3) (eL_1245 nm) rfl ?_
  refine x_iadd (eL_1246 nm) ?_
  refine x_sld (eL_1247 nm) hv3 ?_
  rw [← ha3]
  refine x_callVi (As := [.int a1, .int a2, .int a3]) (eL_1248 nm) kX7_sheet lL_150 rfl rfl shp_0 rfl rfl (Nat.le_of_ble_eq_true rfl) (Nat.le_of_ble_eq_true rfl) (Nat.le_of_ble_eq_true rfl) (uX7_sheet a1 a2 a3 m hD0) ?_
  refine x_aload_n (eL_1251 nm) rfl rfl ?_
  refine x_aload_n (eL_1252 nm) rfl rfl ?_
  refine x_iload_n (eL_1253 nm) rfl rfl ?_
  refine x_iconst (v := 1) (eL_1254 nm) rfl ?_
  refine x_iadd (eL_1255 nm) ?_
  refine x_sld (eL_1256 nm) hv1 ?_
  rw [← ha1]
  refine x_aload_n (eL_1257 nm) rfl rfl ?_
  refine x_iload_n (eL_1258 nm) rfl rfl ?_
  refine x_iconst (v := 2) (eL_1259 nm) rfl ?_
  refine x_iadd (eL_1260 nm) ?_
  refine x_sld (eL_1261 nm) hv2 ?_
  rw [← ha2]
  refine x_aload_n (eL_1262 nm) rfl rfl ?_
  refine x_iload_n (eL_1263 nm) rfl rfl ?_
  refine x_iconst (v := 3) (eL_1264 nm) rfl ?_
  refine x_iadd (eL_1265 nm) ?_
  refine x_sld (eL_1266 nm) hv3 ?_
  rw [← ha3]
  refine x_callVi (As := [.int a1, .int a2, .int a3]) (eL_1267 nm) kX8_sheet lL_153 rfl rfl shp_74 rfl rfl (Nat.le_of_ble_eq_true rfl) (Nat.le_of_ble_eq_true rfl) (Nat.le_of_ble_eq_true rfl) (uX8_sheet a1 a2 a3 ((F7_sheet a1 a2 a3 m).2) hD1) ?_
  refine x_icmp_eq (eL_1270 nm) (fun _ => ?_) (fun h => absurd heq h)
  exact hk
theorem lw_op33 {nm : String} {L : Nat} {xs : Nat → Int32} (i : Int32) (a1 a2 a3 : Int32) (m : ax_M) (hv1 : vp_in (i + 1) L) (ha1 : a1 = xs (i + 1).toNatClampNeg) (hv2 : vp_in (i + 2) L) (ha2 : a2 = xs (i + 2).toNatClampNeg) (hv3 : vp_in (i + 3) L) (ha3 : a3 = xs (i + 3).toNatClampNeg) (hD1 : D8_lay a1 a2 a3 (F7_lay a1 a2 a3 m).2) (heq : (F7_lay a1 a2 a3 m).1 = (F8_lay a1 a2 a3 (F7_lay a1 a2 a3 m).2).1) (hk : ax_RX nm L xs 1407 [some (.ref 2999), some (.ref 0), some (.ref 74), some (.int i)] [] SH ((F8_lay a1 a2 a3 (F7_lay a1 a2 a3 m).2).2)) : ax_RX nm L xs 1275 [some (.ref 2999), some (.ref 0), some (.ref 74), some (.int i)] [] SH m := by
  refine x_aload_n (eL_1275 nm) rfl rfl ?_
  refine x_aload_n (eL_1276 nm) rfl rfl ?_
  refine x_iload_n (eL_1277 nm) rfl rfl ?_
  refine x_iconst (v := 1) (eL_1278 nm) rfl ?_
  refine x_iadd (eL_1279 nm) ?_
  refine x_sld (eL_1280 nm) hv1 ?_
  rw [← ha1]
  refine x_aload_n (eL_1281 nm) rfl rfl ?_
  refine x_iload_n (eL_1282 nm) rfl rfl ?_
  refine x_iconst (v := 2) (eL_1283 nm) rfl ?_
  refine x_iadd (eL_1284 nm) ?_
  refine x_sld (eL_1285 nm) hv2 ?_
  rw [← ha2]
  refine x_aload_n (eL_1286 nm) rfl rfl ?_
  refine x_iload_n (eL_1287 nm) rfl rfl ?_
  refine x_iconst (v := 3) (eL_1288 nm) rfl ?_
  refine x_iadd (eL_1289 nm) ?_
  refine x_sld (eL_1290 nm) hv3 ?_
  rw [← ha3]
  refine x_callVi (As := [.int a1, .int a2, .int a3]) (eL_1291 nm) kX7_lay lL_154 rfl rfl shp_0 rfl rfl (Nat.le_of_ble_eq_true rfl) (Nat.le_of_ble_eq_true rfl) (Nat.le_of_ble_eq_true rfl) (uX7_lay a1 a2 a3 m) ?_
  refine x_aload_n (eL_1294 nm) rfl rfl ?_
  refine x_aload_n (eL_1295 nm) rfl rfl ?_
  refine x_iload_n (eL_1296 nm) rfl rfl ?_
  refine x_iconst (v := 1) (eL_1297 nm) rfl ?_
  refine x_iadd (eL_1298 nm) ?_
  refine x_sld (eL_1299 nm) hv1 ?_
  rw [← ha1]
  refine x_aload_n (eL_1300 nm) rfl rfl ?_
  refine x_iload_n (eL_1301 nm) rfl rfl ?_
  refine x_iconst (v := 2) (eL_1302 nm) rfl ?_
  refine x_iadd (eL_1303 nm) ?_
  refine x_sld (eL_1304 nm) hv2 ?_
  rw [← ha2]
  refine x_aload_n (eL_1305 nm) rfl rfl ?_
  refine x_iload_n (eL_1306 nm) rfl rfl ?_
  refine x_iconst (v := 3) (eL_1307 nm) rfl ?_
  refine x_iadd (eL_1308 nm) ?_
  refine x_sld (eL_1309 nm) hv3 ?_
  rw [← ha3]
  refine x_callVi (As := [.int a1, .int a2, .int a3]) (eL_1310 nm) kX8_lay lL_157 rfl rfl shp_74 rfl rfl (Nat.le_of_ble_eq_true rfl) (Nat.le_of_ble_eq_true rfl) (Nat.le_of_ble_eq_true rfl) (uX8_lay a1 a2 a3 ((F7_lay a1 a2 a3 m).2) hD1) ?_
  refine x_icmp_eq (eL_1313 nm) (fun _ => ?_) (fun h => absurd heq h)
  exact hk
theorem lw_op34 {nm : String} {L : Nat} {xs : Nat → Int32} (i : Int32) (a1 a2 a3 a4 : Int32) (m : ax_M) (hv1 : vp_in (i + 1) L) (ha1 : a1 = xs (i + 1).toNatClampNeg) (hv2 : vp_in (i + 2) L) (ha2 : a2 = xs (i + 2).toNatClampNeg) (hv3 : vp_in (i + 3) L) (ha3 : a3 = xs (i + 3).toNatClampNeg) (hv4 : vp_in (i + 4) L) (ha4 : a4 = xs (i + 4).toNatClampNeg) (hD0 : D7_read a1 a2 a3 a4 m) (hD1 : D8_read a1 a2 a3 a4 (F7_read a1 a2 a3 a4 m).2) (heq : (F7_read a1 a2 a3 a4 m).1 = (F8_read a1 a2 a3 a4 (F7_read a1 a2 a3 a4 m).2).1) (hk : ax_RX nm L xs 1407 [some (.ref 2999), some (.ref 0), some (.ref 74), some (.int i)] [] SH ((F8_read a1 a2 a3 a4 (F7_read a1 a2 a3 a4 m).2).2)) : ax_RX nm L xs 1318 [some (.ref 2999), some (.ref 0), some (.ref 74), some (.int i)] [] SH m := by
  refine x_aload_n (eL_1318 nm) rfl rfl ?_
  refine x_aload_n (eL_1319 nm) rfl rfl ?_
  refine x_iload_n (eL_1320 nm) rfl rfl ?_
  refine x_iconst (v := 1) (eL_1321 nm) rfl ?_
  refine x_iadd (eL_1322 nm) ?_
  refine x_sld (eL_1323 nm) hv1 ?_
  rw [← ha1]
  refine x_aload_n (eL_1324 nm) rfl rfl ?_
  refine x_iload_n (eL_1325 nm) rfl rfl ?_
  refine x_iconst (v := 2) (eL_1326 nm) rfl ?_
  refine x_iadd (eL_1327 nm) ?_
  refine x_sld (eL_1328 nm) hv2 ?_
  rw [← ha2]
  refine x_aload_n (eL_1329 nm) rfl rfl ?_
  refine x_iload_n (eL_1330 nm) rfl rfl ?_
  refine x_iconst (v := 3) (eL_1331 nm) rfl ?_
  refine x_iadd (eL_1332 nm) ?_
  refine x_sld (eL_1333 nm) hv3 ?_
  rw [← ha3]
  refine x_aload_n (eL_1334 nm) rfl rfl ?_
  refine x_iload_n (eL_1335 nm) rfl rfl ?_
  refine x_iconst (v := 4) (eL_1336 nm) rfl ?_
  refine x_iadd (eL_1337 nm) ?_
  refine x_sld (eL_1338 nm) hv4 ?_
  rw [← ha4]
  refine x_callVi (As := [.int a1, .int a2, .int a3, .int a4]) (eL_1339 nm) kX7_read lL_158 rfl rfl shp_0 rfl rfl (Nat.le_of_ble_eq_true rfl) (Nat.le_of_ble_eq_true rfl) (Nat.le_of_ble_eq_true rfl) (uX7_read a1 a2 a3 a4 m hD0) ?_
  refine x_aload_n (eL_1342 nm) rfl rfl ?_
  refine x_aload_n (eL_1343 nm) rfl rfl ?_
  refine x_iload_n (eL_1344 nm) rfl rfl ?_
  refine x_iconst (v := 1) (eL_1345 nm) rfl ?_
  refine x_iadd (eL_1346 nm) ?_
  refine x_sld (eL_1347 nm) hv1 ?_
  rw [← ha1]
  refine x_aload_n (eL_1348 nm) rfl rfl ?_
  refine x_iload_n (eL_1349 nm) rfl rfl ?_
  refine x_iconst (v := 2) (eL_1350 nm) rfl ?_
  refine x_iadd (eL_1351 nm) ?_
  refine x_sld (eL_1352 nm) hv2 ?_
  rw [← ha2]
  refine x_aload_n (eL_1353 nm) rfl rfl ?_
  refine x_iload_n (eL_1354 nm) rfl rfl ?_
  refine x_iconst (v := 3) (eL_1355 nm) rfl ?_
  refine x_iadd (eL_1356 nm) ?_
  refine x_sld (eL_1357 nm) hv3 ?_
  rw [← ha3]
  refine x_aload_n (eL_1358 nm) rfl rfl ?_
  refine x_iload_n (eL_1359 nm) rfl rfl ?_
  refine x_iconst (v := 4) (eL_1360 nm) rfl ?_
  refine x_iadd (eL_1361 nm) ?_
  refine x_sld (eL_1362 nm) hv4 ?_
  rw [← ha4]
  refine x_callVi (As := [.int a1, .int a2, .int a3, .int a4]) (eL_1363 nm) kX8_read lL_161 rfl rfl shp_74 rfl rfl (Nat.le_of_ble_eq_true rfl) (Nat.le_of_ble_eq_true rfl) (Nat.le_of_ble_eq_true rfl) (uX8_read a1 a2 a3 a4 ((F7_read a1 a2 a3 a4 m).2) hD1) ?_
  refine x_icmp_eq (eL_1366 nm) (fun _ => ?_) (fun h => absurd heq h)
  exact hk
theorem lw_op35 {nm : String} {L : Nat} {xs : Nat → Int32} (i : Int32) (m : ax_M) (heq : (F7_torn m) = (F8_torn m)) (hk : ax_RX nm L xs 1407 [some (.ref 2999), some (.ref 0), some (.ref 74), some (.int i)] [] SH m) : ax_RX nm L xs 1371 [some (.ref 2999), some (.ref 0), some (.ref 74), some (.int i)] [] SH m := by
  refine x_aload_n (eL_1371 nm) rfl rfl ?_
  refine x_callVi (As := []) (eL_1372 nm) kX7_torn lL_162 rfl rfl shp_0 rfl rfl (Nat.le_of_ble_eq_true rfl) (Nat.le_of_ble_eq_true rfl) (Nat.le_of_ble_eq_true rfl) (uX7_torn m) ?_
  refine x_aload_n (eL_1375 nm) rfl rfl ?_
  refine x_callVi (As := []) (eL_1376 nm) kX8_torn lL_165 rfl rfl shp_74 rfl rfl (Nat.le_of_ble_eq_true rfl) (Nat.le_of_ble_eq_true rfl) (Nat.le_of_ble_eq_true rfl) (uX8_torn m) ?_
  refine x_icmp_eq (eL_1379 nm) (fun _ => ?_) (fun h => absurd heq h)
  exact hk
theorem lw_op36 {nm : String} {L : Nat} {xs : Nat → Int32} (i : Int32) (a1 : Int32) (m : ax_M) (hv1 : vp_in (i + 1) L) (ha1 : a1 = xs (i + 1).toNatClampNeg) (hD0 : D7_count a1 m) (hD1 : D8_count a1 m) (heq : (F7_count a1 m) = (F8_count a1 m)) (hk : ax_RX nm L xs 1407 [some (.ref 2999), some (.ref 0), some (.ref 74), some (.int i)] [] SH m) : ax_RX nm L xs 1384 [some (.ref 2999), some (.ref 0), some (.ref 74), some (.int i)] [] SH m := by
  refine x_aload_n (eL_1384 nm) rfl rfl ?_
  refine x_aload_n (eL_1385 nm) rfl rfl ?_
  refine x_iload_n (eL_1386 nm) rfl rfl ?_
  refine x_iconst (v := 1) (eL_1387 nm) rfl ?_
  refine x_iadd (eL_1388 nm) ?_
  refine x_sld (eL_1389 nm) hv1 ?_
  rw [← ha1]
  refine x_callVi (As := [.int a1]) (eL_1390 nm) kX7_count lL_166 rfl rfl shp_0 rfl rfl (Nat.le_of_ble_eq_true rfl) (Nat.le_of_ble_eq_true rfl) (Nat.le_of_ble_eq_true rfl) (uX7_count a1 m hD0) ?_
  refine x_aload_n (eL_1393 nm) rfl rfl ?_
  refine x_aload_n (eL_1394 nm) rfl rfl ?_
  refine x_iload_n (eL_1395 nm) rfl rfl ?_
  refine x_iconst (v := 1) (eL_1396 nm) rfl ?_
  refine x_iadd (eL_1397 nm) ?_
  refine x_sld (eL_1398 nm) hv1 ?_
  rw [← ha1]
  refine x_callVi (As := [.int a1]) (eL_1399 nm) kX8_count lL_169 rfl rfl shp_74 rfl rfl (Nat.le_of_ble_eq_true rfl) (Nat.le_of_ble_eq_true rfl) (Nat.le_of_ble_eq_true rfl) (uX8_count a1 m hD1) ?_
  refine x_icmp_eq (eL_1402 nm) (fun _ => ?_) (fun h => absurd heq h)
  exact hk
/-! what is owed of each operation: both sides are defined, they answer alike, and what holds between them holds again -/
/-- feed -/
def OK0 (I : ax_M → Prop) (m : ax_M) : Prop := ∀ a1 a2 : Int32, (D7_feed (((Int32.toInt64 a1) <<< (Int32.toInt64 32 &&& 63)) ||| ((Int32.toInt64 a2) &&& (4294967295))) m) ∧ (D8_feed (((Int32.toInt64 a1) <<< (Int32.toInt64 32 &&& 63)) ||| ((Int32.toInt64 a2) &&& (4294967295))) (F7_feed (((Int32.toInt64 a1) <<< (Int32.toInt64 32 &&& 63)) ||| ((Int32.toInt64 a2) &&& (4294967295))) m).2) ∧ ((F7_feed (((Int32.toInt64 a1) <<< (Int32.toInt64 32 &&& 63)) ||| ((Int32.toInt64 a2) &&& (4294967295))) m).1 = (F8_feed (((Int32.toInt64 a1) <<< (Int32.toInt64 32 &&& 63)) ||| ((Int32.toInt64 a2) &&& (4294967295))) (F7_feed (((Int32.toInt64 a1) <<< (Int32.toInt64 32 &&& 63)) ||| ((Int32.toInt64 a2) &&& (4294967295))) m).2).1) ∧ (I ((F8_feed (((Int32.toInt64 a1) <<< (Int32.toInt64 32 &&& 63)) ||| ((Int32.toInt64 a2) &&& (4294967295))) (F7_feed (((Int32.toInt64 a1) <<< (Int32.toInt64 32 &&& 63)) ||| ((Int32.toInt64 a2) &&& (4294967295))) m).2).2))
/-- end -/
def OK1 (I : ax_M → Prop) (m : ax_M) : Prop := ∀ a1 : Int32, ((F7_end a1 m).1 = (F8_end a1 (F7_end a1 m).2).1) ∧ (I ((F8_end a1 (F7_end a1 m).2).2))
/-- text -/
def OK2 (I : ax_M → Prop) (m : ax_M) : Prop := (D7_text m) ∧ (D8_text (F7_text m).2) ∧ ((F7_text m).1 = (F8_text (F7_text m).2).1) ∧ (I ((F8_text (F7_text m).2).2))
/-- fault -/
def OK3 (I : ax_M → Prop) (m : ax_M) : Prop := ((F7_fault m) = (F8_fault m)) ∧ (I m)
/-- rule -/
def OK4 (I : ax_M → Prop) (m : ax_M) : Prop := ∀ a1 : Int32, ((F7_rule a1 m) = (F8_rule a1 m)) ∧ (I m)
/-- bridge -/
def OK5 (I : ax_M → Prop) (m : ax_M) : Prop := ∀ a1 a2 : Int32, (D8_bridge a1 a2 m) ∧ ((F7_bridge a1 a2 m) = (F8_bridge a1 a2 m)) ∧ (I m)
/-- one -/
def OK6 (I : ax_M → Prop) (m : ax_M) : Prop := ∀ a1 a2 : Int32, (D8_one a1 a2 m) ∧ ((F7_one a1 a2 m) = (F8_one a1 a2 m)) ∧ (I m)
/-- stones -/
def OK7 (I : ax_M → Prop) (m : ax_M) : Prop := ∀ a1 : Int32, (D8_stones a1 m) ∧ ((F7_stones a1 m) = (F8_stones a1 m)) ∧ (I m)
/-- heap -/
def OK8 (I : ax_M → Prop) (m : ax_M) : Prop := ∀ a1 a2 : Int32, (D8_heap a1 a2 (F7_heap a1 a2 m).2) ∧ ((F7_heap a1 a2 m).1 = (F8_heap a1 a2 (F7_heap a1 a2 m).2).1) ∧ (I ((F8_heap a1 a2 (F7_heap a1 a2 m).2).2))
/-- play -/
def OK9 (I : ax_M → Prop) (m : ax_M) : Prop := ∀ a1 a2 : Int32, (D8_play a1 a2 (F7_play a1 a2 m).2) ∧ ((F7_play a1 a2 m).1 = (F8_play a1 a2 (F7_play a1 a2 m).2).1) ∧ (I ((F8_play a1 a2 (F7_play a1 a2 m).2).2))
/-- weigh -/
def OK10 (I : ax_M → Prop) (m : ax_M) : Prop := ∀ a1 a2 : Int32, (D8_weigh a1 a2 (F7_weigh a1 a2 m).2) ∧ ((F7_weigh a1 a2 m).1 = (F8_weigh a1 a2 (F7_weigh a1 a2 m).2).1) ∧ (I ((F8_weigh a1 a2 (F7_weigh a1 a2 m).2).2))
/-- send -/
def OK11 (I : ax_M → Prop) (m : ax_M) : Prop := ∀ a1 a2 a3 : Int32, (D8_send a1 a2 a3 (F7_send a1 a2 a3 m).2) ∧ ((F7_send a1 a2 a3 m).1 = (F8_send a1 a2 a3 (F7_send a1 a2 a3 m).2).1) ∧ (I ((F8_send a1 a2 a3 (F7_send a1 a2 a3 m).2).2))
/-- feast -/
def OK12 (I : ax_M → Prop) (m : ax_M) : Prop := ∀ a1 a2 : Int32, (D7_feast a1 a2 m) ∧ (D8_feast a1 a2 (F7_feast a1 a2 m).2) ∧ ((F7_feast a1 a2 m).1 = (F8_feast a1 a2 (F7_feast a1 a2 m).2).1) ∧ (I ((F8_feast a1 a2 (F7_feast a1 a2 m).2).2))
/-- can -/
def OK13 (I : ax_M → Prop) (m : ax_M) : Prop := ∀ a1 a2 a3 a4 a5 : Int32, (D8_can a1 a2 a3 a4 a5 m) ∧ ((F7_can a1 a2 a3 a4 a5 m) = (F8_can a1 a2 a3 a4 a5 m)) ∧ (I m)
/-- cross -/
def OK14 (I : ax_M → Prop) (m : ax_M) : Prop := ∀ a1 a2 a3 a4 a5 : Int32, (D8_cross a1 a2 a3 a4 a5 (F7_cross a1 a2 a3 a4 a5 m).2) ∧ ((F7_cross a1 a2 a3 a4 a5 m).1 = (F8_cross a1 a2 a3 a4 a5 (F7_cross a1 a2 a3 a4 a5 m).2).1) ∧ (I ((F8_cross a1 a2 a3 a4 a5 (F7_cross a1 a2 a3 a4 a5 m).2).2))
/-- balance -/
def OK15 (I : ax_M → Prop) (m : ax_M) : Prop := ∀ a1 a2 a3 a4 : Int32, (D7_balance a1 a2 a3 a4 m) ∧ (D8_balance a1 a2 a3 a4 m) ∧ ((F7_balance a1 a2 a3 a4 m) = (F8_balance a1 a2 a3 a4 m)) ∧ (I m)
/-- fellows -/
def OK16 (I : ax_M → Prop) (m : ax_M) : Prop := ∀ a1 a2 : Int32, (D7_fellows a1 a2 m) ∧ (D8_fellows a1 a2 m) ∧ ((F7_fellows a1 a2 m) = (F8_fellows a1 a2 m)) ∧ (I m)
/-- errands -/
def OK17 (I : ax_M → Prop) (m : ax_M) : Prop := ∀ a1 a2 : Int32, (D7_errands a1 a2 m) ∧ (D8_errands a1 a2 (F7_errands a1 a2 m).2) ∧ ((F7_errands a1 a2 m).1 = (F8_errands a1 a2 (F7_errands a1 a2 m).2).1) ∧ (I ((F8_errands a1 a2 (F7_errands a1 a2 m).2).2))
/-- heaved -/
def OK18 (I : ax_M → Prop) (m : ax_M) : Prop := ∀ a1 a2 : Int32, (D7_heaved a1 a2 m) ∧ (D8_heaved a1 a2 (F7_heaved a1 a2 m).2) ∧ ((F7_heaved a1 a2 m).1 = (F8_heaved a1 a2 (F7_heaved a1 a2 m).2).1) ∧ (I ((F8_heaved a1 a2 (F7_heaved a1 a2 m).2).2))
/-- worth -/
def OK19 (I : ax_M → Prop) (m : ax_M) : Prop := ∀ a1 a2 : Int32, (D7_worth a1 a2 m) ∧ (D8_worth a1 a2 (F7_worth a1 a2 m).2) ∧ ((F7_worth a1 a2 m).1 = (F8_worth a1 a2 (F7_worth a1 a2 m).2).1) ∧ (I ((F8_worth a1 a2 (F7_worth a1 a2 m).2).2))
/-- hire -/
def OK20 (I : ax_M → Prop) (m : ax_M) : Prop := ∀ a1 a2 a3 : Int32, (D7_hire a1 a2 a3 m) ∧ (D8_hire a1 a2 a3 (F7_hire a1 a2 a3 m).2) ∧ ((F7_hire a1 a2 a3 m).1 = (F8_hire a1 a2 a3 (F7_hire a1 a2 a3 m).2).1) ∧ (I ((F8_hire a1 a2 a3 (F7_hire a1 a2 a3 m).2).2))
/-- plan -/
def OK21 (I : ax_M → Prop) (m : ax_M) : Prop := ∀ a1 : Int32, (D7_plan a1 m) ∧ (D8_plan a1 (F7_plan a1 m).2) ∧ ((F7_plan a1 m).1 = (F8_plan a1 (F7_plan a1 m).2).1) ∧ (I ((F8_plan a1 (F7_plan a1 m).2).2))
/-- reach -/
def OK22 (I : ax_M → Prop) (m : ax_M) : Prop := ∀ a1 : Int32, (D7_reach a1 m) ∧ (D8_reach a1 (F7_reach a1 m).2) ∧ ((F7_reach a1 m).1 = (F8_reach a1 (F7_reach a1 m).2).1) ∧ (I ((F8_reach a1 (F7_reach a1 m).2).2))
/-- ways -/
def OK23 (I : ax_M → Prop) (m : ax_M) : Prop := (D7_ways m) ∧ (D8_ways (F7_ways m).2) ∧ ((F7_ways m).1 = (F8_ways (F7_ways m).2).1) ∧ (I ((F8_ways (F7_ways m).2).2))
/-- tell -/
def OK24 (I : ax_M → Prop) (m : ax_M) : Prop := ∀ a1 a2 a3 : Int32, (D8_tell a1 a2 a3 (F7_tell a1 a2 a3 m).2) ∧ ((F7_tell a1 a2 a3 m).1 = (F8_tell a1 a2 a3 (F7_tell a1 a2 a3 m).2).1) ∧ (I ((F8_tell a1 a2 a3 (F7_tell a1 a2 a3 m).2).2))
/-- forget -/
def OK25 (I : ax_M → Prop) (m : ax_M) : Prop := ∀ a1 : Int32, ((F7_forget a1 m).1 = (F8_forget a1 (F7_forget a1 m).2).1) ∧ (I ((F8_forget a1 (F7_forget a1 m).2).2))
/-- judge -/
def OK26 (I : ax_M → Prop) (m : ax_M) : Prop := (D7_judge m) ∧ (D8_judge (F7_judge m).2) ∧ ((F7_judge m).1 = (F8_judge (F7_judge m).2).1) ∧ (I ((F8_judge (F7_judge m).2).2))
/-- late -/
def OK27 (I : ax_M → Prop) (m : ax_M) : Prop := ∀ a1 : Int32, (D7_late a1 m) ∧ (D8_late a1 (F7_late a1 m).2) ∧ ((F7_late a1 m).1 = (F8_late a1 (F7_late a1 m).2).1) ∧ (I ((F8_late a1 (F7_late a1 m).2).2))
/-- fits -/
def OK28 (I : ax_M → Prop) (m : ax_M) : Prop := ∀ a1 a2 a3 : Int32, (D7_fits a1 a2 a3 m) ∧ (D8_fits a1 a2 a3 (F7_fits a1 a2 a3 m).2) ∧ ((F7_fits a1 a2 a3 m).1 = (F8_fits a1 a2 a3 (F7_fits a1 a2 a3 m).2).1) ∧ (I ((F8_fits a1 a2 a3 (F7_fits a1 a2 a3 m).2).2))
/-- season -/
def OK29 (I : ax_M → Prop) (m : ax_M) : Prop := ∀ a1 a2 a3 : Int32, (D7_season a1 a2 a3 m) ∧ (D8_season a1 a2 a3 (F7_season a1 a2 a3 m).2) ∧ ((F7_season a1 a2 a3 m).1 = (F8_season a1 a2 a3 (F7_season a1 a2 a3 m).2).1) ∧ (I ((F8_season a1 a2 a3 (F7_season a1 a2 a3 m).2).2))
/-- keep -/
def OK30 (I : ax_M → Prop) (m : ax_M) : Prop := ∀ a1 : Int32, (D7_keep a1 m) ∧ (D8_keep a1 (F7_keep a1 m).2) ∧ ((F7_keep a1 m).1 = (F8_keep a1 (F7_keep a1 m).2).1) ∧ (I ((F8_keep a1 (F7_keep a1 m).2).2))
/-- back -/
def OK31 (I : ax_M → Prop) (m : ax_M) : Prop := ∀ a1 : Int32, (D7_back a1 m) ∧ (D8_back a1 (F7_back a1 m).2) ∧ ((F7_back a1 m).1 = (F8_back a1 (F7_back a1 m).2).1) ∧ (I ((F8_back a1 (F7_back a1 m).2).2))
/-- sheet -/
def OK32 (I : ax_M → Prop) (m : ax_M) : Prop := ∀ a1 a2 a3 : Int32, (D7_sheet a1 a2 a3 m) ∧ (D8_sheet a1 a2 a3 (F7_sheet a1 a2 a3 m).2) ∧ ((F7_sheet a1 a2 a3 m).1 = (F8_sheet a1 a2 a3 (F7_sheet a1 a2 a3 m).2).1) ∧ (I ((F8_sheet a1 a2 a3 (F7_sheet a1 a2 a3 m).2).2))
/-- lay -/
def OK33 (I : ax_M → Prop) (m : ax_M) : Prop := ∀ a1 a2 a3 : Int32, (D8_lay a1 a2 a3 (F7_lay a1 a2 a3 m).2) ∧ ((F7_lay a1 a2 a3 m).1 = (F8_lay a1 a2 a3 (F7_lay a1 a2 a3 m).2).1) ∧ (I ((F8_lay a1 a2 a3 (F7_lay a1 a2 a3 m).2).2))
/-- read -/
def OK34 (I : ax_M → Prop) (m : ax_M) : Prop := ∀ a1 a2 a3 a4 : Int32, (D7_read a1 a2 a3 a4 m) ∧ (D8_read a1 a2 a3 a4 (F7_read a1 a2 a3 a4 m).2) ∧ ((F7_read a1 a2 a3 a4 m).1 = (F8_read a1 a2 a3 a4 (F7_read a1 a2 a3 a4 m).2).1) ∧ (I ((F8_read a1 a2 a3 a4 (F7_read a1 a2 a3 a4 m).2).2))
/-- torn -/
def OK35 (I : ax_M → Prop) (m : ax_M) : Prop := ((F7_torn m) = (F8_torn m)) ∧ (I m)
/-- count -/
def OK36 (I : ax_M → Prop) (m : ax_M) : Prop := ∀ a1 : Int32, (D7_count a1 m) ∧ (D8_count a1 m) ∧ ((F7_count a1 m) = (F8_count a1 m)) ∧ (I m)
def OKall (I : ax_M → Prop) (m : ax_M) : Prop := OK0 I m ∧ OK1 I m ∧ OK2 I m ∧ OK3 I m ∧ OK4 I m ∧ OK5 I m ∧ OK6 I m ∧ OK7 I m ∧ OK8 I m ∧ OK9 I m ∧ OK10 I m ∧ OK11 I m ∧ OK12 I m ∧ OK13 I m ∧ OK14 I m ∧ OK15 I m ∧ OK16 I m ∧ OK17 I m ∧ OK18 I m ∧ OK19 I m ∧ OK20 I m ∧ OK21 I m ∧ OK22 I m ∧ OK23 I m ∧ OK24 I m ∧ OK25 I m ∧ OK26 I m ∧ OK27 I m ∧ OK28 I m ∧ OK29 I m ∧ OK30 I m ∧ OK31 I m ∧ OK32 I m ∧ OK33 I m ∧ OK34 I m ∧ OK35 I m ∧ OK36 I m
