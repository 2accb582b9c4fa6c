set_option maxHeartbeats 4000000 in
set_option maxRecDepth 100000 in
theorem kX10_readItem {ad : Nat → Nat} {G : Gh}  {u : Mem} {q : Mem} (hf : FX10_readItem u = some q) : Ct shs ad G yX10_readItem cX10_readItem 5 none 6 130 [.ref (ad 116)] u none q := by
  refine Ct_ofV (by decide) (Nat.le_of_ble_eq_true rfl) (fun X C hnL K => ?_)
  have C : Cx ad G X cX10_readItem "CarryFairModel" 6 130 := C
  unfold FX10_readItem at hf
  have JX10_readItem_264 : ∀ (v1 : Int32) (w : Mem), JX10_readItem_264 v1 w = some q → V shs ad G X 264 [(0, .ref (ad 116)), (1, .int v1)] [] w := by
    intro v1 w hf
    unfold JX10_readItem_264 at hf
    refine V_aload_n C 0 dX10_readItem_264 rfl rfl rfl ?_
    refine V_aload_n C 0 dX10_readItem_265 rfl rfl rfl ?_
    refine V_ldcwS C (i := 15) (tx := "ware") dX10_readItem_266 rfl (by decide +kernel) ?_
    obtain ⟨q3, hq3, hf⟩ := obd hf
    refine V_cVi C (b := 116) (As := [.ref (ad (1000 + 15))]) (st := [.ref (ad 116)]) cf10 rfl M_X10_isWord w1554 ⟨by decide, by decide⟩ rfl rfl (Nat.le_of_ble_eq_true rfl) dX10_readItem_269 rfl (kX10_isWord (by decide) hq3) ?_
    refine V_if_eq C dX10_readItem_272 (tgt := 288) rfl rfl (fun c14 => ?_) (fun c14 => ?_)
    · replace hf := ipos c14 hf
      refine V_iconst C dX10_readItem_288 rfl (v := 0) rfl ?_
      obtain ⟨q4, hq4, hf⟩ := obd hf
      refine V_cVv C (b := 116) (As := [.int 0]) (st := []) cf10 rfl M_X10_must w1560 ⟨by decide, by decide⟩ rfl rfl (Nat.le_of_ble_eq_true rfl) dX10_readItem_289 rfl (kX10_must hq4) ?_
      refine V_aload_n C 0 dX10_readItem_292 rfl rfl rfl ?_
      refine V_dup C dX10_readItem_293 rfl rfl ?_
      refine V_getI C cf10 rfl 25 rfl (by decide) w1107 rfl dX10_readItem_294 rfl ?_
      refine V_iconst C dX10_readItem_297 rfl (v := 1) rfl ?_
      refine V_iadd C dX10_readItem_298 rfl ?_
      refine V_put C cf10 rfl 25 rfl (by decide) w1107 rfl rfl rfl rfl dX10_readItem_299 rfl ?_
      refine V_aload_n C 0 dX10_readItem_302 rfl rfl rfl ?_
      refine V_bipush C dX10_readItem_303 rfl (v := 12) rfl ?_
      refine V_aload_n C 0 dX10_readItem_305 rfl rfl rfl ?_
      refine V_iconst C dX10_readItem_306 rfl (v := 1) rfl ?_
      refine V_sipush C dX10_readItem_307 rfl (v := 9999) rfl ?_
      obtain ⟨q5, hq5, hf⟩ := obd hf
      refine V_cVi C (b := 116) (As := [.int 1, .int 9999]) (st := [.int 12, .ref (ad 116)]) cf10 rfl M_X10_number w1569 ⟨by decide, by decide⟩ rfl rfl (Nat.le_of_ble_eq_true rfl) dX10_readItem_310 rfl (kX10_number hq5) ?_
      refine V_iconst C dX10_readItem_313 rfl (v := 0) rfl ?_
      refine V_iconst C dX10_readItem_314 rfl (v := 0) rfl ?_
      refine V_iconst C dX10_readItem_315 rfl (v := 0) rfl ?_
      obtain ⟨q6, hq6, hf⟩ := obd hf
      refine V_cVv C (b := 116) (As := [.int 12, .int q5.1, .int 0, .int 0, .int 0]) (st := []) cf10 rfl M_X10_item w1574 ⟨by decide, by decide⟩ rfl rfl (Nat.le_of_ble_eq_true rfl) dX10_readItem_316 rfl (kX10_item hq6) ?_
      obtain rfl := Option.some.inj hf
      exact K _ _ dX10_readItem_319 rfl
    · replace hf := ineg c14 hf
      refine V_aload_n C 0 dX10_readItem_275 rfl rfl rfl ?_
      refine V_getI C cf10 rfl 25 rfl (by decide) w1107 rfl dX10_readItem_276 rfl ?_
      refine V_bipush C dX10_readItem_279 rfl (v := 6) rfl ?_
      refine V_icmp_ge C dX10_readItem_281 (tgt := 288) rfl rfl (fun c13 => ?_) (fun c13 => ?_)
      · replace hf := ipos c13 hf
        refine V_iconst C dX10_readItem_288 rfl (v := 0) rfl ?_
        obtain ⟨q7, hq7, hf⟩ := obd hf
        refine V_cVv C (b := 116) (As := [.int 0]) (st := []) cf10 rfl M_X10_must w1560 ⟨by decide, by decide⟩ rfl rfl (Nat.le_of_ble_eq_true rfl) dX10_readItem_289 rfl (kX10_must hq7) ?_
        refine V_aload_n C 0 dX10_readItem_292 rfl rfl rfl ?_
        refine V_dup C dX10_readItem_293 rfl rfl ?_
        refine V_getI C cf10 rfl 25 rfl (by decide) w1107 rfl dX10_readItem_294 rfl ?_
        refine V_iconst C dX10_readItem_297 rfl (v := 1) rfl ?_
        refine V_iadd C dX10_readItem_298 rfl ?_
        refine V_put C cf10 rfl 25 rfl (by decide) w1107 rfl rfl rfl rfl dX10_readItem_299 rfl ?_
        refine V_aload_n C 0 dX10_readItem_302 rfl rfl rfl ?_
        refine V_bipush C dX10_readItem_303 rfl (v := 12) rfl ?_
        refine V_aload_n C 0 dX10_readItem_305 rfl rfl rfl ?_
        refine V_iconst C dX10_readItem_306 rfl (v := 1) rfl ?_
        refine V_sipush C dX10_readItem_307 rfl (v := 9999) rfl ?_
        obtain ⟨q8, hq8, hf⟩ := obd hf
        refine V_cVi C (b := 116) (As := [.int 1, .int 9999]) (st := [.int 12, .ref (ad 116)]) cf10 rfl M_X10_number w1569 ⟨by decide, by decide⟩ rfl rfl (Nat.le_of_ble_eq_true rfl) dX10_readItem_310 rfl (kX10_number hq8) ?_
        refine V_iconst C dX10_readItem_313 rfl (v := 0) rfl ?_
        refine V_iconst C dX10_readItem_314 rfl (v := 0) rfl ?_
        refine V_iconst C dX10_readItem_315 rfl (v := 0) rfl ?_
        obtain ⟨q9, hq9, hf⟩ := obd hf
        refine V_cVv C (b := 116) (As := [.int 12, .int q8.1, .int 0, .int 0, .int 0]) (st := []) cf10 rfl M_X10_item w1574 ⟨by decide, by decide⟩ rfl rfl (Nat.le_of_ble_eq_true rfl) dX10_readItem_316 rfl (kX10_item hq9) ?_
        obtain rfl := Option.some.inj hf
        exact K _ _ dX10_readItem_319 rfl
      · replace hf := ineg c13 hf
        refine V_iconst C dX10_readItem_284 rfl (v := 1) rfl ?_
        refine V_goto C dX10_readItem_285 (tgt := 289) rfl ?_
        obtain ⟨q10, hq10, hf⟩ := obd hf
        refine V_cVv C (b := 116) (As := [.int 1]) (st := []) cf10 rfl M_X10_must w1560 ⟨by decide, by decide⟩ rfl rfl (Nat.le_of_ble_eq_true rfl) dX10_readItem_289 rfl (kX10_must hq10) ?_
        refine V_aload_n C 0 dX10_readItem_292 rfl rfl rfl ?_
        refine V_dup C dX10_readItem_293 rfl rfl ?_
        refine V_getI C cf10 rfl 25 rfl (by decide) w1107 rfl dX10_readItem_294 rfl ?_
        refine V_iconst C dX10_readItem_297 rfl (v := 1) rfl ?_
        refine V_iadd C dX10_readItem_298 rfl ?_
        refine V_put C cf10 rfl 25 rfl (by decide) w1107 rfl rfl rfl rfl dX10_readItem_299 rfl ?_
        refine V_aload_n C 0 dX10_readItem_302 rfl rfl rfl ?_
        refine V_bipush C dX10_readItem_303 rfl (v := 12) rfl ?_
        refine V_aload_n C 0 dX10_readItem_305 rfl rfl rfl ?_
        refine V_iconst C dX10_readItem_306 rfl (v := 1) rfl ?_
        refine V_sipush C dX10_readItem_307 rfl (v := 9999) rfl ?_
        obtain ⟨q11, hq11, hf⟩ := obd hf
        refine V_cVi C (b := 116) (As := [.int 1, .int 9999]) (st := [.int 12, .ref (ad 116)]) cf10 rfl M_X10_number w1569 ⟨by decide, by decide⟩ rfl rfl (Nat.le_of_ble_eq_true rfl) dX10_readItem_310 rfl (kX10_number hq11) ?_
        refine V_iconst C dX10_readItem_313 rfl (v := 0) rfl ?_
        refine V_iconst C dX10_readItem_314 rfl (v := 0) rfl ?_
        refine V_iconst C dX10_readItem_315 rfl (v := 0) rfl ?_
        obtain ⟨q12, hq12, hf⟩ := obd hf
        refine V_cVv C (b := 116) (As := [.int 12, .int q11.1, .int 0, .int 0, .int 0]) (st := []) cf10 rfl M_X10_item w1574 ⟨by decide, by decide⟩ rfl rfl (Nat.le_of_ble_eq_true rfl) dX10_readItem_316 rfl (kX10_item hq12) ?_
        obtain rfl := Option.some.inj hf
        exact K _ _ dX10_readItem_319 rfl
  have JX10_readItem_196 : ∀ (v1 : Int32) (s1 : Int32) (w : Mem), JX10_readItem_196 v1 s1 w = some q → V shs ad G X 196 [(0, .ref (ad 116)), (1, .int v1)] [.int s1, .ref (ad 116)] w := by
    intro v1 s1 w hf
    unfold JX10_readItem_196 at hf
    obtain ⟨q16, hq16, hf⟩ := obd hf
    refine V_cVv C (b := 116) (As := [.int s1]) (st := []) cf10 rfl M_X10_must w1560 ⟨by decide, by decide⟩ rfl rfl (Nat.le_of_ble_eq_true rfl) dX10_readItem_196 rfl (kX10_must hq16) ?_
    refine V_aload_n C 0 dX10_readItem_199 rfl rfl rfl ?_
    refine V_dup C dX10_readItem_200 rfl rfl ?_
    refine V_getI C cf10 rfl 24 rfl (by decide) w1106 rfl dX10_readItem_201 rfl ?_
    refine V_iconst C dX10_readItem_204 rfl (v := 1) rfl ?_
    refine V_iadd C dX10_readItem_205 rfl ?_
    refine V_put C cf10 rfl 24 rfl (by decide) w1106 rfl rfl rfl rfl dX10_readItem_206 rfl ?_
    refine V_aload_n C 0 dX10_readItem_209 rfl rfl rfl ?_
    refine V_iconst C dX10_readItem_210 rfl (v := 1) rfl ?_
    refine V_bipush C dX10_readItem_211 rfl (v := 60) rfl ?_
    obtain ⟨q17, hq17, hf⟩ := obd hf
    refine V_cVi C (b := 116) (As := [.int 1, .int 60]) (st := []) cf10 rfl M_X10_number w1569 ⟨by decide, by decide⟩ rfl rfl (Nat.le_of_ble_eq_true rfl) dX10_readItem_213 rfl (kX10_number hq17) ?_
    refine V_istore_n C (L' := [(0, .ref (ad 116)), (1, .int v1), (2, .int q17.1)]) dX10_readItem_216 rfl rfl (by decide) hnL [1, 2, 0] rfl ?_
    refine V_aload_n C 0 dX10_readItem_217 rfl rfl rfl ?_
    refine V_aload_n C 0 dX10_readItem_218 rfl rfl rfl ?_
    refine V_ldcwS C (i := 13) (tx := "from") dX10_readItem_219 rfl (by decide +kernel) ?_
    obtain ⟨q18, hq18, hf⟩ := obd hf
    refine V_cVi C (b := 116) (As := [.ref (ad (1000 + 13))]) (st := [.ref (ad 116)]) cf10 rfl M_X10_isWord w1554 ⟨by decide, by decide⟩ rfl rfl (Nat.le_of_ble_eq_true rfl) dX10_readItem_222 rfl (kX10_isWord (by decide) hq18) ?_
    obtain ⟨q19, hq19, hf⟩ := obd hf
    refine V_cVv C (b := 116) (As := [.int q18]) (st := []) cf10 rfl M_X10_must w1560 ⟨by decide, by decide⟩ rfl rfl (Nat.le_of_ble_eq_true rfl) dX10_readItem_225 rfl (kX10_must hq19) ?_
    refine V_aload_n C 0 dX10_readItem_228 rfl rfl rfl ?_
    refine V_iconst C dX10_readItem_229 rfl (v := 0) rfl ?_
    refine V_bipush C dX10_readItem_230 rfl (v := 6) rfl ?_
    obtain ⟨q20, hq20, hf⟩ := obd hf
    refine V_cVi C (b := 116) (As := [.int 0, .int 6]) (st := []) cf10 rfl M_X10_number w1569 ⟨by decide, by decide⟩ rfl rfl (Nat.le_of_ble_eq_true rfl) dX10_readItem_232 rfl (kX10_number hq20) ?_
    refine V_istore_n C (L' := [(0, .ref (ad 116)), (1, .int v1), (2, .int q17.1), (3, .int q20.1)]) dX10_readItem_235 rfl rfl (by decide) hnL [1, 2, 3, 0] rfl ?_
    refine V_aload_n C 0 dX10_readItem_236 rfl rfl rfl ?_
    refine V_aload_n C 0 dX10_readItem_237 rfl rfl rfl ?_
    refine V_ldcwS C (i := 14) (tx := "to") dX10_readItem_238 rfl (by decide +kernel) ?_
    obtain ⟨q21, hq21, hf⟩ := obd hf
    refine V_cVi C (b := 116) (As := [.ref (ad (1000 + 14))]) (st := [.ref (ad 116)]) cf10 rfl M_X10_isWord w1554 ⟨by decide, by decide⟩ rfl rfl (Nat.le_of_ble_eq_true rfl) dX10_readItem_241 rfl (kX10_isWord (by decide) hq21) ?_
    obtain ⟨q22, hq22, hf⟩ := obd hf
    refine V_cVv C (b := 116) (As := [.int q21]) (st := []) cf10 rfl M_X10_must w1560 ⟨by decide, by decide⟩ rfl rfl (Nat.le_of_ble_eq_true rfl) dX10_readItem_244 rfl (kX10_must hq22) ?_
    refine V_aload_n C 0 dX10_readItem_247 rfl rfl rfl ?_
    refine V_bipush C dX10_readItem_248 rfl (v := 11) rfl ?_
    refine V_iload_n C 2 dX10_readItem_250 rfl rfl rfl ?_
    refine V_iload_n C 3 dX10_readItem_251 rfl rfl rfl ?_
    refine V_aload_n C 0 dX10_readItem_252 rfl rfl rfl ?_
    refine V_iload_n C 3 dX10_readItem_253 rfl rfl rfl ?_
    obtain ⟨q23, hq23, hf⟩ := obd hf
    refine V_cVi C (b := 116) (As := [.int q20.1]) (st := [.int q20.1, .int q17.1, .int 11, .ref (ad 116)]) cf10 rfl M_X10_unlike w1579 ⟨by decide, by decide⟩ rfl rfl (Nat.le_of_ble_eq_true rfl) dX10_readItem_254 rfl (kX10_unlike hq23) ?_
    refine V_iconst C dX10_readItem_257 rfl (v := 0) rfl ?_
    obtain ⟨q24, hq24, hf⟩ := obd hf
    refine V_cVv C (b := 116) (As := [.int 11, .int q17.1, .int q20.1, .int q23.1, .int 0]) (st := []) cf10 rfl M_X10_item w1574 ⟨by decide, by decide⟩ rfl rfl (Nat.le_of_ble_eq_true rfl) dX10_readItem_258 rfl (kX10_item hq24) ?_
    refine V_goto C dX10_readItem_261 (tgt := 319) rfl ?_
    obtain rfl := Option.some.inj hf
    exact K _ _ dX10_readItem_319 rfl
  have JX10_readItem_24 : ∀ (v1 : Int32) (s1 : Int32) (w : Mem), JX10_readItem_24 v1 s1 w = some q → V shs ad G X 24 [(0, .ref (ad 116)), (1, .int v1)] [.int s1, .ref (ad 116)] w := by
    intro v1 s1 w hf
    unfold JX10_readItem_24 at hf
    obtain ⟨q38, hq38, hf⟩ := obd hf
    refine V_cVv C (b := 116) (As := [.int s1]) (st := []) cf10 rfl M_X10_must w1560 ⟨by decide, by decide⟩ rfl rfl (Nat.le_of_ble_eq_true rfl) dX10_readItem_24 rfl (kX10_must hq38) ?_
    refine V_aload_n C 0 dX10_readItem_27 rfl rfl rfl ?_
    refine V_dup C dX10_readItem_28 rfl rfl ?_
    refine V_getI C cf10 rfl 23 rfl (by decide) w1105 rfl dX10_readItem_29 rfl ?_
    refine V_iconst C dX10_readItem_32 rfl (v := 1) rfl ?_
    refine V_iadd C dX10_readItem_33 rfl ?_
    refine V_put C cf10 rfl 23 rfl (by decide) w1105 rfl rfl rfl rfl dX10_readItem_34 rfl ?_
    refine V_aload_n C 0 dX10_readItem_37 rfl rfl rfl ?_
    refine V_ldcwS C (i := 7) (tx := "at") dX10_readItem_38 rfl (by decide +kernel) ?_
    obtain ⟨q39, hq39, hf⟩ := obd hf
    refine V_cVi C (b := 116) (As := [.ref (ad (1000 + 7))]) (st := []) cf10 rfl M_X10_isNext w1565 ⟨by decide, by decide⟩ rfl rfl (Nat.le_of_ble_eq_true rfl) dX10_readItem_41 rfl (kX10_isNext (by decide) hq39) ?_
    refine V_if_eq C dX10_readItem_44 (tgt := 57) rfl rfl (fun c51 => ?_) (fun c51 => ?_)
    · replace hf := ipos c51 hf
      refine V_iconst C dX10_readItem_57 rfl (v := 0) rfl ?_
      refine V_istore_n C (L' := [(0, .ref (ad 116)), (1, .int v1), (2, .int 0)]) dX10_readItem_58 rfl rfl (by decide) hnL [1, 2, 0] rfl ?_
      refine V_aload_n C 0 dX10_readItem_59 rfl rfl rfl ?_
      refine V_iload_n C 1 dX10_readItem_60 rfl rfl rfl ?_
      refine V_iload_n C 2 dX10_readItem_61 rfl rfl rfl ?_
      refine V_aload_n C 0 dX10_readItem_62 rfl rfl rfl ?_
      refine V_ldcwS C (i := 8) (tx := "strong") dX10_readItem_63 rfl (by decide +kernel) ?_
      obtain ⟨q40, hq40, hf⟩ := obd hf
      refine V_cVi C (b := 116) (As := [.ref (ad (1000 + 8))]) (st := [.int 0, .int v1, .ref (ad 116)]) cf10 rfl M_X10_isNext w1565 ⟨by decide, by decide⟩ rfl rfl (Nat.le_of_ble_eq_true rfl) dX10_readItem_66 rfl (kX10_isNext (by decide) hq40) ?_
      refine V_if_eq C dX10_readItem_69 (tgt := 82) rfl rfl (fun c44 => ?_) (fun c44 => ?_)
      · replace hf := ipos c44 hf
        refine V_bipush C dX10_readItem_82 rfl (v := 20) rfl ?_
        refine V_iconst C dX10_readItem_84 rfl (v := 0) rfl ?_
        refine V_iconst C dX10_readItem_85 rfl (v := 0) rfl ?_
        obtain ⟨q41, hq41, hf⟩ := obd hf
        refine V_cVv C (b := 116) (As := [.int v1, .int 0, .int 20, .int 0, .int 0]) (st := []) cf10 rfl M_X10_item w1574 ⟨by decide, by decide⟩ rfl rfl (Nat.le_of_ble_eq_true rfl) dX10_readItem_86 rfl (kX10_item hq41) ?_
        refine V_goto C dX10_readItem_89 (tgt := 319) rfl ?_
        obtain rfl := Option.some.inj hf
        exact K _ _ dX10_readItem_319 rfl
      · replace hf := ineg c44 hf
        refine V_aload_n C 0 dX10_readItem_72 rfl rfl rfl ?_
        refine V_iconst C dX10_readItem_73 rfl (v := 1) rfl ?_
        refine V_bipush C dX10_readItem_74 rfl (v := 99) rfl ?_
        obtain ⟨q42, hq42, hf⟩ := obd hf
        refine V_cVi C (b := 116) (As := [.int 1, .int 99]) (st := [.int 0, .int v1, .ref (ad 116)]) cf10 rfl M_X10_number w1569 ⟨by decide, by decide⟩ rfl rfl (Nat.le_of_ble_eq_true rfl) dX10_readItem_76 rfl (kX10_number hq42) ?_
        refine V_goto C dX10_readItem_79 (tgt := 84) rfl ?_
        refine V_iconst C dX10_readItem_84 rfl (v := 0) rfl ?_
        refine V_iconst C dX10_readItem_85 rfl (v := 0) rfl ?_
        obtain ⟨q43, hq43, hf⟩ := obd hf
        refine V_cVv C (b := 116) (As := [.int v1, .int 0, .int q42.1, .int 0, .int 0]) (st := []) cf10 rfl M_X10_item w1574 ⟨by decide, by decide⟩ rfl rfl (Nat.le_of_ble_eq_true rfl) dX10_readItem_86 rfl (kX10_item hq43) ?_
        refine V_goto C dX10_readItem_89 (tgt := 319) rfl ?_
        obtain rfl := Option.some.inj hf
        exact K _ _ dX10_readItem_319 rfl
    · replace hf := ineg c51 hf
      refine V_aload_n C 0 dX10_readItem_47 rfl rfl rfl ?_
      refine V_iconst C dX10_readItem_48 rfl (v := 0) rfl ?_
      refine V_bipush C dX10_readItem_49 rfl (v := 6) rfl ?_
      obtain ⟨q45, hq45, hf⟩ := obd hf
      refine V_cVi C (b := 116) (As := [.int 0, .int 6]) (st := []) cf10 rfl M_X10_number w1569 ⟨by decide, by decide⟩ rfl rfl (Nat.le_of_ble_eq_true rfl) dX10_readItem_51 rfl (kX10_number hq45) ?_
      refine V_goto C dX10_readItem_54 (tgt := 58) rfl ?_
      refine V_istore_n C (L' := [(0, .ref (ad 116)), (1, .int v1), (2, .int q45.1)]) dX10_readItem_58 rfl rfl (by decide) hnL [1, 2, 0] rfl ?_
      refine V_aload_n C 0 dX10_readItem_59 rfl rfl rfl ?_
      refine V_iload_n C 1 dX10_readItem_60 rfl rfl rfl ?_
      refine V_iload_n C 2 dX10_readItem_61 rfl rfl rfl ?_
      refine V_aload_n C 0 dX10_readItem_62 rfl rfl rfl ?_
      refine V_ldcwS C (i := 8) (tx := "strong") dX10_readItem_63 rfl (by decide +kernel) ?_
      obtain ⟨q46, hq46, hf⟩ := obd hf
      refine V_cVi C (b := 116) (As := [.ref (ad (1000 + 8))]) (st := [.int q45.1, .int v1, .ref (ad 116)]) cf10 rfl M_X10_isNext w1565 ⟨by decide, by decide⟩ rfl rfl (Nat.le_of_ble_eq_true rfl) dX10_readItem_66 rfl (kX10_isNext (by decide) hq46) ?_
      refine V_if_eq C dX10_readItem_69 (tgt := 82) rfl rfl (fun c50 => ?_) (fun c50 => ?_)
      · replace hf := ipos c50 hf
        refine V_bipush C dX10_readItem_82 rfl (v := 20) rfl ?_
        refine V_iconst C dX10_readItem_84 rfl (v := 0) rfl ?_
        refine V_iconst C dX10_readItem_85 rfl (v := 0) rfl ?_
        obtain ⟨q47, hq47, hf⟩ := obd hf
        refine V_cVv C (b := 116) (As := [.int v1, .int q45.1, .int 20, .int 0, .int 0]) (st := []) cf10 rfl M_X10_item w1574 ⟨by decide, by decide⟩ rfl rfl (Nat.le_of_ble_eq_true rfl) dX10_readItem_86 rfl (kX10_item hq47) ?_
        refine V_goto C dX10_readItem_89 (tgt := 319) rfl ?_
        obtain rfl := Option.some.inj hf
        exact K _ _ dX10_readItem_319 rfl
      · replace hf := ineg c50 hf
        refine V_aload_n C 0 dX10_readItem_72 rfl rfl rfl ?_
        refine V_iconst C dX10_readItem_73 rfl (v := 1) rfl ?_
        refine V_bipush C dX10_readItem_74 rfl (v := 99) rfl ?_
        obtain ⟨q48, hq48, hf⟩ := obd hf
        refine V_cVi C (b := 116) (As := [.int 1, .int 99]) (st := [.int q45.1, .int v1, .ref (ad 116)]) cf10 rfl M_X10_number w1569 ⟨by decide, by decide⟩ rfl rfl (Nat.le_of_ble_eq_true rfl) dX10_readItem_76 rfl (kX10_number hq48) ?_
        refine V_goto C dX10_readItem_79 (tgt := 84) rfl ?_
        refine V_iconst C dX10_readItem_84 rfl (v := 0) rfl ?_
        refine V_iconst C dX10_readItem_85 rfl (v := 0) rfl ?_
        obtain ⟨q49, hq49, hf⟩ := obd hf
        refine V_cVv C (b := 116) (As := [.int v1, .int q45.1, .int q48.1, .int 0, .int 0]) (st := []) cf10 rfl M_X10_item w1574 ⟨by decide, by decide⟩ rfl rfl (Nat.le_of_ble_eq_true rfl) dX10_readItem_86 rfl (kX10_item hq49) ?_
        refine V_goto C dX10_readItem_89 (tgt := 319) rfl ?_
        obtain rfl := Option.some.inj hf
        exact K _ _ dX10_readItem_319 rfl
  refine V_aload_n C 0 dX10_readItem_0 rfl rfl rfl ?_
  obtain ⟨q1, hq1, hf⟩ := obd hf
  refine V_cVi C (b := 116) (As := []) (st := []) cf10 rfl M_X10_kindTold w1550 ⟨by decide, by decide⟩ rfl rfl (Nat.le_of_ble_eq_true rfl) dX10_readItem_1 rfl (kX10_kindTold hq1) ?_
  refine V_istore_n C (L' := [(0, .ref (ad 116)), (1, .int q1)]) dX10_readItem_4 rfl rfl (by decide) hnL [1, 0] rfl ?_
  refine V_iload_n C 1 dX10_readItem_5 rfl rfl rfl ?_
  refine V_if_lt C dX10_readItem_6 (tgt := 92) rfl rfl (fun c53 => ?_) (fun c53 => ?_)
  · replace hf := ipos c53 hf
    refine V_aload_n C 0 dX10_readItem_92 rfl rfl rfl ?_
    refine V_ldcwS C (i := 9) (tx := "way") dX10_readItem_93 rfl (by decide +kernel) ?_
    obtain ⟨q2, hq2, hf⟩ := obd hf
    refine V_cVi C (b := 116) (As := [.ref (ad (1000 + 9))]) (st := []) cf10 rfl M_X10_isNext w1565 ⟨by decide, by decide⟩ rfl rfl (Nat.le_of_ble_eq_true rfl) dX10_readItem_96 rfl (kX10_isNext (by decide) hq2) ?_
    refine V_if_eq C dX10_readItem_99 (tgt := 164) rfl rfl (fun c37 => ?_) (fun c37 => ?_)
    · replace hf := ipos c37 hf
      refine V_aload_n C 0 dX10_readItem_164 rfl rfl rfl ?_
      refine V_getI C cf10 rfl 19 rfl (by decide) w1101 rfl dX10_readItem_165 rfl ?_
      refine V_if_ne C dX10_readItem_168 (tgt := 264) rfl rfl (fun c27 => ?_) (fun c27 => ?_)
      · replace hf := ineg c27 hf
        exact JX10_readItem_264 q1 q2.2 hf
      · replace hf := ipos c27 hf
        refine V_aload_n C 0 dX10_readItem_171 rfl rfl rfl ?_
        refine V_ldcwS C (i := 12) (tx := "errand") dX10_readItem_172 rfl (by decide +kernel) ?_
        obtain ⟨q15, hq15, hf⟩ := obd hf
        refine V_cVi C (b := 116) (As := [.ref (ad (1000 + 12))]) (st := []) cf10 rfl M_X10_isWord w1554 ⟨by decide, by decide⟩ rfl rfl (Nat.le_of_ble_eq_true rfl) dX10_readItem_175 rfl (kX10_isWord (by decide) hq15) ?_
        refine V_if_eq C dX10_readItem_178 (tgt := 264) rfl rfl (fun c26 => ?_) (fun c26 => ?_)
        · replace hf := ipos c26 hf
          exact JX10_readItem_264 q1 q2.2 hf
        · replace hf := ineg c26 hf
          refine V_aload_n C 0 dX10_readItem_181 rfl rfl rfl ?_
          refine V_aload_n C 0 dX10_readItem_182 rfl rfl rfl ?_
          refine V_getI C cf10 rfl 24 rfl (by decide) w1106 rfl dX10_readItem_183 rfl ?_
          refine V_bipush C dX10_readItem_186 rfl (v := 8) rfl ?_
          refine V_icmp_ge C dX10_readItem_188 (tgt := 195) rfl rfl (fun c25 => ?_) (fun c25 => ?_)
          · replace hf := ipos c25 hf
            refine V_iconst C dX10_readItem_195 rfl (v := 0) rfl ?_
            exact JX10_readItem_196 q1 0 q2.2 hf
          · replace hf := ineg c25 hf
            refine V_iconst C dX10_readItem_191 rfl (v := 1) rfl ?_
            refine V_goto C dX10_readItem_192 (tgt := 196) rfl ?_
            exact JX10_readItem_196 q1 1 q2.2 hf
    · replace hf := ineg c37 hf
      refine V_aload_n C 0 dX10_readItem_102 rfl rfl rfl ?_
      refine V_iconst C dX10_readItem_103 rfl (v := 0) rfl ?_
      refine V_bipush C dX10_readItem_104 rfl (v := 6) rfl ?_
      obtain ⟨q28, hq28, hf⟩ := obd hf
      refine V_cVi C (b := 116) (As := [.int 0, .int 6]) (st := []) cf10 rfl M_X10_number w1569 ⟨by decide, by decide⟩ rfl rfl (Nat.le_of_ble_eq_true rfl) dX10_readItem_106 rfl (kX10_number hq28) ?_
      refine V_istore_n C (L' := [(0, .ref (ad 116)), (1, .int q1), (2, .int q28.1)]) dX10_readItem_109 rfl rfl (by decide) hnL [1, 2, 0] rfl ?_
      refine V_aload_n C 0 dX10_readItem_110 rfl rfl rfl ?_
      refine V_iload_n C 2 dX10_readItem_111 rfl rfl rfl ?_
      obtain ⟨q29, hq29, hf⟩ := obd hf
      refine V_cVi C (b := 116) (As := [.int q28.1]) (st := []) cf10 rfl M_X10_unlike w1579 ⟨by decide, by decide⟩ rfl rfl (Nat.le_of_ble_eq_true rfl) dX10_readItem_112 rfl (kX10_unlike hq29) ?_
      refine V_istore_n C (L' := [(0, .ref (ad 116)), (1, .int q1), (2, .int q28.1), (3, .int q29.1)]) dX10_readItem_115 rfl rfl (by decide) hnL [1, 2, 3, 0] rfl ?_
      refine V_aload_n C 0 dX10_readItem_116 rfl rfl rfl ?_
      refine V_aload_n C 0 dX10_readItem_117 rfl rfl rfl ?_
      refine V_ldcwS C (i := 10) (tx := "yards") dX10_readItem_118 rfl (by decide +kernel) ?_
      obtain ⟨q30, hq30, hf⟩ := obd hf
      refine V_cVi C (b := 116) (As := [.ref (ad (1000 + 10))]) (st := [.ref (ad 116)]) cf10 rfl M_X10_isWord w1554 ⟨by decide, by decide⟩ rfl rfl (Nat.le_of_ble_eq_true rfl) dX10_readItem_121 rfl (kX10_isWord (by decide) hq30) ?_
      obtain ⟨q31, hq31, hf⟩ := obd hf
      refine V_cVv C (b := 116) (As := [.int q30]) (st := []) cf10 rfl M_X10_must w1560 ⟨by decide, by decide⟩ rfl rfl (Nat.le_of_ble_eq_true rfl) dX10_readItem_124 rfl (kX10_must hq31) ?_
      refine V_aload_n C 0 dX10_readItem_127 rfl rfl rfl ?_
      refine V_iconst C dX10_readItem_128 rfl (v := 0) rfl ?_
      refine V_bipush C dX10_readItem_129 rfl (v := 99) rfl ?_
      obtain ⟨q32, hq32, hf⟩ := obd hf
      refine V_cVi C (b := 116) (As := [.int 0, .int 99]) (st := []) cf10 rfl M_X10_number w1569 ⟨by decide, by decide⟩ rfl rfl (Nat.le_of_ble_eq_true rfl) dX10_readItem_131 rfl (kX10_number hq32) ?_
      refine V_istore C (L' := [(0, .ref (ad 116)), (1, .int q1), (2, .int q28.1), (3, .int q29.1), (4, .int q32.1)]) dX10_readItem_134 rfl (by decide) hnL [1, 2, 3, 4, 0] rfl ?_
      refine V_aload_n C 0 dX10_readItem_136 rfl rfl rfl ?_
      refine V_bipush C dX10_readItem_137 rfl (v := 10) rfl ?_
      refine V_iload_n C 2 dX10_readItem_139 rfl rfl rfl ?_
      refine V_iload_n C 3 dX10_readItem_140 rfl rfl rfl ?_
      refine V_iload C 4 dX10_readItem_141 rfl rfl ?_
      refine V_aload_n C 0 dX10_readItem_143 rfl rfl rfl ?_
      refine V_ldcwS C (i := 11) (tx := "river") dX10_readItem_144 rfl (by decide +kernel) ?_
      obtain ⟨q33, hq33, hf⟩ := obd hf
      refine V_cVi C (b := 116) (As := [.ref (ad (1000 + 11))]) (st := [.int q32.1, .int q29.1, .int q28.1, .int 10, .ref (ad 116)]) cf10 rfl M_X10_isNext w1565 ⟨by decide, by decide⟩ rfl rfl (Nat.le_of_ble_eq_true rfl) dX10_readItem_147 rfl (kX10_isNext (by decide) hq33) ?_
      refine V_if_eq C dX10_readItem_150 (tgt := 157) rfl rfl (fun c36 => ?_) (fun c36 => ?_)
      · replace hf := ipos c36 hf
        refine V_iconst C dX10_readItem_157 rfl (v := 0) rfl ?_
        obtain ⟨q34, hq34, hf⟩ := obd hf
        refine V_cVv C (b := 116) (As := [.int 10, .int q28.1, .int q29.1, .int q32.1, .int 0]) (st := []) cf10 rfl M_X10_item w1574 ⟨by decide, by decide⟩ rfl rfl (Nat.le_of_ble_eq_true rfl) dX10_readItem_158 rfl (kX10_item hq34) ?_
        refine V_goto C dX10_readItem_161 (tgt := 319) rfl ?_
        obtain rfl := Option.some.inj hf
        exact K _ _ dX10_readItem_319 rfl
      · replace hf := ineg c36 hf
        refine V_iconst C dX10_readItem_153 rfl (v := 1) rfl ?_
        refine V_goto C dX10_readItem_154 (tgt := 158) rfl ?_
        obtain ⟨q35, hq35, hf⟩ := obd hf
        refine V_cVv C (b := 116) (As := [.int 10, .int q28.1, .int q29.1, .int q32.1, .int 1]) (st := []) cf10 rfl M_X10_item w1574 ⟨by decide, by decide⟩ rfl rfl (Nat.le_of_ble_eq_true rfl) dX10_readItem_158 rfl (kX10_item hq35) ?_
        refine V_goto C dX10_readItem_161 (tgt := 319) rfl ?_
        obtain rfl := Option.some.inj hf
        exact K _ _ dX10_readItem_319 rfl
  · replace hf := ineg c53 hf
    refine V_aload_n C 0 dX10_readItem_9 rfl rfl rfl ?_
    refine V_aload_n C 0 dX10_readItem_10 rfl rfl rfl ?_
    refine V_getI C cf10 rfl 23 rfl (by decide) w1105 rfl dX10_readItem_11 rfl ?_
    refine V_bipush C dX10_readItem_14 rfl (v := 6) rfl ?_
    refine V_icmp_ge C dX10_readItem_16 (tgt := 23) rfl rfl (fun c52 => ?_) (fun c52 => ?_)
    · replace hf := ipos c52 hf
      refine V_iconst C dX10_readItem_23 rfl (v := 0) rfl ?_
      exact JX10_readItem_24 q1 0 u hf
    · replace hf := ineg c52 hf
      refine V_iconst C dX10_readItem_19 rfl (v := 1) rfl ?_
      refine V_goto C dX10_readItem_20 (tgt := 24) rfl ?_
      exact JX10_readItem_24 q1 1 u hf
set_option maxHeartbeats 4000000 in
set_option maxRecDepth 100000 in
theorem kX10_isSo {ad : Nat → Nat} {G : Gh} {p1 : Int32} {u : Mem} {q : Int32 × Mem} (hf : FX10_isSo p1 u = some q) : Ct shs ad G yX10_isSo cX10_isSo 5 (some .int) 3 68 [.ref (ad 116), .int p1] u (some (.int q.1)) q.2 := by
  refine Ct_ofI (by decide) (Nat.le_of_ble_eq_true rfl) (fun X C hnL K => ?_)
  have C : Cx ad G X cX10_isSo "CarryFairModel" 3 68 := C
  unfold FX10_isSo at hf
  refine V_aload_n C 0 dX10_isSo_0 rfl rfl rfl ?_
  refine V_getR C cf10 rfl 21 rfl (by decide) w1103 rfl dX10_isSo_1 rfl ?_
  refine V_iload_n C 1 dX10_isSo_4 rfl rfl rfl ?_
  refine V_iconst C dX10_isSo_5 rfl (v := 1) rfl ?_
  refine V_iadd C dX10_isSo_6 rfl ?_
  obtain ⟨g1, hf⟩ := gd hf
  refine V_ildJ C rfl g1 rfl dX10_isSo_7 rfl ?_
  refine V_istore_n C (L' := [(0, .ref (ad 116)), (1, .int p1), (2, .int (u 127 (p1 + 1).toNatClampNeg))]) dX10_isSo_8 rfl rfl (by decide) hnL [1, 2, 0] rfl ?_
  refine V_aload_n C 0 dX10_isSo_9 rfl rfl rfl ?_
  refine V_getR C cf10 rfl 21 rfl (by decide) w1103 rfl dX10_isSo_10 rfl ?_
  refine V_iload_n C 1 dX10_isSo_13 rfl rfl rfl ?_
  refine V_iconst C dX10_isSo_14 rfl (v := 2) rfl ?_
  refine V_iadd C dX10_isSo_15 rfl ?_
  obtain ⟨g2, hf⟩ := gd hf
  refine V_ildJ C rfl g2 rfl dX10_isSo_16 rfl ?_
  refine V_istore_n C (L' := [(0, .ref (ad 116)), (1, .int p1), (2, .int (u 127 (p1 + 1).toNatClampNeg)), (3, .int (u 127 (p1 + 2).toNatClampNeg))]) dX10_isSo_17 rfl rfl (by decide) hnL [1, 2, 3, 0] rfl ?_
  refine V_aload_n C 0 dX10_isSo_18 rfl rfl rfl ?_
  refine V_getR C cf10 rfl 21 rfl (by decide) w1103 rfl dX10_isSo_19 rfl ?_
  refine V_iload_n C 1 dX10_isSo_22 rfl rfl rfl ?_
  refine V_iconst C dX10_isSo_23 rfl (v := 3) rfl ?_
  refine V_iadd C dX10_isSo_24 rfl ?_
  obtain ⟨g3, hf⟩ := gd hf
  refine V_ildJ C rfl g3 rfl dX10_isSo_25 rfl ?_
  refine V_istore C (L' := [(0, .ref (ad 116)), (1, .int p1), (2, .int (u 127 (p1 + 1).toNatClampNeg)), (3, .int (u 127 (p1 + 2).toNatClampNeg)), (4, .int (u 127 (p1 + 3).toNatClampNeg))]) dX10_isSo_26 rfl (by decide) hnL [1, 2, 3, 4, 0] rfl ?_
  refine V_aload_n C 0 dX10_isSo_28 rfl rfl rfl ?_
  refine V_getR C cf10 rfl 21 rfl (by decide) w1103 rfl dX10_isSo_29 rfl ?_
  refine V_iload_n C 1 dX10_isSo_32 rfl rfl rfl ?_
  obtain ⟨g4, hf⟩ := gd hf
  refine V_ildJ C rfl g4 rfl dX10_isSo_33 rfl ?_
  by_cases c5 : (u 127 (p1).toNatClampNeg) = 10
  · replace hf := ipos c5 hf
    refine V_tin C dX10_isSo_34 10 c5 (by decide) (by decide) rfl (tgt := 60) rfl ?_
    refine V_aload_n C 0 dX10_isSo_60 rfl rfl rfl ?_
    refine V_iload_n C 2 dX10_isSo_61 rfl rfl rfl ?_
    refine V_iload_n C 3 dX10_isSo_62 rfl rfl rfl ?_
    refine V_iload C 4 dX10_isSo_63 rfl rfl ?_
    refine V_aload_n C 0 dX10_isSo_65 rfl rfl rfl ?_
    refine V_getR C cf10 rfl 21 rfl (by decide) w1103 rfl dX10_isSo_66 rfl ?_
    refine V_iload_n C 1 dX10_isSo_69 rfl rfl rfl ?_
    refine V_iconst C dX10_isSo_70 rfl (v := 4) rfl ?_
    refine V_iadd C dX10_isSo_71 rfl ?_
    obtain ⟨g6, hf⟩ := gd hf
    refine V_ildJ C rfl g6 rfl dX10_isSo_72 rfl ?_
    obtain ⟨q7, hq7, hf⟩ := obd hf
    refine V_cVi C (b := 116) (As := [.int (u 127 (p1 + 1).toNatClampNeg), .int (u 127 (p1 + 2).toNatClampNeg), .int (u 127 (p1 + 3).toNatClampNeg), .int (u 127 (p1 + 4).toNatClampNeg)]) (st := []) cf10 rfl M_X10_wayIs w1252 ⟨by decide, by decide⟩ rfl rfl (Nat.le_of_ble_eq_true rfl) dX10_isSo_73 rfl (kX10_wayIs hq7) ?_
    obtain rfl := Option.some.inj hf
    exact K _ _ _ dX10_isSo_76 rfl rfl
  replace hf := ineg c5 hf
  by_cases c8 : (u 127 (p1).toNatClampNeg) = 11
  · replace hf := ipos c8 hf
    refine V_tin C dX10_isSo_34 11 c8 (by decide) (by decide) rfl (tgt := 77) rfl ?_
    refine V_aload_n C 0 dX10_isSo_77 rfl rfl rfl ?_
    refine V_iload_n C 2 dX10_isSo_78 rfl rfl rfl ?_
    refine V_iload_n C 3 dX10_isSo_79 rfl rfl rfl ?_
    refine V_iload C 4 dX10_isSo_80 rfl rfl ?_
    obtain ⟨q9, hq9, hf⟩ := obd hf
    refine V_cVi C (b := 116) (As := [.int (u 127 (p1 + 1).toNatClampNeg), .int (u 127 (p1 + 2).toNatClampNeg), .int (u 127 (p1 + 3).toNatClampNeg)]) (st := []) cf10 rfl M_X10_newErrand w1269 ⟨by decide, by decide⟩ rfl rfl (Nat.le_of_ble_eq_true rfl) dX10_isSo_82 rfl (kX10_newErrand hq9) ?_
    obtain rfl := Option.some.inj hf
    exact K _ _ _ dX10_isSo_85 rfl rfl
  replace hf := ineg c8 hf
  by_cases c10 : (u 127 (p1).toNatClampNeg) = 12
  · replace hf := ipos c10 hf
    refine V_tin C dX10_isSo_34 12 c10 (by decide) (by decide) rfl (tgt := 86) rfl ?_
    refine V_aload_n C 0 dX10_isSo_86 rfl rfl rfl ?_
    refine V_iload_n C 2 dX10_isSo_87 rfl rfl rfl ?_
    obtain ⟨q11, hq11, hf⟩ := obd hf
    refine V_cVi C (b := 116) (As := [.int (u 127 (p1 + 1).toNatClampNeg)]) (st := []) cf10 rfl M_X10_newWare w1303 ⟨by decide, by decide⟩ rfl rfl (Nat.le_of_ble_eq_true rfl) dX10_isSo_88 rfl (kX10_newWare hq11) ?_
    obtain rfl := Option.some.inj hf
    exact K _ _ _ dX10_isSo_91 rfl rfl
  replace hf := ineg c10 hf
  refine V_tout C dX10_isSo_34 (by have nc5 := lv_neT (a := 10) c5 (by decide); have nc8 := lv_neT (a := 11) c8 (by decide); have nc10 := lv_neT (a := 12) c10 (by decide); omega) (tgt := 92) rfl ?_
  refine V_aload_n C 0 dX10_isSo_92 rfl rfl rfl ?_
  refine V_aload_n C 0 dX10_isSo_93 rfl rfl rfl ?_
  refine V_getR C cf10 rfl 21 rfl (by decide) w1103 rfl dX10_isSo_94 rfl ?_
  refine V_iload_n C 1 dX10_isSo_97 rfl rfl rfl ?_
  obtain ⟨g12, hf⟩ := gd hf
  refine V_ildJ C rfl g12 rfl dX10_isSo_98 rfl ?_
  refine V_iload_n C 2 dX10_isSo_99 rfl rfl rfl ?_
  refine V_iload_n C 3 dX10_isSo_100 rfl rfl rfl ?_
  obtain ⟨q13, hq13, hf⟩ := obd hf
  refine V_cVi C (b := 116) (As := [.int (u 127 (p1).toNatClampNeg), .int (u 127 (p1 + 1).toNatClampNeg), .int (u 127 (p1 + 2).toNatClampNeg)]) (st := []) cf10 rfl M_X10_newCarrier w1189 ⟨by decide, by decide⟩ rfl rfl (Nat.le_of_ble_eq_true rfl) dX10_isSo_101 rfl (kX10_newCarrier hq13) ?_
  obtain rfl := Option.some.inj hf
  exact K _ _ _ dX10_isSo_104 rfl rfl
set_option maxHeartbeats 4000000 in
set_option maxRecDepth 100000 in
theorem kX10_text {ad : Nat → Nat} {G : Gh}  {u : Mem} {q : Int32 × Mem} (hf : FX10_text u = some q) : Ct shs ad G yX10_text cX10_text 3 (some .int) 7 154 [.ref (ad 116)] u (some (.int q.1)) q.2 := by
  refine Ct_ofI (by decide) (Nat.le_of_ble_eq_true rfl) (fun X C hnL K => ?_)
  have C : Cx ad G X cX10_text "CarryFairModel" 7 154 := C
  unfold FX10_text at hf
  have Lp56 : ∀ (x0 : (Mem)) (q56 : (Mem)), lp (BX10_text_56) FU x0 = some q56 → V shs ad G X 97 [(0, .ref (ad 116))] [] q56 → V shs ad G X 56 [(0, .ref (ad 116))] [] x0 := by
    intro  x0 q56 hq hx56_0
    refine lp_V (BX10_text_56) (fun x56 => V shs ad G X 56 [(0, .ref (ad 116))] [] x56) q56 (fun rec56 ih56 x56 hf => ?_) FU x0 hq
    unfold BX10_text_56 at hf
    refine V_aload_n C 0 dX10_text_56 rfl rfl rfl ?_
    refine V_getI C cf10 rfl 19 rfl (by decide) w1101 rfl dX10_text_57 rfl ?_
    refine V_if_ne C dX10_text_60 (tgt := 97) rfl rfl (fun c9 => ?_) (fun c9 => ?_)
    · replace hf := ineg c9 hf
      obtain rfl := Option.some.inj hf
      exact hx56_0
    · replace hf := ipos c9 hf
      refine V_aload_n C 0 dX10_text_63 rfl rfl rfl ?_
      refine V_getI C cf10 rfl 17 rfl (by decide) w1099 rfl dX10_text_64 rfl ?_
      refine V_iconst C dX10_text_67 rfl (v := 3) rfl ?_
      refine V_icmp_ne C dX10_text_68 (tgt := 97) rfl rfl (fun c8 => ?_) (fun c8 => ?_)
      · replace hf := ineg c8 hf
        obtain rfl := Option.some.inj hf
        exact hx56_0
      · replace hf := ipos c8 hf
        refine V_aload_n C 0 dX10_text_71 rfl rfl rfl ?_
        refine V_getR C cf10 rfl 13 rfl (by decide) w1095 rfl dX10_text_72 rfl ?_
        refine V_aload_n C 0 dX10_text_75 rfl rfl rfl ?_
        refine V_getI C cf10 rfl 15 rfl (by decide) w1097 rfl dX10_text_76 rfl ?_
        obtain ⟨g4, hf⟩ := gd hf
        refine V_ildJ C rfl g4 rfl dX10_text_79 rfl ?_
        refine V_bipush C dX10_text_80 rfl (v := 59) rfl ?_
        refine V_icmp_ne C dX10_text_82 (tgt := 97) rfl rfl (fun c7 => ?_) (fun c7 => ?_)
        · replace hf := ineg c7 hf
          obtain rfl := Option.some.inj hf
          exact hx56_0
        · replace hf := ipos c7 hf
          refine V_aload_n C 0 dX10_text_85 rfl rfl rfl ?_
          refine V_iconst C dX10_text_86 rfl (v := 1) rfl ?_
          obtain ⟨q5, hq5, hf⟩ := obd hf
          refine V_cVv C (b := 116) (As := [.int 1]) (st := []) cf10 rfl M_X10_must w1560 ⟨by decide, by decide⟩ rfl rfl (Nat.le_of_ble_eq_true rfl) dX10_text_87 rfl (kX10_must hq5) ?_
          refine V_aload_n C 0 dX10_text_90 rfl rfl rfl ?_
          obtain ⟨q6, hq6, hf⟩ := obd hf
          refine V_cVv C (b := 116) (As := []) (st := []) cf10 rfl M_X10_readItem w1546 ⟨by decide, by decide⟩ rfl rfl (Nat.le_of_ble_eq_true rfl) dX10_text_91 rfl (kX10_readItem hq6) ?_
          refine V_goto C dX10_text_94 (tgt := 56) rfl ?_
          exact ih56 q6 hf
  have Lp136 : ∀ (x0 : (Int32 × Int32 × Mem)) (q136 : (Int32 × Int32 × Mem)), lp (BX10_text_136) FU x0 = some q136 → V shs ad G X 168 [(0, .ref (ad 116)), (1, .int q136.1), (2, .int q136.2.1)] [] q136.2.2 → V shs ad G X 136 [(0, .ref (ad 116)), (1, .int x0.1), (2, .int x0.2.1)] [] x0.2.2 := by
    intro  x0 q136 hq hx136_0
    refine lp_V (BX10_text_136) (fun x136 => V shs ad G X 136 [(0, .ref (ad 116)), (1, .int x136.1), (2, .int x136.2.1)] [] x136.2.2) q136 (fun rec136 ih136 x136 hf => ?_) FU x0 hq
    unfold BX10_text_136 at hf
    refine V_iload_n C 2 dX10_text_136 rfl rfl rfl ?_
    refine V_aload_n C 0 dX10_text_137 rfl rfl rfl ?_
    refine V_getI C cf10 rfl 22 rfl (by decide) w1104 rfl dX10_text_138 rfl ?_
    refine V_icmp_ge C dX10_text_141 (tgt := 168) rfl rfl (fun c14 => ?_) (fun c14 => ?_)
    · replace hf := ipos c14 hf
      obtain rfl := Option.some.inj hf
      exact hx136_0
    · replace hf := ineg c14 hf
      refine V_iload_n C 1 dX10_text_144 rfl rfl rfl ?_
      refine V_aload_n C 0 dX10_text_145 rfl rfl rfl ?_
      refine V_iconst C dX10_text_146 rfl (v := 5) rfl ?_
      refine V_iload_n C 2 dX10_text_147 rfl rfl rfl ?_
      refine V_imul C dX10_text_148 rfl ?_
      obtain ⟨q12, hq12, hf⟩ := obd hf
      refine V_cVi C (b := 116) (As := [.int (5 * x136.2.1)]) (st := [.int x136.1]) cf10 rfl M_X10_isSo w1589 ⟨by decide, by decide⟩ rfl rfl (Nat.le_of_ble_eq_true rfl) dX10_text_149 rfl (kX10_isSo hq12) ?_
      refine V_if_ge C dX10_text_152 (tgt := 159) rfl rfl (fun c13 => ?_) (fun c13 => ?_)
      · replace hf := ipos c13 hf
        refine V_iconst C dX10_text_159 rfl (v := 1) rfl ?_
        refine V_iadd C dX10_text_160 rfl ?_
        refine V_istore_n C (L' := [(0, .ref (ad 116)), (1, .int (x136.1 + 1)), (2, .int x136.2.1)]) dX10_text_161 rfl rfl (by decide) hnL [1, 0, 2] rfl ?_
        refine V_iinc C (v := (x136.2.1 + 1)) (L' := [(0, .ref (ad 116)), (1, .int (x136.1 + 1)), (2, .int (x136.2.1 + 1))]) 2 dX10_text_162 rfl rfl rfl (by decide) hnL [1, 2, 0] rfl ?_
        refine V_goto C dX10_text_165 (tgt := 136) rfl ?_
        exact ih136 ((x136.1 + 1), (x136.2.1 + 1), q12.2) hf
      · replace hf := ineg c13 hf
        refine V_iconst C dX10_text_155 rfl (v := 0) rfl ?_
        refine V_goto C dX10_text_156 (tgt := 160) rfl ?_
        refine V_iadd C dX10_text_160 rfl ?_
        refine V_istore_n C (L' := [(0, .ref (ad 116)), (1, .int (x136.1 + 0)), (2, .int x136.2.1)]) dX10_text_161 rfl rfl (by decide) hnL [1, 0, 2] rfl ?_
        refine V_iinc C (v := (x136.2.1 + 1)) (L' := [(0, .ref (ad 116)), (1, .int (x136.1 + 0)), (2, .int (x136.2.1 + 1))]) 2 dX10_text_162 rfl rfl rfl (by decide) hnL [1, 2, 0] rfl ?_
        refine V_goto C dX10_text_165 (tgt := 136) rfl ?_
        exact ih136 ((x136.1 + 0), (x136.2.1 + 1), q12.2) hf
  have JX10_text_110 : ∀ (s1 : Int32) (w : Mem), JX10_text_110 s1 w = some q → V shs ad G X 110 [(0, .ref (ad 116))] [.int s1, .ref (ad 116)] w := by
    intro s1 w hf
    unfold JX10_text_110 at hf
    obtain ⟨q11, hq11, hf⟩ := obd hf
    refine V_cVv C (b := 116) (As := [.int s1]) (st := []) cf10 rfl M_X10_must w1560 ⟨by decide, by decide⟩ rfl rfl (Nat.le_of_ble_eq_true rfl) dX10_text_110 rfl (kX10_must hq11) ?_
    refine V_aload_n C 0 dX10_text_113 rfl rfl rfl ?_
    refine V_iconst C dX10_text_114 rfl (v := 0) rfl ?_
    refine V_put C cf10 rfl 14 rfl (by decide) w1096 rfl rfl rfl rfl dX10_text_115 rfl ?_
    refine V_aload_n C 0 dX10_text_118 rfl rfl rfl ?_
    refine V_getI C cf10 rfl 19 rfl (by decide) w1101 rfl dX10_text_119 rfl ?_
    refine V_if_eq C dX10_text_122 (tgt := 132) rfl rfl (fun c16 => ?_) (fun c16 => ?_)
    · replace hf := ipos c16 hf
      refine V_iconst C dX10_text_132 rfl (v := 0) rfl ?_
      refine V_istore_n C (L' := [(0, .ref (ad 116)), (1, .int 0)]) dX10_text_133 rfl rfl (by decide) hnL [1, 0] rfl ?_
      refine V_iconst C dX10_text_134 rfl (v := 0) rfl ?_
      refine V_istore_n C (L' := [(0, .ref (ad 116)), (1, .int 0), (2, .int 0)]) dX10_text_135 rfl rfl (by decide) hnL [1, 2, 0] rfl ?_
      obtain ⟨q136_15, hq136_15, hf⟩ := obd hf
      refine Lp136  (0, 0, (mst q11 116 14 0)) q136_15 hq136_15 ?_
      refine V_iload_n C 1 dX10_text_168 rfl rfl rfl ?_
      obtain rfl := Option.some.inj hf
      exact K _ _ _ dX10_text_169 rfl rfl
    · replace hf := ineg c16 hf
      refine V_iconst C dX10_text_125 rfl (v := (-1)) (by decide) ?_
      refine V_aload_n C 0 dX10_text_126 rfl rfl rfl ?_
      refine V_getI C cf10 rfl 15 rfl (by decide) w1097 rfl dX10_text_127 rfl ?_
      refine V_isub C dX10_text_130 rfl ?_
      obtain rfl := Option.some.inj hf
      exact K _ _ _ dX10_text_131 rfl rfl
  have JX10_text_97 : ∀ (w : Mem), JX10_text_97 w = some q → V shs ad G X 97 [(0, .ref (ad 116))] [] w := by
    intro w hf
    unfold JX10_text_97 at hf
    refine V_aload_n C 0 dX10_text_97 rfl rfl rfl ?_
    refine V_aload_n C 0 dX10_text_98 rfl rfl rfl ?_
    refine V_getI C cf10 rfl 17 rfl (by decide) w1099 rfl dX10_text_99 rfl ?_
    refine V_if_ne C dX10_text_102 (tgt := 109) rfl rfl (fun c17 => ?_) (fun c17 => ?_)
    · replace hf := ineg c17 hf
      refine V_iconst C dX10_text_109 rfl (v := 0) rfl ?_
      exact JX10_text_110 0 w hf
    · replace hf := ipos c17 hf
      refine V_iconst C dX10_text_105 rfl (v := 1) rfl ?_
      refine V_goto C dX10_text_106 (tgt := 110) rfl ?_
      exact JX10_text_110 1 w hf
  refine V_aload_n C 0 dX10_text_0 rfl rfl rfl ?_
  refine V_iconst C dX10_text_1 rfl (v := 0) rfl ?_
  refine V_put C cf10 rfl 16 rfl (by decide) w1098 rfl rfl rfl rfl dX10_text_2 rfl ?_
  refine V_aload_n C 0 dX10_text_5 rfl rfl rfl ?_
  refine V_iconst C dX10_text_6 rfl (v := 0) rfl ?_
  refine V_put C cf10 rfl 19 rfl (by decide) w1101 rfl rfl rfl rfl dX10_text_7 rfl ?_
  refine V_aload_n C 0 dX10_text_10 rfl rfl rfl ?_
  refine V_iconst C dX10_text_11 rfl (v := 0) rfl ?_
  refine V_put C cf10 rfl 22 rfl (by decide) w1104 rfl rfl rfl rfl dX10_text_12 rfl ?_
  refine V_aload_n C 0 dX10_text_15 rfl rfl rfl ?_
  refine V_aload_n C 0 dX10_text_16 rfl rfl rfl ?_
  refine V_getR C cf10 rfl 0 rfl (by decide) w1082 rfl dX10_text_17 rfl ?_
  refine V_bipush C dX10_text_20 rfl (v := 42) rfl ?_
  refine V_ildJ C rfl (by decide) (j := 42) (by decide) dX10_text_22 rfl ?_
  refine V_put C cf10 rfl 23 rfl (by decide) w1105 rfl rfl rfl rfl dX10_text_23 rfl ?_
  obtain ⟨w1, ew1, hf⟩ := nmd hf
  rw [← ew1]
  refine V_aload_n C 0 dX10_text_26 rfl rfl rfl ?_
  refine V_aload_n C 0 dX10_text_27 rfl rfl rfl ?_
  refine V_getR C cf10 rfl 0 rfl (by decide) w1082 rfl dX10_text_28 rfl ?_
  refine V_bipush C dX10_text_31 rfl (v := 43) rfl ?_
  refine V_ildJ C rfl (by decide) (j := 43) (by decide) dX10_text_33 rfl ?_
  refine V_put C cf10 rfl 24 rfl (by decide) w1106 rfl rfl rfl rfl dX10_text_34 rfl ?_
  refine V_aload_n C 0 dX10_text_37 rfl rfl rfl ?_
  refine V_aload_n C 0 dX10_text_38 rfl rfl rfl ?_
  refine V_getR C cf10 rfl 0 rfl (by decide) w1082 rfl dX10_text_39 rfl ?_
  refine V_bipush C dX10_text_42 rfl (v := 44) rfl ?_
  refine V_ildJ C rfl (by decide) (j := 44) (by decide) dX10_text_44 rfl ?_
  refine V_put C cf10 rfl 25 rfl (by decide) w1107 rfl rfl rfl rfl dX10_text_45 rfl ?_
  refine V_aload_n C 0 dX10_text_48 rfl rfl rfl ?_
  obtain ⟨q2, hq2, hf⟩ := obd hf
  refine V_cVv C (b := 116) (As := []) (st := []) cf10 rfl M_X10_next w1538 ⟨by decide, by decide⟩ rfl rfl (Nat.le_of_ble_eq_true rfl) dX10_text_49 rfl (kX10_next hq2) ?_
  refine V_aload_n C 0 dX10_text_52 rfl rfl rfl ?_
  obtain ⟨q3, hq3, hf⟩ := obd hf
  refine V_cVv C (b := 116) (As := []) (st := []) cf10 rfl M_X10_readItem w1546 ⟨by decide, by decide⟩ rfl rfl (Nat.le_of_ble_eq_true rfl) dX10_text_53 rfl (kX10_readItem hq3) ?_
  obtain ⟨q56_10, hq56_10, hf⟩ := obd hf
  refine Lp56  q3 q56_10 hq56_10 ?_
  exact JX10_text_97 q56_10 hf
set_option maxHeartbeats 4000000 in
set_option maxRecDepth 100000 in
theorem kX10_isSpot {ad : Nat → Nat} {G : Gh} {p0 : Int32} {u : Mem} {q : Int32} (hf : FX10_isSpot p0 = q) : Ct shs ad G yX10_isSpot cX10_isSpot 1 (some .boolean) 1 22 [.int p0] u (some (.int q)) u := by
  refine Ct_ofI (by decide) (Nat.le_of_ble_eq_true rfl) (fun X C hnL K => ?_)
  have C : Cx ad G X cX10_isSpot "CarryFairModel" 1 22 := C
  unfold FX10_isSpot at hf
  refine V_iload_n C 0 dX10_isSpot_0 rfl rfl rfl ?_
  refine V_iconst C dX10_isSpot_1 rfl (v := 0) rfl ?_
  refine V_bipush C dX10_isSpot_2 rfl (v := 9) rfl ?_
  refine V_cSi C (As := [.int p0, .int 0, .int 9]) (st := []) M_X10_within w1180 ⟨by decide, by decide⟩ rfl rfl (Nat.le_of_ble_eq_true rfl) dX10_isSpot_4 rfl (kX10_within rfl) ?_
  subst hf
  exact K _ _ _ dX10_isSpot_7 rfl (nzb (bX10_within))
set_option maxHeartbeats 4000000 in
set_option maxRecDepth 100000 in
theorem kX10_hold {ad : Nat → Nat} {G : Gh} {p1 : Int32} {p2 : Int32} {u : Mem} {q : Int32 × Mem} (hf : FX10_hold p1 p2 u = some q) : Ct shs ad G yX10_hold cX10_hold 3 (some .int) 2 43 [.ref (ad 116), .int p1, .int p2] u (some (.int q.1)) q.2 := by
  refine Ct_ofI (by decide) (Nat.le_of_ble_eq_true rfl) (fun X C hnL K => ?_)
  have C : Cx ad G X cX10_hold "CarryFairModel" 2 43 := C
  unfold FX10_hold at hf
  refine V_iload_n C 1 dX10_hold_0 rfl rfl rfl ?_
  refine V_cSi C (As := [.int p1]) (st := []) M_X10_isSpot w1597 ⟨by decide, by decide⟩ rfl rfl (Nat.le_of_ble_eq_true rfl) dX10_hold_1 rfl (kX10_isSpot rfl) ?_
  refine V_if_eq C dX10_hold_4 (tgt := 20) rfl rfl (fun c7 => ?_) (fun c7 => ?_)
  · replace hf := ipos c7 hf
    refine V_aload_n C 0 dX10_hold_20 rfl rfl rfl ?_
    refine V_ldc C dX10_hold_21 rfl w1183 ?_
    obtain ⟨q1, hq1, hf⟩ := obd hf
    refine V_cVi C (b := 116) (As := [.int (-1000001)]) (st := []) cf10 rfl M_X10_finding w1184 ⟨by decide, by decide⟩ rfl rfl (Nat.le_of_ble_eq_true rfl) dX10_hold_23 rfl (kX10_finding hq1) ?_
    obtain rfl := Option.some.inj hf
    exact K _ _ _ dX10_hold_26 rfl rfl
  · replace hf := ineg c7 hf
    refine V_iload_n C 2 dX10_hold_7 rfl rfl rfl ?_
    refine V_iconst C dX10_hold_8 rfl (v := (-1)) (by decide) ?_
    refine V_icmp_eq C dX10_hold_9 (tgt := 27) rfl rfl (fun c6 => ?_) (fun c6 => ?_)
    · replace hf := ipos c6 hf
      refine V_aload_n C 0 dX10_hold_27 rfl rfl rfl ?_
      refine V_getR C cf10 rfl 0 rfl (by decide) w1082 rfl dX10_hold_28 rfl ?_
      refine V_bipush C dX10_hold_31 rfl (v := 46) rfl ?_
      refine V_iload_n C 1 dX10_hold_33 rfl rfl rfl ?_
      refine V_iadd C dX10_hold_34 rfl ?_
      refine V_iload_n C 2 dX10_hold_35 rfl rfl rfl ?_
      obtain ⟨g2, hf⟩ := gd hf
      refine V_istJ C rfl g2 rfl dX10_hold_36 rfl ?_
      refine V_iconst C dX10_hold_37 rfl (v := 1) rfl ?_
      obtain rfl := Option.some.inj hf
      exact K _ _ _ dX10_hold_38 rfl rfl
    · replace hf := ineg c6 hf
      refine V_aload_n C 0 dX10_hold_12 rfl rfl rfl ?_
      refine V_iload_n C 2 dX10_hold_13 rfl rfl rfl ?_
      refine V_cVi C (b := 116) (As := [.int p2]) (st := []) cf10 rfl M_X10_isCarrier w1200 ⟨by decide, by decide⟩ rfl rfl (Nat.le_of_ble_eq_true rfl) dX10_hold_14 rfl (kX10_isCarrier rfl) ?_
      refine V_if_ne C dX10_hold_17 (tgt := 27) rfl rfl (fun c5 => ?_) (fun c5 => ?_)
      · replace hf := ineg c5 hf
        refine V_aload_n C 0 dX10_hold_27 rfl rfl rfl ?_
        refine V_getR C cf10 rfl 0 rfl (by decide) w1082 rfl dX10_hold_28 rfl ?_
        refine V_bipush C dX10_hold_31 rfl (v := 46) rfl ?_
        refine V_iload_n C 1 dX10_hold_33 rfl rfl rfl ?_
        refine V_iadd C dX10_hold_34 rfl ?_
        refine V_iload_n C 2 dX10_hold_35 rfl rfl rfl ?_
        obtain ⟨g3, hf⟩ := gd hf
        refine V_istJ C rfl g3 rfl dX10_hold_36 rfl ?_
        refine V_iconst C dX10_hold_37 rfl (v := 1) rfl ?_
        obtain rfl := Option.some.inj hf
        exact K _ _ _ dX10_hold_38 rfl rfl
      · replace hf := ipos c5 hf
        refine V_aload_n C 0 dX10_hold_20 rfl rfl rfl ?_
        refine V_ldc C dX10_hold_21 rfl w1183 ?_
        obtain ⟨q4, hq4, hf⟩ := obd hf
        refine V_cVi C (b := 116) (As := [.int (-1000001)]) (st := []) cf10 rfl M_X10_finding w1184 ⟨by decide, by decide⟩ rfl rfl (Nat.le_of_ble_eq_true rfl) dX10_hold_23 rfl (kX10_finding hq4) ?_
        obtain rfl := Option.some.inj hf
        exact K _ _ _ dX10_hold_26 rfl rfl
set_option maxHeartbeats 4000000 in
set_option maxRecDepth 100000 in
theorem kX10_as {ad : Nat → Nat} {G : Gh} {p1 : Int32} {p2 : Int32} {u : Mem} {q : Int32 × Mem} (hf : FX10_as p1 p2 u = some q) : Ct shs ad G yX10_as cX10_as 4 (some .int) 2 43 [.ref (ad 116), .int p1, .int p2] u (some (.int q.1)) q.2 := by
  refine Ct_ofI (by decide) (Nat.le_of_ble_eq_true rfl) (fun X C hnL K => ?_)
  have C : Cx ad G X cX10_as "CarryFairModel" 2 43 := C
  unfold FX10_as at hf
  refine V_iload_n C 1 dX10_as_0 rfl rfl rfl ?_
  refine V_cSi C (As := [.int p1]) (st := []) M_X10_isSpot w1597 ⟨by decide, by decide⟩ rfl rfl (Nat.le_of_ble_eq_true rfl) dX10_as_1 rfl (kX10_isSpot rfl) ?_
  refine V_if_eq C dX10_as_4 (tgt := 14) rfl rfl (fun c11 => ?_) (fun c11 => ?_)
  · replace hf := ipos c11 hf
    refine V_aload_n C 0 dX10_as_14 rfl rfl rfl ?_
    refine V_ldc C dX10_as_15 rfl w1183 ?_
    obtain ⟨q1, hq1, hf⟩ := obd hf
    refine V_cVi C (b := 116) (As := [.int (-1000001)]) (st := []) cf10 rfl M_X10_finding w1184 ⟨by decide, by decide⟩ rfl rfl (Nat.le_of_ble_eq_true rfl) dX10_as_17 rfl (kX10_finding hq1) ?_
    obtain rfl := Option.some.inj hf
    exact K _ _ _ dX10_as_20 rfl rfl
  · replace hf := ineg c11 hf
    refine V_iload_n C 2 dX10_as_7 rfl rfl rfl ?_
    refine V_cSi C (As := [.int p2]) (st := []) M_X10_isKind w1177 ⟨by decide, by decide⟩ rfl rfl (Nat.le_of_ble_eq_true rfl) dX10_as_8 rfl (kX10_isKind rfl) ?_
    refine V_if_ne C dX10_as_11 (tgt := 21) rfl rfl (fun c10 => ?_) (fun c10 => ?_)
    · replace hf := ineg c10 hf
      refine V_aload_n C 0 dX10_as_21 rfl rfl rfl ?_
      refine V_getR C cf10 rfl 0 rfl (by decide) w1082 rfl dX10_as_22 rfl ?_
      refine V_bipush C dX10_as_25 rfl (v := 46) rfl ?_
      refine V_iload_n C 1 dX10_as_27 rfl rfl rfl ?_
      refine V_iadd C dX10_as_28 rfl ?_
      obtain ⟨g2, hf⟩ := gd hf
      refine V_ildJ C rfl g2 rfl dX10_as_29 rfl ?_
      refine V_istore_n C (L' := [(0, .ref (ad 116)), (1, .int p1), (2, .int p2), (3, .int (u 117 (46 + p1).toNatClampNeg))]) dX10_as_30 rfl rfl (by decide) hnL [1, 2, 3, 0] rfl ?_
      refine V_iload_n C 3 dX10_as_31 rfl rfl rfl ?_
      refine V_if_ge C dX10_as_32 (tgt := 43) rfl rfl (fun c8 => ?_) (fun c8 => ?_)
      · replace hf := ipos c8 hf
        refine V_aload_n C 0 dX10_as_43 rfl rfl rfl ?_
        refine V_iload_n C 3 dX10_as_44 rfl rfl rfl ?_
        refine V_iconst C dX10_as_45 rfl (v := 0) rfl ?_
        obtain ⟨q3, hq3, hf⟩ := obd hf
        refine V_cVi C (b := 116) (As := [.int (u 117 (46 + p1).toNatClampNeg), .int 0]) (st := []) cf10 rfl M_X10_cIs w1208 ⟨by decide, by decide⟩ rfl rfl (Nat.le_of_ble_eq_true rfl) dX10_as_46 rfl (kX10_cIs hq3) ?_
        refine V_iload_n C 2 dX10_as_49 rfl rfl rfl ?_
        obtain ⟨q4, hq4, hf⟩ := obd hf
        refine V_cSi C (As := [.int q3, .int p2]) (st := []) M_X10_isUnder w1212 ⟨by decide, by decide⟩ rfl rfl (Nat.le_of_ble_eq_true rfl) dX10_as_50 rfl (kX10_isUnder hq4) ?_
        refine V_if_eq C dX10_as_53 (tgt := 60) rfl rfl (fun c6 => ?_) (fun c6 => ?_)
        · replace hf := ipos c6 hf
          refine V_aload_n C 0 dX10_as_60 rfl rfl rfl ?_
          refine V_ldcw C dX10_as_61 rfl w1605 ?_
          obtain ⟨q5, hq5, hf⟩ := obd hf
          refine V_cVi C (b := 116) (As := [.int (-1000003)]) (st := []) cf10 rfl M_X10_finding w1184 ⟨by decide, by decide⟩ rfl rfl (Nat.le_of_ble_eq_true rfl) dX10_as_64 rfl (kX10_finding hq5) ?_
          obtain rfl := Option.some.inj hf
          exact K _ _ _ dX10_as_67 rfl rfl
        · replace hf := ineg c6 hf
          refine V_iload_n C 3 dX10_as_56 rfl rfl rfl ?_
          refine V_goto C dX10_as_57 (tgt := 67) rfl ?_
          obtain rfl := Option.some.inj hf
          exact K _ _ _ dX10_as_67 rfl rfl
      · replace hf := ineg c8 hf
        refine V_aload_n C 0 dX10_as_35 rfl rfl rfl ?_
        refine V_ldcw C dX10_as_36 rfl w1604 ?_
        obtain ⟨q7, hq7, hf⟩ := obd hf
        refine V_cVi C (b := 116) (As := [.int (-1000006)]) (st := []) cf10 rfl M_X10_finding w1184 ⟨by decide, by decide⟩ rfl rfl (Nat.le_of_ble_eq_true rfl) dX10_as_39 rfl (kX10_finding hq7) ?_
        obtain rfl := Option.some.inj hf
        exact K _ _ _ dX10_as_42 rfl rfl
    · replace hf := ipos c10 hf
      refine V_aload_n C 0 dX10_as_14 rfl rfl rfl ?_
      refine V_ldc C dX10_as_15 rfl w1183 ?_
      obtain ⟨q9, hq9, hf⟩ := obd hf
      refine V_cVi C (b := 116) (As := [.int (-1000001)]) (st := []) cf10 rfl M_X10_finding w1184 ⟨by decide, by decide⟩ rfl rfl (Nat.le_of_ble_eq_true rfl) dX10_as_17 rfl (kX10_finding hq9) ?_
      obtain rfl := Option.some.inj hf
      exact K _ _ _ dX10_as_20 rfl rfl
set_option maxHeartbeats 4000000 in
set_option maxRecDepth 100000 in
theorem kX10_isSheet {ad : Nat → Nat} {G : Gh} {p0 : Int32} {u : Mem} {q : Int32} (hf : FX10_isSheet p0 = q) : Ct shs ad G yX10_isSheet cX10_isSheet 1 (some .boolean) 1 22 [.int p0] u (some (.int q)) u := by
  refine Ct_ofI (by decide) (Nat.le_of_ble_eq_true rfl) (fun X C hnL K => ?_)
  have C : Cx ad G X cX10_isSheet "CarryFairModel" 1 22 := C
  unfold FX10_isSheet at hf
  refine V_iload_n C 0 dX10_isSheet_0 rfl rfl rfl ?_
  refine V_iconst C dX10_isSheet_1 rfl (v := 0) rfl ?_
  refine V_iconst C dX10_isSheet_2 rfl (v := 3) rfl ?_
  refine V_cSi C (As := [.int p0, .int 0, .int 3]) (st := []) M_X10_within w1180 ⟨by decide, by decide⟩ rfl rfl (Nat.le_of_ble_eq_true rfl) dX10_isSheet_3 rfl (kX10_within rfl) ?_
  subst hf
  exact K _ _ _ dX10_isSheet_6 rfl (nzb (bX10_within))
set_option maxHeartbeats 4000000 in
set_option maxRecDepth 100000 in
theorem kX10_cutTo {ad : Nat → Nat} {G : Gh} {p0 : Int32} {p1 : Int32} {u : Mem} {q : Int32} (hf : FX10_cutTo p0 p1 = q) : Ct shs ad G yX10_cutTo cX10_cutTo 2 (some .int) 0 0 [.int p0, .int p1] u (some (.int q)) u := by
  refine Ct_ofI (by decide) (Nat.le_of_ble_eq_true rfl) (fun X C hnL K => ?_)
  have C : Cx ad G X cX10_cutTo "CarryFairModel" 0 0 := C
  unfold FX10_cutTo at hf
  refine V_iload_n C 1 dX10_cutTo_0 rfl rfl rfl ?_
  refine V_bipush C dX10_cutTo_1 rfl (v := 8) rfl ?_
  refine V_icmp_ne C dX10_cutTo_3 (tgt := 11) rfl rfl (fun c2 => ?_) (fun c2 => ?_)
  · replace hf := ineg c2 hf
    refine V_iload_n C 1 dX10_cutTo_11 rfl rfl rfl ?_
    refine V_bipush C dX10_cutTo_12 rfl (v := 16) rfl ?_
    refine V_icmp_ne C dX10_cutTo_14 (tgt := 22) rfl rfl (fun c1 => ?_) (fun c1 => ?_)
    · replace hf := ineg c1 hf
      refine V_iload_n C 0 dX10_cutTo_22 rfl rfl rfl ?_
      subst hf
      exact K _ _ _ dX10_cutTo_23 rfl rfl
    · replace hf := ipos c1 hf
      refine V_iload_n C 0 dX10_cutTo_17 rfl rfl rfl ?_
      refine V_js C dX10_cutTo_18 rfl ?_
      refine V_goto C dX10_cutTo_19 (tgt := 23) rfl ?_
      subst hf
      exact K _ _ _ dX10_cutTo_23 rfl rfl
  · replace hf := ipos c2 hf
    refine V_iload_n C 0 dX10_cutTo_6 rfl rfl rfl ?_
    refine V_jb C dX10_cutTo_7 rfl ?_
    refine V_goto C dX10_cutTo_8 (tgt := 23) rfl ?_
    subst hf
    exact K _ _ _ dX10_cutTo_23 rfl rfl
set_option maxHeartbeats 4000000 in
set_option maxRecDepth 100000 in
theorem kX10_sheet {ad : Nat → Nat} {G : Gh} {p1 : Int32} {p2 : Int32} {p3 : Int32} {u : Mem} {q : Int32 × Mem} (hf : FX10_sheet p1 p2 p3 u = some q) : Ct shs ad G yX10_sheet cX10_sheet 5 (some .int) 2 42 [.ref (ad 116), .int p1, .int p2, .int p3] u (some (.int q.1)) q.2 := by
  refine Ct_ofI (by decide) (Nat.le_of_ble_eq_true rfl) (fun X C hnL K => ?_)
  have C : Cx ad G X cX10_sheet "CarryFairModel" 2 42 := C
  unfold FX10_sheet at hf
  have Lp86 : ∀ (x0 : (Int32 × Mem)) (q86 : (Int32 × Mem)), lp (BX10_sheet_86 p1 p2 p3) FU x0 = some q86 → V shs ad G X 112 [(0, .ref (ad 116)), (1, .int p1), (2, .int p2), (3, .int p3), (4, .int q86.1)] [] q86.2 → V shs ad G X 86 [(0, .ref (ad 116)), (1, .int p1), (2, .int p2), (3, .int p3), (4, .int x0.1)] [] x0.2 := by
    intro  x0 q86 hq hx86_0
    refine lp_V (BX10_sheet_86 p1 p2 p3) (fun x86 => V shs ad G X 86 [(0, .ref (ad 116)), (1, .int p1), (2, .int p2), (3, .int p3), (4, .int x86.1)] [] x86.2) q86 (fun rec86 ih86 x86 hf => ?_) FU x0 hq
    unfold BX10_sheet_86 at hf
    refine V_iload C 4 dX10_sheet_86 rfl rfl ?_
    refine V_bipush C dX10_sheet_88 rfl (v := 40) rfl ?_
    refine V_icmp_ge C dX10_sheet_90 (tgt := 112) rfl rfl (fun c5 => ?_) (fun c5 => ?_)
    · replace hf := ipos c5 hf
      obtain rfl := Option.some.inj hf
      exact hx86_0
    · replace hf := ineg c5 hf
      refine V_aload_n C 0 dX10_sheet_93 rfl rfl rfl ?_
      refine V_getR C cf10 rfl 28 rfl (by decide) w1110 rfl dX10_sheet_94 rfl ?_
      refine V_bipush C dX10_sheet_97 rfl (v := 40) rfl ?_
      refine V_iload_n C 1 dX10_sheet_99 rfl rfl rfl ?_
      refine V_imul C dX10_sheet_100 rfl ?_
      refine V_iload C 4 dX10_sheet_101 rfl rfl ?_
      refine V_iadd C dX10_sheet_103 rfl ?_
      refine V_iconst C dX10_sheet_104 rfl (v := 0) rfl ?_
      obtain ⟨g4, hf⟩ := gd hf
      refine V_istJ C rfl g4 rfl dX10_sheet_105 rfl ?_
      refine V_iinc C (v := (x86.1 + 1)) (L' := [(0, .ref (ad 116)), (1, .int p1), (2, .int p2), (3, .int p3), (4, .int (x86.1 + 1))]) 4 dX10_sheet_106 rfl rfl rfl (by decide) hnL [1, 2, 3, 4, 0] rfl ?_
      refine V_goto C dX10_sheet_109 (tgt := 86) rfl ?_
      exact ih86 ((x86.1 + 1), (mst x86.2 130 (((40 * p1) + x86.1).toNatClampNeg) 0)) hf
  have JX10_sheet_82 : ∀ (s0 : Nat) (s1 : Int32) (s2 : Int32) (w : Mem) (hs0 : shs[s0]? = some (.inr ((0, 4), none))), JX10_sheet_82 p1 p2 p3 s0 s1 s2 w = some q → V shs ad G X 82 [(0, .ref (ad 116)), (1, .int p1), (2, .int p2), (3, .int p3)] [.int s2, .int s1, .ref (ad s0)] w := by
    intro s0 s1 s2 w hs0 hf
    unfold JX10_sheet_82 at hf
    obtain ⟨g3, hf⟩ := gd hf
    refine V_istJ C hs0 g3 rfl dX10_sheet_82 rfl ?_
    refine V_iconst C dX10_sheet_83 rfl (v := 0) rfl ?_
    refine V_istore C (L' := [(0, .ref (ad 116)), (1, .int p1), (2, .int p2), (3, .int p3), (4, .int 0)]) dX10_sheet_84 rfl (by decide) hnL [1, 2, 3, 4, 0] rfl ?_
    obtain ⟨q86_6, hq86_6, hf⟩ := obd hf
    refine Lp86  (0, (mst w s0 (s1).toNatClampNeg s2)) q86_6 hq86_6 ?_
    refine V_aload_n C 0 dX10_sheet_112 rfl rfl rfl ?_
    refine V_getR C cf10 rfl 27 rfl (by decide) w1109 rfl dX10_sheet_113 rfl ?_
    refine V_iload_n C 1 dX10_sheet_116 rfl rfl rfl ?_
    obtain ⟨g7, hf⟩ := gd hf
    refine V_ildJ C rfl g7 rfl dX10_sheet_117 rfl ?_
    obtain rfl := Option.some.inj hf
    exact K _ _ _ dX10_sheet_118 rfl rfl
  have JX10_sheet_36 : ∀ (w : Mem), JX10_sheet_36 p1 p2 p3 w = some q → V shs ad G X 36 [(0, .ref (ad 116)), (1, .int p1), (2, .int p2), (3, .int p3)] [] w := by
    intro w hf
    unfold JX10_sheet_36 at hf
    refine V_iload_n C 3 dX10_sheet_36 rfl rfl rfl ?_
    refine V_if_ge C dX10_sheet_37 (tgt := 48) rfl rfl (fun c12 => ?_) (fun c12 => ?_)
    · replace hf := ipos c12 hf
      refine V_iload_n C 3 dX10_sheet_48 rfl rfl rfl ?_
      refine V_bipush C dX10_sheet_49 rfl (v := 40) rfl ?_
      refine V_icmp_le C dX10_sheet_51 (tgt := 61) rfl rfl (fun c10 => ?_) (fun c10 => ?_)
      · replace hf := ipos c10 hf
        refine V_aload_n C 0 dX10_sheet_61 rfl rfl rfl ?_
        refine V_getR C cf10 rfl 26 rfl (by decide) w1108 rfl dX10_sheet_62 rfl ?_
        refine V_iload_n C 1 dX10_sheet_65 rfl rfl rfl ?_
        refine V_iload_n C 2 dX10_sheet_66 rfl rfl rfl ?_
        obtain ⟨g2, hf⟩ := gd hf
        refine V_istJ C rfl g2 rfl dX10_sheet_67 rfl ?_
        refine V_aload_n C 0 dX10_sheet_68 rfl rfl rfl ?_
        refine V_getR C cf10 rfl 27 rfl (by decide) w1109 rfl dX10_sheet_69 rfl ?_
        refine V_iload_n C 1 dX10_sheet_72 rfl rfl rfl ?_
        refine V_iload_n C 2 dX10_sheet_73 rfl rfl rfl ?_
        refine V_if_ne C dX10_sheet_74 (tgt := 81) rfl rfl (fun c8 => ?_) (fun c8 => ?_)
        · replace hf := ineg c8 hf
          refine V_iload_n C 3 dX10_sheet_81 rfl rfl rfl ?_
          exact JX10_sheet_82 129 p1 p3 (mst w 128 (p1).toNatClampNeg p2) rfl hf
        · replace hf := ipos c8 hf
          refine V_iconst C dX10_sheet_77 rfl (v := 0) rfl ?_
          refine V_goto C dX10_sheet_78 (tgt := 82) rfl ?_
          exact JX10_sheet_82 129 p1 0 (mst w 128 (p1).toNatClampNeg p2) rfl hf
      · replace hf := ineg c10 hf
        refine V_aload_n C 0 dX10_sheet_54 rfl rfl rfl ?_
        refine V_ldc C dX10_sheet_55 rfl w1183 ?_
        obtain ⟨q9, hq9, hf⟩ := obd hf
        refine V_cVi C (b := 116) (As := [.int (-1000001)]) (st := []) cf10 rfl M_X10_finding w1184 ⟨by decide, by decide⟩ rfl rfl (Nat.le_of_ble_eq_true rfl) dX10_sheet_57 rfl (kX10_finding hq9) ?_
        obtain rfl := Option.some.inj hf
        exact K _ _ _ dX10_sheet_60 rfl rfl
    · replace hf := ineg c12 hf
      refine V_aload_n C 0 dX10_sheet_40 rfl rfl rfl ?_
      refine V_ldcw C dX10_sheet_41 rfl w1613 ?_
      obtain ⟨q11, hq11, hf⟩ := obd hf
      refine V_cVi C (b := 116) (As := [.int (-1000007)]) (st := []) cf10 rfl M_X10_finding w1184 ⟨by decide, by decide⟩ rfl rfl (Nat.le_of_ble_eq_true rfl) dX10_sheet_44 rfl (kX10_finding hq11) ?_
      obtain rfl := Option.some.inj hf
      exact K _ _ _ dX10_sheet_47 rfl rfl
  refine V_iload_n C 1 dX10_sheet_0 rfl rfl rfl ?_
  refine V_cSi C (As := [.int p1]) (st := []) M_X10_isSheet w1610 ⟨by decide, by decide⟩ rfl rfl (Nat.le_of_ble_eq_true rfl) dX10_sheet_1 rfl (kX10_isSheet rfl) ?_
  refine V_if_eq C dX10_sheet_4 (tgt := 29) rfl rfl (fun c18 => ?_) (fun c18 => ?_)
  · replace hf := ipos c18 hf
    refine V_aload_n C 0 dX10_sheet_29 rfl rfl rfl ?_
    refine V_ldc C dX10_sheet_30 rfl w1183 ?_
    obtain ⟨q1, hq1, hf⟩ := obd hf
    refine V_cVi C (b := 116) (As := [.int (-1000001)]) (st := []) cf10 rfl M_X10_finding w1184 ⟨by decide, by decide⟩ rfl rfl (Nat.le_of_ble_eq_true rfl) dX10_sheet_32 rfl (kX10_finding hq1) ?_
    obtain rfl := Option.some.inj hf
    exact K _ _ _ dX10_sheet_35 rfl rfl
  · replace hf := ineg c18 hf
    refine V_iload_n C 2 dX10_sheet_7 rfl rfl rfl ?_
    refine V_if_eq C dX10_sheet_8 (tgt := 36) rfl rfl (fun c17 => ?_) (fun c17 => ?_)
    · replace hf := ipos c17 hf
      exact JX10_sheet_36 u hf
    · replace hf := ineg c17 hf
      refine V_iload_n C 2 dX10_sheet_11 rfl rfl rfl ?_
      refine V_bipush C dX10_sheet_12 rfl (v := 8) rfl ?_
      refine V_icmp_eq C dX10_sheet_14 (tgt := 36) rfl rfl (fun c16 => ?_) (fun c16 => ?_)
      · replace hf := ipos c16 hf
        exact JX10_sheet_36 u hf
      · replace hf := ineg c16 hf
        refine V_iload_n C 2 dX10_sheet_17 rfl rfl rfl ?_
        refine V_bipush C dX10_sheet_18 rfl (v := 16) rfl ?_
        refine V_icmp_eq C dX10_sheet_20 (tgt := 36) rfl rfl (fun c15 => ?_) (fun c15 => ?_)
        · replace hf := ipos c15 hf
          exact JX10_sheet_36 u hf
        · replace hf := ineg c15 hf
          refine V_iload_n C 2 dX10_sheet_23 rfl rfl rfl ?_
          refine V_bipush C dX10_sheet_24 rfl (v := 32) rfl ?_
          refine V_icmp_eq C dX10_sheet_26 (tgt := 36) rfl rfl (fun c14 => ?_) (fun c14 => ?_)
          · replace hf := ipos c14 hf
            exact JX10_sheet_36 u hf
          · replace hf := ineg c14 hf
            refine V_aload_n C 0 dX10_sheet_29 rfl rfl rfl ?_
            refine V_ldc C dX10_sheet_30 rfl w1183 ?_
            obtain ⟨q13, hq13, hf⟩ := obd hf
            refine V_cVi C (b := 116) (As := [.int (-1000001)]) (st := []) cf10 rfl M_X10_finding w1184 ⟨by decide, by decide⟩ rfl rfl (Nat.le_of_ble_eq_true rfl) dX10_sheet_32 rfl (kX10_finding hq13) ?_
            obtain rfl := Option.some.inj hf
            exact K _ _ _ dX10_sheet_35 rfl rfl
set_option maxHeartbeats 4000000 in
set_option maxRecDepth 100000 in
theorem kX10_write {ad : Nat → Nat} {G : Gh} {p1 : Int32} {p2 : Int32} {p3 : Int32} {u : Mem} {q : Int32 × Mem} (hf : FX10_write p1 p2 p3 u = some q) : Ct shs ad G yX10_write cX10_write 4 (some .int) 2 42 [.ref (ad 116), .int p1, .int p2, .int p3] u (some (.int q.1)) q.2 := by
  refine Ct_ofI (by decide) (Nat.le_of_ble_eq_true rfl) (fun X C hnL K => ?_)
  have C : Cx ad G X cX10_write "CarryFairModel" 2 42 := C
  unfold FX10_write at hf
  refine V_iload_n C 1 dX10_write_0 rfl rfl rfl ?_
  refine V_cSi C (As := [.int p1]) (st := []) M_X10_isSheet w1610 ⟨by decide, by decide⟩ rfl rfl (Nat.le_of_ble_eq_true rfl) dX10_write_1 rfl (kX10_isSheet rfl) ?_
  refine V_if_ne C dX10_write_4 (tgt := 14) rfl rfl (fun c10 => ?_) (fun c10 => ?_)
  · replace hf := ineg c10 hf
    refine V_aload_n C 0 dX10_write_14 rfl rfl rfl ?_
    refine V_getR C cf10 rfl 26 rfl (by decide) w1108 rfl dX10_write_15 rfl ?_
    refine V_iload_n C 1 dX10_write_18 rfl rfl rfl ?_
    obtain ⟨g1, hf⟩ := gd hf
    refine V_ildJ C rfl g1 rfl dX10_write_19 rfl ?_
    refine V_if_ne C dX10_write_20 (tgt := 31) rfl rfl (fun c8 => ?_) (fun c8 => ?_)
    · replace hf := ineg c8 hf
      refine V_iload_n C 2 dX10_write_31 rfl rfl rfl ?_
      refine V_iconst C dX10_write_32 rfl (v := 0) rfl ?_
      refine V_aload_n C 0 dX10_write_33 rfl rfl rfl ?_
      refine V_getR C cf10 rfl 27 rfl (by decide) w1109 rfl dX10_write_34 rfl ?_
      refine V_iload_n C 1 dX10_write_37 rfl rfl rfl ?_
      obtain ⟨g2, hf⟩ := gd hf
      refine V_ildJ C rfl g2 rfl dX10_write_38 rfl ?_
      refine V_iconst C dX10_write_39 rfl (v := 1) rfl ?_
      refine V_isub C dX10_write_40 rfl ?_
      refine V_cSi C (As := [.int p2, .int 0, .int ((u 129 (p1).toNatClampNeg) - 1)]) (st := []) M_X10_within w1180 ⟨by decide, by decide⟩ rfl rfl (Nat.le_of_ble_eq_true rfl) dX10_write_41 rfl (kX10_within rfl) ?_
      refine V_if_ne C dX10_write_44 (tgt := 54) rfl rfl (fun c6 => ?_) (fun c6 => ?_)
      · replace hf := ineg c6 hf
        refine V_aload_n C 0 dX10_write_54 rfl rfl rfl ?_
        refine V_getR C cf10 rfl 28 rfl (by decide) w1110 rfl dX10_write_55 rfl ?_
        refine V_bipush C dX10_write_58 rfl (v := 40) rfl ?_
        refine V_iload_n C 1 dX10_write_60 rfl rfl rfl ?_
        refine V_imul C dX10_write_61 rfl ?_
        refine V_iload_n C 2 dX10_write_62 rfl rfl rfl ?_
        refine V_iadd C dX10_write_63 rfl ?_
        refine V_iload_n C 3 dX10_write_64 rfl rfl rfl ?_
        refine V_aload_n C 0 dX10_write_65 rfl rfl rfl ?_
        refine V_getR C cf10 rfl 26 rfl (by decide) w1108 rfl dX10_write_66 rfl ?_
        refine V_iload_n C 1 dX10_write_69 rfl rfl rfl ?_
        obtain ⟨g3, hf⟩ := gd hf
        refine V_ildJ C rfl g3 rfl dX10_write_70 rfl ?_
        refine V_cSi C (As := [.int p3, .int (u 128 (p1).toNatClampNeg)]) (st := [.int ((40 * p1) + p2), .ref (ad 130)]) M_X10_cutTo w1618 ⟨by decide, by decide⟩ rfl rfl (Nat.le_of_ble_eq_true rfl) dX10_write_71 rfl (kX10_cutTo rfl) ?_
        obtain ⟨g4, hf⟩ := gd hf
        refine V_istJ C rfl g4 rfl dX10_write_74 rfl ?_
        refine V_iconst C dX10_write_75 rfl (v := 1) rfl ?_
        obtain rfl := Option.some.inj hf
        exact K _ _ _ dX10_write_76 rfl rfl
      · replace hf := ipos c6 hf
        refine V_aload_n C 0 dX10_write_47 rfl rfl rfl ?_
        refine V_ldc C dX10_write_48 rfl w1183 ?_
        obtain ⟨q5, hq5, hf⟩ := obd hf
        refine V_cVi C (b := 116) (As := [.int (-1000001)]) (st := []) cf10 rfl M_X10_finding w1184 ⟨by decide, by decide⟩ rfl rfl (Nat.le_of_ble_eq_true rfl) dX10_write_50 rfl (kX10_finding hq5) ?_
        obtain rfl := Option.some.inj hf
        exact K _ _ _ dX10_write_53 rfl rfl
    · replace hf := ipos c8 hf
      refine V_aload_n C 0 dX10_write_23 rfl rfl rfl ?_
      refine V_ldcw C dX10_write_24 rfl w1604 ?_
      obtain ⟨q7, hq7, hf⟩ := obd hf
      refine V_cVi C (b := 116) (As := [.int (-1000006)]) (st := []) cf10 rfl M_X10_finding w1184 ⟨by decide, by decide⟩ rfl rfl (Nat.le_of_ble_eq_true rfl) dX10_write_27 rfl (kX10_finding hq7) ?_
      obtain rfl := Option.some.inj hf
      exact K _ _ _ dX10_write_30 rfl rfl
  · replace hf := ipos c10 hf
    refine V_aload_n C 0 dX10_write_7 rfl rfl rfl ?_
    refine V_ldc C dX10_write_8 rfl w1183 ?_
    obtain ⟨q9, hq9, hf⟩ := obd hf
    refine V_cVi C (b := 116) (As := [.int (-1000001)]) (st := []) cf10 rfl M_X10_finding w1184 ⟨by decide, by decide⟩ rfl rfl (Nat.le_of_ble_eq_true rfl) dX10_write_10 rfl (kX10_finding hq9) ?_
    obtain rfl := Option.some.inj hf
    exact K _ _ _ dX10_write_13 rfl rfl
set_option maxHeartbeats 4000000 in
set_option maxRecDepth 100000 in
theorem kX10_copy {ad : Nat → Nat} {G : Gh} {p1 : Int32} {p2 : Int32} {p3 : Int32} {p4 : Int32} {p5 : Int32} {u : Mem} {q : Int32 × Mem} (hf : FX10_copy p1 p2 p3 p4 p5 u = some q) : Ct shs ad G yX10_copy cX10_copy 7 (some .int) 2 42 [.ref (ad 116), .int p1, .int p2, .int p3, .int p4, .int p5] u (some (.int q.1)) q.2 := by
  refine Ct_ofI (by decide) (Nat.le_of_ble_eq_true rfl) (fun X C hnL K => ?_)
  have C : Cx ad G X cX10_copy "CarryFairModel" 2 42 := C
  unfold FX10_copy at hf
  have Lp129 : ∀ (x0 : (Int32 × Mem)) (q129 : (Int32 × Mem)), lp (BX10_copy_129 p1 p2 p3 p4 p5) FU x0 = some q129 → V shs ad G X 163 [(0, .ref (ad 116)), (1, .int p1), (2, .int p2), (3, .int p3), (4, .int p4), (5, .int p5), (6, .int q129.1)] [] q129.2 → V shs ad G X 129 [(0, .ref (ad 116)), (1, .int p1), (2, .int p2), (3, .int p3), (4, .int p4), (5, .int p5), (6, .int x0.1)] [] x0.2 := by
    intro  x0 q129 hq hx129_0
    refine lp_V (BX10_copy_129 p1 p2 p3 p4 p5) (fun x129 => V shs ad G X 129 [(0, .ref (ad 116)), (1, .int p1), (2, .int p2), (3, .int p3), (4, .int p4), (5, .int p5), (6, .int x129.1)] [] x129.2) q129 (fun rec129 ih129 x129 hf => ?_) FU x0 hq
    unfold BX10_copy_129 at hf
    refine V_iload C 6 dX10_copy_129 rfl rfl ?_
    refine V_iload C 5 dX10_copy_131 rfl rfl ?_
    refine V_icmp_ge C dX10_copy_133 (tgt := 163) rfl rfl (fun c15 => ?_) (fun c15 => ?_)
    · replace hf := ipos c15 hf
      obtain rfl := Option.some.inj hf
      exact hx129_0
    · replace hf := ineg c15 hf
      refine V_aload_n C 0 dX10_copy_136 rfl rfl rfl ?_
      refine V_getR C cf10 rfl 29 rfl (by decide) w1111 rfl dX10_copy_137 rfl ?_
      refine V_iload C 6 dX10_copy_140 rfl rfl ?_
      refine V_aload_n C 0 dX10_copy_142 rfl rfl rfl ?_
      refine V_getR C cf10 rfl 28 rfl (by decide) w1110 rfl dX10_copy_143 rfl ?_
      refine V_bipush C dX10_copy_146 rfl (v := 40) rfl ?_
      refine V_iload_n C 1 dX10_copy_148 rfl rfl rfl ?_
      refine V_imul C dX10_copy_149 rfl ?_
      refine V_iload_n C 2 dX10_copy_150 rfl rfl rfl ?_
      refine V_iadd C dX10_copy_151 rfl ?_
      refine V_iload C 6 dX10_copy_152 rfl rfl ?_
      refine V_iadd C dX10_copy_154 rfl ?_
      obtain ⟨g13, hf⟩ := gd hf
      refine V_ildJ C rfl g13 rfl dX10_copy_155 rfl ?_
      obtain ⟨g14, hf⟩ := gd hf
      refine V_istJ C rfl g14 rfl dX10_copy_156 rfl ?_
      refine V_iinc C (v := (x129.1 + 1)) (L' := [(0, .ref (ad 116)), (1, .int p1), (2, .int p2), (3, .int p3), (4, .int p4), (5, .int p5), (6, .int (x129.1 + 1))]) 6 dX10_copy_157 rfl rfl rfl (by decide) hnL [1, 2, 3, 4, 5, 6, 0] rfl ?_
      refine V_goto C dX10_copy_160 (tgt := 129) rfl ?_
      exact ih129 ((x129.1 + 1), (mst x129.2 131 (x129.1).toNatClampNeg (x129.2 130 (((40 * p1) + p2) + x129.1).toNatClampNeg))) hf
  have Lp166 : ∀ (x0 : (Int32 × Mem)) (q166 : (Int32 × Mem)), lp (BX10_copy_166 p1 p2 p3 p4 p5) FU x0 = some q166 → V shs ad G X 201 [(0, .ref (ad 116)), (1, .int p1), (2, .int p2), (3, .int p3), (4, .int p4), (5, .int p5), (6, .int q166.1)] [] q166.2 → V shs ad G X 166 [(0, .ref (ad 116)), (1, .int p1), (2, .int p2), (3, .int p3), (4, .int p4), (5, .int p5), (6, .int x0.1)] [] x0.2 := by
    intro  x0 q166 hq hx166_0
    refine lp_V (BX10_copy_166 p1 p2 p3 p4 p5) (fun x166 => V shs ad G X 166 [(0, .ref (ad 116)), (1, .int p1), (2, .int p2), (3, .int p3), (4, .int p4), (5, .int p5), (6, .int x166.1)] [] x166.2) q166 (fun rec166 ih166 x166 hf => ?_) FU x0 hq
    unfold BX10_copy_166 at hf
    refine V_iload C 6 dX10_copy_166 rfl rfl ?_
    refine V_iload C 5 dX10_copy_168 rfl rfl ?_
    refine V_icmp_ge C dX10_copy_170 (tgt := 201) rfl rfl (fun c19 => ?_) (fun c19 => ?_)
    · replace hf := ipos c19 hf
      obtain rfl := Option.some.inj hf
      exact hx166_0
    · replace hf := ineg c19 hf
      refine V_aload_n C 0 dX10_copy_173 rfl rfl rfl ?_
      refine V_getR C cf10 rfl 28 rfl (by decide) w1110 rfl dX10_copy_174 rfl ?_
      refine V_bipush C dX10_copy_177 rfl (v := 40) rfl ?_
      refine V_iload_n C 3 dX10_copy_179 rfl rfl rfl ?_
      refine V_imul C dX10_copy_180 rfl ?_
      refine V_iload C 4 dX10_copy_181 rfl rfl ?_
      refine V_iadd C dX10_copy_183 rfl ?_
      refine V_iload C 6 dX10_copy_184 rfl rfl ?_
      refine V_iadd C dX10_copy_186 rfl ?_
      refine V_aload_n C 0 dX10_copy_187 rfl rfl rfl ?_
      refine V_getR C cf10 rfl 29 rfl (by decide) w1111 rfl dX10_copy_188 rfl ?_
      refine V_iload C 6 dX10_copy_191 rfl rfl ?_
      obtain ⟨g17, hf⟩ := gd hf
      refine V_ildJ C rfl g17 rfl dX10_copy_193 rfl ?_
      obtain ⟨g18, hf⟩ := gd hf
      refine V_istJ C rfl g18 rfl dX10_copy_194 rfl ?_
      refine V_iinc C (v := (x166.1 + 1)) (L' := [(0, .ref (ad 116)), (1, .int p1), (2, .int p2), (3, .int p3), (4, .int p4), (5, .int p5), (6, .int (x166.1 + 1))]) 6 dX10_copy_195 rfl rfl rfl (by decide) hnL [1, 2, 3, 4, 5, 6, 0] rfl ?_
      refine V_goto C dX10_copy_198 (tgt := 166) rfl ?_
      exact ih166 ((x166.1 + 1), (mst x166.2 130 ((((40 * p3) + p4) + x166.1).toNatClampNeg) (x166.2 131 (x166.1).toNatClampNeg))) hf
  refine V_iload_n C 1 dX10_copy_0 rfl rfl rfl ?_
  refine V_cSi C (As := [.int p1]) (st := []) M_X10_isSheet w1610 ⟨by decide, by decide⟩ rfl rfl (Nat.le_of_ble_eq_true rfl) dX10_copy_1 rfl (kX10_isSheet rfl) ?_
  refine V_if_eq C dX10_copy_4 (tgt := 14) rfl rfl (fun c34 => ?_) (fun c34 => ?_)
  · replace hf := ipos c34 hf
    refine V_aload_n C 0 dX10_copy_14 rfl rfl rfl ?_
    refine V_ldc C dX10_copy_15 rfl w1183 ?_
    obtain ⟨q1, hq1, hf⟩ := obd hf
    refine V_cVi C (b := 116) (As := [.int (-1000001)]) (st := []) cf10 rfl M_X10_finding w1184 ⟨by decide, by decide⟩ rfl rfl (Nat.le_of_ble_eq_true rfl) dX10_copy_17 rfl (kX10_finding hq1) ?_
    obtain rfl := Option.some.inj hf
    exact K _ _ _ dX10_copy_20 rfl rfl
  · replace hf := ineg c34 hf
    refine V_iload_n C 3 dX10_copy_7 rfl rfl rfl ?_
    refine V_cSi C (As := [.int p3]) (st := []) M_X10_isSheet w1610 ⟨by decide, by decide⟩ rfl rfl (Nat.le_of_ble_eq_true rfl) dX10_copy_8 rfl (kX10_isSheet rfl) ?_
    refine V_if_ne C dX10_copy_11 (tgt := 21) rfl rfl (fun c33 => ?_) (fun c33 => ?_)
    · replace hf := ineg c33 hf
      refine V_aload_n C 0 dX10_copy_21 rfl rfl rfl ?_
      refine V_getR C cf10 rfl 26 rfl (by decide) w1108 rfl dX10_copy_22 rfl ?_
      refine V_iload_n C 1 dX10_copy_25 rfl rfl rfl ?_
      obtain ⟨g2, hf⟩ := gd hf
      refine V_ildJ C rfl g2 rfl dX10_copy_26 rfl ?_
      refine V_if_eq C dX10_copy_27 (tgt := 39) rfl rfl (fun c31 => ?_) (fun c31 => ?_)
      · replace hf := ipos c31 hf
        refine V_aload_n C 0 dX10_copy_39 rfl rfl rfl ?_
        refine V_ldcw C dX10_copy_40 rfl w1604 ?_
        obtain ⟨q3, hq3, hf⟩ := obd hf
        refine V_cVi C (b := 116) (As := [.int (-1000006)]) (st := []) cf10 rfl M_X10_finding w1184 ⟨by decide, by decide⟩ rfl rfl (Nat.le_of_ble_eq_true rfl) dX10_copy_43 rfl (kX10_finding hq3) ?_
        obtain rfl := Option.some.inj hf
        exact K _ _ _ dX10_copy_46 rfl rfl
      · replace hf := ineg c31 hf
        refine V_aload_n C 0 dX10_copy_30 rfl rfl rfl ?_
        refine V_getR C cf10 rfl 26 rfl (by decide) w1108 rfl dX10_copy_31 rfl ?_
        refine V_iload_n C 3 dX10_copy_34 rfl rfl rfl ?_
        obtain ⟨g4, hf⟩ := gd hf
        refine V_ildJ C rfl g4 rfl dX10_copy_35 rfl ?_
        refine V_if_ne C dX10_copy_36 (tgt := 47) rfl rfl (fun c30 => ?_) (fun c30 => ?_)
        · replace hf := ineg c30 hf
          refine V_aload_n C 0 dX10_copy_47 rfl rfl rfl ?_
          refine V_getR C cf10 rfl 26 rfl (by decide) w1108 rfl dX10_copy_48 rfl ?_
          refine V_iload_n C 1 dX10_copy_51 rfl rfl rfl ?_
          obtain ⟨g5, hf⟩ := gd hf
          refine V_ildJ C rfl g5 rfl dX10_copy_52 rfl ?_
          refine V_aload_n C 0 dX10_copy_53 rfl rfl rfl ?_
          refine V_getR C cf10 rfl 26 rfl (by decide) w1108 rfl dX10_copy_54 rfl ?_
          refine V_iload_n C 3 dX10_copy_57 rfl rfl rfl ?_
          obtain ⟨g6, hf⟩ := gd hf
          refine V_ildJ C rfl g6 rfl dX10_copy_58 rfl ?_
          refine V_icmp_eq C dX10_copy_59 (tgt := 70) rfl rfl (fun c28 => ?_) (fun c28 => ?_)
          · replace hf := ipos c28 hf
            refine V_iload_n C 2 dX10_copy_70 rfl rfl rfl ?_
            refine V_if_lt C dX10_copy_71 (tgt := 119) rfl rfl (fun c26 => ?_) (fun c26 => ?_)
            · replace hf := ipos c26 hf
              refine V_aload_n C 0 dX10_copy_119 rfl rfl rfl ?_
              refine V_ldc C dX10_copy_120 rfl w1183 ?_
              obtain ⟨q7, hq7, hf⟩ := obd hf
              refine V_cVi C (b := 116) (As := [.int (-1000001)]) (st := []) cf10 rfl M_X10_finding w1184 ⟨by decide, by decide⟩ rfl rfl (Nat.le_of_ble_eq_true rfl) dX10_copy_122 rfl (kX10_finding hq7) ?_
              obtain rfl := Option.some.inj hf
              exact K _ _ _ dX10_copy_125 rfl rfl
            · replace hf := ineg c26 hf
              refine V_iload C 4 dX10_copy_74 rfl rfl ?_
              refine V_if_lt C dX10_copy_76 (tgt := 119) rfl rfl (fun c25 => ?_) (fun c25 => ?_)
              · replace hf := ipos c25 hf
                refine V_aload_n C 0 dX10_copy_119 rfl rfl rfl ?_
                refine V_ldc C dX10_copy_120 rfl w1183 ?_
                obtain ⟨q8, hq8, hf⟩ := obd hf
                refine V_cVi C (b := 116) (As := [.int (-1000001)]) (st := []) cf10 rfl M_X10_finding w1184 ⟨by decide, by decide⟩ rfl rfl (Nat.le_of_ble_eq_true rfl) dX10_copy_122 rfl (kX10_finding hq8) ?_
                obtain rfl := Option.some.inj hf
                exact K _ _ _ dX10_copy_125 rfl rfl
              · replace hf := ineg c25 hf
                refine V_iload C 5 dX10_copy_79 rfl rfl ?_
                refine V_if_lt C dX10_copy_81 (tgt := 119) rfl rfl (fun c24 => ?_) (fun c24 => ?_)
                · replace hf := ipos c24 hf
                  refine V_aload_n C 0 dX10_copy_119 rfl rfl rfl ?_
                  refine V_ldc C dX10_copy_120 rfl w1183 ?_
                  obtain ⟨q9, hq9, hf⟩ := obd hf
                  refine V_cVi C (b := 116) (As := [.int (-1000001)]) (st := []) cf10 rfl M_X10_finding w1184 ⟨by decide, by decide⟩ rfl rfl (Nat.le_of_ble_eq_true rfl) dX10_copy_122 rfl (kX10_finding hq9) ?_
                  obtain rfl := Option.some.inj hf
                  exact K _ _ _ dX10_copy_125 rfl rfl
                · replace hf := ineg c24 hf
                  refine V_iload_n C 2 dX10_copy_84 rfl rfl rfl ?_
                  refine V_i2l C dX10_copy_85 rfl ?_
                  refine V_iload C 5 dX10_copy_86 rfl rfl ?_
                  refine V_i2l C dX10_copy_88 rfl ?_
                  refine V_ladd C dX10_copy_89 rfl ?_
                  refine V_aload_n C 0 dX10_copy_90 rfl rfl rfl ?_
                  refine V_getR C cf10 rfl 27 rfl (by decide) w1109 rfl dX10_copy_91 rfl ?_
                  refine V_iload_n C 1 dX10_copy_94 rfl rfl rfl ?_
                  obtain ⟨g10, hf⟩ := gd hf
                  refine V_ildJ C rfl g10 rfl dX10_copy_95 rfl ?_
                  refine V_i2l C dX10_copy_96 rfl ?_
                  refine V_lcmp C dX10_copy_97 rfl ?_
                  refine V_if_gt C dX10_copy_98 (tgt := 119) rfl rfl (fun c23 => ?_) (fun c23 => ?_)
                  · replace hf := ipos c23 hf
                    refine V_aload_n C 0 dX10_copy_119 rfl rfl rfl ?_
                    refine V_ldc C dX10_copy_120 rfl w1183 ?_
                    obtain ⟨q11, hq11, hf⟩ := obd hf
                    refine V_cVi C (b := 116) (As := [.int (-1000001)]) (st := []) cf10 rfl M_X10_finding w1184 ⟨by decide, by decide⟩ rfl rfl (Nat.le_of_ble_eq_true rfl) dX10_copy_122 rfl (kX10_finding hq11) ?_
                    obtain rfl := Option.some.inj hf
                    exact K _ _ _ dX10_copy_125 rfl rfl
                  · replace hf := ineg c23 hf
                    refine V_iload C 4 dX10_copy_101 rfl rfl ?_
                    refine V_i2l C dX10_copy_103 rfl ?_
                    refine V_iload C 5 dX10_copy_104 rfl rfl ?_
                    refine V_i2l C dX10_copy_106 rfl ?_
                    refine V_ladd C dX10_copy_107 rfl ?_
                    refine V_aload_n C 0 dX10_copy_108 rfl rfl rfl ?_
                    refine V_getR C cf10 rfl 27 rfl (by decide) w1109 rfl dX10_copy_109 rfl ?_
                    refine V_iload_n C 3 dX10_copy_112 rfl rfl rfl ?_
                    obtain ⟨g12, hf⟩ := gd hf
                    refine V_ildJ C rfl g12 rfl dX10_copy_113 rfl ?_
                    refine V_i2l C dX10_copy_114 rfl ?_
                    refine V_lcmp C dX10_copy_115 rfl ?_
                    refine V_if_le C dX10_copy_116 (tgt := 126) rfl rfl (fun c22 => ?_) (fun c22 => ?_)
                    · replace hf := ipos c22 hf
                      refine V_iconst C dX10_copy_126 rfl (v := 0) rfl ?_
                      refine V_istore C (L' := [(0, .ref (ad 116)), (1, .int p1), (2, .int p2), (3, .int p3), (4, .int p4), (5, .int p5), (6, .int 0)]) dX10_copy_127 rfl (by decide) hnL [1, 2, 3, 4, 5, 6, 0] rfl ?_
                      obtain ⟨q129_16, hq129_16, hf⟩ := obd hf
                      refine Lp129  (0, u) q129_16 hq129_16 ?_
                      refine V_iconst C dX10_copy_163 rfl (v := 0) rfl ?_
                      refine V_istore C (L' := [(0, .ref (ad 116)), (1, .int p1), (2, .int p2), (3, .int p3), (4, .int p4), (5, .int p5), (6, .int 0)]) dX10_copy_164 rfl (by decide) hnL [1, 2, 3, 4, 5, 6, 0] rfl ?_
                      obtain ⟨q166_20, hq166_20, hf⟩ := obd hf
                      refine Lp166  (0, q129_16.2) q166_20 hq166_20 ?_
                      refine V_iload C 5 dX10_copy_201 rfl rfl ?_
                      obtain rfl := Option.some.inj hf
                      exact K _ _ _ dX10_copy_203 rfl rfl
                    · replace hf := ineg c22 hf
                      refine V_aload_n C 0 dX10_copy_119 rfl rfl rfl ?_
                      refine V_ldc C dX10_copy_120 rfl w1183 ?_
                      obtain ⟨q21, hq21, hf⟩ := obd hf
                      refine V_cVi C (b := 116) (As := [.int (-1000001)]) (st := []) cf10 rfl M_X10_finding w1184 ⟨by decide, by decide⟩ rfl rfl (Nat.le_of_ble_eq_true rfl) dX10_copy_122 rfl (kX10_finding hq21) ?_
                      obtain rfl := Option.some.inj hf
                      exact K _ _ _ dX10_copy_125 rfl rfl
          · replace hf := ineg c28 hf
            refine V_aload_n C 0 dX10_copy_62 rfl rfl rfl ?_
            refine V_ldcw C dX10_copy_63 rfl w1605 ?_
            obtain ⟨q27, hq27, hf⟩ := obd hf
            refine V_cVi C (b := 116) (As := [.int (-1000003)]) (st := []) cf10 rfl M_X10_finding w1184 ⟨by decide, by decide⟩ rfl rfl (Nat.le_of_ble_eq_true rfl) dX10_copy_66 rfl (kX10_finding hq27) ?_
            obtain rfl := Option.some.inj hf
            exact K _ _ _ dX10_copy_69 rfl rfl
        · replace hf := ipos c30 hf
          refine V_aload_n C 0 dX10_copy_39 rfl rfl rfl ?_
          refine V_ldcw C dX10_copy_40 rfl w1604 ?_
          obtain ⟨q29, hq29, hf⟩ := obd hf
          refine V_cVi C (b := 116) (As := [.int (-1000006)]) (st := []) cf10 rfl M_X10_finding w1184 ⟨by decide, by decide⟩ rfl rfl (Nat.le_of_ble_eq_true rfl) dX10_copy_43 rfl (kX10_finding hq29) ?_
          obtain rfl := Option.some.inj hf
          exact K _ _ _ dX10_copy_46 rfl rfl
    · replace hf := ipos c33 hf
      refine V_aload_n C 0 dX10_copy_14 rfl rfl rfl ?_
      refine V_ldc C dX10_copy_15 rfl w1183 ?_
      obtain ⟨q32, hq32, hf⟩ := obd hf
      refine V_cVi C (b := 116) (As := [.int (-1000001)]) (st := []) cf10 rfl M_X10_finding w1184 ⟨by decide, by decide⟩ rfl rfl (Nat.le_of_ble_eq_true rfl) dX10_copy_17 rfl (kX10_finding hq32) ?_
      obtain rfl := Option.some.inj hf
      exact K _ _ _ dX10_copy_20 rfl rfl
set_option maxHeartbeats 4000000 in
set_option maxRecDepth 100000 in
theorem kX10_load {ad : Nat → Nat} {G : Gh} {p1 : Int32} {u : Mem} {q : Int32 × Mem} (hf : FX10_load p1 u = some q) : Ct shs ad G yX10_load cX10_load 3 (some .int) 2 43 [.ref (ad 116), .int p1] u (some (.int q.1)) q.2 := by
  refine Ct_ofI (by decide) (Nat.le_of_ble_eq_true rfl) (fun X C hnL K => ?_)
  have C : Cx ad G X cX10_load "CarryFairModel" 2 43 := C
  unfold FX10_load at hf
  have Lp33 : ∀ (x0 : (Int32 × Mem)) (q33 : (Int32 × Mem)), lp (BX10_load_33 p1) FU x0 = some q33 → V shs ad G X 99 [(0, .ref (ad 116)), (1, .int p1), (2, .int q33.1)] [] q33.2 → V shs ad G X 33 [(0, .ref (ad 116)), (1, .int p1), (2, .int x0.1)] [] x0.2 := by
    intro  x0 q33 hq hx33_0
    refine lp_V (BX10_load_33 p1) (fun x33 => V shs ad G X 33 [(0, .ref (ad 116)), (1, .int p1), (2, .int x33.1)] [] x33.2) q33 (fun rec33 ih33 x33 hf => ?_) FU x0 hq
    unfold BX10_load_33 at hf
    refine V_iload_n C 2 dX10_load_33 rfl rfl rfl ?_
    refine V_aload_n C 0 dX10_load_34 rfl rfl rfl ?_
    refine V_getR C cf10 rfl 27 rfl (by decide) w1109 rfl dX10_load_35 rfl ?_
    refine V_iload_n C 1 dX10_load_38 rfl rfl rfl ?_
    obtain ⟨g2, hf⟩ := gd hf
    refine V_ildJ C rfl g2 rfl dX10_load_39 rfl ?_
    refine V_icmp_ge C dX10_load_40 (tgt := 99) rfl rfl (fun c8 => ?_) (fun c8 => ?_)
    · replace hf := ipos c8 hf
      obtain rfl := Option.some.inj hf
      exact hx33_0
    · replace hf := ineg c8 hf
      refine V_aload_n C 0 dX10_load_43 rfl rfl rfl ?_
      refine V_iload_n C 2 dX10_load_44 rfl rfl rfl ?_
      refine V_cVi C (b := 116) (As := [.int x33.1]) (st := []) cf10 rfl M_X10_isWare w1314 ⟨by decide, by decide⟩ rfl rfl (Nat.le_of_ble_eq_true rfl) dX10_load_45 rfl (kX10_isWare rfl) ?_
      refine V_if_eq C dX10_load_48 (tgt := 99) rfl rfl (fun c7 => ?_) (fun c7 => ?_)
      · replace hf := ipos c7 hf
        obtain rfl := Option.some.inj hf
        exact hx33_0
      · replace hf := ineg c7 hf
        refine V_aload_n C 0 dX10_load_51 rfl rfl rfl ?_
        refine V_getR C cf10 rfl 28 rfl (by decide) w1110 rfl dX10_load_52 rfl ?_
        refine V_bipush C dX10_load_55 rfl (v := 40) rfl ?_
        refine V_iload_n C 1 dX10_load_57 rfl rfl rfl ?_
        refine V_imul C dX10_load_58 rfl ?_
        refine V_iload_n C 2 dX10_load_59 rfl rfl rfl ?_
        refine V_iadd C dX10_load_60 rfl ?_
        obtain ⟨g3, hf⟩ := gd hf
        refine V_ildJ C rfl g3 rfl dX10_load_61 rfl ?_
        refine V_iconst C dX10_load_62 rfl (v := 1) rfl ?_
        refine V_sipush C dX10_load_63 rfl (v := 9999) rfl ?_
        refine V_cSi C (As := [.int (x33.2 130 ((40 * p1) + x33.1).toNatClampNeg), .int 1, .int 9999]) (st := []) M_X10_within w1180 ⟨by decide, by decide⟩ rfl rfl (Nat.le_of_ble_eq_true rfl) dX10_load_66 rfl (kX10_within rfl) ?_
        refine V_if_eq C dX10_load_69 (tgt := 99) rfl rfl (fun c6 => ?_) (fun c6 => ?_)
        · replace hf := ipos c6 hf
          obtain rfl := Option.some.inj hf
          exact hx33_0
        · replace hf := ineg c6 hf
          refine V_aload_n C 0 dX10_load_72 rfl rfl rfl ?_
          refine V_getR C cf10 rfl 0 rfl (by decide) w1082 rfl dX10_load_73 rfl ?_
          refine V_iload_n C 2 dX10_load_76 rfl rfl rfl ?_
          refine V_iconst C dX10_load_77 rfl (v := 0) rfl ?_
          refine V_cSi C (As := [.int x33.1, .int 0]) (st := [.ref (ad 117)]) M_X10_wAt w1307 ⟨by decide, by decide⟩ rfl rfl (Nat.le_of_ble_eq_true rfl) dX10_load_78 rfl (kX10_wAt rfl) ?_
          refine V_aload_n C 0 dX10_load_81 rfl rfl rfl ?_
          refine V_getR C cf10 rfl 28 rfl (by decide) w1110 rfl dX10_load_82 rfl ?_
          refine V_bipush C dX10_load_85 rfl (v := 40) rfl ?_
          refine V_iload_n C 1 dX10_load_87 rfl rfl rfl ?_
          refine V_imul C dX10_load_88 rfl ?_
          refine V_iload_n C 2 dX10_load_89 rfl rfl rfl ?_
          refine V_iadd C dX10_load_90 rfl ?_
          obtain ⟨g4, hf⟩ := gd hf
          refine V_ildJ C rfl g4 rfl dX10_load_91 rfl ?_
          obtain ⟨g5, hf⟩ := gd hf
          refine V_istJ C rfl g5 rfl dX10_load_92 rfl ?_
          refine V_iinc C (v := (x33.1 + 1)) (L' := [(0, .ref (ad 116)), (1, .int p1), (2, .int (x33.1 + 1))]) 2 dX10_load_93 rfl rfl rfl (by decide) hnL [1, 2, 0] rfl ?_
          refine V_goto C dX10_load_96 (tgt := 33) rfl ?_
          exact ih33 ((x33.1 + 1), (mst x33.2 117 ((FX10_wAt x33.1 0).toNatClampNeg) (x33.2 130 ((40 * p1) + x33.1).toNatClampNeg))) hf
  refine V_iload_n C 1 dX10_load_0 rfl rfl rfl ?_
  refine V_cSi C (As := [.int p1]) (st := []) M_X10_isSheet w1610 ⟨by decide, by decide⟩ rfl rfl (Nat.le_of_ble_eq_true rfl) dX10_load_1 rfl (kX10_isSheet rfl) ?_
  refine V_if_ne C dX10_load_4 (tgt := 14) rfl rfl (fun c13 => ?_) (fun c13 => ?_)
  · replace hf := ineg c13 hf
    refine V_aload_n C 0 dX10_load_14 rfl rfl rfl ?_
    refine V_getR C cf10 rfl 26 rfl (by decide) w1108 rfl dX10_load_15 rfl ?_
    refine V_iload_n C 1 dX10_load_18 rfl rfl rfl ?_
    obtain ⟨g1, hf⟩ := gd hf
    refine V_ildJ C rfl g1 rfl dX10_load_19 rfl ?_
    refine V_if_ne C dX10_load_20 (tgt := 31) rfl rfl (fun c11 => ?_) (fun c11 => ?_)
    · replace hf := ineg c11 hf
      refine V_iconst C dX10_load_31 rfl (v := 0) rfl ?_
      refine V_istore_n C (L' := [(0, .ref (ad 116)), (1, .int p1), (2, .int 0)]) dX10_load_32 rfl rfl (by decide) hnL [1, 2, 0] rfl ?_
      obtain ⟨q33_9, hq33_9, hf⟩ := obd hf
      refine Lp33  (0, u) q33_9 hq33_9 ?_
      refine V_iload_n C 2 dX10_load_99 rfl rfl rfl ?_
      obtain rfl := Option.some.inj hf
      exact K _ _ _ dX10_load_100 rfl rfl
    · replace hf := ipos c11 hf
      refine V_aload_n C 0 dX10_load_23 rfl rfl rfl ?_
      refine V_ldcw C dX10_load_24 rfl w1604 ?_
      obtain ⟨q10, hq10, hf⟩ := obd hf
      refine V_cVi C (b := 116) (As := [.int (-1000006)]) (st := []) cf10 rfl M_X10_finding w1184 ⟨by decide, by decide⟩ rfl rfl (Nat.le_of_ble_eq_true rfl) dX10_load_27 rfl (kX10_finding hq10) ?_
      obtain rfl := Option.some.inj hf
      exact K _ _ _ dX10_load_30 rfl rfl
  · replace hf := ipos c13 hf
    refine V_aload_n C 0 dX10_load_7 rfl rfl rfl ?_
    refine V_ldc C dX10_load_8 rfl w1183 ?_
    obtain ⟨q12, hq12, hf⟩ := obd hf
    refine V_cVi C (b := 116) (As := [.int (-1000001)]) (st := []) cf10 rfl M_X10_finding w1184 ⟨by decide, by decide⟩ rfl rfl (Nat.le_of_ble_eq_true rfl) dX10_load_10 rfl (kX10_finding hq12) ?_
    obtain rfl := Option.some.inj hf
    exact K _ _ _ dX10_load_13 rfl rfl
