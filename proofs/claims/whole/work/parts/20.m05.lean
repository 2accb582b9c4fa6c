set_option maxHeartbeats 4000000 in
set_option maxRecDepth 100000 in
theorem kX9_worth {ad : Nat → Nat} {G : Gh} {p1 : Int32} {p2 : Int32} {u : Mem} {q : Int32 × Mem} (hf : FX9_worth p1 p2 u = some q) : Ct shs ad G yX9_worth cX9_worth 6 (some .int) 6 152 [.ref (ad 0), .int p1, .int p2] u (some (.int q.1)) q.2 := by
  refine Ct_ofI (by decide) (Nat.le_of_ble_eq_true rfl) (fun X C hnL K => ?_)
  have C : Cx ad G X cX9_worth "CarryFair" 6 152 := C
  unfold FX9_worth at hf
  refine V_aload_n C 0 dX9_worth_0 rfl rfl rfl ?_
  refine V_iload_n C 1 dX9_worth_1 rfl rfl rfl ?_
  refine V_iload_n C 2 dX9_worth_2 rfl rfl rfl ?_
  obtain ⟨q1, hq1, hf⟩ := obd hf
  refine V_cVi C (b := 0) (As := [.int p1, .int p2]) (st := []) cf9 rfl M_X9_roundLack w604 ⟨by decide, by decide⟩ rfl rfl (Nat.le_of_ble_eq_true rfl) dX9_worth_3 rfl (kX9_roundLack hq1) ?_
  refine V_istore_n C (L' := [(0, .ref (ad 0)), (1, .int p1), (2, .int p2), (3, .int q1)]) dX9_worth_6 rfl rfl (by decide) hnL [1, 2, 3, 0] rfl ?_
  refine V_iload_n C 3 dX9_worth_7 rfl rfl rfl ?_
  refine V_if_eq C dX9_worth_8 (tgt := 17) rfl rfl (fun c9 => ?_) (fun c9 => ?_)
  · replace hf := ipos c9 hf
    refine V_aload_n C 0 dX9_worth_17 rfl rfl rfl ?_
    refine V_iload_n C 1 dX9_worth_18 rfl rfl rfl ?_
    refine V_iload_n C 2 dX9_worth_19 rfl rfl rfl ?_
    obtain ⟨q2, hq2, hf⟩ := obd hf
    refine V_cVi C (b := 0) (As := [.int p1, .int p2]) (st := []) cf9 rfl M_X9_shortestByBridge w757 ⟨by decide, by decide⟩ rfl rfl (Nat.le_of_ble_eq_true rfl) dX9_worth_20 rfl (kX9_shortestByBridge hq2) ?_
    refine V_sipush C dX9_worth_23 rfl (v := 256) rfl ?_
    refine V_idiv C dX9_worth_26 rfl (by decide) ?_
    refine V_istore C (L' := [(0, .ref (ad 0)), (1, .int p1), (2, .int p2), (3, .int q1), (4, .int (q2.1 / 256))]) dX9_worth_27 rfl (by decide) hnL [1, 2, 3, 4, 0] rfl ?_
    refine V_aload_n C 0 dX9_worth_29 rfl rfl rfl ?_
    refine V_aload_n C 0 dX9_worth_30 rfl rfl rfl ?_
    refine V_getR C cf9 rfl 0 rfl (by decide) w361 rfl dX9_worth_31 rfl ?_
    refine V_iload_n C 1 dX9_worth_34 rfl rfl rfl ?_
    refine V_iload_n C 2 dX9_worth_35 rfl rfl rfl ?_
    obtain ⟨q3, hq3, hf⟩ := obd hf
    refine V_cVi C (b := 0) (As := [.ref (ad 1), .int p1, .int p2]) (st := []) cf9 rfl M_X9_yardsOfRound w627 ⟨by decide, by decide⟩ rfl rfl (Nat.le_of_ble_eq_true rfl) dX9_worth_36 rfl (kX9_yardsOfRound isF1 hq3) ?_
    refine V_istore C (L' := [(0, .ref (ad 0)), (1, .int p1), (2, .int p2), (3, .int q1), (4, .int (q2.1 / 256)), (5, .int q3.1)]) dX9_worth_39 rfl (by decide) hnL [1, 2, 3, 4, 5, 0] rfl ?_
    refine V_iload C 4 dX9_worth_41 rfl rfl ?_
    refine V_ldc C dX9_worth_43 rfl w499 ?_
    refine V_icmp_ge C dX9_worth_45 (tgt := 55) rfl rfl (fun c7 => ?_) (fun c7 => ?_)
    · replace hf := ipos c7 hf
      refine V_aload_n C 0 dX9_worth_55 rfl rfl rfl ?_
      refine V_ldc C dX9_worth_56 rfl w500 ?_
      obtain ⟨q4, hq4, hf⟩ := obd hf
      refine V_cVi C (b := 0) (As := [.int (-1000004)]) (st := []) cf9 rfl M_X9_finding w397 ⟨by decide, by decide⟩ rfl rfl (Nat.le_of_ble_eq_true rfl) dX9_worth_58 rfl (kX9_finding hq4) ?_
      obtain rfl := Option.some.inj hf
      exact K _ _ _ dX9_worth_61 rfl rfl
    · replace hf := ineg c7 hf
      refine V_iload C 5 dX9_worth_48 rfl rfl ?_
      refine V_ldc C dX9_worth_50 rfl w499 ?_
      refine V_icmp_lt C dX9_worth_52 (tgt := 62) rfl rfl (fun c6 => ?_) (fun c6 => ?_)
      · replace hf := ipos c6 hf
        refine V_iload C 5 dX9_worth_62 rfl rfl ?_
        refine V_iload C 4 dX9_worth_64 rfl rfl ?_
        refine V_isub C dX9_worth_66 rfl ?_
        obtain rfl := Option.some.inj hf
        exact K _ _ _ dX9_worth_67 rfl rfl
      · replace hf := ineg c6 hf
        refine V_aload_n C 0 dX9_worth_55 rfl rfl rfl ?_
        refine V_ldc C dX9_worth_56 rfl w500 ?_
        obtain ⟨q5, hq5, hf⟩ := obd hf
        refine V_cVi C (b := 0) (As := [.int (-1000004)]) (st := []) cf9 rfl M_X9_finding w397 ⟨by decide, by decide⟩ rfl rfl (Nat.le_of_ble_eq_true rfl) dX9_worth_58 rfl (kX9_finding hq5) ?_
        obtain rfl := Option.some.inj hf
        exact K _ _ _ dX9_worth_61 rfl rfl
  · replace hf := ineg c9 hf
    refine V_aload_n C 0 dX9_worth_11 rfl rfl rfl ?_
    refine V_iload_n C 3 dX9_worth_12 rfl rfl rfl ?_
    obtain ⟨q8, hq8, hf⟩ := obd hf
    refine V_cVi C (b := 0) (As := [.int q1]) (st := []) cf9 rfl M_X9_finding w397 ⟨by decide, by decide⟩ rfl rfl (Nat.le_of_ble_eq_true rfl) dX9_worth_13 rfl (kX9_finding hq8) ?_
    obtain rfl := Option.some.inj hf
    exact K _ _ _ dX9_worth_16 rfl rfl
set_option maxHeartbeats 4000000 in
set_option maxRecDepth 100000 in
theorem kX9_reach {ad : Nat → Nat} {G : Gh} {p1 : Int32} {u : Mem} {q : Int32 × Mem} (hf : FX9_reach p1 u = some q) : Ct shs ad G yX9_reach cX9_reach 4 (some .int) 2 45 [.ref (ad 0), .int p1] u (some (.int q.1)) q.2 := by
  refine Ct_ofI (by decide) (Nat.le_of_ble_eq_true rfl) (fun X C hnL K => ?_)
  have C : Cx ad G X cX9_reach "CarryFair" 2 45 := C
  unfold FX9_reach at hf
  have Lp22 : ∀ (w : Mem) (x0 : (Int32 × Int32)) (q22 : (Int32 × Int32)), lp (BX9_reach_22 p1 w) FU x0 = some q22 → V shs ad G X 54 [(0, .ref (ad 0)), (1, .int p1), (2, .int q22.1), (3, .int q22.2)] [] w → V shs ad G X 22 [(0, .ref (ad 0)), (1, .int p1), (2, .int x0.1), (3, .int x0.2)] [] w := by
    intro w x0 q22 hq hx22_0
    refine lp_V (BX9_reach_22 p1 w) (fun x22 => V shs ad G X 22 [(0, .ref (ad 0)), (1, .int p1), (2, .int x22.1), (3, .int x22.2)] [] w) q22 (fun rec22 ih22 x22 hf => ?_) FU x0 hq
    unfold BX9_reach_22 at hf
    refine V_iload_n C 3 dX9_reach_22 rfl rfl rfl ?_
    refine V_bipush C dX9_reach_23 rfl (v := 7) rfl ?_
    refine V_icmp_ge C dX9_reach_25 (tgt := 54) rfl rfl (fun c3 => ?_) (fun c3 => ?_)
    · replace hf := ipos c3 hf
      obtain rfl := Option.some.inj hf
      exact hx22_0
    · replace hf := ineg c3 hf
      refine V_aload_n C 0 dX9_reach_28 rfl rfl rfl ?_
      refine V_getR C cf9 rfl 0 rfl (by decide) w361 rfl dX9_reach_29 rfl ?_
      refine V_iload_n C 1 dX9_reach_32 rfl rfl rfl ?_
      refine V_iload_n C 3 dX9_reach_33 rfl rfl rfl ?_
      obtain ⟨q1, hq1, hf⟩ := obd hf
      refine V_cVi C (b := 1) (As := [.int p1, .int x22.2]) (st := []) cf2 (sF isF1) M_X2_yardsTo w559 ⟨by decide, by decide⟩ rfl rfl (Nat.le_of_ble_eq_true rfl) dX9_reach_34 rfl (kX2_yardsTo isF1 hq1) ?_
      refine V_ldc C dX9_reach_37 rfl w499 ?_
      refine V_icmp_ge C dX9_reach_39 (tgt := 48) rfl rfl (fun c2 => ?_) (fun c2 => ?_)
      · replace hf := ipos c2 hf
        refine V_iinc C (v := (x22.2 + 1)) (L' := [(0, .ref (ad 0)), (1, .int p1), (2, .int x22.1), (3, .int (x22.2 + 1))]) 3 dX9_reach_48 rfl rfl rfl (by decide) hnL [1, 2, 3, 0] rfl ?_
        refine V_goto C dX9_reach_51 (tgt := 22) rfl ?_
        exact ih22 (x22.1, (x22.2 + 1)) hf
      · replace hf := ineg c2 hf
        refine V_iload_n C 2 dX9_reach_42 rfl rfl rfl ?_
        refine V_iconst C dX9_reach_43 rfl (v := 1) rfl ?_
        refine V_iload_n C 3 dX9_reach_44 rfl rfl rfl ?_
        refine V_jshl C dX9_reach_45 rfl ?_
        refine V_ior C dX9_reach_46 rfl ?_
        refine V_istore_n C (L' := [(0, .ref (ad 0)), (1, .int p1), (2, .int (x22.1 ||| (jshl 1 x22.2))), (3, .int x22.2)]) dX9_reach_47 rfl rfl (by decide) hnL [1, 2, 0, 3] rfl ?_
        refine V_iinc C (v := (x22.2 + 1)) (L' := [(0, .ref (ad 0)), (1, .int p1), (2, .int (x22.1 ||| (jshl 1 x22.2))), (3, .int (x22.2 + 1))]) 3 dX9_reach_48 rfl rfl rfl (by decide) hnL [1, 2, 3, 0] rfl ?_
        refine V_goto C dX9_reach_51 (tgt := 22) rfl ?_
        exact ih22 ((x22.1 ||| (jshl 1 x22.2)), (x22.2 + 1)) hf
  refine V_aload_n C 0 dX9_reach_0 rfl rfl rfl ?_
  refine V_getR C cf9 rfl 0 rfl (by decide) w361 rfl dX9_reach_1 rfl ?_
  refine V_iload_n C 1 dX9_reach_4 rfl rfl rfl ?_
  refine V_cVi C (b := 1) (As := [.int p1]) (st := []) cf2 (sF isF1) M_X2_hasCarrier w410 ⟨by decide, by decide⟩ rfl rfl (Nat.le_of_ble_eq_true rfl) dX9_reach_5 rfl (kX2_hasCarrier isF1 rfl) ?_
  refine V_if_ne C dX9_reach_8 (tgt := 18) rfl rfl (fun c6 => ?_) (fun c6 => ?_)
  · replace hf := ineg c6 hf
    refine V_iconst C dX9_reach_18 rfl (v := 0) rfl ?_
    refine V_istore_n C (L' := [(0, .ref (ad 0)), (1, .int p1), (2, .int 0)]) dX9_reach_19 rfl rfl (by decide) hnL [1, 2, 0] rfl ?_
    refine V_iconst C dX9_reach_20 rfl (v := 0) rfl ?_
    refine V_istore_n C (L' := [(0, .ref (ad 0)), (1, .int p1), (2, .int 0), (3, .int 0)]) dX9_reach_21 rfl rfl (by decide) hnL [1, 2, 3, 0] rfl ?_
    obtain ⟨q22_4, hq22_4, hf⟩ := obd hf
    refine Lp22 u (0, 0) q22_4 hq22_4 ?_
    refine V_iload_n C 2 dX9_reach_54 rfl rfl rfl ?_
    obtain rfl := Option.some.inj hf
    exact K _ _ _ dX9_reach_55 rfl rfl
  · replace hf := ipos c6 hf
    refine V_aload_n C 0 dX9_reach_11 rfl rfl rfl ?_
    refine V_ldc C dX9_reach_12 rfl w396 ?_
    obtain ⟨q5, hq5, hf⟩ := obd hf
    refine V_cVi C (b := 0) (As := [.int (-1000001)]) (st := []) cf9 rfl M_X9_finding w397 ⟨by decide, by decide⟩ rfl rfl (Nat.le_of_ble_eq_true rfl) dX9_reach_14 rfl (kX9_finding hq5) ?_
    obtain rfl := Option.some.inj hf
    exact K _ _ _ dX9_reach_17 rfl rfl
set_option maxHeartbeats 4000000 in
set_option maxRecDepth 100000 in
theorem kX9_middle {ad : Nat → Nat} {G : Gh} {p1 : Int32} {u : Mem} {q : Int32 × Mem} (hf : FX9_middle p1 u = some q) : Ct shs ad G yX9_middle cX9_middle 4 (some .int) 3 68 [.ref (ad 0), .int p1] u (some (.int q.1)) q.2 := by
  refine Ct_ofI (by decide) (Nat.le_of_ble_eq_true rfl) (fun X C hnL K => ?_)
  have C : Cx ad G X cX9_middle "CarryFair" 3 68 := C
  unfold FX9_middle at hf
  have Lp24 : ∀ (w : Mem) (x0 : (Int32 × Int32)) (q24 : (Int32 × Int32)), lp (BX9_middle_24 p1 w) FU x0 = some q24 → V shs ad G X 84 [(0, .ref (ad 0)), (1, .int p1), (2, .int q24.1), (3, .int q24.2)] [] w → V shs ad G X 24 [(0, .ref (ad 0)), (1, .int p1), (2, .int x0.1), (3, .int x0.2)] [] w := by
    intro w x0 q24 hq hx24_0
    refine lp_V (BX9_middle_24 p1 w) (fun x24 => V shs ad G X 24 [(0, .ref (ad 0)), (1, .int p1), (2, .int x24.1), (3, .int x24.2)] [] w) q24 (fun rec24 ih24 x24 hf => ?_) FU x0 hq
    unfold BX9_middle_24 at hf
    refine V_iload_n C 3 dX9_middle_24 rfl rfl rfl ?_
    refine V_bipush C dX9_middle_25 rfl (v := 7) rfl ?_
    refine V_icmp_ge C dX9_middle_27 (tgt := 84) rfl rfl (fun c5 => ?_) (fun c5 => ?_)
    · replace hf := ipos c5 hf
      obtain rfl := Option.some.inj hf
      exact hx24_0
    · replace hf := ineg c5 hf
      refine V_aload_n C 0 dX9_middle_30 rfl rfl rfl ?_
      refine V_getR C cf9 rfl 0 rfl (by decide) w361 rfl dX9_middle_31 rfl ?_
      refine V_getR C cf2 (sF isF1) 3 rfl (by decide) w256 rfl dX9_middle_34 rfl ?_
      refine V_iload_n C 3 dX9_middle_37 rfl rfl rfl ?_
      obtain ⟨q1, hq1, hf⟩ := obd hf
      refine V_cVi C (b := (1 + 4)) (As := [.int x24.2]) (st := []) cf8 (sW (wF isF1)) M_X8_hasAny w793 ⟨by decide, by decide⟩ rfl rfl (Nat.le_of_ble_eq_true rfl) dX9_middle_38 rfl (kX8_hasAny (wF isF1) hq1) ?_
      refine V_if_eq C dX9_middle_41 (tgt := 78) rfl rfl (fun c4 => ?_) (fun c4 => ?_)
      · replace hf := ipos c4 hf
        refine V_iinc C (v := (x24.2 + 1)) (L' := [(0, .ref (ad 0)), (1, .int p1), (2, .int x24.1), (3, .int (x24.2 + 1))]) 3 dX9_middle_78 rfl rfl rfl (by decide) hnL [1, 2, 3, 0] rfl ?_
        refine V_goto C dX9_middle_81 (tgt := 24) rfl ?_
        exact ih24 (x24.1, (x24.2 + 1)) hf
      · replace hf := ineg c4 hf
        refine V_iload_n C 2 dX9_middle_44 rfl rfl rfl ?_
        refine V_aload_n C 0 dX9_middle_45 rfl rfl rfl ?_
        refine V_getR C cf9 rfl 0 rfl (by decide) w361 rfl dX9_middle_46 rfl ?_
        refine V_getR C cf2 (sF isF1) 3 rfl (by decide) w256 rfl dX9_middle_49 rfl ?_
        refine V_aload_n C 0 dX9_middle_52 rfl rfl rfl ?_
        refine V_getR C cf9 rfl 0 rfl (by decide) w361 rfl dX9_middle_53 rfl ?_
        refine V_getR C cf2 (sF isF1) 0 rfl (by decide) w247 rfl dX9_middle_56 rfl ?_
        refine V_iload_n C 1 dX9_middle_59 rfl rfl rfl ?_
        obtain ⟨g2, hf⟩ := gd hf
        refine V_aald C (sFc isF1) (fun _ => rfl) g2 (sCag g2) dX9_middle_60 rfl ?_
        refine V_getI C cf0 (sCa isF1 g2) 0 rfl (by decide) w170 rfl dX9_middle_61 rfl ?_
        refine V_iload_n C 3 dX9_middle_64 rfl rfl rfl ?_
        obtain ⟨q3, hq3, hf⟩ := obd hf
        refine V_cVi C (b := (1 + 4)) (As := [.int (w (1 + 12 + (p1).toNatClampNeg) 0), .int x24.2]) (st := [.int x24.1]) cf8 (sW (wF isF1)) M_X8_farthest w798 ⟨by decide, by decide⟩ rfl rfl (Nat.le_of_ble_eq_true rfl) dX9_middle_65 rfl (kX8_farthest (wF isF1) hq3) ?_
        refine V_sipush C dX9_middle_68 rfl (v := 256) rfl ?_
        refine V_imul C dX9_middle_71 rfl ?_
        refine V_iload_n C 3 dX9_middle_72 rfl rfl rfl ?_
        refine V_iadd C dX9_middle_73 rfl ?_
        refine V_mmin C w702 ⟨by decide, by decide⟩ (Nat.le_of_ble_eq_true rfl) dX9_middle_74 rfl ?_
        refine V_istore_n C (L' := [(0, .ref (ad 0)), (1, .int p1), (2, .int (jmin x24.1 ((q3 * 256) + x24.2))), (3, .int x24.2)]) dX9_middle_77 rfl rfl (by decide) hnL [1, 2, 0, 3] rfl ?_
        refine V_iinc C (v := (x24.2 + 1)) (L' := [(0, .ref (ad 0)), (1, .int p1), (2, .int (jmin x24.1 ((q3 * 256) + x24.2))), (3, .int (x24.2 + 1))]) 3 dX9_middle_78 rfl rfl rfl (by decide) hnL [1, 2, 3, 0] rfl ?_
        refine V_goto C dX9_middle_81 (tgt := 24) rfl ?_
        exact ih24 ((jmin x24.1 ((q3 * 256) + x24.2)), (x24.2 + 1)) hf
  refine V_aload_n C 0 dX9_middle_0 rfl rfl rfl ?_
  refine V_getR C cf9 rfl 0 rfl (by decide) w361 rfl dX9_middle_1 rfl ?_
  refine V_iload_n C 1 dX9_middle_4 rfl rfl rfl ?_
  refine V_cVi C (b := 1) (As := [.int p1]) (st := []) cf2 (sF isF1) M_X2_hasCarrier w410 ⟨by decide, by decide⟩ rfl rfl (Nat.le_of_ble_eq_true rfl) dX9_middle_5 rfl (kX2_hasCarrier isF1 rfl) ?_
  refine V_if_ne C dX9_middle_8 (tgt := 18) rfl rfl (fun c9 => ?_) (fun c9 => ?_)
  · replace hf := ineg c9 hf
    refine V_ldcw C dX9_middle_18 rfl w696 ?_
    refine V_istore_n C (L' := [(0, .ref (ad 0)), (1, .int p1), (2, .int 256000000)]) dX9_middle_21 rfl rfl (by decide) hnL [1, 2, 0] rfl ?_
    refine V_iconst C dX9_middle_22 rfl (v := 0) rfl ?_
    refine V_istore_n C (L' := [(0, .ref (ad 0)), (1, .int p1), (2, .int 256000000), (3, .int 0)]) dX9_middle_23 rfl rfl (by decide) hnL [1, 2, 3, 0] rfl ?_
    obtain ⟨q24_6, hq24_6, hf⟩ := obd hf
    refine Lp24 u (256000000, 0) q24_6 hq24_6 ?_
    refine V_aload_n C 0 dX9_middle_84 rfl rfl rfl ?_
    refine V_iload_n C 2 dX9_middle_85 rfl rfl rfl ?_
    obtain ⟨q7, hq7, hf⟩ := obd hf
    refine V_cVi C (b := 0) (As := [.int q24_6.1]) (st := []) cf9 rfl M_X9_secondOrNone w707 ⟨by decide, by decide⟩ rfl rfl (Nat.le_of_ble_eq_true rfl) dX9_middle_86 rfl (kX9_secondOrNone hq7) ?_
    obtain rfl := Option.some.inj hf
    exact K _ _ _ dX9_middle_89 rfl rfl
  · replace hf := ipos c9 hf
    refine V_aload_n C 0 dX9_middle_11 rfl rfl rfl ?_
    refine V_ldc C dX9_middle_12 rfl w396 ?_
    obtain ⟨q8, hq8, hf⟩ := obd hf
    refine V_cVi C (b := 0) (As := [.int (-1000001)]) (st := []) cf9 rfl M_X9_finding w397 ⟨by decide, by decide⟩ rfl rfl (Nat.le_of_ble_eq_true rfl) dX9_middle_14 rfl (kX9_finding hq8) ?_
    obtain rfl := Option.some.inj hf
    exact K _ _ _ dX9_middle_17 rfl rfl
set_option maxHeartbeats 4000000 in
set_option maxRecDepth 100000 in
theorem kX9_heavy {ad : Nat → Nat} {G : Gh} {p1 : Int32} {p2 : Int32} {u : Mem} {q : Int32 × Mem} (hf : FX9_heavy p1 p2 u = some q) : Ct shs ad G yX9_heavy cX9_heavy 6 (some .int) 2 44 [.ref (ad 0), .int p1, .int p2] u (some (.int q.1)) q.2 := by
  refine Ct_ofI (by decide) (Nat.le_of_ble_eq_true rfl) (fun X C hnL K => ?_)
  have C : Cx ad G X cX9_heavy "CarryFair" 2 44 := C
  unfold FX9_heavy at hf
  have Lp65 : ∀ (v3 : Int32) (w : Mem) (x0 : (Int32 × Int32)) (q65 : (Int32 × Int32)), lp (BX9_heavy_65 p1 p2 v3 w) FU x0 = some q65 → V shs ad G X 120 [(0, .ref (ad 0)), (1, .int p1), (2, .int p2), (3, .int v3), (4, .int q65.1), (5, .int q65.2)] [] w → V shs ad G X 65 [(0, .ref (ad 0)), (1, .int p1), (2, .int p2), (3, .int v3), (4, .int x0.1), (5, .int x0.2)] [] w := by
    intro v3 w x0 q65 hq hx65_0
    refine lp_V (BX9_heavy_65 p1 p2 v3 w) (fun x65 => V shs ad G X 65 [(0, .ref (ad 0)), (1, .int p1), (2, .int p2), (3, .int v3), (4, .int x65.1), (5, .int x65.2)] [] w) q65 (fun rec65 ih65 x65 hf => ?_) FU x0 hq
    unfold BX9_heavy_65 at hf
    refine V_iload C 5 dX9_heavy_65 rfl rfl ?_
    refine V_aload_n C 0 dX9_heavy_67 rfl rfl rfl ?_
    refine V_getR C cf9 rfl 0 rfl (by decide) w361 rfl dX9_heavy_68 rfl ?_
    refine V_getI C cf2 (sF isF1) 6 rfl (by decide) w265 rfl dX9_heavy_71 rfl ?_
    refine V_icmp_ge C dX9_heavy_74 (tgt := 120) rfl rfl (fun c7 => ?_) (fun c7 => ?_)
    · replace hf := ipos c7 hf
      obtain rfl := Option.some.inj hf
      exact hx65_0
    · replace hf := ineg c7 hf
      refine V_iload_n C 2 dX9_heavy_77 rfl rfl rfl ?_
      refine V_iload C 5 dX9_heavy_78 rfl rfl ?_
      refine V_cSi C (As := [.int p2, .int x65.2]) (st := []) M_X9_has w671 ⟨by decide, by decide⟩ rfl rfl (Nat.le_of_ble_eq_true rfl) dX9_heavy_80 rfl (kX9_has rfl) ?_
      refine V_if_eq C dX9_heavy_83 (tgt := 114) rfl rfl (fun c6 => ?_) (fun c6 => ?_)
      · replace hf := ipos c6 hf
        refine V_iinc C (v := (x65.2 + 1)) (L' := [(0, .ref (ad 0)), (1, .int p1), (2, .int p2), (3, .int v3), (4, .int x65.1), (5, .int (x65.2 + 1))]) 5 dX9_heavy_114 rfl rfl rfl (by decide) hnL [1, 2, 3, 4, 5, 0] rfl ?_
        refine V_goto C dX9_heavy_117 (tgt := 65) rfl ?_
        exact ih65 (x65.1, (x65.2 + 1)) hf
      · replace hf := ineg c6 hf
        refine V_aload_n C 0 dX9_heavy_86 rfl rfl rfl ?_
        refine V_getR C cf9 rfl 0 rfl (by decide) w361 rfl dX9_heavy_87 rfl ?_
        refine V_getR C cf2 (sF isF1) 1 rfl (by decide) w250 rfl dX9_heavy_90 rfl ?_
        refine V_iload C 5 dX9_heavy_93 rfl rfl ?_
        obtain ⟨g4, hf⟩ := gd hf
        refine V_aald C (sFe isF1) (fun _ => rfl) g4 (sErg g4) dX9_heavy_95 rfl ?_
        refine V_getI C cf1 (sEr isF1 g4) 0 rfl (by decide) w205 rfl dX9_heavy_96 rfl ?_
        refine V_iconst C dX9_heavy_99 rfl (v := 2) rfl ?_
        refine V_idiv C dX9_heavy_100 rfl (by decide) ?_
        refine V_iload_n C 3 dX9_heavy_101 rfl rfl rfl ?_
        refine V_icmp_le C dX9_heavy_102 (tgt := 114) rfl rfl (fun c5 => ?_) (fun c5 => ?_)
        · replace hf := ipos c5 hf
          refine V_iinc C (v := (x65.2 + 1)) (L' := [(0, .ref (ad 0)), (1, .int p1), (2, .int p2), (3, .int v3), (4, .int x65.1), (5, .int (x65.2 + 1))]) 5 dX9_heavy_114 rfl rfl rfl (by decide) hnL [1, 2, 3, 4, 5, 0] rfl ?_
          refine V_goto C dX9_heavy_117 (tgt := 65) rfl ?_
          exact ih65 (x65.1, (x65.2 + 1)) hf
        · replace hf := ineg c5 hf
          refine V_iload C 4 dX9_heavy_105 rfl rfl ?_
          refine V_iconst C dX9_heavy_107 rfl (v := 1) rfl ?_
          refine V_iload C 5 dX9_heavy_108 rfl rfl ?_
          refine V_jshl C dX9_heavy_110 rfl ?_
          refine V_ior C dX9_heavy_111 rfl ?_
          refine V_istore C (L' := [(0, .ref (ad 0)), (1, .int p1), (2, .int p2), (3, .int v3), (4, .int (x65.1 ||| (jshl 1 x65.2))), (5, .int x65.2)]) dX9_heavy_112 rfl (by decide) hnL [1, 2, 3, 4, 0, 5] rfl ?_
          refine V_iinc C (v := (x65.2 + 1)) (L' := [(0, .ref (ad 0)), (1, .int p1), (2, .int p2), (3, .int v3), (4, .int (x65.1 ||| (jshl 1 x65.2))), (5, .int (x65.2 + 1))]) 5 dX9_heavy_114 rfl rfl rfl (by decide) hnL [1, 2, 3, 4, 5, 0] rfl ?_
          refine V_goto C dX9_heavy_117 (tgt := 65) rfl ?_
          exact ih65 ((x65.1 ||| (jshl 1 x65.2)), (x65.2 + 1)) hf
  refine V_aload_n C 0 dX9_heavy_0 rfl rfl rfl ?_
  refine V_getR C cf9 rfl 0 rfl (by decide) w361 rfl dX9_heavy_1 rfl ?_
  refine V_iload_n C 1 dX9_heavy_4 rfl rfl rfl ?_
  refine V_cVi C (b := 1) (As := [.int p1]) (st := []) cf2 (sF isF1) M_X2_hasCarrier w410 ⟨by decide, by decide⟩ rfl rfl (Nat.le_of_ble_eq_true rfl) dX9_heavy_5 rfl (kX2_hasCarrier isF1 rfl) ?_
  refine V_if_eq C dX9_heavy_8 (tgt := 19) rfl rfl (fun c13 => ?_) (fun c13 => ?_)
  · replace hf := ipos c13 hf
    refine V_aload_n C 0 dX9_heavy_19 rfl rfl rfl ?_
    refine V_ldc C dX9_heavy_20 rfl w396 ?_
    obtain ⟨q1, hq1, hf⟩ := obd hf
    refine V_cVi C (b := 0) (As := [.int (-1000001)]) (st := []) cf9 rfl M_X9_finding w397 ⟨by decide, by decide⟩ rfl rfl (Nat.le_of_ble_eq_true rfl) dX9_heavy_22 rfl (kX9_finding hq1) ?_
    obtain rfl := Option.some.inj hf
    exact K _ _ _ dX9_heavy_25 rfl rfl
  · replace hf := ineg c13 hf
    refine V_aload_n C 0 dX9_heavy_11 rfl rfl rfl ?_
    refine V_iload_n C 2 dX9_heavy_12 rfl rfl rfl ?_
    refine V_cVi C (b := 0) (As := [.int p2]) (st := []) cf9 rfl M_X9_areErrands w612 ⟨by decide, by decide⟩ rfl rfl (Nat.le_of_ble_eq_true rfl) dX9_heavy_13 rfl (kX9_areErrands rfl) ?_
    refine V_if_ne C dX9_heavy_16 (tgt := 26) rfl rfl (fun c12 => ?_) (fun c12 => ?_)
    · replace hf := ineg c12 hf
      refine V_aload_n C 0 dX9_heavy_26 rfl rfl rfl ?_
      refine V_getR C cf9 rfl 0 rfl (by decide) w361 rfl dX9_heavy_27 rfl ?_
      refine V_getR C cf2 (sF isF1) 0 rfl (by decide) w247 rfl dX9_heavy_30 rfl ?_
      refine V_iload_n C 1 dX9_heavy_33 rfl rfl rfl ?_
      obtain ⟨g2, hf⟩ := gd hf
      refine V_aald C (sFc isF1) (fun _ => rfl) g2 (sCag g2) dX9_heavy_34 rfl ?_
      refine V_cVi C (b := (1 + 12 + (p1).toNatClampNeg)) (As := []) (st := []) cf0 (sCa isF1 g2) M_X0_canBear w415 ⟨by decide, by decide⟩ rfl rfl (Nat.le_of_ble_eq_true rfl) dX9_heavy_35 rfl (kX0_canBear (sCa isF1 g2) rfl) ?_
      refine V_aload_n C 0 dX9_heavy_38 rfl rfl rfl ?_
      refine V_getR C cf9 rfl 0 rfl (by decide) w361 rfl dX9_heavy_39 rfl ?_
      refine V_iload_n C 2 dX9_heavy_42 rfl rfl rfl ?_
      obtain ⟨q3, hq3, hf⟩ := obd hf
      refine V_cVi C (b := 1) (As := [.int p2]) (st := [.int (FX0_canBear (1 + 12 + (p1).toNatClampNeg) u)]) cf2 (sF isF1) M_X2_weightOf w426 ⟨by decide, by decide⟩ rfl rfl (Nat.le_of_ble_eq_true rfl) dX9_heavy_43 rfl (kX2_weightOf isF1 hq3) ?_
      refine V_isub C dX9_heavy_46 rfl ?_
      refine V_istore_n C (L' := [(0, .ref (ad 0)), (1, .int p1), (2, .int p2), (3, .int ((FX0_canBear (1 + 12 + (p1).toNatClampNeg) u) - q3))]) dX9_heavy_47 rfl rfl (by decide) hnL [1, 2, 3, 0] rfl ?_
      refine V_iload_n C 3 dX9_heavy_48 rfl rfl rfl ?_
      refine V_if_ge C dX9_heavy_49 (tgt := 59) rfl rfl (fun c10 => ?_) (fun c10 => ?_)
      · replace hf := ipos c10 hf
        refine V_iconst C dX9_heavy_59 rfl (v := 0) rfl ?_
        refine V_istore C (L' := [(0, .ref (ad 0)), (1, .int p1), (2, .int p2), (3, .int ((FX0_canBear (1 + 12 + (p1).toNatClampNeg) u) - q3)), (4, .int 0)]) dX9_heavy_60 rfl (by decide) hnL [1, 2, 3, 4, 0] rfl ?_
        refine V_iconst C dX9_heavy_62 rfl (v := 0) rfl ?_
        refine V_istore C (L' := [(0, .ref (ad 0)), (1, .int p1), (2, .int p2), (3, .int ((FX0_canBear (1 + 12 + (p1).toNatClampNeg) u) - q3)), (4, .int 0), (5, .int 0)]) dX9_heavy_63 rfl (by decide) hnL [1, 2, 3, 4, 5, 0] rfl ?_
        obtain ⟨q65_8, hq65_8, hf⟩ := obd hf
        refine Lp65 ((FX0_canBear (1 + 12 + (p1).toNatClampNeg) u) - q3) u (0, 0) q65_8 hq65_8 ?_
        refine V_iload C 4 dX9_heavy_120 rfl rfl ?_
        obtain rfl := Option.some.inj hf
        exact K _ _ _ dX9_heavy_122 rfl rfl
      · replace hf := ineg c10 hf
        refine V_aload_n C 0 dX9_heavy_52 rfl rfl rfl ?_
        refine V_ldc C dX9_heavy_53 rfl w539 ?_
        obtain ⟨q9, hq9, hf⟩ := obd hf
        refine V_cVi C (b := 0) (As := [.int (-1000005)]) (st := []) cf9 rfl M_X9_finding w397 ⟨by decide, by decide⟩ rfl rfl (Nat.le_of_ble_eq_true rfl) dX9_heavy_55 rfl (kX9_finding hq9) ?_
        obtain rfl := Option.some.inj hf
        exact K _ _ _ dX9_heavy_58 rfl rfl
    · replace hf := ipos c12 hf
      refine V_aload_n C 0 dX9_heavy_19 rfl rfl rfl ?_
      refine V_ldc C dX9_heavy_20 rfl w396 ?_
      obtain ⟨q11, hq11, hf⟩ := obd hf
      refine V_cVi C (b := 0) (As := [.int (-1000001)]) (st := []) cf9 rfl M_X9_finding w397 ⟨by decide, by decide⟩ rfl rfl (Nat.le_of_ble_eq_true rfl) dX9_heavy_22 rfl (kX9_finding hq11) ?_
      obtain rfl := Option.some.inj hf
      exact K _ _ _ dX9_heavy_25 rfl rfl
set_option maxHeartbeats 4000000 in
set_option maxRecDepth 100000 in
theorem kX9_dayLack {ad : Nat → Nat} {G : Gh} {p1 : Int32} {u : Mem} {q : Int32} (hf : FX9_dayLack p1 u = q) : Ct shs ad G yX9_dayLack cX9_dayLack 2 (some .int) 1 22 [.ref (ad 0), .int p1] u (some (.int q)) u := by
  refine Ct_ofI (by decide) (Nat.le_of_ble_eq_true rfl) (fun X C hnL K => ?_)
  have C : Cx ad G X cX9_dayLack "CarryFair" 1 22 := C
  unfold FX9_dayLack at hf
  refine V_iload_n C 1 dX9_dayLack_0 rfl rfl rfl ?_
  refine V_iconst C dX9_dayLack_1 rfl (v := 1) rfl ?_
  refine V_bipush C dX9_dayLack_2 rfl (v := 12) rfl ?_
  refine V_cSi C (As := [.int p1, .int 1, .int 12]) (st := []) M_X9_within w393 ⟨by decide, by decide⟩ rfl rfl (Nat.le_of_ble_eq_true rfl) dX9_dayLack_4 rfl (kX9_within rfl) ?_
  refine V_if_ne C dX9_dayLack_7 (tgt := 13) rfl rfl (fun c2 => ?_) (fun c2 => ?_)
  · replace hf := ineg c2 hf
    refine V_aload_n C 0 dX9_dayLack_13 rfl rfl rfl ?_
    refine V_getR C cf9 rfl 0 rfl (by decide) w361 rfl dX9_dayLack_14 rfl ?_
    refine V_getI C cf2 (sF isF1) 5 rfl (by decide) w260 rfl dX9_dayLack_17 rfl ?_
    refine V_if_le C dX9_dayLack_20 (tgt := 27) rfl rfl (fun c1 => ?_) (fun c1 => ?_)
    · replace hf := ipos c1 hf
      refine V_ldc C dX9_dayLack_27 rfl w539 ?_
      subst hf
      exact K _ _ _ dX9_dayLack_29 rfl rfl
    · replace hf := ineg c1 hf
      refine V_iconst C dX9_dayLack_23 rfl (v := 0) rfl ?_
      refine V_goto C dX9_dayLack_24 (tgt := 29) rfl ?_
      subst hf
      exact K _ _ _ dX9_dayLack_29 rfl rfl
  · replace hf := ipos c2 hf
    refine V_ldc C dX9_dayLack_10 rfl w396 ?_
    subst hf
    exact K _ _ _ dX9_dayLack_12 rfl rfl
set_option maxHeartbeats 4000000 in
set_option maxRecDepth 100000 in
theorem kX9_day {ad : Nat → Nat} {G : Gh} {p1 : Int32} {u : Mem} {q : Int32 × Mem} (hf : FX9_day p1 u = some q) : Ct shs ad G yX9_day cX9_day 3 (some .int) 6 140 [.ref (ad 0), .int p1] u (some (.int q.1)) q.2 := by
  refine Ct_ofI (by decide) (Nat.le_of_ble_eq_true rfl) (fun X C hnL K => ?_)
  have C : Cx ad G X cX9_day "CarryFair" 6 140 := C
  unfold FX9_day at hf
  refine V_aload_n C 0 dX9_day_0 rfl rfl rfl ?_
  refine V_iload_n C 1 dX9_day_1 rfl rfl rfl ?_
  refine V_cVi C (b := 0) (As := [.int p1]) (st := []) cf9 rfl M_X9_dayLack w812 ⟨by decide, by decide⟩ rfl rfl (Nat.le_of_ble_eq_true rfl) dX9_day_2 rfl (kX9_dayLack rfl) ?_
  refine V_istore_n C (L' := [(0, .ref (ad 0)), (1, .int p1), (2, .int (FX9_dayLack p1 u))]) dX9_day_5 rfl rfl (by decide) hnL [1, 2, 0] rfl ?_
  refine V_iload_n C 2 dX9_day_6 rfl rfl rfl ?_
  refine V_if_eq C dX9_day_7 (tgt := 18) rfl rfl (fun c3 => ?_) (fun c3 => ?_)
  · replace hf := ipos c3 hf
    refine V_aload_n C 0 dX9_day_18 rfl rfl rfl ?_
    refine V_getR C cf9 rfl 0 rfl (by decide) w361 rfl dX9_day_19 rfl ?_
    refine V_iload_n C 1 dX9_day_22 rfl rfl rfl ?_
    obtain ⟨q1, hq1, hf⟩ := obd hf
    refine V_cVi C (b := 1) (As := [.int p1]) (st := []) cf2 (sF isF1) M_X2_turns w816 ⟨by decide, by decide⟩ rfl rfl (Nat.le_of_ble_eq_true rfl) dX9_day_23 rfl (kX2_turns isF1 hq1) ?_
    obtain rfl := Option.some.inj hf
    exact K _ _ _ dX9_day_26 rfl rfl
  · replace hf := ineg c3 hf
    refine V_aload_n C 0 dX9_day_10 rfl rfl rfl ?_
    refine V_iload_n C 2 dX9_day_11 rfl rfl rfl ?_
    obtain ⟨q2, hq2, hf⟩ := obd hf
    refine V_cVi C (b := 0) (As := [.int (FX9_dayLack p1 u)]) (st := []) cf9 rfl M_X9_finding w397 ⟨by decide, by decide⟩ rfl rfl (Nat.le_of_ble_eq_true rfl) dX9_day_12 rfl (kX9_finding hq2) ?_
    refine V_goto C dX9_day_15 (tgt := 26) rfl ?_
    obtain rfl := Option.some.inj hf
    exact K _ _ _ dX9_day_26 rfl rfl
set_option maxHeartbeats 4000000 in
set_option maxRecDepth 100000 in
theorem kX9_ahead {ad : Nat → Nat} {G : Gh} {p1 : Int32} {u : Mem} {q : Int32 × Mem} (hf : FX9_ahead p1 u = some q) : Ct shs ad G yX9_ahead cX9_ahead 3 (some .int) 6 140 [.ref (ad 0), .int p1] u (some (.int q.1)) q.2 := by
  refine Ct_ofI (by decide) (Nat.le_of_ble_eq_true rfl) (fun X C hnL K => ?_)
  have C : Cx ad G X cX9_ahead "CarryFair" 6 140 := C
  unfold FX9_ahead at hf
  refine V_aload_n C 0 dX9_ahead_0 rfl rfl rfl ?_
  refine V_iload_n C 1 dX9_ahead_1 rfl rfl rfl ?_
  refine V_cVi C (b := 0) (As := [.int p1]) (st := []) cf9 rfl M_X9_dayLack w812 ⟨by decide, by decide⟩ rfl rfl (Nat.le_of_ble_eq_true rfl) dX9_ahead_2 rfl (kX9_dayLack rfl) ?_
  refine V_istore_n C (L' := [(0, .ref (ad 0)), (1, .int p1), (2, .int (FX9_dayLack p1 u))]) dX9_ahead_5 rfl rfl (by decide) hnL [1, 2, 0] rfl ?_
  refine V_iload_n C 2 dX9_ahead_6 rfl rfl rfl ?_
  refine V_if_eq C dX9_ahead_7 (tgt := 16) rfl rfl (fun c4 => ?_) (fun c4 => ?_)
  · replace hf := ipos c4 hf
    refine V_aload_n C 0 dX9_ahead_16 rfl rfl rfl ?_
    refine V_getR C cf9 rfl 2 rfl (by decide) w363 rfl dX9_ahead_17 rfl ?_
    refine V_aload_n C 0 dX9_ahead_20 rfl rfl rfl ?_
    refine V_getR C cf9 rfl 0 rfl (by decide) w361 rfl dX9_ahead_21 rfl ?_
    obtain ⟨q1, hq1, hf⟩ := obd hf
    refine V_cVv C (b := 65) (As := [.ref (ad 1)]) (st := []) cf2 (sF isF65) M_X2_become w761 ⟨by decide, by decide⟩ rfl rfl (Nat.le_of_ble_eq_true rfl) dX9_ahead_24 rfl (kX2_become isF65 isF1 hq1) ?_
    refine V_aload_n C 0 dX9_ahead_27 rfl rfl rfl ?_
    refine V_getR C cf9 rfl 2 rfl (by decide) w363 rfl dX9_ahead_28 rfl ?_
    refine V_iload_n C 1 dX9_ahead_31 rfl rfl rfl ?_
    obtain ⟨q2, hq2, hf⟩ := obd hf
    refine V_cVi C (b := 65) (As := [.int p1]) (st := []) cf2 (sF isF65) M_X2_turns w816 ⟨by decide, by decide⟩ rfl rfl (Nat.le_of_ble_eq_true rfl) dX9_ahead_32 rfl (kX2_turns isF65 hq2) ?_
    obtain rfl := Option.some.inj hf
    exact K _ _ _ dX9_ahead_35 rfl rfl
  · replace hf := ineg c4 hf
    refine V_aload_n C 0 dX9_ahead_10 rfl rfl rfl ?_
    refine V_iload_n C 2 dX9_ahead_11 rfl rfl rfl ?_
    obtain ⟨q3, hq3, hf⟩ := obd hf
    refine V_cVi C (b := 0) (As := [.int (FX9_dayLack p1 u)]) (st := []) cf9 rfl M_X9_finding w397 ⟨by decide, by decide⟩ rfl rfl (Nat.le_of_ble_eq_true rfl) dX9_ahead_12 rfl (kX9_finding hq3) ?_
    obtain rfl := Option.some.inj hf
    exact K _ _ _ dX9_ahead_15 rfl rfl
set_option maxHeartbeats 4000000 in
set_option maxRecDepth 100000 in
theorem kX9_seed {ad : Nat → Nat} {G : Gh} {p1 : Int32} {u : Mem} {q : Int32 × Mem} (hf : FX9_seed p1 u = q) : Ct shs ad G yX9_seed cX9_seed 3 (some .int) 0 0 [.ref (ad 0), .int p1] u (some (.int q.1)) q.2 := by
  refine Ct_ofI (by decide) (Nat.le_of_ble_eq_true rfl) (fun X C hnL K => ?_)
  have C : Cx ad G X cX9_seed "CarryFair" 0 0 := C
  unfold FX9_seed at hf
  refine V_aload_n C 0 dX9_seed_0 rfl rfl rfl ?_
  refine V_getR C cf9 rfl 0 rfl (by decide) w361 rfl dX9_seed_1 rfl ?_
  refine V_getI C cf2 (sF isF1) 8 rfl (by decide) w270 rfl dX9_seed_4 rfl ?_
  refine V_istore_n C (L' := [(0, .ref (ad 0)), (1, .int p1), (2, .int (u 1 8))]) dX9_seed_7 rfl rfl (by decide) hnL [1, 2, 0] rfl ?_
  refine V_aload_n C 0 dX9_seed_8 rfl rfl rfl ?_
  refine V_getR C cf9 rfl 0 rfl (by decide) w361 rfl dX9_seed_9 rfl ?_
  refine V_iload_n C 1 dX9_seed_12 rfl rfl rfl ?_
  refine V_put C cf2 (sF isF1) 8 rfl (by decide) w270 rfl rfl rfl rfl dX9_seed_13 rfl ?_
  refine V_iload_n C 2 dX9_seed_16 rfl rfl rfl ?_
  subst hf
  exact K _ _ _ dX9_seed_17 rfl rfl
set_option maxHeartbeats 4000000 in
set_option maxRecDepth 100000 in
theorem kX9_feed {ad : Nat → Nat} {G : Gh} {p1 : Int32} {p2 : Int32} {u : Mem} {q : Int32 × Mem} (hf : FX9_feed p1 p2 u = some q) : Ct shs ad G yX9_feed cX9_feed 4 (some .int) 2 44 [.ref (ad 0), .int p1, .int p2] u (some (.int q.1)) q.2 := by
  refine Ct_ofI (by decide) (Nat.le_of_ble_eq_true rfl) (fun X C hnL K => ?_)
  have C : Cx ad G X cX9_feed "CarryFair" 2 44 := C
  unfold FX9_feed at hf
  have Lp41 : ∀ (x0 : (Int32 × Mem)) (q41 : (Int32 × Mem)), lp (BX9_feed_41 p1 p2) FU x0 = some q41 → V shs ad G X 68 [(0, .ref (ad 0)), (1, .int p1), (2, .int p2), (3, .int q41.1)] [] q41.2 → V shs ad G X 41 [(0, .ref (ad 0)), (1, .int p1), (2, .int p2), (3, .int x0.1)] [] x0.2 := by
    intro  x0 q41 hq hx41_0
    refine lp_V (BX9_feed_41 p1 p2) (fun x41 => V shs ad G X 41 [(0, .ref (ad 0)), (1, .int p1), (2, .int p2), (3, .int x41.1)] [] x41.2) q41 (fun rec41 ih41 x41 hf => ?_) FU x0 hq
    unfold BX9_feed_41 at hf
    refine V_iload_n C 3 dX9_feed_41 rfl rfl rfl ?_
    refine V_if_lt C dX9_feed_42 (tgt := 68) rfl rfl (fun c2 => ?_) (fun c2 => ?_)
    · replace hf := ipos c2 hf
      obtain rfl := Option.some.inj hf
      exact hx41_0
    · replace hf := ineg c2 hf
      refine V_aload_n C 0 dX9_feed_45 rfl rfl rfl ?_
      refine V_getR C cf9 rfl 5 rfl (by decide) w366 rfl dX9_feed_46 rfl ?_
      refine V_iload_n C 1 dX9_feed_49 rfl rfl rfl ?_
      refine V_bipush C dX9_feed_50 rfl (v := 8) rfl ?_
      refine V_iload_n C 3 dX9_feed_52 rfl rfl rfl ?_
      refine V_imul C dX9_feed_53 rfl ?_
      refine V_jushr C dX9_feed_54 rfl ?_
      refine V_sipush C dX9_feed_55 rfl (v := 255) rfl ?_
      refine V_iand C dX9_feed_58 rfl ?_
      obtain ⟨q1, hq1, hf⟩ := obd hf
      refine V_cVv C (b := 104) (As := [.int ((jushr p1 (8 * x41.1)) &&& 255)]) (st := []) cf6 rfl M_X6_add w850 ⟨by decide, by decide⟩ rfl rfl (Nat.le_of_ble_eq_true rfl) dX9_feed_59 rfl (kX6_add hq1) ?_
      refine V_iinc C (v := (x41.1 + (-1))) (L' := [(0, .ref (ad 0)), (1, .int p1), (2, .int p2), (3, .int (x41.1 + (-1)))]) 3 dX9_feed_62 rfl rfl rfl (by decide) hnL [1, 2, 3, 0] rfl ?_
      refine V_goto C dX9_feed_65 (tgt := 41) rfl ?_
      exact ih41 ((x41.1 + (-1)), q1) hf
  refine V_iload_n C 2 dX9_feed_0 rfl rfl rfl ?_
  refine V_iconst C dX9_feed_1 rfl (v := 1) rfl ?_
  refine V_iconst C dX9_feed_2 rfl (v := 4) rfl ?_
  refine V_cSi C (As := [.int p2, .int 1, .int 4]) (st := []) M_X9_within w393 ⟨by decide, by decide⟩ rfl rfl (Nat.le_of_ble_eq_true rfl) dX9_feed_3 rfl (kX9_within rfl) ?_
  refine V_if_ne C dX9_feed_6 (tgt := 16) rfl rfl (fun c7 => ?_) (fun c7 => ?_)
  · replace hf := ineg c7 hf
    refine V_aload_n C 0 dX9_feed_16 rfl rfl rfl ?_
    refine V_getR C cf9 rfl 5 rfl (by decide) w366 rfl dX9_feed_17 rfl ?_
    refine V_getI C cf6 rfl 1 rfl (by decide) w323 rfl dX9_feed_20 rfl ?_
    refine V_iload_n C 2 dX9_feed_23 rfl rfl rfl ?_
    refine V_iadd C dX9_feed_24 rfl ?_
    refine V_bipush C dX9_feed_25 rfl (v := 120) rfl ?_
    refine V_icmp_le C dX9_feed_27 (tgt := 37) rfl rfl (fun c5 => ?_) (fun c5 => ?_)
    · replace hf := ipos c5 hf
      refine V_iload_n C 2 dX9_feed_37 rfl rfl rfl ?_
      refine V_iconst C dX9_feed_38 rfl (v := 1) rfl ?_
      refine V_isub C dX9_feed_39 rfl ?_
      refine V_istore_n C (L' := [(0, .ref (ad 0)), (1, .int p1), (2, .int p2), (3, .int (p2 - 1))]) dX9_feed_40 rfl rfl (by decide) hnL [1, 2, 3, 0] rfl ?_
      obtain ⟨q41_3, hq41_3, hf⟩ := obd hf
      refine Lp41  ((p2 - 1), u) q41_3 hq41_3 ?_
      refine V_aload_n C 0 dX9_feed_68 rfl rfl rfl ?_
      refine V_getR C cf9 rfl 5 rfl (by decide) w366 rfl dX9_feed_69 rfl ?_
      refine V_getI C cf6 rfl 1 rfl (by decide) w323 rfl dX9_feed_72 rfl ?_
      obtain rfl := Option.some.inj hf
      exact K _ _ _ dX9_feed_75 rfl rfl
    · replace hf := ineg c5 hf
      refine V_aload_n C 0 dX9_feed_30 rfl rfl rfl ?_
      refine V_ldc C dX9_feed_31 rfl w401 ?_
      obtain ⟨q4, hq4, hf⟩ := obd hf
      refine V_cVi C (b := 0) (As := [.int (-1000002)]) (st := []) cf9 rfl M_X9_finding w397 ⟨by decide, by decide⟩ rfl rfl (Nat.le_of_ble_eq_true rfl) dX9_feed_33 rfl (kX9_finding hq4) ?_
      obtain rfl := Option.some.inj hf
      exact K _ _ _ dX9_feed_36 rfl rfl
  · replace hf := ipos c7 hf
    refine V_aload_n C 0 dX9_feed_9 rfl rfl rfl ?_
    refine V_ldc C dX9_feed_10 rfl w396 ?_
    obtain ⟨q6, hq6, hf⟩ := obd hf
    refine V_cVi C (b := 0) (As := [.int (-1000001)]) (st := []) cf9 rfl M_X9_finding w397 ⟨by decide, by decide⟩ rfl rfl (Nat.le_of_ble_eq_true rfl) dX9_feed_12 rfl (kX9_finding hq6) ?_
    obtain rfl := Option.some.inj hf
    exact K _ _ _ dX9_feed_15 rfl rfl
set_option maxHeartbeats 4000000 in
set_option maxRecDepth 100000 in
theorem kX9_wipe {ad : Nat → Nat} {G : Gh}  {u : Mem} {q : Int32 × Mem} (hf : FX9_wipe u = q) : Ct shs ad G yX9_wipe cX9_wipe 2 (some .int) 0 0 [.ref (ad 0)] u (some (.int q.1)) q.2 := by
  refine Ct_ofI (by decide) (Nat.le_of_ble_eq_true rfl) (fun X C hnL K => ?_)
  have C : Cx ad G X cX9_wipe "CarryFair" 0 0 := C
  unfold FX9_wipe at hf
  refine V_aload_n C 0 dX9_wipe_0 rfl rfl rfl ?_
  refine V_getR C cf9 rfl 5 rfl (by decide) w366 rfl dX9_wipe_1 rfl ?_
  refine V_getI C cf6 rfl 1 rfl (by decide) w323 rfl dX9_wipe_4 rfl ?_
  refine V_istore_n C (L' := [(0, .ref (ad 0)), (1, .int (u 104 1))]) dX9_wipe_7 rfl rfl (by decide) hnL [1, 0] rfl ?_
  refine V_aload_n C 0 dX9_wipe_8 rfl rfl rfl ?_
  refine V_getR C cf9 rfl 5 rfl (by decide) w366 rfl dX9_wipe_9 rfl ?_
  refine V_iconst C dX9_wipe_12 rfl (v := 0) rfl ?_
  refine V_put C cf6 rfl 1 rfl (by decide) w323 rfl rfl rfl rfl dX9_wipe_13 rfl ?_
  refine V_iload_n C 1 dX9_wipe_16 rfl rfl rfl ?_
  subst hf
  exact K _ _ _ dX9_wipe_17 rfl rfl
set_option maxHeartbeats 4000000 in
set_option maxRecDepth 100000 in
theorem kX9_text {ad : Nat → Nat} {G : Gh}  {u : Mem} {q : Int32 × Mem} (hf : FX9_text u = some q) : Ct shs ad G yX9_text cX9_text 2 (some .int) 9 197 [.ref (ad 0)] u (some (.int q.1)) q.2 := by
  refine Ct_ofI (by decide) (Nat.le_of_ble_eq_true rfl) (fun X C hnL K => ?_)
  have C : Cx ad G X cX9_text "CarryFair" 9 197 := C
  unfold FX9_text at hf
  refine V_aload_n C 0 dX9_text_0 rfl rfl rfl ?_
  refine V_getR C cf9 rfl 2 rfl (by decide) w363 rfl dX9_text_1 rfl ?_
  refine V_aload_n C 0 dX9_text_4 rfl rfl rfl ?_
  refine V_getR C cf9 rfl 0 rfl (by decide) w361 rfl dX9_text_5 rfl ?_
  obtain ⟨q1, hq1, hf⟩ := obd hf
  refine V_cVv C (b := 65) (As := [.ref (ad 1)]) (st := []) cf2 (sF isF65) M_X2_become w761 ⟨by decide, by decide⟩ rfl rfl (Nat.le_of_ble_eq_true rfl) dX9_text_8 rfl (kX2_become isF65 isF1 hq1) ?_
  refine V_aload_n C 0 dX9_text_11 rfl rfl rfl ?_
  refine V_getR C cf9 rfl 5 rfl (by decide) w366 rfl dX9_text_12 rfl ?_
  refine V_aload_n C 0 dX9_text_15 rfl rfl rfl ?_
  refine V_getR C cf9 rfl 2 rfl (by decide) w363 rfl dX9_text_16 rfl ?_
  obtain ⟨q2, hq2, hf⟩ := obd hf
  refine V_cVi C (b := 104) (As := [.ref (ad 65)]) (st := []) cf6 rfl M_X6_tellTo w862 ⟨by decide, by decide⟩ rfl rfl (Nat.le_of_ble_eq_true rfl) dX9_text_19 rfl (kX6_tellTo isF65 hq2) ?_
  refine V_istore_n C (L' := [(0, .ref (ad 0)), (1, .int q2.1)]) dX9_text_22 rfl rfl (by decide) hnL [1, 0] rfl ?_
  refine V_aload_n C 0 dX9_text_23 rfl rfl rfl ?_
  refine V_getR C cf9 rfl 5 rfl (by decide) w366 rfl dX9_text_24 rfl ?_
  refine V_iconst C dX9_text_27 rfl (v := 0) rfl ?_
  refine V_put C cf6 rfl 1 rfl (by decide) w323 rfl rfl rfl rfl dX9_text_28 rfl ?_
  refine V_iload_n C 1 dX9_text_31 rfl rfl rfl ?_
  refine V_if_le C dX9_text_32 (tgt := 46) rfl rfl (fun c4 => ?_) (fun c4 => ?_)
  · replace hf := ipos c4 hf
    refine V_iload_n C 1 dX9_text_46 rfl rfl rfl ?_
    obtain rfl := Option.some.inj hf
    exact K _ _ _ dX9_text_47 rfl rfl
  · replace hf := ineg c4 hf
    refine V_aload_n C 0 dX9_text_35 rfl rfl rfl ?_
    refine V_getR C cf9 rfl 0 rfl (by decide) w361 rfl dX9_text_36 rfl ?_
    refine V_aload_n C 0 dX9_text_39 rfl rfl rfl ?_
    refine V_getR C cf9 rfl 2 rfl (by decide) w363 rfl dX9_text_40 rfl ?_
    obtain ⟨q3, hq3, hf⟩ := obd hf
    refine V_cVv C (b := 1) (As := [.ref (ad 65)]) (st := []) cf2 (sF isF1) M_X2_become w761 ⟨by decide, by decide⟩ rfl rfl (Nat.le_of_ble_eq_true rfl) dX9_text_43 rfl (kX2_become isF1 isF65 hq3) ?_
    refine V_iload_n C 1 dX9_text_46 rfl rfl rfl ?_
    obtain rfl := Option.some.inj hf
    exact K _ _ _ dX9_text_47 rfl rfl
set_option maxHeartbeats 4000000 in
set_option maxRecDepth 100000 in
theorem kX9_hold {ad : Nat → Nat} {G : Gh} {p1 : Int32} {p2 : Int32} {u : Mem} {q : Int32 × Mem} (hf : FX9_hold p1 p2 u = some q) : Ct shs ad G yX9_hold cX9_hold 3 (some .int) 2 44 [.ref (ad 0), .int p1, .int p2] u (some (.int q.1)) q.2 := by
  refine Ct_ofI (by decide) (Nat.le_of_ble_eq_true rfl) (fun X C hnL K => ?_)
  have C : Cx ad G X cX9_hold "CarryFair" 2 44 := C
  unfold FX9_hold at hf
  refine V_iload_n C 1 dX9_hold_0 rfl rfl rfl ?_
  refine V_iconst C dX9_hold_1 rfl (v := 0) rfl ?_
  refine V_bipush C dX9_hold_2 rfl (v := 9) rfl ?_
  refine V_cSi C (As := [.int p1, .int 0, .int 9]) (st := []) M_X9_within w393 ⟨by decide, by decide⟩ rfl rfl (Nat.le_of_ble_eq_true rfl) dX9_hold_4 rfl (kX9_within rfl) ?_
  refine V_if_eq C dX9_hold_7 (tgt := 26) rfl rfl (fun c7 => ?_) (fun c7 => ?_)
  · replace hf := ipos c7 hf
    refine V_aload_n C 0 dX9_hold_26 rfl rfl rfl ?_
    refine V_ldc C dX9_hold_27 rfl w396 ?_
    obtain ⟨q1, hq1, hf⟩ := obd hf
    refine V_cVi C (b := 0) (As := [.int (-1000001)]) (st := []) cf9 rfl M_X9_finding w397 ⟨by decide, by decide⟩ rfl rfl (Nat.le_of_ble_eq_true rfl) dX9_hold_29 rfl (kX9_finding hq1) ?_
    obtain rfl := Option.some.inj hf
    exact K _ _ _ dX9_hold_32 rfl rfl
  · replace hf := ineg c7 hf
    refine V_iload_n C 2 dX9_hold_10 rfl rfl rfl ?_
    refine V_iconst C dX9_hold_11 rfl (v := (-1)) (by decide) ?_
    refine V_icmp_eq C dX9_hold_12 (tgt := 33) rfl rfl (fun c6 => ?_) (fun c6 => ?_)
    · replace hf := ipos c6 hf
      refine V_aload_n C 0 dX9_hold_33 rfl rfl rfl ?_
      refine V_getR C cf9 rfl 0 rfl (by decide) w361 rfl dX9_hold_34 rfl ?_
      refine V_getR C cf2 (sF isF1) 4 rfl (by decide) w258 rfl dX9_hold_37 rfl ?_
      refine V_iload_n C 1 dX9_hold_40 rfl rfl rfl ?_
      refine V_iload_n C 2 dX9_hold_41 rfl rfl rfl ?_
      obtain ⟨g2, hf⟩ := gd hf
      refine V_istJ C (sFs isF1) g2 rfl dX9_hold_42 rfl ?_
      refine V_iconst C dX9_hold_43 rfl (v := 1) rfl ?_
      obtain rfl := Option.some.inj hf
      exact K _ _ _ dX9_hold_44 rfl rfl
    · replace hf := ineg c6 hf
      refine V_aload_n C 0 dX9_hold_15 rfl rfl rfl ?_
      refine V_getR C cf9 rfl 0 rfl (by decide) w361 rfl dX9_hold_16 rfl ?_
      refine V_iload_n C 2 dX9_hold_19 rfl rfl rfl ?_
      refine V_cVi C (b := 1) (As := [.int p2]) (st := []) cf2 (sF isF1) M_X2_hasCarrier w410 ⟨by decide, by decide⟩ rfl rfl (Nat.le_of_ble_eq_true rfl) dX9_hold_20 rfl (kX2_hasCarrier isF1 rfl) ?_
      refine V_if_ne C dX9_hold_23 (tgt := 33) rfl rfl (fun c5 => ?_) (fun c5 => ?_)
      · replace hf := ineg c5 hf
        refine V_aload_n C 0 dX9_hold_33 rfl rfl rfl ?_
        refine V_getR C cf9 rfl 0 rfl (by decide) w361 rfl dX9_hold_34 rfl ?_
        refine V_getR C cf2 (sF isF1) 4 rfl (by decide) w258 rfl dX9_hold_37 rfl ?_
        refine V_iload_n C 1 dX9_hold_40 rfl rfl rfl ?_
        refine V_iload_n C 2 dX9_hold_41 rfl rfl rfl ?_
        obtain ⟨g3, hf⟩ := gd hf
        refine V_istJ C (sFs isF1) g3 rfl dX9_hold_42 rfl ?_
        refine V_iconst C dX9_hold_43 rfl (v := 1) rfl ?_
        obtain rfl := Option.some.inj hf
        exact K _ _ _ dX9_hold_44 rfl rfl
      · replace hf := ipos c5 hf
        refine V_aload_n C 0 dX9_hold_26 rfl rfl rfl ?_
        refine V_ldc C dX9_hold_27 rfl w396 ?_
        obtain ⟨q4, hq4, hf⟩ := obd hf
        refine V_cVi C (b := 0) (As := [.int (-1000001)]) (st := []) cf9 rfl M_X9_finding w397 ⟨by decide, by decide⟩ rfl rfl (Nat.le_of_ble_eq_true rfl) dX9_hold_29 rfl (kX9_finding hq4) ?_
        obtain rfl := Option.some.inj hf
        exact K _ _ _ dX9_hold_32 rfl rfl
set_option maxHeartbeats 4000000 in
set_option maxRecDepth 100000 in
theorem kX9_as {ad : Nat → Nat} {G : Gh} {p1 : Int32} {p2 : Int32} {u : Mem} {q : Int32 × Mem} (hf : FX9_as p1 p2 u = some q) : Ct shs ad G yX9_as cX9_as 4 (some .int) 2 44 [.ref (ad 0), .int p1, .int p2] u (some (.int q.1)) q.2 := by
  refine Ct_ofI (by decide) (Nat.le_of_ble_eq_true rfl) (fun X C hnL K => ?_)
  have C : Cx ad G X cX9_as "CarryFair" 2 44 := C
  unfold FX9_as at hf
  refine V_iload_n C 1 dX9_as_0 rfl rfl rfl ?_
  refine V_iconst C dX9_as_1 rfl (v := 0) rfl ?_
  refine V_bipush C dX9_as_2 rfl (v := 9) rfl ?_
  refine V_cSi C (As := [.int p1, .int 0, .int 9]) (st := []) M_X9_within w393 ⟨by decide, by decide⟩ rfl rfl (Nat.le_of_ble_eq_true rfl) dX9_as_4 rfl (kX9_within rfl) ?_
  refine V_if_eq C dX9_as_7 (tgt := 20) rfl rfl (fun c11 => ?_) (fun c11 => ?_)
  · replace hf := ipos c11 hf
    refine V_aload_n C 0 dX9_as_20 rfl rfl rfl ?_
    refine V_ldc C dX9_as_21 rfl w396 ?_
    obtain ⟨q1, hq1, hf⟩ := obd hf
    refine V_cVi C (b := 0) (As := [.int (-1000001)]) (st := []) cf9 rfl M_X9_finding w397 ⟨by decide, by decide⟩ rfl rfl (Nat.le_of_ble_eq_true rfl) dX9_as_23 rfl (kX9_finding hq1) ?_
    obtain rfl := Option.some.inj hf
    exact K _ _ _ dX9_as_26 rfl rfl
  · replace hf := ineg c11 hf
    refine V_iload_n C 2 dX9_as_10 rfl rfl rfl ?_
    refine V_iconst C dX9_as_11 rfl (v := 0) rfl ?_
    refine V_bipush C dX9_as_12 rfl (v := 6) rfl ?_
    refine V_cSi C (As := [.int p2, .int 0, .int 6]) (st := []) M_X9_within w393 ⟨by decide, by decide⟩ rfl rfl (Nat.le_of_ble_eq_true rfl) dX9_as_14 rfl (kX9_within rfl) ?_
    refine V_if_ne C dX9_as_17 (tgt := 27) rfl rfl (fun c10 => ?_) (fun c10 => ?_)
    · replace hf := ineg c10 hf
      refine V_aload_n C 0 dX9_as_27 rfl rfl rfl ?_
      refine V_getR C cf9 rfl 0 rfl (by decide) w361 rfl dX9_as_28 rfl ?_
      refine V_getR C cf2 (sF isF1) 4 rfl (by decide) w258 rfl dX9_as_31 rfl ?_
      refine V_iload_n C 1 dX9_as_34 rfl rfl rfl ?_
      obtain ⟨g2, hf⟩ := gd hf
      refine V_ildJ C (sFs isF1) g2 rfl dX9_as_35 rfl ?_
      refine V_istore_n C (L' := [(0, .ref (ad 0)), (1, .int p1), (2, .int p2), (3, .int (u (1 + 11) (p1).toNatClampNeg))]) dX9_as_36 rfl rfl (by decide) hnL [1, 2, 3, 0] rfl ?_
      refine V_aload_n C 0 dX9_as_37 rfl rfl rfl ?_
      refine V_getR C cf9 rfl 0 rfl (by decide) w361 rfl dX9_as_38 rfl ?_
      refine V_iload_n C 3 dX9_as_41 rfl rfl rfl ?_
      refine V_cVi C (b := 1) (As := [.int (u (1 + 11) (p1).toNatClampNeg)]) (st := []) cf2 (sF isF1) M_X2_hasCarrier w410 ⟨by decide, by decide⟩ rfl rfl (Nat.le_of_ble_eq_true rfl) dX9_as_42 rfl (kX2_hasCarrier isF1 rfl) ?_
      refine V_if_ne C dX9_as_45 (tgt := 56) rfl rfl (fun c8 => ?_) (fun c8 => ?_)
      · replace hf := ineg c8 hf
        refine V_aload_n C 0 dX9_as_56 rfl rfl rfl ?_
        refine V_getR C cf9 rfl 0 rfl (by decide) w361 rfl dX9_as_57 rfl ?_
        refine V_getR C cf2 (sF isF1) 0 rfl (by decide) w247 rfl dX9_as_60 rfl ?_
        refine V_iload_n C 3 dX9_as_63 rfl rfl rfl ?_
        obtain ⟨g3, hf⟩ := gd hf
        refine V_aald C (sFc isF1) (fun _ => rfl) g3 (sCag g3) dX9_as_64 rfl ?_
        refine V_getI C cf0 (sCa isF1 g3) 0 rfl (by decide) w170 rfl dX9_as_65 rfl ?_
        refine V_iload_n C 2 dX9_as_68 rfl rfl rfl ?_
        obtain ⟨q4, hq4, hf⟩ := obd hf
        refine V_cSi C (As := [.int (u (1 + 12 + (u (1 + 11) (p1).toNatClampNeg).toNatClampNeg) 0), .int p2]) (st := []) M_X3_isUnder w994 ⟨by decide, by decide⟩ rfl rfl (Nat.le_of_ble_eq_true rfl) dX9_as_69 rfl (kX3_isUnder hq4) ?_
        refine V_if_eq C dX9_as_72 (tgt := 79) rfl rfl (fun c6 => ?_) (fun c6 => ?_)
        · replace hf := ipos c6 hf
          refine V_aload_n C 0 dX9_as_79 rfl rfl rfl ?_
          refine V_ldcw C dX9_as_80 rfl w999 ?_
          obtain ⟨q5, hq5, hf⟩ := obd hf
          refine V_cVi C (b := 0) (As := [.int (-1000003)]) (st := []) cf9 rfl M_X9_finding w397 ⟨by decide, by decide⟩ rfl rfl (Nat.le_of_ble_eq_true rfl) dX9_as_83 rfl (kX9_finding hq5) ?_
          obtain rfl := Option.some.inj hf
          exact K _ _ _ dX9_as_86 rfl rfl
        · replace hf := ineg c6 hf
          refine V_iload_n C 3 dX9_as_75 rfl rfl rfl ?_
          refine V_goto C dX9_as_76 (tgt := 86) rfl ?_
          obtain rfl := Option.some.inj hf
          exact K _ _ _ dX9_as_86 rfl rfl
      · replace hf := ipos c8 hf
        refine V_aload_n C 0 dX9_as_48 rfl rfl rfl ?_
        refine V_ldcw C dX9_as_49 rfl w993 ?_
        obtain ⟨q7, hq7, hf⟩ := obd hf
        refine V_cVi C (b := 0) (As := [.int (-1000006)]) (st := []) cf9 rfl M_X9_finding w397 ⟨by decide, by decide⟩ rfl rfl (Nat.le_of_ble_eq_true rfl) dX9_as_52 rfl (kX9_finding hq7) ?_
        obtain rfl := Option.some.inj hf
        exact K _ _ _ dX9_as_55 rfl rfl
    · replace hf := ipos c10 hf
      refine V_aload_n C 0 dX9_as_20 rfl rfl rfl ?_
      refine V_ldc C dX9_as_21 rfl w396 ?_
      obtain ⟨q9, hq9, hf⟩ := obd hf
      refine V_cVi C (b := 0) (As := [.int (-1000001)]) (st := []) cf9 rfl M_X9_finding w397 ⟨by decide, by decide⟩ rfl rfl (Nat.le_of_ble_eq_true rfl) dX9_as_23 rfl (kX9_finding hq9) ?_
      obtain rfl := Option.some.inj hf
      exact K _ _ _ dX9_as_26 rfl rfl
set_option maxHeartbeats 4000000 in
set_option maxRecDepth 100000 in
theorem kX9_isSheet {ad : Nat → Nat} {G : Gh} {p0 : Int32} {u : Mem} {q : Int32} (hf : FX9_isSheet p0 = q) : Ct shs ad G yX9_isSheet cX9_isSheet 1 (some .boolean) 1 22 [.int p0] u (some (.int q)) u := by
  refine Ct_ofI (by decide) (Nat.le_of_ble_eq_true rfl) (fun X C hnL K => ?_)
  have C : Cx ad G X cX9_isSheet "CarryFair" 1 22 := C
  unfold FX9_isSheet at hf
  refine V_iload_n C 0 dX9_isSheet_0 rfl rfl rfl ?_
  refine V_iconst C dX9_isSheet_1 rfl (v := 0) rfl ?_
  refine V_iconst C dX9_isSheet_2 rfl (v := 3) rfl ?_
  refine V_cSi C (As := [.int p0, .int 0, .int 3]) (st := []) M_X9_within w393 ⟨by decide, by decide⟩ rfl rfl (Nat.le_of_ble_eq_true rfl) dX9_isSheet_3 rfl (kX9_within rfl) ?_
  subst hf
  exact K _ _ _ dX9_isSheet_6 rfl (nzb (bX9_within))
set_option maxHeartbeats 4000000 in
set_option maxRecDepth 100000 in
theorem kX9_sheet {ad : Nat → Nat} {G : Gh} {p1 : Int32} {p2 : Int32} {p3 : Int32} {u : Mem} {q : Int32 × Mem} (hf : FX9_sheet p1 p2 p3 u = some q) : Ct shs ad G yX9_sheet cX9_sheet 4 (some .int) 2 44 [.ref (ad 0), .int p1, .int p2, .int p3] u (some (.int q.1)) q.2 := by
  refine Ct_ofI (by decide) (Nat.le_of_ble_eq_true rfl) (fun X C hnL K => ?_)
  have C : Cx ad G X cX9_sheet "CarryFair" 2 44 := C
  unfold FX9_sheet at hf
  have JX9_sheet_36 : ∀ (w : Mem), JX9_sheet_36 p1 p2 p3 w = some q → V shs ad G X 36 [(0, .ref (ad 0)), (1, .int p1), (2, .int p2), (3, .int p3)] [] w := by
    intro w hf
    unfold JX9_sheet_36 at hf
    refine V_iload_n C 3 dX9_sheet_36 rfl rfl rfl ?_
    refine V_if_ge C dX9_sheet_37 (tgt := 48) rfl rfl (fun c8 => ?_) (fun c8 => ?_)
    · replace hf := ipos c8 hf
      refine V_iload_n C 3 dX9_sheet_48 rfl rfl rfl ?_
      refine V_bipush C dX9_sheet_49 rfl (v := 40) rfl ?_
      refine V_icmp_le C dX9_sheet_51 (tgt := 61) rfl rfl (fun c6 => ?_) (fun c6 => ?_)
      · replace hf := ipos c6 hf
        refine V_aload_n C 0 dX9_sheet_61 rfl rfl rfl ?_
        refine V_getR C cf9 rfl 6 rfl (by decide) w367 rfl dX9_sheet_62 rfl ?_
        refine V_iload_n C 1 dX9_sheet_65 rfl rfl rfl ?_
        obtain ⟨g2, hf⟩ := gd hf
        refine V_aald C (show shs[106]? = some (.inr ((5, 4), some [some 108, some 110, some 112, some 114])) from rfl) (fun _ => rfl) g2 (sShg g2) dX9_sheet_66 rfl ?_
        refine V_iload_n C 2 dX9_sheet_67 rfl rfl rfl ?_
        refine V_iload_n C 3 dX9_sheet_68 rfl rfl rfl ?_
        obtain ⟨q3, hq3, hf⟩ := obd hf
        refine V_cVv C (b := (108 + 2 * (p1).toNatClampNeg)) (As := [.int p2, .int p3]) (st := []) cf5 (sS (sSh g2)) M_X5_begin w1008 ⟨by decide, by decide⟩ rfl rfl (Nat.le_of_ble_eq_true rfl) dX9_sheet_69 rfl (kX5_begin (sSh g2) hq3) ?_
        refine V_aload_n C 0 dX9_sheet_72 rfl rfl rfl ?_
        refine V_getR C cf9 rfl 6 rfl (by decide) w367 rfl dX9_sheet_73 rfl ?_
        refine V_iload_n C 1 dX9_sheet_76 rfl rfl rfl ?_
        obtain ⟨g4, hf⟩ := gd hf
        refine V_aald C (show shs[106]? = some (.inr ((5, 4), some [some 108, some 110, some 112, some 114])) from rfl) (fun _ => rfl) g4 (sShg g4) dX9_sheet_77 rfl ?_
        refine V_getI C cf5 (sS (sSh g4)) 2 rfl (by decide) w353 rfl dX9_sheet_78 rfl ?_
        obtain rfl := Option.some.inj hf
        exact K _ _ _ dX9_sheet_81 rfl rfl
      · replace hf := ineg c6 hf
        refine V_aload_n C 0 dX9_sheet_54 rfl rfl rfl ?_
        refine V_ldc C dX9_sheet_55 rfl w396 ?_
        obtain ⟨q5, hq5, hf⟩ := obd hf
        refine V_cVi C (b := 0) (As := [.int (-1000001)]) (st := []) cf9 rfl M_X9_finding w397 ⟨by decide, by decide⟩ rfl rfl (Nat.le_of_ble_eq_true rfl) dX9_sheet_57 rfl (kX9_finding hq5) ?_
        obtain rfl := Option.some.inj hf
        exact K _ _ _ dX9_sheet_60 rfl rfl
    · replace hf := ineg c8 hf
      refine V_aload_n C 0 dX9_sheet_40 rfl rfl rfl ?_
      refine V_ldcw C dX9_sheet_41 rfl w1007 ?_
      obtain ⟨q7, hq7, hf⟩ := obd hf
      refine V_cVi C (b := 0) (As := [.int (-1000007)]) (st := []) cf9 rfl M_X9_finding w397 ⟨by decide, by decide⟩ rfl rfl (Nat.le_of_ble_eq_true rfl) dX9_sheet_44 rfl (kX9_finding hq7) ?_
      obtain rfl := Option.some.inj hf
      exact K _ _ _ dX9_sheet_47 rfl rfl
  refine V_iload_n C 1 dX9_sheet_0 rfl rfl rfl ?_
  refine V_cSi C (As := [.int p1]) (st := []) M_X9_isSheet w1004 ⟨by decide, by decide⟩ rfl rfl (Nat.le_of_ble_eq_true rfl) dX9_sheet_1 rfl (kX9_isSheet rfl) ?_
  refine V_if_eq C dX9_sheet_4 (tgt := 29) rfl rfl (fun c14 => ?_) (fun c14 => ?_)
  · replace hf := ipos c14 hf
    refine V_aload_n C 0 dX9_sheet_29 rfl rfl rfl ?_
    refine V_ldc C dX9_sheet_30 rfl w396 ?_
    obtain ⟨q1, hq1, hf⟩ := obd hf
    refine V_cVi C (b := 0) (As := [.int (-1000001)]) (st := []) cf9 rfl M_X9_finding w397 ⟨by decide, by decide⟩ rfl rfl (Nat.le_of_ble_eq_true rfl) dX9_sheet_32 rfl (kX9_finding hq1) ?_
    obtain rfl := Option.some.inj hf
    exact K _ _ _ dX9_sheet_35 rfl rfl
  · replace hf := ineg c14 hf
    refine V_iload_n C 2 dX9_sheet_7 rfl rfl rfl ?_
    refine V_if_eq C dX9_sheet_8 (tgt := 36) rfl rfl (fun c13 => ?_) (fun c13 => ?_)
    · replace hf := ipos c13 hf
      exact JX9_sheet_36 u hf
    · replace hf := ineg c13 hf
      refine V_iload_n C 2 dX9_sheet_11 rfl rfl rfl ?_
      refine V_bipush C dX9_sheet_12 rfl (v := 8) rfl ?_
      refine V_icmp_eq C dX9_sheet_14 (tgt := 36) rfl rfl (fun c12 => ?_) (fun c12 => ?_)
      · replace hf := ipos c12 hf
        exact JX9_sheet_36 u hf
      · replace hf := ineg c12 hf
        refine V_iload_n C 2 dX9_sheet_17 rfl rfl rfl ?_
        refine V_bipush C dX9_sheet_18 rfl (v := 16) rfl ?_
        refine V_icmp_eq C dX9_sheet_20 (tgt := 36) rfl rfl (fun c11 => ?_) (fun c11 => ?_)
        · replace hf := ipos c11 hf
          exact JX9_sheet_36 u hf
        · replace hf := ineg c11 hf
          refine V_iload_n C 2 dX9_sheet_23 rfl rfl rfl ?_
          refine V_bipush C dX9_sheet_24 rfl (v := 32) rfl ?_
          refine V_icmp_eq C dX9_sheet_26 (tgt := 36) rfl rfl (fun c10 => ?_) (fun c10 => ?_)
          · replace hf := ipos c10 hf
            exact JX9_sheet_36 u hf
          · replace hf := ineg c10 hf
            refine V_aload_n C 0 dX9_sheet_29 rfl rfl rfl ?_
            refine V_ldc C dX9_sheet_30 rfl w396 ?_
            obtain ⟨q9, hq9, hf⟩ := obd hf
            refine V_cVi C (b := 0) (As := [.int (-1000001)]) (st := []) cf9 rfl M_X9_finding w397 ⟨by decide, by decide⟩ rfl rfl (Nat.le_of_ble_eq_true rfl) dX9_sheet_32 rfl (kX9_finding hq9) ?_
            obtain rfl := Option.some.inj hf
            exact K _ _ _ dX9_sheet_35 rfl rfl
set_option maxHeartbeats 4000000 in
set_option maxRecDepth 100000 in
theorem kX9_write {ad : Nat → Nat} {G : Gh} {p1 : Int32} {p2 : Int32} {p3 : Int32} {u : Mem} {q : Int32 × Mem} (hf : FX9_write p1 p2 p3 u = some q) : Ct shs ad G yX9_write cX9_write 4 (some .int) 2 44 [.ref (ad 0), .int p1, .int p2, .int p3] u (some (.int q.1)) q.2 := by
  refine Ct_ofI (by decide) (Nat.le_of_ble_eq_true rfl) (fun X C hnL K => ?_)
  have C : Cx ad G X cX9_write "CarryFair" 2 44 := C
  unfold FX9_write at hf
  refine V_iload_n C 1 dX9_write_0 rfl rfl rfl ?_
  refine V_cSi C (As := [.int p1]) (st := []) M_X9_isSheet w1004 ⟨by decide, by decide⟩ rfl rfl (Nat.le_of_ble_eq_true rfl) dX9_write_1 rfl (kX9_isSheet rfl) ?_
  refine V_if_ne C dX9_write_4 (tgt := 14) rfl rfl (fun c10 => ?_) (fun c10 => ?_)
  · replace hf := ineg c10 hf
    refine V_aload_n C 0 dX9_write_14 rfl rfl rfl ?_
    refine V_getR C cf9 rfl 6 rfl (by decide) w367 rfl dX9_write_15 rfl ?_
    refine V_iload_n C 1 dX9_write_18 rfl rfl rfl ?_
    obtain ⟨g1, hf⟩ := gd hf
    refine V_aald C (show shs[106]? = some (.inr ((5, 4), some [some 108, some 110, some 112, some 114])) from rfl) (fun _ => rfl) g1 (sShg g1) dX9_write_19 rfl ?_
    refine V_cVi C (b := (108 + 2 * (p1).toNatClampNeg)) (As := []) (st := []) cf5 (sS (sSh g1)) M_X5_isMissing w1016 ⟨by decide, by decide⟩ rfl rfl (Nat.le_of_ble_eq_true rfl) dX9_write_20 rfl (kX5_isMissing (sSh g1) rfl) ?_
    refine V_if_eq C dX9_write_23 (tgt := 34) rfl rfl (fun c8 => ?_) (fun c8 => ?_)
    · replace hf := ipos c8 hf
      refine V_iload_n C 2 dX9_write_34 rfl rfl rfl ?_
      refine V_iconst C dX9_write_35 rfl (v := 0) rfl ?_
      refine V_aload_n C 0 dX9_write_36 rfl rfl rfl ?_
      refine V_getR C cf9 rfl 6 rfl (by decide) w367 rfl dX9_write_37 rfl ?_
      refine V_iload_n C 1 dX9_write_40 rfl rfl rfl ?_
      obtain ⟨g2, hf⟩ := gd hf
      refine V_aald C (show shs[106]? = some (.inr ((5, 4), some [some 108, some 110, some 112, some 114])) from rfl) (fun _ => rfl) g2 (sShg g2) dX9_write_41 rfl ?_
      refine V_getI C cf5 (sS (sSh g2)) 2 rfl (by decide) w353 rfl dX9_write_42 rfl ?_
      refine V_iconst C dX9_write_45 rfl (v := 1) rfl ?_
      refine V_isub C dX9_write_46 rfl ?_
      refine V_cSi C (As := [.int p2, .int 0, .int ((u (108 + 2 * (p1).toNatClampNeg) 2) - 1)]) (st := []) M_X9_within w393 ⟨by decide, by decide⟩ rfl rfl (Nat.le_of_ble_eq_true rfl) dX9_write_47 rfl (kX9_within rfl) ?_
      refine V_if_ne C dX9_write_50 (tgt := 60) rfl rfl (fun c6 => ?_) (fun c6 => ?_)
      · replace hf := ineg c6 hf
        refine V_aload_n C 0 dX9_write_60 rfl rfl rfl ?_
        refine V_getR C cf9 rfl 6 rfl (by decide) w367 rfl dX9_write_61 rfl ?_
        refine V_iload_n C 1 dX9_write_64 rfl rfl rfl ?_
        obtain ⟨g3, hf⟩ := gd hf
        refine V_aald C (show shs[106]? = some (.inr ((5, 4), some [some 108, some 110, some 112, some 114])) from rfl) (fun _ => rfl) g3 (sShg g3) dX9_write_65 rfl ?_
        refine V_iload_n C 2 dX9_write_66 rfl rfl rfl ?_
        refine V_iload_n C 3 dX9_write_67 rfl rfl rfl ?_
        obtain ⟨q4, hq4, hf⟩ := obd hf
        refine V_cVv C (b := (108 + 2 * (p1).toNatClampNeg)) (As := [.int p2, .int p3]) (st := []) cf5 (sS (sSh g3)) M_X5_put w1020 ⟨by decide, by decide⟩ rfl rfl (Nat.le_of_ble_eq_true rfl) dX9_write_68 rfl (kX5_put (sSh g3) hq4) ?_
        refine V_iconst C dX9_write_71 rfl (v := 1) rfl ?_
        obtain rfl := Option.some.inj hf
        exact K _ _ _ dX9_write_72 rfl rfl
      · replace hf := ipos c6 hf
        refine V_aload_n C 0 dX9_write_53 rfl rfl rfl ?_
        refine V_ldc C dX9_write_54 rfl w396 ?_
        obtain ⟨q5, hq5, hf⟩ := obd hf
        refine V_cVi C (b := 0) (As := [.int (-1000001)]) (st := []) cf9 rfl M_X9_finding w397 ⟨by decide, by decide⟩ rfl rfl (Nat.le_of_ble_eq_true rfl) dX9_write_56 rfl (kX9_finding hq5) ?_
        obtain rfl := Option.some.inj hf
        exact K _ _ _ dX9_write_59 rfl rfl
    · replace hf := ineg c8 hf
      refine V_aload_n C 0 dX9_write_26 rfl rfl rfl ?_
      refine V_ldcw C dX9_write_27 rfl w993 ?_
      obtain ⟨q7, hq7, hf⟩ := obd hf
      refine V_cVi C (b := 0) (As := [.int (-1000006)]) (st := []) cf9 rfl M_X9_finding w397 ⟨by decide, by decide⟩ rfl rfl (Nat.le_of_ble_eq_true rfl) dX9_write_30 rfl (kX9_finding hq7) ?_
      obtain rfl := Option.some.inj hf
      exact K _ _ _ dX9_write_33 rfl rfl
  · replace hf := ipos c10 hf
    refine V_aload_n C 0 dX9_write_7 rfl rfl rfl ?_
    refine V_ldc C dX9_write_8 rfl w396 ?_
    obtain ⟨q9, hq9, hf⟩ := obd hf
    refine V_cVi C (b := 0) (As := [.int (-1000001)]) (st := []) cf9 rfl M_X9_finding w397 ⟨by decide, by decide⟩ rfl rfl (Nat.le_of_ble_eq_true rfl) dX9_write_10 rfl (kX9_finding hq9) ?_
    obtain rfl := Option.some.inj hf
    exact K _ _ _ dX9_write_13 rfl rfl
set_option maxHeartbeats 4000000 in
set_option maxRecDepth 100000 in
theorem kX9_copy {ad : Nat → Nat} {G : Gh} {p1 : Int32} {p2 : Int32} {p3 : Int32} {p4 : Int32} {p5 : Int32} {u : Mem} {q : Int32 × Mem} (hf : FX9_copy p1 p2 p3 p4 p5 u = some q) : Ct shs ad G yX9_copy cX9_copy 6 (some .int) 2 44 [.ref (ad 0), .int p1, .int p2, .int p3, .int p4, .int p5] u (some (.int q.1)) q.2 := by
  refine Ct_ofI (by decide) (Nat.le_of_ble_eq_true rfl) (fun X C hnL K => ?_)
  have C : Cx ad G X cX9_copy "CarryFair" 2 44 := C
  unfold FX9_copy at hf
  refine V_iload_n C 1 dX9_copy_0 rfl rfl rfl ?_
  refine V_cSi C (As := [.int p1]) (st := []) M_X9_isSheet w1004 ⟨by decide, by decide⟩ rfl rfl (Nat.le_of_ble_eq_true rfl) dX9_copy_1 rfl (kX9_isSheet rfl) ?_
  refine V_if_eq C dX9_copy_4 (tgt := 14) rfl rfl (fun c24 => ?_) (fun c24 => ?_)
  · replace hf := ipos c24 hf
    refine V_aload_n C 0 dX9_copy_14 rfl rfl rfl ?_
    refine V_ldc C dX9_copy_15 rfl w396 ?_
    obtain ⟨q1, hq1, hf⟩ := obd hf
    refine V_cVi C (b := 0) (As := [.int (-1000001)]) (st := []) cf9 rfl M_X9_finding w397 ⟨by decide, by decide⟩ rfl rfl (Nat.le_of_ble_eq_true rfl) dX9_copy_17 rfl (kX9_finding hq1) ?_
    obtain rfl := Option.some.inj hf
    exact K _ _ _ dX9_copy_20 rfl rfl
  · replace hf := ineg c24 hf
    refine V_iload_n C 3 dX9_copy_7 rfl rfl rfl ?_
    refine V_cSi C (As := [.int p3]) (st := []) M_X9_isSheet w1004 ⟨by decide, by decide⟩ rfl rfl (Nat.le_of_ble_eq_true rfl) dX9_copy_8 rfl (kX9_isSheet rfl) ?_
    refine V_if_ne C dX9_copy_11 (tgt := 21) rfl rfl (fun c23 => ?_) (fun c23 => ?_)
    · replace hf := ineg c23 hf
      refine V_aload_n C 0 dX9_copy_21 rfl rfl rfl ?_
      refine V_getR C cf9 rfl 6 rfl (by decide) w367 rfl dX9_copy_22 rfl ?_
      refine V_iload_n C 1 dX9_copy_25 rfl rfl rfl ?_
      obtain ⟨g2, hf⟩ := gd hf
      refine V_aald C (show shs[106]? = some (.inr ((5, 4), some [some 108, some 110, some 112, some 114])) from rfl) (fun _ => rfl) g2 (sShg g2) dX9_copy_26 rfl ?_
      refine V_cVi C (b := (108 + 2 * (p1).toNatClampNeg)) (As := []) (st := []) cf5 (sS (sSh g2)) M_X5_isMissing w1016 ⟨by decide, by decide⟩ rfl rfl (Nat.le_of_ble_eq_true rfl) dX9_copy_27 rfl (kX5_isMissing (sSh g2) rfl) ?_
      refine V_if_ne C dX9_copy_30 (tgt := 45) rfl rfl (fun c21 => ?_) (fun c21 => ?_)
      · replace hf := ineg c21 hf
        refine V_aload_n C 0 dX9_copy_45 rfl rfl rfl ?_
        refine V_ldcw C dX9_copy_46 rfl w993 ?_
        obtain ⟨q3, hq3, hf⟩ := obd hf
        refine V_cVi C (b := 0) (As := [.int (-1000006)]) (st := []) cf9 rfl M_X9_finding w397 ⟨by decide, by decide⟩ rfl rfl (Nat.le_of_ble_eq_true rfl) dX9_copy_49 rfl (kX9_finding hq3) ?_
        obtain rfl := Option.some.inj hf
        exact K _ _ _ dX9_copy_52 rfl rfl
      · replace hf := ipos c21 hf
        refine V_aload_n C 0 dX9_copy_33 rfl rfl rfl ?_
        refine V_getR C cf9 rfl 6 rfl (by decide) w367 rfl dX9_copy_34 rfl ?_
        refine V_iload_n C 3 dX9_copy_37 rfl rfl rfl ?_
        obtain ⟨g4, hf⟩ := gd hf
        refine V_aald C (show shs[106]? = some (.inr ((5, 4), some [some 108, some 110, some 112, some 114])) from rfl) (fun _ => rfl) g4 (sShg g4) dX9_copy_38 rfl ?_
        refine V_cVi C (b := (108 + 2 * (p3).toNatClampNeg)) (As := []) (st := []) cf5 (sS (sSh g4)) M_X5_isMissing w1016 ⟨by decide, by decide⟩ rfl rfl (Nat.le_of_ble_eq_true rfl) dX9_copy_39 rfl (kX5_isMissing (sSh g4) rfl) ?_
        refine V_if_eq C dX9_copy_42 (tgt := 53) rfl rfl (fun c20 => ?_) (fun c20 => ?_)
        · replace hf := ipos c20 hf
          refine V_aload_n C 0 dX9_copy_53 rfl rfl rfl ?_
          refine V_getR C cf9 rfl 6 rfl (by decide) w367 rfl dX9_copy_54 rfl ?_
          refine V_iload_n C 1 dX9_copy_57 rfl rfl rfl ?_
          obtain ⟨g5, hf⟩ := gd hf
          refine V_aald C (show shs[106]? = some (.inr ((5, 4), some [some 108, some 110, some 112, some 114])) from rfl) (fun _ => rfl) g5 (sShg g5) dX9_copy_58 rfl ?_
          refine V_getI C cf5 (sS (sSh g5)) 1 rfl (by decide) w351 rfl dX9_copy_59 rfl ?_
          refine V_aload_n C 0 dX9_copy_62 rfl rfl rfl ?_
          refine V_getR C cf9 rfl 6 rfl (by decide) w367 rfl dX9_copy_63 rfl ?_
          refine V_iload_n C 3 dX9_copy_66 rfl rfl rfl ?_
          obtain ⟨g6, hf⟩ := gd hf
          refine V_aald C (show shs[106]? = some (.inr ((5, 4), some [some 108, some 110, some 112, some 114])) from rfl) (fun _ => rfl) g6 (sShg g6) dX9_copy_67 rfl ?_
          refine V_getI C cf5 (sS (sSh g6)) 1 rfl (by decide) w351 rfl dX9_copy_68 rfl ?_
          refine V_icmp_eq C dX9_copy_71 (tgt := 82) rfl rfl (fun c18 => ?_) (fun c18 => ?_)
          · replace hf := ipos c18 hf
            refine V_aload_n C 0 dX9_copy_82 rfl rfl rfl ?_
            refine V_getR C cf9 rfl 6 rfl (by decide) w367 rfl dX9_copy_83 rfl ?_
            refine V_iload_n C 1 dX9_copy_86 rfl rfl rfl ?_
            obtain ⟨g7, hf⟩ := gd hf
            refine V_aald C (show shs[106]? = some (.inr ((5, 4), some [some 108, some 110, some 112, some 114])) from rfl) (fun _ => rfl) g7 (sShg g7) dX9_copy_87 rfl ?_
            refine V_iload_n C 2 dX9_copy_88 rfl rfl rfl ?_
            refine V_iload C 5 dX9_copy_89 rfl rfl ?_
            refine V_cVi C (b := (108 + 2 * (p1).toNatClampNeg)) (As := [.int p2, .int p5]) (st := []) cf5 (sS (sSh g7)) M_X5_hasFrom w1028 ⟨by decide, by decide⟩ rfl rfl (Nat.le_of_ble_eq_true rfl) dX9_copy_91 rfl (kX5_hasFrom (sSh g7) rfl) ?_
            refine V_if_eq C dX9_copy_94 (tgt := 113) rfl rfl (fun c16 => ?_) (fun c16 => ?_)
            · replace hf := ipos c16 hf
              refine V_aload_n C 0 dX9_copy_113 rfl rfl rfl ?_
              refine V_ldc C dX9_copy_114 rfl w396 ?_
              obtain ⟨q8, hq8, hf⟩ := obd hf
              refine V_cVi C (b := 0) (As := [.int (-1000001)]) (st := []) cf9 rfl M_X9_finding w397 ⟨by decide, by decide⟩ rfl rfl (Nat.le_of_ble_eq_true rfl) dX9_copy_116 rfl (kX9_finding hq8) ?_
              obtain rfl := Option.some.inj hf
              exact K _ _ _ dX9_copy_119 rfl rfl
            · replace hf := ineg c16 hf
              refine V_aload_n C 0 dX9_copy_97 rfl rfl rfl ?_
              refine V_getR C cf9 rfl 6 rfl (by decide) w367 rfl dX9_copy_98 rfl ?_
              refine V_iload_n C 3 dX9_copy_101 rfl rfl rfl ?_
              obtain ⟨g9, hf⟩ := gd hf
              refine V_aald C (show shs[106]? = some (.inr ((5, 4), some [some 108, some 110, some 112, some 114])) from rfl) (fun _ => rfl) g9 (sShg g9) dX9_copy_102 rfl ?_
              refine V_iload C 4 dX9_copy_103 rfl rfl ?_
              refine V_iload C 5 dX9_copy_105 rfl rfl ?_
              refine V_cVi C (b := (108 + 2 * (p3).toNatClampNeg)) (As := [.int p4, .int p5]) (st := []) cf5 (sS (sSh g9)) M_X5_hasFrom w1028 ⟨by decide, by decide⟩ rfl rfl (Nat.le_of_ble_eq_true rfl) dX9_copy_107 rfl (kX5_hasFrom (sSh g9) rfl) ?_
              refine V_if_ne C dX9_copy_110 (tgt := 120) rfl rfl (fun c15 => ?_) (fun c15 => ?_)
              · replace hf := ineg c15 hf
                refine V_aload_n C 0 dX9_copy_120 rfl rfl rfl ?_
                refine V_getR C cf9 rfl 6 rfl (by decide) w367 rfl dX9_copy_121 rfl ?_
                refine V_iload_n C 1 dX9_copy_124 rfl rfl rfl ?_
                obtain ⟨g10, hf⟩ := gd hf
                refine V_aald C (show shs[106]? = some (.inr ((5, 4), some [some 108, some 110, some 112, some 114])) from rfl) (fun _ => rfl) g10 (sShg g10) dX9_copy_125 rfl ?_
                refine V_getR C cf5 (sS (sSh g10)) 0 rfl (by decide) w349 rfl dX9_copy_126 rfl ?_
                refine V_iload_n C 2 dX9_copy_129 rfl rfl rfl ?_
                refine V_aload_n C 0 dX9_copy_130 rfl rfl rfl ?_
                refine V_getR C cf9 rfl 6 rfl (by decide) w367 rfl dX9_copy_131 rfl ?_
                refine V_iload_n C 3 dX9_copy_134 rfl rfl rfl ?_
                obtain ⟨g11, hf⟩ := gd hf
                refine V_aald C (show shs[106]? = some (.inr ((5, 4), some [some 108, some 110, some 112, some 114])) from rfl) (fun _ => rfl) g11 (sShg g11) dX9_copy_135 rfl ?_
                refine V_getR C cf5 (sS (sSh g11)) 0 rfl (by decide) w349 rfl dX9_copy_136 rfl ?_
                refine V_iload C 4 dX9_copy_139 rfl rfl ?_
                refine V_iload C 5 dX9_copy_141 rfl rfl ?_
                obtain ⟨g12, hf⟩ := gd hf
                refine V_acopy C (sSn (sSh g10)) (sSn (sSh g11)) g12.1 g12.2.1 g12.2.2.1 g12.2.2.2.1 g12.2.2.2.2 w1033 ⟨by decide, by decide⟩ (Nat.le_of_ble_eq_true rfl) dX9_copy_143 rfl ?_
                obtain ⟨w13, ew13, hf⟩ := nmd hf
                rw [← ew13]
                refine V_iload C 5 dX9_copy_146 rfl rfl ?_
                obtain rfl := Option.some.inj hf
                exact K _ _ _ dX9_copy_148 rfl rfl
              · replace hf := ipos c15 hf
                refine V_aload_n C 0 dX9_copy_113 rfl rfl rfl ?_
                refine V_ldc C dX9_copy_114 rfl w396 ?_
                obtain ⟨q14, hq14, hf⟩ := obd hf
                refine V_cVi C (b := 0) (As := [.int (-1000001)]) (st := []) cf9 rfl M_X9_finding w397 ⟨by decide, by decide⟩ rfl rfl (Nat.le_of_ble_eq_true rfl) dX9_copy_116 rfl (kX9_finding hq14) ?_
                obtain rfl := Option.some.inj hf
                exact K _ _ _ dX9_copy_119 rfl rfl
          · replace hf := ineg c18 hf
            refine V_aload_n C 0 dX9_copy_74 rfl rfl rfl ?_
            refine V_ldcw C dX9_copy_75 rfl w999 ?_
            obtain ⟨q17, hq17, hf⟩ := obd hf
            refine V_cVi C (b := 0) (As := [.int (-1000003)]) (st := []) cf9 rfl M_X9_finding w397 ⟨by decide, by decide⟩ rfl rfl (Nat.le_of_ble_eq_true rfl) dX9_copy_78 rfl (kX9_finding hq17) ?_
            obtain rfl := Option.some.inj hf
            exact K _ _ _ dX9_copy_81 rfl rfl
        · replace hf := ineg c20 hf
          refine V_aload_n C 0 dX9_copy_45 rfl rfl rfl ?_
          refine V_ldcw C dX9_copy_46 rfl w993 ?_
          obtain ⟨q19, hq19, hf⟩ := obd hf
          refine V_cVi C (b := 0) (As := [.int (-1000006)]) (st := []) cf9 rfl M_X9_finding w397 ⟨by decide, by decide⟩ rfl rfl (Nat.le_of_ble_eq_true rfl) dX9_copy_49 rfl (kX9_finding hq19) ?_
          obtain rfl := Option.some.inj hf
          exact K _ _ _ dX9_copy_52 rfl rfl
    · replace hf := ipos c23 hf
      refine V_aload_n C 0 dX9_copy_14 rfl rfl rfl ?_
      refine V_ldc C dX9_copy_15 rfl w396 ?_
      obtain ⟨q22, hq22, hf⟩ := obd hf
      refine V_cVi C (b := 0) (As := [.int (-1000001)]) (st := []) cf9 rfl M_X9_finding w397 ⟨by decide, by decide⟩ rfl rfl (Nat.le_of_ble_eq_true rfl) dX9_copy_17 rfl (kX9_finding hq22) ?_
      obtain rfl := Option.some.inj hf
      exact K _ _ _ dX9_copy_20 rfl rfl
set_option maxHeartbeats 4000000 in
set_option maxRecDepth 100000 in
theorem kX9_load {ad : Nat → Nat} {G : Gh} {p1 : Int32} {u : Mem} {q : Int32 × Mem} (hf : FX9_load p1 u = some q) : Ct shs ad G yX9_load cX9_load 4 (some .int) 2 44 [.ref (ad 0), .int p1] u (some (.int q.1)) q.2 := by
  refine Ct_ofI (by decide) (Nat.le_of_ble_eq_true rfl) (fun X C hnL K => ?_)
  have C : Cx ad G X cX9_load "CarryFair" 2 44 := C
  unfold FX9_load at hf
  have Lp56 : ∀ (v3 : Int32) (x0 : (Int32 × Mem)) (q56 : (Int32 × Mem)), lp (BX9_load_56 p1 v3) FU x0 = some q56 → V shs ad G X 111 [(0, .ref (ad 0)), (1, .int p1), (2, .int q56.1), (3, .int v3)] [] q56.2 → V shs ad G X 56 [(0, .ref (ad 0)), (1, .int p1), (2, .int x0.1), (3, .int v3)] [] x0.2 := by
    intro v3 x0 q56 hq hx56_0
    refine lp_V (BX9_load_56 p1 v3) (fun x56 => V shs ad G X 56 [(0, .ref (ad 0)), (1, .int p1), (2, .int x56.1), (3, .int v3)] [] x56.2) q56 (fun rec56 ih56 x56 hf => ?_) FU x0 hq
    unfold BX9_load_56 at hf
    refine V_iload_n C 2 dX9_load_56 rfl rfl rfl ?_
    refine V_iload_n C 3 dX9_load_57 rfl rfl rfl ?_
    refine V_icmp_ge C dX9_load_58 (tgt := 111) rfl rfl (fun c10 => ?_) (fun c10 => ?_)
    · replace hf := ipos c10 hf
      obtain rfl := Option.some.inj hf
      exact hx56_0
    · replace hf := ineg c10 hf
      refine V_aload_n C 0 dX9_load_61 rfl rfl rfl ?_
      refine V_getR C cf9 rfl 6 rfl (by decide) w367 rfl dX9_load_62 rfl ?_
      refine V_iload_n C 1 dX9_load_65 rfl rfl rfl ?_
      obtain ⟨g3, hf⟩ := gd hf
      refine V_aald C (show shs[106]? = some (.inr ((5, 4), some [some 108, some 110, some 112, some 114])) from rfl) (fun _ => rfl) g3 (sShg g3) dX9_load_66 rfl ?_
      refine V_getR C cf5 (sS (sSh g3)) 0 rfl (by decide) w349 rfl dX9_load_67 rfl ?_
      refine V_iload_n C 2 dX9_load_70 rfl rfl rfl ?_
      obtain ⟨g4, hf⟩ := gd hf
      refine V_ildJ C (sSn (sSh g3)) g4 rfl dX9_load_71 rfl ?_
      refine V_iconst C dX9_load_72 rfl (v := 1) rfl ?_
      refine V_sipush C dX9_load_73 rfl (v := 9999) rfl ?_
      refine V_cSi C (As := [.int (x56.2 ((108 + 2 * (p1).toNatClampNeg) + 1) (x56.1).toNatClampNeg), .int 1, .int 9999]) (st := []) M_X9_within w393 ⟨by decide, by decide⟩ rfl rfl (Nat.le_of_ble_eq_true rfl) dX9_load_76 rfl (kX9_within rfl) ?_
      refine V_if_eq C dX9_load_79 (tgt := 111) rfl rfl (fun c9 => ?_) (fun c9 => ?_)
      · replace hf := ipos c9 hf
        obtain rfl := Option.some.inj hf
        exact hx56_0
      · replace hf := ineg c9 hf
        refine V_aload_n C 0 dX9_load_82 rfl rfl rfl ?_
        refine V_getR C cf9 rfl 0 rfl (by decide) w361 rfl dX9_load_83 rfl ?_
        refine V_getR C cf2 (sF isF1) 2 rfl (by decide) w252 rfl dX9_load_86 rfl ?_
        refine V_iload_n C 2 dX9_load_89 rfl rfl rfl ?_
        obtain ⟨g5, hf⟩ := gd hf
        refine V_aald C (sFw isF1) (fun _ => rfl) g5 (sWag g5) dX9_load_90 rfl ?_
        refine V_aload_n C 0 dX9_load_91 rfl rfl rfl ?_
        refine V_getR C cf9 rfl 6 rfl (by decide) w367 rfl dX9_load_92 rfl ?_
        refine V_iload_n C 1 dX9_load_95 rfl rfl rfl ?_
        obtain ⟨g6, hf⟩ := gd hf
        refine V_aald C (show shs[106]? = some (.inr ((5, 4), some [some 108, some 110, some 112, some 114])) from rfl) (fun _ => rfl) g6 (sShg g6) dX9_load_96 rfl ?_
        refine V_getR C cf5 (sS (sSh g6)) 0 rfl (by decide) w349 rfl dX9_load_97 rfl ?_
        refine V_iload_n C 2 dX9_load_100 rfl rfl rfl ?_
        obtain ⟨g7, hf⟩ := gd hf
        refine V_ildJ C (sSn (sSh g6)) g7 rfl dX9_load_101 rfl ?_
        refine V_put C cf7 (sWa isF1 g5) 0 rfl (by decide) w237 rfl rfl rfl rfl dX9_load_102 rfl ?_
        obtain ⟨w8, ew8, hf⟩ := nmd hf
        rw [← ew8]
        refine V_iinc C (v := (x56.1 + 1)) (L' := [(0, .ref (ad 0)), (1, .int p1), (2, .int (x56.1 + 1)), (3, .int v3)]) 2 dX9_load_105 rfl rfl rfl (by decide) hnL [1, 2, 0, 3] rfl ?_
        refine V_goto C dX9_load_108 (tgt := 56) rfl ?_
        exact ih56 ((x56.1 + 1), w8) hf
  refine V_iload_n C 1 dX9_load_0 rfl rfl rfl ?_
  refine V_cSi C (As := [.int p1]) (st := []) M_X9_isSheet w1004 ⟨by decide, by decide⟩ rfl rfl (Nat.le_of_ble_eq_true rfl) dX9_load_1 rfl (kX9_isSheet rfl) ?_
  refine V_if_ne C dX9_load_4 (tgt := 14) rfl rfl (fun c15 => ?_) (fun c15 => ?_)
  · replace hf := ineg c15 hf
    refine V_aload_n C 0 dX9_load_14 rfl rfl rfl ?_
    refine V_getR C cf9 rfl 6 rfl (by decide) w367 rfl dX9_load_15 rfl ?_
    refine V_iload_n C 1 dX9_load_18 rfl rfl rfl ?_
    obtain ⟨g1, hf⟩ := gd hf
    refine V_aald C (show shs[106]? = some (.inr ((5, 4), some [some 108, some 110, some 112, some 114])) from rfl) (fun _ => rfl) g1 (sShg g1) dX9_load_19 rfl ?_
    refine V_cVi C (b := (108 + 2 * (p1).toNatClampNeg)) (As := []) (st := []) cf5 (sS (sSh g1)) M_X5_isMissing w1016 ⟨by decide, by decide⟩ rfl rfl (Nat.le_of_ble_eq_true rfl) dX9_load_20 rfl (kX5_isMissing (sSh g1) rfl) ?_
    refine V_if_eq C dX9_load_23 (tgt := 34) rfl rfl (fun c13 => ?_) (fun c13 => ?_)
    · replace hf := ipos c13 hf
      refine V_iconst C dX9_load_34 rfl (v := 0) rfl ?_
      refine V_istore_n C (L' := [(0, .ref (ad 0)), (1, .int p1), (2, .int 0)]) dX9_load_35 rfl rfl (by decide) hnL [1, 2, 0] rfl ?_
      refine V_aload_n C 0 dX9_load_36 rfl rfl rfl ?_
      refine V_getR C cf9 rfl 6 rfl (by decide) w367 rfl dX9_load_37 rfl ?_
      refine V_iload_n C 1 dX9_load_40 rfl rfl rfl ?_
      obtain ⟨g2, hf⟩ := gd hf
      refine V_aald C (show shs[106]? = some (.inr ((5, 4), some [some 108, some 110, some 112, some 114])) from rfl) (fun _ => rfl) g2 (sShg g2) dX9_load_41 rfl ?_
      refine V_getI C cf5 (sS (sSh g2)) 2 rfl (by decide) w353 rfl dX9_load_42 rfl ?_
      refine V_aload_n C 0 dX9_load_45 rfl rfl rfl ?_
      refine V_getR C cf9 rfl 0 rfl (by decide) w361 rfl dX9_load_46 rfl ?_
      refine V_getI C cf2 (sF isF1) 7 rfl (by decide) w268 rfl dX9_load_49 rfl ?_
      refine V_mmin C w702 ⟨by decide, by decide⟩ (Nat.le_of_ble_eq_true rfl) dX9_load_52 rfl ?_
      refine V_istore_n C (L' := [(0, .ref (ad 0)), (1, .int p1), (2, .int 0), (3, .int (jmin (u (108 + 2 * (p1).toNatClampNeg) 2) (u 1 7)))]) dX9_load_55 rfl rfl (by decide) hnL [1, 2, 3, 0] rfl ?_
      obtain ⟨q56_11, hq56_11, hf⟩ := obd hf
      refine Lp56 (jmin (u (108 + 2 * (p1).toNatClampNeg) 2) (u 1 7)) (0, u) q56_11 hq56_11 ?_
      refine V_iload_n C 2 dX9_load_111 rfl rfl rfl ?_
      obtain rfl := Option.some.inj hf
      exact K _ _ _ dX9_load_112 rfl rfl
    · replace hf := ineg c13 hf
      refine V_aload_n C 0 dX9_load_26 rfl rfl rfl ?_
      refine V_ldcw C dX9_load_27 rfl w993 ?_
      obtain ⟨q12, hq12, hf⟩ := obd hf
      refine V_cVi C (b := 0) (As := [.int (-1000006)]) (st := []) cf9 rfl M_X9_finding w397 ⟨by decide, by decide⟩ rfl rfl (Nat.le_of_ble_eq_true rfl) dX9_load_30 rfl (kX9_finding hq12) ?_
      obtain rfl := Option.some.inj hf
      exact K _ _ _ dX9_load_33 rfl rfl
  · replace hf := ipos c15 hf
    refine V_aload_n C 0 dX9_load_7 rfl rfl rfl ?_
    refine V_ldc C dX9_load_8 rfl w396 ?_
    obtain ⟨q14, hq14, hf⟩ := obd hf
    refine V_cVi C (b := 0) (As := [.int (-1000001)]) (st := []) cf9 rfl M_X9_finding w397 ⟨by decide, by decide⟩ rfl rfl (Nat.le_of_ble_eq_true rfl) dX9_load_10 rfl (kX9_finding hq14) ?_
    obtain rfl := Option.some.inj hf
    exact K _ _ _ dX9_load_13 rfl rfl
set_option maxHeartbeats 4000000 in
set_option maxRecDepth 100000 in
theorem kX9_judge {ad : Nat → Nat} {G : Gh} {p1 : Int32} {p2 : Int32} {u : Mem} {q : Int32 × Mem} (hf : FX9_judge p1 p2 u = some q) : Ct shs ad G yX9_judge cX9_judge 6 (some .int) 4 95 [.ref (ad 0), .int p1, .int p2] u (some (.int q.1)) q.2 := by
  refine Ct_ofI (by decide) (Nat.le_of_ble_eq_true rfl) (fun X C hnL K => ?_)
  have C : Cx ad G X cX9_judge "CarryFair" 4 95 := C
  unfold FX9_judge at hf
  have Lp76 : ∀ (x0 : (Int32 × Int32 × Mem)) (q76 : (Nat × Int32 × Int32 × Mem)), lp (BX9_judge_76 p1 p2) FU x0 = some q76 → (q76.1 = 0 → V shs ad G X 127 [(0, .ref (ad 0)), (1, .int p1), (2, .int p2), (3, .int q76.2.1), (4, .int q76.2.2.1)] [] q76.2.2.2) → (q76.1 = 1 → V shs ad G X 161 [(0, .ref (ad 0)), (1, .int p1), (2, .int p2), (3, .int q76.2.1), (4, .int q76.2.2.1)] [] q76.2.2.2) → V shs ad G X 76 [(0, .ref (ad 0)), (1, .int p1), (2, .int p2), (3, .int x0.1), (4, .int x0.2.1)] [] x0.2.2 := by
    intro  x0 q76 hq hx76_0 hx76_1
    refine lp_V (BX9_judge_76 p1 p2) (fun x76 => V shs ad G X 76 [(0, .ref (ad 0)), (1, .int p1), (2, .int p2), (3, .int x76.1), (4, .int x76.2.1)] [] x76.2.2) q76 (fun rec76 ih76 x76 hf => ?_) FU x0 hq
    unfold BX9_judge_76 at hf
    refine V_iload C 4 dX9_judge_76 rfl rfl ?_
    refine V_aload_n C 0 dX9_judge_78 rfl rfl rfl ?_
    refine V_getR C cf9 rfl 6 rfl (by decide) w367 rfl dX9_judge_79 rfl ?_
    refine V_iload_n C 1 dX9_judge_82 rfl rfl rfl ?_
    obtain ⟨g4, hf⟩ := gd hf
    refine V_aald C (show shs[106]? = some (.inr ((5, 4), some [some 108, some 110, some 112, some 114])) from rfl) (fun _ => rfl) g4 (sShg g4) dX9_judge_83 rfl ?_
    refine V_getI C cf5 (sS (sSh g4)) 2 rfl (by decide) w353 rfl dX9_judge_84 rfl ?_
    refine V_icmp_ge C dX9_judge_87 (tgt := 161) rfl rfl (fun c12 => ?_) (fun c12 => ?_)
    · replace hf := ipos c12 hf
      obtain rfl := Option.some.inj hf
      exact hx76_1 rfl
    · replace hf := ineg c12 hf
      refine V_aload_n C 0 dX9_judge_90 rfl rfl rfl ?_
      refine V_getR C cf9 rfl 6 rfl (by decide) w367 rfl dX9_judge_91 rfl ?_
      refine V_iload_n C 1 dX9_judge_94 rfl rfl rfl ?_
      obtain ⟨g5, hf⟩ := gd hf
      refine V_aald C (show shs[106]? = some (.inr ((5, 4), some [some 108, some 110, some 112, some 114])) from rfl) (fun _ => rfl) g5 (sShg g5) dX9_judge_95 rfl ?_
      refine V_getR C cf5 (sS (sSh g5)) 0 rfl (by decide) w349 rfl dX9_judge_96 rfl ?_
      refine V_iload C 4 dX9_judge_99 rfl rfl ?_
      obtain ⟨g6, hf⟩ := gd hf
      refine V_ildJ C (sSn (sSh g5)) g6 rfl dX9_judge_101 rfl ?_
      refine V_istore C (L' := [(0, .ref (ad 0)), (1, .int p1), (2, .int p2), (3, .int x76.1), (4, .int x76.2.1), (5, .int (x76.2.2 ((108 + 2 * (p1).toNatClampNeg) + 1) (x76.2.1).toNatClampNeg))]) dX9_judge_102 rfl (by decide) hnL [1, 2, 3, 4, 5, 0] rfl ?_
      refine V_iload C 5 dX9_judge_104 rfl rfl ?_
      refine V_cSi C (As := [.int (x76.2.2 ((108 + 2 * (p1).toNatClampNeg) + 1) (x76.2.1).toNatClampNeg)]) (st := []) M_X9_isPlace w440 ⟨by decide, by decide⟩ rfl rfl (Nat.le_of_ble_eq_true rfl) dX9_judge_106 rfl (kX9_isPlace rfl) ?_
      refine V_if_eq C dX9_judge_109 (tgt := 127) rfl rfl (fun c11 => ?_) (fun c11 => ?_)
      · replace hf := ipos c11 hf
        refine V_sub (L' := [(0, .ref (ad 0)), (1, .int p1), (2, .int p2), (3, .int x76.1), (4, .int x76.2.1)]) [0, 1, 2, 3, 4] rfl ?_
        obtain rfl := Option.some.inj hf
        exact hx76_0 rfl
      · replace hf := ineg c11 hf
        refine V_aload_n C 0 dX9_judge_112 rfl rfl rfl ?_
        refine V_getR C cf9 rfl 2 rfl (by decide) w363 rfl dX9_judge_113 rfl ?_
        refine V_iload_n C 2 dX9_judge_116 rfl rfl rfl ?_
        refine V_iload C 5 dX9_judge_117 rfl rfl ?_
        obtain ⟨q7, hq7, hf⟩ := obd hf
        refine V_cVi C (b := 65) (As := [.int p2, .int (x76.2.2 ((108 + 2 * (p1).toNatClampNeg) + 1) (x76.2.1).toNatClampNeg)]) (st := []) cf2 (sF isF65) M_X2_yardsTo w559 ⟨by decide, by decide⟩ rfl rfl (Nat.le_of_ble_eq_true rfl) dX9_judge_119 rfl (kX2_yardsTo isF65 hq7) ?_
        refine V_ldc C dX9_judge_122 rfl w499 ?_
        refine V_icmp_lt C dX9_judge_124 (tgt := 134) rfl rfl (fun c10 => ?_) (fun c10 => ?_)
        · replace hf := ipos c10 hf
          refine V_iload_n C 3 dX9_judge_134 rfl rfl rfl ?_
          refine V_aload_n C 0 dX9_judge_135 rfl rfl rfl ?_
          refine V_getR C cf9 rfl 2 rfl (by decide) w363 rfl dX9_judge_136 rfl ?_
          refine V_iload_n C 2 dX9_judge_139 rfl rfl rfl ?_
          refine V_iload C 5 dX9_judge_140 rfl rfl ?_
          obtain ⟨q8, hq8, hf⟩ := obd hf
          refine V_cVi C (b := 65) (As := [.int p2, .int (x76.2.2 ((108 + 2 * (p1).toNatClampNeg) + 1) (x76.2.1).toNatClampNeg)]) (st := [.int x76.1]) cf2 (sF isF65) M_X2_go w563 ⟨by decide, by decide⟩ rfl rfl (Nat.le_of_ble_eq_true rfl) dX9_judge_142 rfl (kX2_go isF65 hq8) ?_
          refine V_iadd C dX9_judge_145 rfl ?_
          refine V_istore_n C (L' := [(0, .ref (ad 0)), (1, .int p1), (2, .int p2), (3, .int (x76.1 + q8.1)), (4, .int x76.2.1), (5, .int (x76.2.2 ((108 + 2 * (p1).toNatClampNeg) + 1) (x76.2.1).toNatClampNeg))]) dX9_judge_146 rfl rfl (by decide) hnL [1, 2, 3, 0, 4, 5] rfl ?_
          refine V_aload_n C 0 dX9_judge_147 rfl rfl rfl ?_
          refine V_getR C cf9 rfl 2 rfl (by decide) w363 rfl dX9_judge_148 rfl ?_
          refine V_iload_n C 2 dX9_judge_151 rfl rfl rfl ?_
          obtain ⟨q9, hq9, hf⟩ := obd hf
          refine V_cVv C (b := 65) (As := [.int p2]) (st := []) cf2 (sF isF65) M_X2_takeUpAll w1042 ⟨by decide, by decide⟩ rfl rfl (Nat.le_of_ble_eq_true rfl) dX9_judge_152 rfl (kX2_takeUpAll isF65 hq9) ?_
          refine V_iinc C (v := (x76.2.1 + 1)) (L' := [(0, .ref (ad 0)), (1, .int p1), (2, .int p2), (3, .int (x76.1 + q8.1)), (4, .int (x76.2.1 + 1)), (5, .int (x76.2.2 ((108 + 2 * (p1).toNatClampNeg) + 1) (x76.2.1).toNatClampNeg))]) 4 dX9_judge_155 rfl rfl rfl (by decide) hnL [1, 2, 3, 4, 0, 5] rfl ?_
          refine V_goto C dX9_judge_158 (tgt := 76) rfl ?_
          refine V_sub (L' := [(0, .ref (ad 0)), (1, .int p1), (2, .int p2), (3, .int (x76.1 + q8.1)), (4, .int (x76.2.1 + 1))]) [0, 1, 2, 3, 4] rfl ?_
          exact ih76 ((x76.1 + q8.1), (x76.2.1 + 1), q9) hf
        · replace hf := ineg c10 hf
          refine V_sub (L' := [(0, .ref (ad 0)), (1, .int p1), (2, .int p2), (3, .int x76.1), (4, .int x76.2.1)]) [0, 1, 2, 3, 4] rfl ?_
          obtain rfl := Option.some.inj hf
          exact hx76_0 rfl
  refine V_iload_n C 1 dX9_judge_0 rfl rfl rfl ?_
  refine V_cSi C (As := [.int p1]) (st := []) M_X9_isSheet w1004 ⟨by decide, by decide⟩ rfl rfl (Nat.le_of_ble_eq_true rfl) dX9_judge_1 rfl (kX9_isSheet rfl) ?_
  refine V_if_ne C dX9_judge_4 (tgt := 14) rfl rfl (fun c20 => ?_) (fun c20 => ?_)
  · replace hf := ineg c20 hf
    refine V_aload_n C 0 dX9_judge_14 rfl rfl rfl ?_
    refine V_getR C cf9 rfl 6 rfl (by decide) w367 rfl dX9_judge_15 rfl ?_
    refine V_iload_n C 1 dX9_judge_18 rfl rfl rfl ?_
    obtain ⟨g1, hf⟩ := gd hf
    refine V_aald C (show shs[106]? = some (.inr ((5, 4), some [some 108, some 110, some 112, some 114])) from rfl) (fun _ => rfl) g1 (sShg g1) dX9_judge_19 rfl ?_
    refine V_cVi C (b := (108 + 2 * (p1).toNatClampNeg)) (As := []) (st := []) cf5 (sS (sSh g1)) M_X5_isMissing w1016 ⟨by decide, by decide⟩ rfl rfl (Nat.le_of_ble_eq_true rfl) dX9_judge_20 rfl (kX5_isMissing (sSh g1) rfl) ?_
    refine V_if_eq C dX9_judge_23 (tgt := 34) rfl rfl (fun c18 => ?_) (fun c18 => ?_)
    · replace hf := ipos c18 hf
      refine V_aload_n C 0 dX9_judge_34 rfl rfl rfl ?_
      refine V_getR C cf9 rfl 0 rfl (by decide) w361 rfl dX9_judge_35 rfl ?_
      refine V_iload_n C 2 dX9_judge_38 rfl rfl rfl ?_
      refine V_cVi C (b := 1) (As := [.int p2]) (st := []) cf2 (sF isF1) M_X2_hasCarrier w410 ⟨by decide, by decide⟩ rfl rfl (Nat.le_of_ble_eq_true rfl) dX9_judge_39 rfl (kX2_hasCarrier isF1 rfl) ?_
      refine V_if_ne C dX9_judge_42 (tgt := 52) rfl rfl (fun c16 => ?_) (fun c16 => ?_)
      · replace hf := ineg c16 hf
        refine V_aload_n C 0 dX9_judge_52 rfl rfl rfl ?_
        refine V_getR C cf9 rfl 2 rfl (by decide) w363 rfl dX9_judge_53 rfl ?_
        refine V_aload_n C 0 dX9_judge_56 rfl rfl rfl ?_
        refine V_getR C cf9 rfl 0 rfl (by decide) w361 rfl dX9_judge_57 rfl ?_
        obtain ⟨q2, hq2, hf⟩ := obd hf
        refine V_cVv C (b := 65) (As := [.ref (ad 1)]) (st := []) cf2 (sF isF65) M_X2_become w761 ⟨by decide, by decide⟩ rfl rfl (Nat.le_of_ble_eq_true rfl) dX9_judge_60 rfl (kX2_become isF65 isF1 hq2) ?_
        refine V_aload_n C 0 dX9_judge_63 rfl rfl rfl ?_
        refine V_getR C cf9 rfl 2 rfl (by decide) w363 rfl dX9_judge_64 rfl ?_
        refine V_iload_n C 2 dX9_judge_67 rfl rfl rfl ?_
        obtain ⟨q3, hq3, hf⟩ := obd hf
        refine V_cVv C (b := 65) (As := [.int p2]) (st := []) cf2 (sF isF65) M_X2_takeUpAll w1042 ⟨by decide, by decide⟩ rfl rfl (Nat.le_of_ble_eq_true rfl) dX9_judge_68 rfl (kX2_takeUpAll isF65 hq3) ?_
        refine V_iconst C dX9_judge_71 rfl (v := 0) rfl ?_
        refine V_istore_n C (L' := [(0, .ref (ad 0)), (1, .int p1), (2, .int p2), (3, .int 0)]) dX9_judge_72 rfl rfl (by decide) hnL [1, 2, 3, 0] rfl ?_
        refine V_iconst C dX9_judge_73 rfl (v := 0) rfl ?_
        refine V_istore C (L' := [(0, .ref (ad 0)), (1, .int p1), (2, .int p2), (3, .int 0), (4, .int 0)]) dX9_judge_74 rfl (by decide) hnL [1, 2, 3, 4, 0] rfl ?_
        obtain ⟨q76_13, hq76_13, hf⟩ := obd hf
        refine Lp76  (0, 0, q3) q76_13 hq76_13 ?_ ?_
        · intro hk
          replace hf := ipos hk hf
          refine V_aload_n C 0 dX9_judge_127 rfl rfl rfl ?_
          refine V_ldc C dX9_judge_128 rfl w500 ?_
          obtain ⟨q14, hq14, hf⟩ := obd hf
          refine V_cVi C (b := 0) (As := [.int (-1000004)]) (st := []) cf9 rfl M_X9_finding w397 ⟨by decide, by decide⟩ rfl rfl (Nat.le_of_ble_eq_true rfl) dX9_judge_130 rfl (kX9_finding hq14) ?_
          obtain rfl := Option.some.inj hf
          exact K _ _ _ dX9_judge_133 rfl rfl
        · intro hk
          replace hf := ineg (by rw [hk]; decide) hf
          refine V_iload_n C 3 dX9_judge_161 rfl rfl rfl ?_
          obtain rfl := Option.some.inj hf
          exact K _ _ _ dX9_judge_162 rfl rfl
      · replace hf := ipos c16 hf
        refine V_aload_n C 0 dX9_judge_45 rfl rfl rfl ?_
        refine V_ldc C dX9_judge_46 rfl w396 ?_
        obtain ⟨q15, hq15, hf⟩ := obd hf
        refine V_cVi C (b := 0) (As := [.int (-1000001)]) (st := []) cf9 rfl M_X9_finding w397 ⟨by decide, by decide⟩ rfl rfl (Nat.le_of_ble_eq_true rfl) dX9_judge_48 rfl (kX9_finding hq15) ?_
        obtain rfl := Option.some.inj hf
        exact K _ _ _ dX9_judge_51 rfl rfl
    · replace hf := ineg c18 hf
      refine V_aload_n C 0 dX9_judge_26 rfl rfl rfl ?_
      refine V_ldcw C dX9_judge_27 rfl w993 ?_
      obtain ⟨q17, hq17, hf⟩ := obd hf
      refine V_cVi C (b := 0) (As := [.int (-1000006)]) (st := []) cf9 rfl M_X9_finding w397 ⟨by decide, by decide⟩ rfl rfl (Nat.le_of_ble_eq_true rfl) dX9_judge_30 rfl (kX9_finding hq17) ?_
      obtain rfl := Option.some.inj hf
      exact K _ _ _ dX9_judge_33 rfl rfl
  · replace hf := ipos c20 hf
    refine V_aload_n C 0 dX9_judge_7 rfl rfl rfl ?_
    refine V_ldc C dX9_judge_8 rfl w396 ?_
    obtain ⟨q19, hq19, hf⟩ := obd hf
    refine V_cVi C (b := 0) (As := [.int (-1000001)]) (st := []) cf9 rfl M_X9_finding w397 ⟨by decide, by decide⟩ rfl rfl (Nat.le_of_ble_eq_true rfl) dX9_judge_10 rfl (kX9_finding hq19) ?_
    obtain rfl := Option.some.inj hf
    exact K _ _ _ dX9_judge_13 rfl rfl
set_option maxHeartbeats 4000000 in
set_option maxRecDepth 100000 in
theorem kX9_image {ad : Nat → Nat} {G : Gh}  {u : Mem} {q : Int32 × Mem} (hf : FX9_image u = some q) : Ct shs ad G yX9_image cX9_image 1 (some .int) 3 74 [.ref (ad 0)] u (some (.int q.1)) q.2 := by
  refine Ct_ofI (by decide) (Nat.le_of_ble_eq_true rfl) (fun X C hnL K => ?_)
  have C : Cx ad G X cX9_image "CarryFair" 3 74 := C
  unfold FX9_image at hf
  refine V_aload_n C 0 dX9_image_0 rfl rfl rfl ?_
  refine V_getR C cf9 rfl 1 rfl (by decide) w362 rfl dX9_image_1 rfl ?_
  refine V_aload_n C 0 dX9_image_4 rfl rfl rfl ?_
  refine V_getR C cf9 rfl 0 rfl (by decide) w361 rfl dX9_image_5 rfl ?_
  obtain ⟨q1, hq1, hf⟩ := obd hf
  refine V_cVv C (b := 33) (As := [.ref (ad 1)]) (st := []) cf2 (sF isF33) M_X2_become w761 ⟨by decide, by decide⟩ rfl rfl (Nat.le_of_ble_eq_true rfl) dX9_image_8 rfl (kX2_become isF33 isF1 hq1) ?_
  refine V_aload_n C 0 dX9_image_11 rfl rfl rfl ?_
  refine V_iconst C dX9_image_12 rfl (v := 1) rfl ?_
  refine V_put C cf9 rfl 8 rfl (by decide) w369 rfl rfl rfl rfl dX9_image_13 rfl ?_
  refine V_iconst C dX9_image_16 rfl (v := 1) rfl ?_
  obtain rfl := Option.some.inj hf
  exact K _ _ _ dX9_image_17 rfl rfl
set_option maxHeartbeats 4000000 in
set_option maxRecDepth 100000 in
theorem kX9_undo {ad : Nat → Nat} {G : Gh}  {u : Mem} {q : Int32 × Mem} (hf : FX9_undo u = some q) : Ct shs ad G yX9_undo cX9_undo 1 (some .int) 3 74 [.ref (ad 0)] u (some (.int q.1)) q.2 := by
  refine Ct_ofI (by decide) (Nat.le_of_ble_eq_true rfl) (fun X C hnL K => ?_)
  have C : Cx ad G X cX9_undo "CarryFair" 3 74 := C
  unfold FX9_undo at hf
  refine V_aload_n C 0 dX9_undo_0 rfl rfl rfl ?_
  refine V_getI C cf9 rfl 8 rfl (by decide) w369 rfl dX9_undo_1 rfl ?_
  refine V_if_ne C dX9_undo_4 (tgt := 14) rfl rfl (fun c3 => ?_) (fun c3 => ?_)
  · replace hf := ineg c3 hf
    refine V_aload_n C 0 dX9_undo_14 rfl rfl rfl ?_
    refine V_getR C cf9 rfl 0 rfl (by decide) w361 rfl dX9_undo_15 rfl ?_
    refine V_aload_n C 0 dX9_undo_18 rfl rfl rfl ?_
    refine V_getR C cf9 rfl 1 rfl (by decide) w362 rfl dX9_undo_19 rfl ?_
    obtain ⟨q1, hq1, hf⟩ := obd hf
    refine V_cVv C (b := 1) (As := [.ref (ad 33)]) (st := []) cf2 (sF isF1) M_X2_become w761 ⟨by decide, by decide⟩ rfl rfl (Nat.le_of_ble_eq_true rfl) dX9_undo_22 rfl (kX2_become isF1 isF33 hq1) ?_
    refine V_aload_n C 0 dX9_undo_25 rfl rfl rfl ?_
    refine V_getR C cf9 rfl 0 rfl (by decide) w361 rfl dX9_undo_26 rfl ?_
    refine V_getI C cf2 (sF isF1) 6 rfl (by decide) w265 rfl dX9_undo_29 rfl ?_
    obtain rfl := Option.some.inj hf
    exact K _ _ _ dX9_undo_32 rfl rfl
  · replace hf := ipos c3 hf
    refine V_aload_n C 0 dX9_undo_7 rfl rfl rfl ?_
    refine V_ldc C dX9_undo_8 rfl w500 ?_
    obtain ⟨q2, hq2, hf⟩ := obd hf
    refine V_cVi C (b := 0) (As := [.int (-1000004)]) (st := []) cf9 rfl M_X9_finding w397 ⟨by decide, by decide⟩ rfl rfl (Nat.le_of_ble_eq_true rfl) dX9_undo_10 rfl (kX9_finding hq2) ?_
    obtain rfl := Option.some.inj hf
    exact K _ _ _ dX9_undo_13 rfl rfl
set_option maxHeartbeats 4000000 in
set_option maxRecDepth 100000 in
theorem kX9_tear {ad : Nat → Nat} {G : Gh}  {u : Mem} {q : Int32 × Mem} (hf : FX9_tear u = q) : Ct shs ad G yX9_tear cX9_tear 2 (some .int) 0 0 [.ref (ad 0)] u (some (.int q.1)) q.2 := by
  refine Ct_ofI (by decide) (Nat.le_of_ble_eq_true rfl) (fun X C hnL K => ?_)
  have C : Cx ad G X cX9_tear "CarryFair" 0 0 := C
  unfold FX9_tear at hf
  refine V_aload_n C 0 dX9_tear_0 rfl rfl rfl ?_
  refine V_getI C cf9 rfl 8 rfl (by decide) w369 rfl dX9_tear_1 rfl ?_
  refine V_if_eq C dX9_tear_4 (tgt := 11) rfl rfl (fun c1 => ?_) (fun c1 => ?_)
  · replace hf := ipos c1 hf
    refine V_iconst C dX9_tear_11 rfl (v := 0) rfl ?_
    refine V_istore_n C (L' := [(0, .ref (ad 0)), (1, .int 0)]) dX9_tear_12 rfl rfl (by decide) hnL [1, 0] rfl ?_
    refine V_aload_n C 0 dX9_tear_13 rfl rfl rfl ?_
    refine V_iconst C dX9_tear_14 rfl (v := 0) rfl ?_
    refine V_put C cf9 rfl 8 rfl (by decide) w369 rfl rfl rfl rfl dX9_tear_15 rfl ?_
    refine V_iload_n C 1 dX9_tear_18 rfl rfl rfl ?_
    subst hf
    exact K _ _ _ dX9_tear_19 rfl rfl
  · replace hf := ineg c1 hf
    refine V_iconst C dX9_tear_7 rfl (v := 1) rfl ?_
    refine V_goto C dX9_tear_8 (tgt := 12) rfl ?_
    refine V_istore_n C (L' := [(0, .ref (ad 0)), (1, .int 1)]) dX9_tear_12 rfl rfl (by decide) hnL [1, 0] rfl ?_
    refine V_aload_n C 0 dX9_tear_13 rfl rfl rfl ?_
    refine V_iconst C dX9_tear_14 rfl (v := 0) rfl ?_
    refine V_put C cf9 rfl 8 rfl (by decide) w369 rfl rfl rfl rfl dX9_tear_15 rfl ?_
    refine V_iload_n C 1 dX9_tear_18 rfl rfl rfl ?_
    subst hf
    exact K _ _ _ dX9_tear_19 rfl rfl
