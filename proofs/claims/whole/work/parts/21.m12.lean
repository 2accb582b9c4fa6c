set_option maxHeartbeats 4000000 in
set_option maxRecDepth 100000 in
theorem kX10_judge {ad : Nat → Nat} {G : Gh} {p1 : Int32} {p2 : Int32} {u : Mem} {q : Int32 × Mem} (hf : FX10_judge p1 p2 u = some q) : Ct shs ad G yX10_judge cX10_judge 7 (some .int) 7 164 [.ref (ad 116), .int p1, .int p2] u (some (.int q.1)) q.2 := by
  refine Ct_ofI (by decide) (Nat.le_of_ble_eq_true rfl) (fun X C hnL K => ?_)
  have C : Cx ad G X cX10_judge "CarryFairModel" 7 164 := C
  unfold FX10_judge at hf
  have Lp65 : ∀ (x0 : (Int32 × Int32 × Int32 × Mem)) (q65 : (Int32 × Int32 × Int32 × Mem)), lp (BX10_judge_65 p1 p2) FU x0 = some q65 → V shs ad G X 132 [(0, .ref (ad 116)), (1, .int p1), (2, .int p2), (3, .int q65.1), (4, .int q65.2.1), (5, .int q65.2.2.1)] [] q65.2.2.2 → V shs ad G X 65 [(0, .ref (ad 116)), (1, .int p1), (2, .int p2), (3, .int x0.1), (4, .int x0.2.1), (5, .int x0.2.2.1)] [] x0.2.2.2 := by
    intro  x0 q65 hq hx65_0
    refine lp_V (BX10_judge_65 p1 p2) (fun x65 => V shs ad G X 65 [(0, .ref (ad 116)), (1, .int p1), (2, .int p2), (3, .int x65.1), (4, .int x65.2.1), (5, .int x65.2.2.1)] [] x65.2.2.2) q65 (fun rec65 ih65 x65 hf => ?_) FU x0 hq
    unfold BX10_judge_65 at hf
    refine V_iload C 5 dX10_judge_65 rfl rfl ?_
    refine V_aload_n C 0 dX10_judge_67 rfl rfl rfl ?_
    refine V_getR C cf10 rfl 27 rfl (by decide) w1109 rfl dX10_judge_68 rfl ?_
    refine V_iload_n C 1 dX10_judge_71 rfl rfl rfl ?_
    obtain ⟨g3, hf⟩ := gd hf
    refine V_ildJ C rfl g3 rfl dX10_judge_72 rfl ?_
    refine V_icmp_ge C dX10_judge_73 (tgt := 132) rfl rfl (fun c9 => ?_) (fun c9 => ?_)
    · replace hf := ipos c9 hf
      obtain rfl := Option.some.inj hf
      exact hx65_0
    · replace hf := ineg c9 hf
      refine V_iload C 4 dX10_judge_76 rfl rfl ?_
      refine V_if_lt C dX10_judge_78 (tgt := 132) rfl rfl (fun c8 => ?_) (fun c8 => ?_)
      · replace hf := ipos c8 hf
        obtain rfl := Option.some.inj hf
        exact hx65_0
      · replace hf := ineg c8 hf
        refine V_aload_n C 0 dX10_judge_81 rfl rfl rfl ?_
        refine V_getR C cf10 rfl 28 rfl (by decide) w1110 rfl dX10_judge_82 rfl ?_
        refine V_bipush C dX10_judge_85 rfl (v := 40) rfl ?_
        refine V_iload_n C 1 dX10_judge_87 rfl rfl rfl ?_
        refine V_imul C dX10_judge_88 rfl ?_
        refine V_iload C 5 dX10_judge_89 rfl rfl ?_
        refine V_iadd C dX10_judge_91 rfl ?_
        obtain ⟨g4, hf⟩ := gd hf
        refine V_ildJ C rfl g4 rfl dX10_judge_92 rfl ?_
        refine V_istore C (L' := [(0, .ref (ad 116)), (1, .int p1), (2, .int p2), (3, .int x65.1), (4, .int x65.2.1), (5, .int x65.2.2.1), (6, .int (x65.2.2.2 130 ((40 * p1) + x65.2.2.1).toNatClampNeg))]) dX10_judge_93 rfl (by decide) hnL [1, 2, 3, 4, 5, 6, 0] rfl ?_
        refine V_aload_n C 0 dX10_judge_95 rfl rfl rfl ?_
        refine V_iload_n C 2 dX10_judge_96 rfl rfl rfl ?_
        obtain ⟨q5, hq5, hf⟩ := obd hf
        refine V_cVv C (b := 116) (As := [.int p2]) (st := []) cf10 rfl M_X10_takesAll w1507 ⟨by decide, by decide⟩ rfl rfl (Nat.le_of_ble_eq_true rfl) dX10_judge_97 rfl (kX10_takesAll hq5) ?_
        refine V_iload C 6 dX10_judge_100 rfl rfl ?_
        refine V_cSi C (As := [.int (x65.2.2.2 130 ((40 * p1) + x65.2.2.1).toNatClampNeg)]) (st := []) M_X10_isPlace w1240 ⟨by decide, by decide⟩ rfl rfl (Nat.le_of_ble_eq_true rfl) dX10_judge_102 rfl (kX10_isPlace rfl) ?_
        refine V_if_eq C dX10_judge_105 (tgt := 118) rfl rfl (fun c7 => ?_) (fun c7 => ?_)
        · replace hf := ipos c7 hf
          refine V_iconst C dX10_judge_118 rfl (v := (-1)) (by decide) ?_
          refine V_istore C (L' := [(0, .ref (ad 116)), (1, .int p1), (2, .int p2), (3, .int x65.1), (4, .int (-1)), (5, .int x65.2.2.1), (6, .int (x65.2.2.2 130 ((40 * p1) + x65.2.2.1).toNatClampNeg))]) dX10_judge_119 rfl (by decide) hnL [1, 2, 3, 4, 0, 5, 6] rfl ?_
          refine V_iload_n C 3 dX10_judge_121 rfl rfl rfl ?_
          refine V_iload C 4 dX10_judge_122 rfl rfl ?_
          refine V_iadd C dX10_judge_124 rfl ?_
          refine V_istore_n C (L' := [(0, .ref (ad 116)), (1, .int p1), (2, .int p2), (3, .int (x65.1 + (-1))), (4, .int (-1)), (5, .int x65.2.2.1), (6, .int (x65.2.2.2 130 ((40 * p1) + x65.2.2.1).toNatClampNeg))]) dX10_judge_125 rfl rfl (by decide) hnL [1, 2, 3, 0, 4, 5, 6] rfl ?_
          refine V_iinc C (v := (x65.2.2.1 + 1)) (L' := [(0, .ref (ad 116)), (1, .int p1), (2, .int p2), (3, .int (x65.1 + (-1))), (4, .int (-1)), (5, .int (x65.2.2.1 + 1)), (6, .int (x65.2.2.2 130 ((40 * p1) + x65.2.2.1).toNatClampNeg))]) 5 dX10_judge_126 rfl rfl rfl (by decide) hnL [1, 2, 3, 4, 5, 0, 6] rfl ?_
          refine V_goto C dX10_judge_129 (tgt := 65) rfl ?_
          refine V_sub (L' := [(0, .ref (ad 116)), (1, .int p1), (2, .int p2), (3, .int (x65.1 + (-1))), (4, .int (-1)), (5, .int (x65.2.2.1 + 1))]) [0, 1, 2, 3, 4, 5] rfl ?_
          exact ih65 ((x65.1 + (-1)), (-1), (x65.2.2.1 + 1), q5) hf
        · replace hf := ineg c7 hf
          refine V_aload_n C 0 dX10_judge_108 rfl rfl rfl ?_
          refine V_iload_n C 2 dX10_judge_109 rfl rfl rfl ?_
          refine V_iload C 6 dX10_judge_110 rfl rfl ?_
          obtain ⟨q6, hq6, hf⟩ := obd hf
          refine V_cVi C (b := 116) (As := [.int p2, .int (x65.2.2.2 130 ((40 * p1) + x65.2.2.1).toNatClampNeg)]) (st := []) cf10 rfl M_X10_walked w1351 ⟨by decide, by decide⟩ rfl rfl (Nat.le_of_ble_eq_true rfl) dX10_judge_112 rfl (kX10_walked hq6) ?_
          refine V_goto C dX10_judge_115 (tgt := 119) rfl ?_
          refine V_istore C (L' := [(0, .ref (ad 116)), (1, .int p1), (2, .int p2), (3, .int x65.1), (4, .int q6.1), (5, .int x65.2.2.1), (6, .int (x65.2.2.2 130 ((40 * p1) + x65.2.2.1).toNatClampNeg))]) dX10_judge_119 rfl (by decide) hnL [1, 2, 3, 4, 0, 5, 6] rfl ?_
          refine V_iload_n C 3 dX10_judge_121 rfl rfl rfl ?_
          refine V_iload C 4 dX10_judge_122 rfl rfl ?_
          refine V_iadd C dX10_judge_124 rfl ?_
          refine V_istore_n C (L' := [(0, .ref (ad 116)), (1, .int p1), (2, .int p2), (3, .int (x65.1 + q6.1)), (4, .int q6.1), (5, .int x65.2.2.1), (6, .int (x65.2.2.2 130 ((40 * p1) + x65.2.2.1).toNatClampNeg))]) dX10_judge_125 rfl rfl (by decide) hnL [1, 2, 3, 0, 4, 5, 6] rfl ?_
          refine V_iinc C (v := (x65.2.2.1 + 1)) (L' := [(0, .ref (ad 116)), (1, .int p1), (2, .int p2), (3, .int (x65.1 + q6.1)), (4, .int q6.1), (5, .int (x65.2.2.1 + 1)), (6, .int (x65.2.2.2 130 ((40 * p1) + x65.2.2.1).toNatClampNeg))]) 5 dX10_judge_126 rfl rfl rfl (by decide) hnL [1, 2, 3, 4, 5, 0, 6] rfl ?_
          refine V_goto C dX10_judge_129 (tgt := 65) rfl ?_
          refine V_sub (L' := [(0, .ref (ad 116)), (1, .int p1), (2, .int p2), (3, .int (x65.1 + q6.1)), (4, .int q6.1), (5, .int (x65.2.2.1 + 1))]) [0, 1, 2, 3, 4, 5] rfl ?_
          exact ih65 ((x65.1 + q6.1), q6.1, (x65.2.2.1 + 1), q6.2) hf
  refine V_iload_n C 1 dX10_judge_0 rfl rfl rfl ?_
  refine V_cSi C (As := [.int p1]) (st := []) M_X10_isSheet w1610 ⟨by decide, by decide⟩ rfl rfl (Nat.le_of_ble_eq_true rfl) dX10_judge_1 rfl (kX10_isSheet rfl) ?_
  refine V_if_ne C dX10_judge_4 (tgt := 14) rfl rfl (fun c19 => ?_) (fun c19 => ?_)
  · replace hf := ineg c19 hf
    refine V_aload_n C 0 dX10_judge_14 rfl rfl rfl ?_
    refine V_getR C cf10 rfl 26 rfl (by decide) w1108 rfl dX10_judge_15 rfl ?_
    refine V_iload_n C 1 dX10_judge_18 rfl rfl rfl ?_
    obtain ⟨g1, hf⟩ := gd hf
    refine V_ildJ C rfl g1 rfl dX10_judge_19 rfl ?_
    refine V_if_ne C dX10_judge_20 (tgt := 31) rfl rfl (fun c17 => ?_) (fun c17 => ?_)
    · replace hf := ineg c17 hf
      refine V_aload_n C 0 dX10_judge_31 rfl rfl rfl ?_
      refine V_iload_n C 2 dX10_judge_32 rfl rfl rfl ?_
      refine V_cVi C (b := 116) (As := [.int p2]) (st := []) cf10 rfl M_X10_isCarrier w1200 ⟨by decide, by decide⟩ rfl rfl (Nat.le_of_ble_eq_true rfl) dX10_judge_33 rfl (kX10_isCarrier rfl) ?_
      refine V_if_ne C dX10_judge_36 (tgt := 46) rfl rfl (fun c15 => ?_) (fun c15 => ?_)
      · replace hf := ineg c15 hf
        refine V_aload_n C 0 dX10_judge_46 rfl rfl rfl ?_
        refine V_getR C cf10 rfl 0 rfl (by decide) w1082 rfl dX10_judge_47 rfl ?_
        refine V_aload_n C 0 dX10_judge_50 rfl rfl rfl ?_
        refine V_getR C cf10 rfl 2 rfl (by decide) w1084 rfl dX10_judge_51 rfl ?_
        obtain ⟨q2, hq2, hf⟩ := obd hf
        refine V_cSv C (As := [.ref (ad 117), .ref (ad 119)]) (st := []) M_X10_copyRow w1515 ⟨by decide, by decide⟩ rfl rfl (Nat.le_of_ble_eq_true rfl) dX10_judge_54 rfl (kX10_copyRow rfl rfl hq2) ?_
        refine V_iconst C dX10_judge_57 rfl (v := 0) rfl ?_
        refine V_istore_n C (L' := [(0, .ref (ad 116)), (1, .int p1), (2, .int p2), (3, .int 0)]) dX10_judge_58 rfl rfl (by decide) hnL [1, 2, 3, 0] rfl ?_
        refine V_iconst C dX10_judge_59 rfl (v := 0) rfl ?_
        refine V_istore C (L' := [(0, .ref (ad 116)), (1, .int p1), (2, .int p2), (3, .int 0), (4, .int 0)]) dX10_judge_60 rfl (by decide) hnL [1, 2, 3, 4, 0] rfl ?_
        refine V_iconst C dX10_judge_62 rfl (v := 0) rfl ?_
        refine V_istore C (L' := [(0, .ref (ad 116)), (1, .int p1), (2, .int p2), (3, .int 0), (4, .int 0), (5, .int 0)]) dX10_judge_63 rfl (by decide) hnL [1, 2, 3, 4, 5, 0] rfl ?_
        obtain ⟨q65_10, hq65_10, hf⟩ := obd hf
        refine Lp65  (0, 0, 0, q2) q65_10 hq65_10 ?_
        refine V_aload_n C 0 dX10_judge_132 rfl rfl rfl ?_
        refine V_iload C 4 dX10_judge_133 rfl rfl ?_
        obtain ⟨q11, hq11, hf⟩ := obd hf
        refine V_cVi C (b := 116) (As := [.int q65_10.2.1]) (st := []) cf10 rfl M_X10_putBack w1518 ⟨by decide, by decide⟩ rfl rfl (Nat.le_of_ble_eq_true rfl) dX10_judge_135 rfl (kX10_putBack hq11) ?_
        refine V_if_ge C dX10_judge_138 (tgt := 150) rfl rfl (fun c13 => ?_) (fun c13 => ?_)
        · replace hf := ipos c13 hf
          refine V_iload_n C 3 dX10_judge_150 rfl rfl rfl ?_
          obtain rfl := Option.some.inj hf
          exact K _ _ _ dX10_judge_151 rfl rfl
        · replace hf := ineg c13 hf
          refine V_aload_n C 0 dX10_judge_141 rfl rfl rfl ?_
          refine V_ldc C dX10_judge_142 rfl w1298 ?_
          obtain ⟨q12, hq12, hf⟩ := obd hf
          refine V_cVi C (b := 116) (As := [.int (-1000004)]) (st := []) cf10 rfl M_X10_finding w1184 ⟨by decide, by decide⟩ rfl rfl (Nat.le_of_ble_eq_true rfl) dX10_judge_144 rfl (kX10_finding hq12) ?_
          refine V_goto C dX10_judge_147 (tgt := 151) rfl ?_
          obtain rfl := Option.some.inj hf
          exact K _ _ _ dX10_judge_151 rfl rfl
      · replace hf := ipos c15 hf
        refine V_aload_n C 0 dX10_judge_39 rfl rfl rfl ?_
        refine V_ldc C dX10_judge_40 rfl w1183 ?_
        obtain ⟨q14, hq14, hf⟩ := obd hf
        refine V_cVi C (b := 116) (As := [.int (-1000001)]) (st := []) cf10 rfl M_X10_finding w1184 ⟨by decide, by decide⟩ rfl rfl (Nat.le_of_ble_eq_true rfl) dX10_judge_42 rfl (kX10_finding hq14) ?_
        obtain rfl := Option.some.inj hf
        exact K _ _ _ dX10_judge_45 rfl rfl
    · replace hf := ipos c17 hf
      refine V_aload_n C 0 dX10_judge_23 rfl rfl rfl ?_
      refine V_ldcw C dX10_judge_24 rfl w1604 ?_
      obtain ⟨q16, hq16, hf⟩ := obd hf
      refine V_cVi C (b := 116) (As := [.int (-1000006)]) (st := []) cf10 rfl M_X10_finding w1184 ⟨by decide, by decide⟩ rfl rfl (Nat.le_of_ble_eq_true rfl) dX10_judge_27 rfl (kX10_finding hq16) ?_
      obtain rfl := Option.some.inj hf
      exact K _ _ _ dX10_judge_30 rfl rfl
  · replace hf := ipos c19 hf
    refine V_aload_n C 0 dX10_judge_7 rfl rfl rfl ?_
    refine V_ldc C dX10_judge_8 rfl w1183 ?_
    obtain ⟨q18, hq18, hf⟩ := obd hf
    refine V_cVi C (b := 116) (As := [.int (-1000001)]) (st := []) cf10 rfl M_X10_finding w1184 ⟨by decide, by decide⟩ rfl rfl (Nat.le_of_ble_eq_true rfl) dX10_judge_10 rfl (kX10_finding hq18) ?_
    obtain rfl := Option.some.inj hf
    exact K _ _ _ dX10_judge_13 rfl rfl
set_option maxHeartbeats 4000000 in
set_option maxRecDepth 100000 in
theorem kX10_image {ad : Nat → Nat} {G : Gh}  {u : Mem} {q : Int32 × Mem} (hf : FX10_image u = some q) : Ct shs ad G yX10_image cX10_image 1 (some .int) 1 22 [.ref (ad 116)] u (some (.int q.1)) q.2 := by
  refine Ct_ofI (by decide) (Nat.le_of_ble_eq_true rfl) (fun X C hnL K => ?_)
  have C : Cx ad G X cX10_image "CarryFairModel" 1 22 := C
  unfold FX10_image at hf
  refine V_aload_n C 0 dX10_image_0 rfl rfl rfl ?_
  refine V_getR C cf10 rfl 0 rfl (by decide) w1082 rfl dX10_image_1 rfl ?_
  refine V_aload_n C 0 dX10_image_4 rfl rfl rfl ?_
  refine V_getR C cf10 rfl 1 rfl (by decide) w1083 rfl dX10_image_5 rfl ?_
  obtain ⟨q1, hq1, hf⟩ := obd hf
  refine V_cSv C (As := [.ref (ad 117), .ref (ad 118)]) (st := []) M_X10_copyRow w1515 ⟨by decide, by decide⟩ rfl rfl (Nat.le_of_ble_eq_true rfl) dX10_image_8 rfl (kX10_copyRow rfl rfl hq1) ?_
  refine V_aload_n C 0 dX10_image_11 rfl rfl rfl ?_
  refine V_iconst C dX10_image_12 rfl (v := 1) rfl ?_
  refine V_put C cf10 rfl 3 rfl (by decide) w1085 rfl rfl rfl rfl dX10_image_13 rfl ?_
  refine V_iconst C dX10_image_16 rfl (v := 1) rfl ?_
  obtain rfl := Option.some.inj hf
  exact K _ _ _ dX10_image_17 rfl rfl
set_option maxHeartbeats 4000000 in
set_option maxRecDepth 100000 in
theorem kX10_undo {ad : Nat → Nat} {G : Gh}  {u : Mem} {q : Int32 × Mem} (hf : FX10_undo u = some q) : Ct shs ad G yX10_undo cX10_undo 1 (some .int) 1 22 [.ref (ad 116)] u (some (.int q.1)) q.2 := by
  refine Ct_ofI (by decide) (Nat.le_of_ble_eq_true rfl) (fun X C hnL K => ?_)
  have C : Cx ad G X cX10_undo "CarryFairModel" 1 22 := C
  unfold FX10_undo at hf
  refine V_aload_n C 0 dX10_undo_0 rfl rfl rfl ?_
  refine V_getI C cf10 rfl 3 rfl (by decide) w1085 rfl dX10_undo_1 rfl ?_
  refine V_if_ne C dX10_undo_4 (tgt := 14) rfl rfl (fun c3 => ?_) (fun c3 => ?_)
  · replace hf := ineg c3 hf
    refine V_aload_n C 0 dX10_undo_14 rfl rfl rfl ?_
    refine V_getR C cf10 rfl 1 rfl (by decide) w1083 rfl dX10_undo_15 rfl ?_
    refine V_aload_n C 0 dX10_undo_18 rfl rfl rfl ?_
    refine V_getR C cf10 rfl 0 rfl (by decide) w1082 rfl dX10_undo_19 rfl ?_
    obtain ⟨q1, hq1, hf⟩ := obd hf
    refine V_cSv C (As := [.ref (ad 118), .ref (ad 117)]) (st := []) M_X10_copyRow w1515 ⟨by decide, by decide⟩ rfl rfl (Nat.le_of_ble_eq_true rfl) dX10_undo_22 rfl (kX10_copyRow rfl rfl hq1) ?_
    refine V_aload_n C 0 dX10_undo_25 rfl rfl rfl ?_
    refine V_getR C cf10 rfl 0 rfl (by decide) w1082 rfl dX10_undo_26 rfl ?_
    refine V_bipush C dX10_undo_29 rfl (v := 43) rfl ?_
    refine V_ildJ C rfl (by decide) (j := 43) (by decide) dX10_undo_31 rfl ?_
    obtain rfl := Option.some.inj hf
    exact K _ _ _ dX10_undo_32 rfl rfl
  · replace hf := ipos c3 hf
    refine V_aload_n C 0 dX10_undo_7 rfl rfl rfl ?_
    refine V_ldc C dX10_undo_8 rfl w1298 ?_
    obtain ⟨q2, hq2, hf⟩ := obd hf
    refine V_cVi C (b := 116) (As := [.int (-1000004)]) (st := []) cf10 rfl M_X10_finding w1184 ⟨by decide, by decide⟩ rfl rfl (Nat.le_of_ble_eq_true rfl) dX10_undo_10 rfl (kX10_finding hq2) ?_
    obtain rfl := Option.some.inj hf
    exact K _ _ _ dX10_undo_13 rfl rfl
set_option maxHeartbeats 4000000 in
set_option maxRecDepth 100000 in
theorem kX10_tear {ad : Nat → Nat} {G : Gh}  {u : Mem} {q : Int32 × Mem} (hf : FX10_tear u = q) : Ct shs ad G yX10_tear cX10_tear 2 (some .int) 0 0 [.ref (ad 116)] u (some (.int q.1)) q.2 := by
  refine Ct_ofI (by decide) (Nat.le_of_ble_eq_true rfl) (fun X C hnL K => ?_)
  have C : Cx ad G X cX10_tear "CarryFairModel" 0 0 := C
  unfold FX10_tear at hf
  refine V_aload_n C 0 dX10_tear_0 rfl rfl rfl ?_
  refine V_getI C cf10 rfl 3 rfl (by decide) w1085 rfl dX10_tear_1 rfl ?_
  refine V_if_eq C dX10_tear_4 (tgt := 11) rfl rfl (fun c1 => ?_) (fun c1 => ?_)
  · replace hf := ipos c1 hf
    refine V_iconst C dX10_tear_11 rfl (v := 0) rfl ?_
    refine V_istore_n C (L' := [(0, .ref (ad 116)), (1, .int 0)]) dX10_tear_12 rfl rfl (by decide) hnL [1, 0] rfl ?_
    refine V_aload_n C 0 dX10_tear_13 rfl rfl rfl ?_
    refine V_iconst C dX10_tear_14 rfl (v := 0) rfl ?_
    refine V_put C cf10 rfl 3 rfl (by decide) w1085 rfl rfl rfl rfl dX10_tear_15 rfl ?_
    refine V_iload_n C 1 dX10_tear_18 rfl rfl rfl ?_
    subst hf
    exact K _ _ _ dX10_tear_19 rfl rfl
  · replace hf := ineg c1 hf
    refine V_iconst C dX10_tear_7 rfl (v := 1) rfl ?_
    refine V_goto C dX10_tear_8 (tgt := 12) rfl ?_
    refine V_istore_n C (L' := [(0, .ref (ad 116)), (1, .int 1)]) dX10_tear_12 rfl rfl (by decide) hnL [1, 0] rfl ?_
    refine V_aload_n C 0 dX10_tear_13 rfl rfl rfl ?_
    refine V_iconst C dX10_tear_14 rfl (v := 0) rfl ?_
    refine V_put C cf10 rfl 3 rfl (by decide) w1085 rfl rfl rfl rfl dX10_tear_15 rfl ?_
    refine V_iload_n C 1 dX10_tear_18 rfl rfl rfl ?_
    subst hf
    exact K _ _ _ dX10_tear_19 rfl rfl
set_option maxHeartbeats 4000000 in
set_option maxRecDepth 100000 in
theorem kX10_count {ad : Nat → Nat} {G : Gh} {p1 : Int32} {u : Mem} {q : Int32 × Mem} (hf : FX10_count p1 u = some q) : Ct shs ad G yX10_count cX10_count 4 (some .int) 3 66 [.ref (ad 116), .int p1] u (some (.int q.1)) q.2 := by
  refine Ct_ofI (by decide) (Nat.le_of_ble_eq_true rfl) (fun X C hnL K => ?_)
  have C : Cx ad G X cX10_count "CarryFairModel" 3 66 := C
  unfold FX10_count at hf
  have Lp99 : ∀ (w : Mem) (x0 : (Int32 × Int32)) (q99 : (Int32 × Int32)), lp (BX10_count_99 p1 w) FU x0 = some q99 → V shs ad G X 131 [(0, .ref (ad 116)), (1, .int p1), (2, .int q99.1), (3, .int q99.2)] [] w → V shs ad G X 99 [(0, .ref (ad 116)), (1, .int p1), (2, .int x0.1), (3, .int x0.2)] [] w := by
    intro w x0 q99 hq hx99_0
    refine lp_V (BX10_count_99 p1 w) (fun x99 => V shs ad G X 99 [(0, .ref (ad 116)), (1, .int p1), (2, .int x99.1), (3, .int x99.2)] [] w) q99 (fun rec99 ih99 x99 hf => ?_) FU x0 hq
    unfold BX10_count_99 at hf
    refine V_iload_n C 3 dX10_count_99 rfl rfl rfl ?_
    refine V_bipush C dX10_count_100 rfl (v := 10) rfl ?_
    refine V_icmp_ge C dX10_count_102 (tgt := 131) rfl rfl (fun c13 => ?_) (fun c13 => ?_)
    · replace hf := ipos c13 hf
      obtain rfl := Option.some.inj hf
      exact hx99_0
    · replace hf := ineg c13 hf
      refine V_iload_n C 2 dX10_count_105 rfl rfl rfl ?_
      refine V_aload_n C 0 dX10_count_106 rfl rfl rfl ?_
      refine V_getR C cf10 rfl 0 rfl (by decide) w1082 rfl dX10_count_107 rfl ?_
      refine V_bipush C dX10_count_110 rfl (v := 46) rfl ?_
      refine V_iload_n C 3 dX10_count_112 rfl rfl rfl ?_
      refine V_iadd C dX10_count_113 rfl ?_
      obtain ⟨g11, hf⟩ := gd hf
      refine V_ildJ C rfl g11 rfl dX10_count_114 rfl ?_
      refine V_if_ge C dX10_count_115 (tgt := 122) rfl rfl (fun c12 => ?_) (fun c12 => ?_)
      · replace hf := ipos c12 hf
        refine V_iconst C dX10_count_122 rfl (v := 1) rfl ?_
        refine V_iadd C dX10_count_123 rfl ?_
        refine V_istore_n C (L' := [(0, .ref (ad 116)), (1, .int p1), (2, .int (x99.1 + 1)), (3, .int x99.2)]) dX10_count_124 rfl rfl (by decide) hnL [1, 2, 0, 3] rfl ?_
        refine V_iinc C (v := (x99.2 + 1)) (L' := [(0, .ref (ad 116)), (1, .int p1), (2, .int (x99.1 + 1)), (3, .int (x99.2 + 1))]) 3 dX10_count_125 rfl rfl rfl (by decide) hnL [1, 2, 3, 0] rfl ?_
        refine V_goto C dX10_count_128 (tgt := 99) rfl ?_
        exact ih99 ((x99.1 + 1), (x99.2 + 1)) hf
      · replace hf := ineg c12 hf
        refine V_iconst C dX10_count_118 rfl (v := 0) rfl ?_
        refine V_goto C dX10_count_119 (tgt := 123) rfl ?_
        refine V_iadd C dX10_count_123 rfl ?_
        refine V_istore_n C (L' := [(0, .ref (ad 116)), (1, .int p1), (2, .int (x99.1 + 0)), (3, .int x99.2)]) dX10_count_124 rfl rfl (by decide) hnL [1, 2, 0, 3] rfl ?_
        refine V_iinc C (v := (x99.2 + 1)) (L' := [(0, .ref (ad 116)), (1, .int p1), (2, .int (x99.1 + 0)), (3, .int (x99.2 + 1))]) 3 dX10_count_125 rfl rfl rfl (by decide) hnL [1, 2, 3, 0] rfl ?_
        refine V_goto C dX10_count_128 (tgt := 99) rfl ?_
        exact ih99 ((x99.1 + 0), (x99.2 + 1)) hf
  refine V_iconst C dX10_count_0 rfl (v := 0) rfl ?_
  refine V_istore_n C (L' := [(0, .ref (ad 116)), (1, .int p1), (2, .int 0)]) dX10_count_1 rfl rfl (by decide) hnL [1, 2, 0] rfl ?_
  refine V_iload_n C 1 dX10_count_2 rfl rfl rfl ?_
  by_cases c1 : p1 = 0
  · replace hf := ipos c1 hf
    refine V_tin C dX10_count_3 0 c1 (by decide) (by decide) rfl (tgt := 48) rfl ?_
    refine V_aload_n C 0 dX10_count_48 rfl rfl rfl ?_
    refine V_getR C cf10 rfl 0 rfl (by decide) w1082 rfl dX10_count_49 rfl ?_
    refine V_bipush C dX10_count_52 rfl (v := 42) rfl ?_
    refine V_ildJ C rfl (by decide) (j := 42) (by decide) dX10_count_54 rfl ?_
    obtain rfl := Option.some.inj hf
    exact K _ _ _ dX10_count_55 rfl rfl
  replace hf := ineg c1 hf
  by_cases c2 : p1 = 1
  · replace hf := ipos c2 hf
    refine V_tin C dX10_count_3 1 c2 (by decide) (by decide) rfl (tgt := 56) rfl ?_
    refine V_aload_n C 0 dX10_count_56 rfl rfl rfl ?_
    refine V_getR C cf10 rfl 0 rfl (by decide) w1082 rfl dX10_count_57 rfl ?_
    refine V_bipush C dX10_count_60 rfl (v := 43) rfl ?_
    refine V_ildJ C rfl (by decide) (j := 43) (by decide) dX10_count_62 rfl ?_
    obtain rfl := Option.some.inj hf
    exact K _ _ _ dX10_count_63 rfl rfl
  replace hf := ineg c2 hf
  by_cases c3 : p1 = 2
  · replace hf := ipos c3 hf
    refine V_tin C dX10_count_3 2 c3 (by decide) (by decide) rfl (tgt := 64) rfl ?_
    refine V_aload_n C 0 dX10_count_64 rfl rfl rfl ?_
    refine V_getR C cf10 rfl 0 rfl (by decide) w1082 rfl dX10_count_65 rfl ?_
    refine V_bipush C dX10_count_68 rfl (v := 44) rfl ?_
    refine V_ildJ C rfl (by decide) (j := 44) (by decide) dX10_count_70 rfl ?_
    obtain rfl := Option.some.inj hf
    exact K _ _ _ dX10_count_71 rfl rfl
  replace hf := ineg c3 hf
  by_cases c4 : p1 = 3
  · replace hf := ipos c4 hf
    refine V_tin C dX10_count_3 3 c4 (by decide) (by decide) rfl (tgt := 72) rfl ?_
    refine V_aload_n C 0 dX10_count_72 rfl rfl rfl ?_
    refine V_iconst C dX10_count_73 rfl (v := 3) rfl ?_
    obtain ⟨q5, hq5, hf⟩ := obd hf
    refine V_cVi C (b := 116) (As := [.int 3]) (st := []) cf10 rfl M_X10_ofAll w1371 ⟨by decide, by decide⟩ rfl rfl (Nat.le_of_ble_eq_true rfl) dX10_count_74 rfl (kX10_ofAll hq5) ?_
    obtain rfl := Option.some.inj hf
    exact K _ _ _ dX10_count_77 rfl rfl
  replace hf := ineg c4 hf
  by_cases c6 : p1 = 4
  · replace hf := ipos c6 hf
    refine V_tin C dX10_count_3 4 c6 (by decide) (by decide) rfl (tgt := 78) rfl ?_
    refine V_aload_n C 0 dX10_count_78 rfl rfl rfl ?_
    refine V_iconst C dX10_count_79 rfl (v := 4) rfl ?_
    obtain ⟨q7, hq7, hf⟩ := obd hf
    refine V_cVi C (b := 116) (As := [.int 4]) (st := []) cf10 rfl M_X10_ofAll w1371 ⟨by decide, by decide⟩ rfl rfl (Nat.le_of_ble_eq_true rfl) dX10_count_80 rfl (kX10_ofAll hq7) ?_
    obtain rfl := Option.some.inj hf
    exact K _ _ _ dX10_count_83 rfl rfl
  replace hf := ineg c6 hf
  by_cases c8 : p1 = 5
  · replace hf := ipos c8 hf
    refine V_tin C dX10_count_3 5 c8 (by decide) (by decide) rfl (tgt := 84) rfl ?_
    refine V_aload_n C 0 dX10_count_84 rfl rfl rfl ?_
    refine V_getI C cf10 rfl 14 rfl (by decide) w1096 rfl dX10_count_85 rfl ?_
    obtain rfl := Option.some.inj hf
    exact K _ _ _ dX10_count_88 rfl rfl
  replace hf := ineg c8 hf
  by_cases c9 : p1 = 6
  · replace hf := ipos c9 hf
    refine V_tin C dX10_count_3 6 c9 (by decide) (by decide) rfl (tgt := 89) rfl ?_
    refine V_aload_n C 0 dX10_count_89 rfl rfl rfl ?_
    refine V_getR C cf10 rfl 0 rfl (by decide) w1082 rfl dX10_count_90 rfl ?_
    refine V_bipush C dX10_count_93 rfl (v := 45) rfl ?_
    refine V_ildJ C rfl (by decide) (j := 45) (by decide) dX10_count_95 rfl ?_
    obtain rfl := Option.some.inj hf
    exact K _ _ _ dX10_count_96 rfl rfl
  replace hf := ineg c9 hf
  by_cases c10 : p1 = 7
  · replace hf := ipos c10 hf
    refine V_tin C dX10_count_3 7 c10 (by decide) (by decide) rfl (tgt := 97) rfl ?_
    refine V_iconst C dX10_count_97 rfl (v := 0) rfl ?_
    refine V_istore_n C (L' := [(0, .ref (ad 116)), (1, .int p1), (2, .int 0), (3, .int 0)]) dX10_count_98 rfl rfl (by decide) hnL [1, 2, 3, 0] rfl ?_
    obtain ⟨q99_14, hq99_14, hf⟩ := obd hf
    refine Lp99 u (0, 0) q99_14 hq99_14 ?_
    refine V_iload_n C 2 dX10_count_131 rfl rfl rfl ?_
    obtain rfl := Option.some.inj hf
    exact K _ _ _ dX10_count_132 rfl rfl
  replace hf := ineg c10 hf
  refine V_tout C dX10_count_3 (by have nc1 := lv_neT (a := 0) c1 (by decide); have nc2 := lv_neT (a := 1) c2 (by decide); have nc3 := lv_neT (a := 2) c3 (by decide); have nc4 := lv_neT (a := 3) c4 (by decide); have nc6 := lv_neT (a := 4) c6 (by decide); have nc8 := lv_neT (a := 5) c8 (by decide); have nc9 := lv_neT (a := 6) c9 (by decide); have nc10 := lv_neT (a := 7) c10 (by decide); omega) (tgt := 133) rfl ?_
  refine V_aload_n C 0 dX10_count_133 rfl rfl rfl ?_
  refine V_ldc C dX10_count_134 rfl w1183 ?_
  obtain ⟨q15, hq15, hf⟩ := obd hf
  refine V_cVi C (b := 116) (As := [.int (-1000001)]) (st := []) cf10 rfl M_X10_finding w1184 ⟨by decide, by decide⟩ rfl rfl (Nat.le_of_ble_eq_true rfl) dX10_count_136 rfl (kX10_finding hq15) ?_
  obtain rfl := Option.some.inj hf
  exact K _ _ _ dX10_count_139 rfl rfl
set_option maxHeartbeats 4000000 in
set_option maxRecDepth 100000 in
theorem kX10_status {ad : Nat → Nat} {G : Gh} {p1 : Int32} {u : Mem} {q : Int32 × Mem} (hf : FX10_status p1 u = some q) : Ct shs ad G yX10_status cX10_status 2 (some .int) 1 22 [.ref (ad 116), .int p1] u (some (.int q.1)) q.2 := by
  refine Ct_ofI (by decide) (Nat.le_of_ble_eq_true rfl) (fun X C hnL K => ?_)
  have C : Cx ad G X cX10_status "CarryFairModel" 1 22 := C
  unfold FX10_status at hf
  refine V_iload_n C 1 dX10_status_0 rfl rfl rfl ?_
  refine V_iconst C dX10_status_1 rfl (v := (-1)) (by decide) ?_
  refine V_bipush C dX10_status_2 rfl (v := 6) rfl ?_
  refine V_cSi C (As := [.int p1, .int (-1), .int 6]) (st := []) M_X10_within w1180 ⟨by decide, by decide⟩ rfl rfl (Nat.le_of_ble_eq_true rfl) dX10_status_4 rfl (kX10_within rfl) ?_
  refine V_if_eq C dX10_status_7 (tgt := 21) rfl rfl (fun c3 => ?_) (fun c3 => ?_)
  · replace hf := ipos c3 hf
    refine V_aload_n C 0 dX10_status_21 rfl rfl rfl ?_
    refine V_ldc C dX10_status_22 rfl w1183 ?_
    obtain ⟨q1, hq1, hf⟩ := obd hf
    refine V_cVi C (b := 116) (As := [.int (-1000001)]) (st := []) cf10 rfl M_X10_finding w1184 ⟨by decide, by decide⟩ rfl rfl (Nat.le_of_ble_eq_true rfl) dX10_status_24 rfl (kX10_finding hq1) ?_
    obtain rfl := Option.some.inj hf
    exact K _ _ _ dX10_status_27 rfl rfl
  · replace hf := ineg c3 hf
    refine V_aload_n C 0 dX10_status_10 rfl rfl rfl ?_
    refine V_getR C cf10 rfl 4 rfl (by decide) w1086 rfl dX10_status_11 rfl ?_
    refine V_iload_n C 1 dX10_status_14 rfl rfl rfl ?_
    refine V_iconst C dX10_status_15 rfl (v := 1) rfl ?_
    refine V_iadd C dX10_status_16 rfl ?_
    obtain ⟨g2, hf⟩ := gd hf
    refine V_ildJ C rfl g2 rfl dX10_status_17 rfl ?_
    refine V_goto C dX10_status_18 (tgt := 27) rfl ?_
    obtain rfl := Option.some.inj hf
    exact K _ _ _ dX10_status_27 rfl rfl
