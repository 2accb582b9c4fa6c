set_option maxHeartbeats 4000000 in
set_option maxRecDepth 100000 in
theorem kX10_walked {ad : Nat → Nat} {G : Gh} {p1 : Int32} {p2 : Int32} {u : Mem} {q : Int32 × Mem} (hf : FX10_walked p1 p2 u = some q) : Ct shs ad G yX10_walked cX10_walked 7 (some .int) 6 138 [.ref (ad 116), .int p1, .int p2] u (some (.int q.1)) q.2 := by
  refine Ct_ofI (by decide) (Nat.le_of_ble_eq_true rfl) (fun X C hnL K => ?_)
  have C : Cx ad G X cX10_walked "CarryFairModel" 6 138 := C
  unfold FX10_walked at hf
  have Lp57 : ∀ (v3 : Int32) (x0 : (Int32 × Int32 × Mem)) (q57 : (Int32 × Int32 × Mem)), lp (BX10_walked_57 p1 p2 v3) FU x0 = some q57 → V shs ad G X 159 [(0, .ref (ad 116)), (1, .int p1), (2, .int p2), (3, .int v3), (4, .int q57.1), (5, .int q57.2.1)] [] q57.2.2 → V shs ad G X 57 [(0, .ref (ad 116)), (1, .int p1), (2, .int p2), (3, .int v3), (4, .int x0.1), (5, .int x0.2.1)] [] x0.2.2 := by
    intro v3 x0 q57 hq hx57_0
    refine lp_V (BX10_walked_57 p1 p2 v3) (fun x57 => V shs ad G X 57 [(0, .ref (ad 116)), (1, .int p1), (2, .int p2), (3, .int v3), (4, .int x57.1), (5, .int x57.2.1)] [] x57.2.2) q57 (fun rec57 ih57 x57 hf => ?_) FU x0 hq
    unfold BX10_walked_57 at hf
    refine V_iload C 5 dX10_walked_57 rfl rfl ?_
    refine V_aload_n C 0 dX10_walked_59 rfl rfl rfl ?_
    refine V_getR C cf10 rfl 0 rfl (by decide) w1082 rfl dX10_walked_60 rfl ?_
    refine V_bipush C dX10_walked_63 rfl (v := 43) rfl ?_
    refine V_ildJ C rfl (by decide) (j := 43) (by decide) dX10_walked_65 rfl ?_
    refine V_icmp_ge C dX10_walked_66 (tgt := 159) rfl rfl (fun c19 => ?_) (fun c19 => ?_)
    · replace hf := ipos c19 hf
      obtain rfl := Option.some.inj hf
      exact hx57_0
    · replace hf := ineg c19 hf
      refine V_aload_n C 0 dX10_walked_69 rfl rfl rfl ?_
      refine V_iload C 5 dX10_walked_70 rfl rfl ?_
      refine V_iconst C dX10_walked_72 rfl (v := 3) rfl ?_
      obtain ⟨q8, hq8, hf⟩ := obd hf
      refine V_cVi C (b := 116) (As := [.int x57.2.1, .int 3]) (st := []) cf10 rfl M_X10_eIs w1222 ⟨by decide, by decide⟩ rfl rfl (Nat.le_of_ble_eq_true rfl) dX10_walked_73 rfl (kX10_eIs hq8) ?_
      refine V_iconst C dX10_walked_76 rfl (v := 1) rfl ?_
      refine V_icmp_ne C dX10_walked_77 (tgt := 153) rfl rfl (fun c18 => ?_) (fun c18 => ?_)
      · replace hf := ineg c18 hf
        refine V_iinc C (v := (x57.2.1 + 1)) (L' := [(0, .ref (ad 116)), (1, .int p1), (2, .int p2), (3, .int v3), (4, .int x57.1), (5, .int (x57.2.1 + 1))]) 5 dX10_walked_153 rfl rfl rfl (by decide) hnL [1, 2, 3, 4, 5, 0] rfl ?_
        refine V_goto C dX10_walked_156 (tgt := 57) rfl ?_
        exact ih57 (x57.1, (x57.2.1 + 1), x57.2.2) hf
      · replace hf := ipos c18 hf
        refine V_aload_n C 0 dX10_walked_80 rfl rfl rfl ?_
        refine V_iload C 5 dX10_walked_81 rfl rfl ?_
        refine V_iconst C dX10_walked_83 rfl (v := 4) rfl ?_
        obtain ⟨q9, hq9, hf⟩ := obd hf
        refine V_cVi C (b := 116) (As := [.int x57.2.1, .int 4]) (st := []) cf10 rfl M_X10_eIs w1222 ⟨by decide, by decide⟩ rfl rfl (Nat.le_of_ble_eq_true rfl) dX10_walked_84 rfl (kX10_eIs hq9) ?_
        refine V_iload_n C 1 dX10_walked_87 rfl rfl rfl ?_
        refine V_icmp_ne C dX10_walked_88 (tgt := 153) rfl rfl (fun c17 => ?_) (fun c17 => ?_)
        · replace hf := ineg c17 hf
          refine V_iinc C (v := (x57.2.1 + 1)) (L' := [(0, .ref (ad 116)), (1, .int p1), (2, .int p2), (3, .int v3), (4, .int x57.1), (5, .int (x57.2.1 + 1))]) 5 dX10_walked_153 rfl rfl rfl (by decide) hnL [1, 2, 3, 4, 5, 0] rfl ?_
          refine V_goto C dX10_walked_156 (tgt := 57) rfl ?_
          exact ih57 (x57.1, (x57.2.1 + 1), x57.2.2) hf
        · replace hf := ipos c17 hf
          refine V_aload_n C 0 dX10_walked_91 rfl rfl rfl ?_
          refine V_iload C 5 dX10_walked_92 rfl rfl ?_
          refine V_iconst C dX10_walked_94 rfl (v := 2) rfl ?_
          obtain ⟨q10, hq10, hf⟩ := obd hf
          refine V_cVi C (b := 116) (As := [.int x57.2.1, .int 2]) (st := []) cf10 rfl M_X10_eIs w1222 ⟨by decide, by decide⟩ rfl rfl (Nat.le_of_ble_eq_true rfl) dX10_walked_95 rfl (kX10_eIs hq10) ?_
          refine V_iload_n C 2 dX10_walked_98 rfl rfl rfl ?_
          refine V_icmp_ne C dX10_walked_99 (tgt := 153) rfl rfl (fun c16 => ?_) (fun c16 => ?_)
          · replace hf := ineg c16 hf
            refine V_iinc C (v := (x57.2.1 + 1)) (L' := [(0, .ref (ad 116)), (1, .int p1), (2, .int p2), (3, .int v3), (4, .int x57.1), (5, .int (x57.2.1 + 1))]) 5 dX10_walked_153 rfl rfl rfl (by decide) hnL [1, 2, 3, 4, 5, 0] rfl ?_
            refine V_goto C dX10_walked_156 (tgt := 57) rfl ?_
            exact ih57 (x57.1, (x57.2.1 + 1), x57.2.2) hf
          · replace hf := ipos c16 hf
            refine V_aload_n C 0 dX10_walked_102 rfl rfl rfl ?_
            refine V_getR C cf10 rfl 0 rfl (by decide) w1082 rfl dX10_walked_103 rfl ?_
            refine V_iload C 5 dX10_walked_106 rfl rfl ?_
            refine V_iconst C dX10_walked_108 rfl (v := 3) rfl ?_
            refine V_cSi C (As := [.int x57.2.1, .int 3]) (st := [.ref (ad 117)]) M_X10_eAt w1226 ⟨by decide, by decide⟩ rfl rfl (Nat.le_of_ble_eq_true rfl) dX10_walked_109 rfl (kX10_eAt rfl) ?_
            refine V_iconst C dX10_walked_112 rfl (v := 2) rfl ?_
            obtain ⟨g11, hf⟩ := gd hf
            refine V_istJ C rfl g11 rfl dX10_walked_113 rfl ?_
            refine V_aload_n C 0 dX10_walked_114 rfl rfl rfl ?_
            refine V_dup C dX10_walked_115 rfl rfl ?_
            refine V_getI C cf10 rfl 6 rfl (by decide) w1088 rfl dX10_walked_116 rfl ?_
            refine V_iconst C dX10_walked_119 rfl (v := 1) rfl ?_
            refine V_iadd C dX10_walked_120 rfl ?_
            refine V_put C cf10 rfl 6 rfl (by decide) w1088 rfl rfl rfl rfl dX10_walked_121 rfl ?_
            obtain ⟨w12, ew12, hf⟩ := nmd hf
            rw [← ew12]
            refine V_aload_n C 0 dX10_walked_124 rfl rfl rfl ?_
            refine V_iload C 5 dX10_walked_125 rfl rfl ?_
            obtain ⟨q13, hq13, hf⟩ := obd hf
            refine V_cVi C (b := 116) (As := [.int x57.2.1]) (st := []) cf10 rfl M_X10_worthOf w1281 ⟨by decide, by decide⟩ rfl rfl (Nat.le_of_ble_eq_true rfl) dX10_walked_127 rfl (kX10_worthOf hq13) ?_
            refine V_istore C (L' := [(0, .ref (ad 116)), (1, .int p1), (2, .int p2), (3, .int v3), (4, .int x57.1), (5, .int x57.2.1), (6, .int q13.1)]) dX10_walked_130 rfl (by decide) hnL [1, 2, 3, 4, 5, 6, 0] rfl ?_
            refine V_iload C 4 dX10_walked_132 rfl rfl ?_
            refine V_iload C 6 dX10_walked_134 rfl rfl ?_
            refine V_if_ge C dX10_walked_136 (tgt := 143) rfl rfl (fun c15 => ?_) (fun c15 => ?_)
            · replace hf := ipos c15 hf
              refine V_aload_n C 0 dX10_walked_143 rfl rfl rfl ?_
              refine V_iload_n C 1 dX10_walked_144 rfl rfl rfl ?_
              refine V_iload C 6 dX10_walked_145 rfl rfl ?_
              obtain ⟨q14, hq14, hf⟩ := obd hf
              refine V_cVi C (b := 116) (As := [.int p1, .int q13.1]) (st := [.int x57.1]) cf10 rfl M_X10_getsFor w1355 ⟨by decide, by decide⟩ rfl rfl (Nat.le_of_ble_eq_true rfl) dX10_walked_147 rfl (kX10_getsFor hq14) ?_
              refine V_iadd C dX10_walked_150 rfl ?_
              refine V_istore C (L' := [(0, .ref (ad 116)), (1, .int p1), (2, .int p2), (3, .int v3), (4, .int (x57.1 + q14)), (5, .int x57.2.1), (6, .int q13.1)]) dX10_walked_151 rfl (by decide) hnL [1, 2, 3, 4, 0, 5, 6] rfl ?_
              refine V_iinc C (v := (x57.2.1 + 1)) (L' := [(0, .ref (ad 116)), (1, .int p1), (2, .int p2), (3, .int v3), (4, .int (x57.1 + q14)), (5, .int (x57.2.1 + 1)), (6, .int q13.1)]) 5 dX10_walked_153 rfl rfl rfl (by decide) hnL [1, 2, 3, 4, 5, 0, 6] rfl ?_
              refine V_goto C dX10_walked_156 (tgt := 57) rfl ?_
              refine V_sub (L' := [(0, .ref (ad 116)), (1, .int p1), (2, .int p2), (3, .int v3), (4, .int (x57.1 + q14)), (5, .int (x57.2.1 + 1))]) [0, 1, 2, 3, 4, 5] rfl ?_
              exact ih57 ((x57.1 + q14), (x57.2.1 + 1), q13.2) hf
            · replace hf := ineg c15 hf
              refine V_iconst C dX10_walked_139 rfl (v := 0) rfl ?_
              refine V_goto C dX10_walked_140 (tgt := 150) rfl ?_
              refine V_iadd C dX10_walked_150 rfl ?_
              refine V_istore C (L' := [(0, .ref (ad 116)), (1, .int p1), (2, .int p2), (3, .int v3), (4, .int (x57.1 + 0)), (5, .int x57.2.1), (6, .int q13.1)]) dX10_walked_151 rfl (by decide) hnL [1, 2, 3, 4, 0, 5, 6] rfl ?_
              refine V_iinc C (v := (x57.2.1 + 1)) (L' := [(0, .ref (ad 116)), (1, .int p1), (2, .int p2), (3, .int v3), (4, .int (x57.1 + 0)), (5, .int (x57.2.1 + 1)), (6, .int q13.1)]) 5 dX10_walked_153 rfl rfl rfl (by decide) hnL [1, 2, 3, 4, 5, 0, 6] rfl ?_
              refine V_goto C dX10_walked_156 (tgt := 57) rfl ?_
              refine V_sub (L' := [(0, .ref (ad 116)), (1, .int p1), (2, .int p2), (3, .int v3), (4, .int (x57.1 + 0)), (5, .int (x57.2.1 + 1))]) [0, 1, 2, 3, 4, 5] rfl ?_
              exact ih57 ((x57.1 + 0), (x57.2.1 + 1), q13.2) hf
  refine V_aload_n C 0 dX10_walked_0 rfl rfl rfl ?_
  refine V_aload_n C 0 dX10_walked_1 rfl rfl rfl ?_
  refine V_iload_n C 1 dX10_walked_2 rfl rfl rfl ?_
  refine V_iconst C dX10_walked_3 rfl (v := 0) rfl ?_
  obtain ⟨q1, hq1, hf⟩ := obd hf
  refine V_cVi C (b := 116) (As := [.int p1, .int 0]) (st := [.ref (ad 116)]) cf10 rfl M_X10_cIs w1208 ⟨by decide, by decide⟩ rfl rfl (Nat.le_of_ble_eq_true rfl) dX10_walked_4 rfl (kX10_cIs hq1) ?_
  refine V_aload_n C 0 dX10_walked_7 rfl rfl rfl ?_
  refine V_iload_n C 1 dX10_walked_8 rfl rfl rfl ?_
  refine V_iconst C dX10_walked_9 rfl (v := 1) rfl ?_
  obtain ⟨q2, hq2, hf⟩ := obd hf
  refine V_cVi C (b := 116) (As := [.int p1, .int 1]) (st := [.int q1, .ref (ad 116)]) cf10 rfl M_X10_cIs w1208 ⟨by decide, by decide⟩ rfl rfl (Nat.le_of_ble_eq_true rfl) dX10_walked_10 rfl (kX10_cIs hq2) ?_
  refine V_iload_n C 2 dX10_walked_13 rfl rfl rfl ?_
  obtain ⟨q3, hq3, hf⟩ := obd hf
  refine V_cVi C (b := 116) (As := [.int q1, .int q2, .int p2]) (st := []) cf10 rfl M_X10_farFor w1285 ⟨by decide, by decide⟩ rfl rfl (Nat.le_of_ble_eq_true rfl) dX10_walked_14 rfl (kX10_farFor hq3) ?_
  refine V_istore_n C (L' := [(0, .ref (ad 116)), (1, .int p1), (2, .int p2), (3, .int q3.1)]) dX10_walked_17 rfl rfl (by decide) hnL [1, 2, 3, 0] rfl ?_
  refine V_iload_n C 3 dX10_walked_18 rfl rfl rfl ?_
  refine V_ldc C dX10_walked_19 rfl w1293 ?_
  refine V_icmp_lt C dX10_walked_21 (tgt := 26) rfl rfl (fun c24 => ?_) (fun c24 => ?_)
  · replace hf := ipos c24 hf
    refine V_aload_n C 0 dX10_walked_26 rfl rfl rfl ?_
    refine V_getR C cf10 rfl 0 rfl (by decide) w1082 rfl dX10_walked_27 rfl ?_
    refine V_iload_n C 1 dX10_walked_30 rfl rfl rfl ?_
    refine V_iconst C dX10_walked_31 rfl (v := 4) rfl ?_
    refine V_cSi C (As := [.int p1, .int 4]) (st := [.ref (ad 117)]) M_X10_cAt w1193 ⟨by decide, by decide⟩ rfl rfl (Nat.le_of_ble_eq_true rfl) dX10_walked_32 rfl (kX10_cAt rfl) ?_
    refine V_dup2 C dX10_walked_35 rfl rfl rfl ?_
    obtain ⟨g4, hf⟩ := gd hf
    refine V_ildJ C rfl g4 rfl dX10_walked_36 rfl ?_
    refine V_iload_n C 3 dX10_walked_37 rfl rfl rfl ?_
    refine V_iadd C dX10_walked_38 rfl ?_
    obtain ⟨g5, hf⟩ := gd hf
    refine V_istJ C rfl g5 rfl dX10_walked_39 rfl ?_
    refine V_aload_n C 0 dX10_walked_40 rfl rfl rfl ?_
    refine V_getR C cf10 rfl 0 rfl (by decide) w1082 rfl dX10_walked_41 rfl ?_
    refine V_iload_n C 1 dX10_walked_44 rfl rfl rfl ?_
    refine V_iconst C dX10_walked_45 rfl (v := 1) rfl ?_
    refine V_cSi C (As := [.int p1, .int 1]) (st := [.ref (ad 117)]) M_X10_cAt w1193 ⟨by decide, by decide⟩ rfl rfl (Nat.le_of_ble_eq_true rfl) dX10_walked_46 rfl (kX10_cAt rfl) ?_
    refine V_iload_n C 2 dX10_walked_49 rfl rfl rfl ?_
    obtain ⟨g6, hf⟩ := gd hf
    refine V_istJ C rfl g6 rfl dX10_walked_50 rfl ?_
    obtain ⟨w7, ew7, hf⟩ := nmd hf
    rw [← ew7]
    refine V_iconst C dX10_walked_51 rfl (v := 0) rfl ?_
    refine V_istore C (L' := [(0, .ref (ad 116)), (1, .int p1), (2, .int p2), (3, .int q3.1), (4, .int 0)]) dX10_walked_52 rfl (by decide) hnL [1, 2, 3, 4, 0] rfl ?_
    refine V_iconst C dX10_walked_54 rfl (v := 0) rfl ?_
    refine V_istore C (L' := [(0, .ref (ad 116)), (1, .int p1), (2, .int p2), (3, .int q3.1), (4, .int 0), (5, .int 0)]) dX10_walked_55 rfl (by decide) hnL [1, 2, 3, 4, 5, 0] rfl ?_
    obtain ⟨q57_20, hq57_20, hf⟩ := obd hf
    refine Lp57 q3.1 (0, 0, w7) q57_20 hq57_20 ?_
    refine V_aload_n C 0 dX10_walked_159 rfl rfl rfl ?_
    refine V_getR C cf10 rfl 0 rfl (by decide) w1082 rfl dX10_walked_160 rfl ?_
    refine V_iload_n C 1 dX10_walked_163 rfl rfl rfl ?_
    refine V_iconst C dX10_walked_164 rfl (v := 3) rfl ?_
    refine V_cSi C (As := [.int p1, .int 3]) (st := [.ref (ad 117)]) M_X10_cAt w1193 ⟨by decide, by decide⟩ rfl rfl (Nat.le_of_ble_eq_true rfl) dX10_walked_165 rfl (kX10_cAt rfl) ?_
    refine V_dup2 C dX10_walked_168 rfl rfl rfl ?_
    obtain ⟨g21, hf⟩ := gd hf
    refine V_ildJ C rfl g21 rfl dX10_walked_169 rfl ?_
    refine V_iload C 4 dX10_walked_170 rfl rfl ?_
    refine V_iadd C dX10_walked_172 rfl ?_
    obtain ⟨g22, hf⟩ := gd hf
    refine V_istJ C rfl g22 rfl dX10_walked_173 rfl ?_
    obtain ⟨w23, ew23, hf⟩ := nmd hf
    rw [← ew23]
    refine V_iload C 4 dX10_walked_174 rfl rfl ?_
    obtain rfl := Option.some.inj hf
    exact K _ _ _ dX10_walked_176 rfl rfl
  · replace hf := ineg c24 hf
    refine V_iconst C dX10_walked_24 rfl (v := (-1)) (by decide) ?_
    obtain rfl := Option.some.inj hf
    exact K _ _ _ dX10_walked_25 rfl rfl
set_option maxHeartbeats 4000000 in
set_option maxRecDepth 100000 in
theorem kX10_walk {ad : Nat → Nat} {G : Gh} {p1 : Int32} {p2 : Int32} {u : Mem} {q : Int32 × Mem} (hf : FX10_walk p1 p2 u = some q) : Ct shs ad G yX10_walk cX10_walk 4 (some .int) 7 164 [.ref (ad 116), .int p1, .int p2] u (some (.int q.1)) q.2 := by
  refine Ct_ofI (by decide) (Nat.le_of_ble_eq_true rfl) (fun X C hnL K => ?_)
  have C : Cx ad G X cX10_walk "CarryFairModel" 7 164 := C
  unfold FX10_walk at hf
  refine V_aload_n C 0 dX10_walk_0 rfl rfl rfl ?_
  refine V_iload_n C 1 dX10_walk_1 rfl rfl rfl ?_
  refine V_cVi C (b := 116) (As := [.int p1]) (st := []) cf10 rfl M_X10_isCarrier w1200 ⟨by decide, by decide⟩ rfl rfl (Nat.le_of_ble_eq_true rfl) dX10_walk_2 rfl (kX10_isCarrier rfl) ?_
  refine V_if_eq C dX10_walk_5 (tgt := 15) rfl rfl (fun c7 => ?_) (fun c7 => ?_)
  · replace hf := ipos c7 hf
    refine V_aload_n C 0 dX10_walk_15 rfl rfl rfl ?_
    refine V_ldc C dX10_walk_16 rfl w1183 ?_
    obtain ⟨q1, hq1, hf⟩ := obd hf
    refine V_cVi C (b := 116) (As := [.int (-1000001)]) (st := []) cf10 rfl M_X10_finding w1184 ⟨by decide, by decide⟩ rfl rfl (Nat.le_of_ble_eq_true rfl) dX10_walk_18 rfl (kX10_finding hq1) ?_
    obtain rfl := Option.some.inj hf
    exact K _ _ _ dX10_walk_21 rfl rfl
  · replace hf := ineg c7 hf
    refine V_iload_n C 2 dX10_walk_8 rfl rfl rfl ?_
    refine V_cSi C (As := [.int p2]) (st := []) M_X10_isPlace w1240 ⟨by decide, by decide⟩ rfl rfl (Nat.le_of_ble_eq_true rfl) dX10_walk_9 rfl (kX10_isPlace rfl) ?_
    refine V_if_ne C dX10_walk_12 (tgt := 22) rfl rfl (fun c6 => ?_) (fun c6 => ?_)
    · replace hf := ineg c6 hf
      refine V_aload_n C 0 dX10_walk_22 rfl rfl rfl ?_
      refine V_iload_n C 1 dX10_walk_23 rfl rfl rfl ?_
      refine V_iload_n C 2 dX10_walk_24 rfl rfl rfl ?_
      obtain ⟨q2, hq2, hf⟩ := obd hf
      refine V_cVi C (b := 116) (As := [.int p1, .int p2]) (st := []) cf10 rfl M_X10_walked w1351 ⟨by decide, by decide⟩ rfl rfl (Nat.le_of_ble_eq_true rfl) dX10_walk_25 rfl (kX10_walked hq2) ?_
      refine V_istore_n C (L' := [(0, .ref (ad 116)), (1, .int p1), (2, .int p2), (3, .int q2.1)]) dX10_walk_28 rfl rfl (by decide) hnL [1, 2, 3, 0] rfl ?_
      refine V_iload_n C 3 dX10_walk_29 rfl rfl rfl ?_
      refine V_if_ge C dX10_walk_30 (tgt := 42) rfl rfl (fun c4 => ?_) (fun c4 => ?_)
      · replace hf := ipos c4 hf
        refine V_iload_n C 3 dX10_walk_42 rfl rfl rfl ?_
        obtain rfl := Option.some.inj hf
        exact K _ _ _ dX10_walk_43 rfl rfl
      · replace hf := ineg c4 hf
        refine V_aload_n C 0 dX10_walk_33 rfl rfl rfl ?_
        refine V_ldc C dX10_walk_34 rfl w1298 ?_
        obtain ⟨q3, hq3, hf⟩ := obd hf
        refine V_cVi C (b := 116) (As := [.int (-1000004)]) (st := []) cf10 rfl M_X10_finding w1184 ⟨by decide, by decide⟩ rfl rfl (Nat.le_of_ble_eq_true rfl) dX10_walk_36 rfl (kX10_finding hq3) ?_
        refine V_goto C dX10_walk_39 (tgt := 43) rfl ?_
        obtain rfl := Option.some.inj hf
        exact K _ _ _ dX10_walk_43 rfl rfl
    · replace hf := ipos c6 hf
      refine V_aload_n C 0 dX10_walk_15 rfl rfl rfl ?_
      refine V_ldc C dX10_walk_16 rfl w1183 ?_
      obtain ⟨q5, hq5, hf⟩ := obd hf
      refine V_cVi C (b := 116) (As := [.int (-1000001)]) (st := []) cf10 rfl M_X10_finding w1184 ⟨by decide, by decide⟩ rfl rfl (Nat.le_of_ble_eq_true rfl) dX10_walk_18 rfl (kX10_finding hq5) ?_
      obtain rfl := Option.some.inj hf
      exact K _ _ _ dX10_walk_21 rfl rfl
set_option maxHeartbeats 4000000 in
set_option maxRecDepth 100000 in
theorem kX10_buy {ad : Nat → Nat} {G : Gh} {p1 : Int32} {p2 : Int32} {u : Mem} {q : Int32 × Mem} (hf : FX10_buy p1 p2 u = some q) : Ct shs ad G yX10_buy cX10_buy 3 (some .int) 2 43 [.ref (ad 116), .int p1, .int p2] u (some (.int q.1)) q.2 := by
  refine Ct_ofI (by decide) (Nat.le_of_ble_eq_true rfl) (fun X C hnL K => ?_)
  have C : Cx ad G X cX10_buy "CarryFairModel" 2 43 := C
  unfold FX10_buy at hf
  refine V_aload_n C 0 dX10_buy_0 rfl rfl rfl ?_
  refine V_iload_n C 1 dX10_buy_1 rfl rfl rfl ?_
  refine V_cVi C (b := 116) (As := [.int p1]) (st := []) cf10 rfl M_X10_isCarrier w1200 ⟨by decide, by decide⟩ rfl rfl (Nat.le_of_ble_eq_true rfl) dX10_buy_2 rfl (kX10_isCarrier rfl) ?_
  refine V_if_eq C dX10_buy_5 (tgt := 16) rfl rfl (fun c17 => ?_) (fun c17 => ?_)
  · replace hf := ipos c17 hf
    refine V_aload_n C 0 dX10_buy_16 rfl rfl rfl ?_
    refine V_ldc C dX10_buy_17 rfl w1183 ?_
    obtain ⟨q1, hq1, hf⟩ := obd hf
    refine V_cVi C (b := 116) (As := [.int (-1000001)]) (st := []) cf10 rfl M_X10_finding w1184 ⟨by decide, by decide⟩ rfl rfl (Nat.le_of_ble_eq_true rfl) dX10_buy_19 rfl (kX10_finding hq1) ?_
    obtain rfl := Option.some.inj hf
    exact K _ _ _ dX10_buy_22 rfl rfl
  · replace hf := ineg c17 hf
    refine V_aload_n C 0 dX10_buy_8 rfl rfl rfl ?_
    refine V_iload_n C 2 dX10_buy_9 rfl rfl rfl ?_
    refine V_cVi C (b := 116) (As := [.int p2]) (st := []) cf10 rfl M_X10_isWare w1314 ⟨by decide, by decide⟩ rfl rfl (Nat.le_of_ble_eq_true rfl) dX10_buy_10 rfl (kX10_isWare rfl) ?_
    refine V_if_ne C dX10_buy_13 (tgt := 23) rfl rfl (fun c16 => ?_) (fun c16 => ?_)
    · replace hf := ineg c16 hf
      refine V_aload_n C 0 dX10_buy_23 rfl rfl rfl ?_
      refine V_getR C cf10 rfl 0 rfl (by decide) w1082 rfl dX10_buy_24 rfl ?_
      refine V_iload_n C 2 dX10_buy_27 rfl rfl rfl ?_
      refine V_iconst C dX10_buy_28 rfl (v := 1) rfl ?_
      refine V_cSi C (As := [.int p2, .int 1]) (st := [.ref (ad 117)]) M_X10_wAt w1307 ⟨by decide, by decide⟩ rfl rfl (Nat.le_of_ble_eq_true rfl) dX10_buy_29 rfl (kX10_wAt rfl) ?_
      obtain ⟨g2, hf⟩ := gd hf
      refine V_ildJ C rfl g2 rfl dX10_buy_32 rfl ?_
      refine V_if_ge C dX10_buy_33 (tgt := 55) rfl rfl (fun c14 => ?_) (fun c14 => ?_)
      · replace hf := ipos c14 hf
        refine V_aload_n C 0 dX10_buy_55 rfl rfl rfl ?_
        refine V_ldc C dX10_buy_56 rfl w1334 ?_
        obtain ⟨q3, hq3, hf⟩ := obd hf
        refine V_cVi C (b := 116) (As := [.int (-1000005)]) (st := []) cf10 rfl M_X10_finding w1184 ⟨by decide, by decide⟩ rfl rfl (Nat.le_of_ble_eq_true rfl) dX10_buy_58 rfl (kX10_finding hq3) ?_
        obtain rfl := Option.some.inj hf
        exact K _ _ _ dX10_buy_61 rfl rfl
      · replace hf := ineg c14 hf
        refine V_aload_n C 0 dX10_buy_36 rfl rfl rfl ?_
        refine V_iload_n C 1 dX10_buy_37 rfl rfl rfl ?_
        refine V_iconst C dX10_buy_38 rfl (v := 3) rfl ?_
        obtain ⟨q4, hq4, hf⟩ := obd hf
        refine V_cVi C (b := 116) (As := [.int p1, .int 3]) (st := []) cf10 rfl M_X10_cIs w1208 ⟨by decide, by decide⟩ rfl rfl (Nat.le_of_ble_eq_true rfl) dX10_buy_39 rfl (kX10_cIs hq4) ?_
        refine V_aload_n C 0 dX10_buy_42 rfl rfl rfl ?_
        refine V_getR C cf10 rfl 0 rfl (by decide) w1082 rfl dX10_buy_43 rfl ?_
        refine V_iload_n C 2 dX10_buy_46 rfl rfl rfl ?_
        refine V_iconst C dX10_buy_47 rfl (v := 0) rfl ?_
        refine V_cSi C (As := [.int p2, .int 0]) (st := [.ref (ad 117), .int q4]) M_X10_wAt w1307 ⟨by decide, by decide⟩ rfl rfl (Nat.le_of_ble_eq_true rfl) dX10_buy_48 rfl (kX10_wAt rfl) ?_
        obtain ⟨g5, hf⟩ := gd hf
        refine V_ildJ C rfl g5 rfl dX10_buy_51 rfl ?_
        refine V_icmp_ge C dX10_buy_52 (tgt := 62) rfl rfl (fun c13 => ?_) (fun c13 => ?_)
        · replace hf := ipos c13 hf
          refine V_aload_n C 0 dX10_buy_62 rfl rfl rfl ?_
          refine V_getR C cf10 rfl 0 rfl (by decide) w1082 rfl dX10_buy_63 rfl ?_
          refine V_iload_n C 2 dX10_buy_66 rfl rfl rfl ?_
          refine V_iconst C dX10_buy_67 rfl (v := 1) rfl ?_
          refine V_cSi C (As := [.int p2, .int 1]) (st := [.ref (ad 117)]) M_X10_wAt w1307 ⟨by decide, by decide⟩ rfl rfl (Nat.le_of_ble_eq_true rfl) dX10_buy_68 rfl (kX10_wAt rfl) ?_
          refine V_iload_n C 1 dX10_buy_71 rfl rfl rfl ?_
          obtain ⟨g6, hf⟩ := gd hf
          refine V_istJ C rfl g6 rfl dX10_buy_72 rfl ?_
          refine V_aload_n C 0 dX10_buy_73 rfl rfl rfl ?_
          refine V_getR C cf10 rfl 0 rfl (by decide) w1082 rfl dX10_buy_74 rfl ?_
          refine V_iload_n C 1 dX10_buy_77 rfl rfl rfl ?_
          refine V_iconst C dX10_buy_78 rfl (v := 3) rfl ?_
          refine V_cSi C (As := [.int p1, .int 3]) (st := [.ref (ad 117)]) M_X10_cAt w1193 ⟨by decide, by decide⟩ rfl rfl (Nat.le_of_ble_eq_true rfl) dX10_buy_79 rfl (kX10_cAt rfl) ?_
          refine V_dup2 C dX10_buy_82 rfl rfl rfl ?_
          obtain ⟨g7, hf⟩ := gd hf
          refine V_ildJ C rfl g7 rfl dX10_buy_83 rfl ?_
          refine V_aload_n C 0 dX10_buy_84 rfl rfl rfl ?_
          refine V_getR C cf10 rfl 0 rfl (by decide) w1082 rfl dX10_buy_85 rfl ?_
          refine V_iload_n C 2 dX10_buy_88 rfl rfl rfl ?_
          refine V_iconst C dX10_buy_89 rfl (v := 0) rfl ?_
          refine V_cSi C (As := [.int p2, .int 0]) (st := [.ref (ad 117), .int ((mst u 117 ((FX10_wAt p2 1).toNatClampNeg) p1) 117 (FX10_cAt p1 3).toNatClampNeg), .int (FX10_cAt p1 3), .ref (ad 117)]) M_X10_wAt w1307 ⟨by decide, by decide⟩ rfl rfl (Nat.le_of_ble_eq_true rfl) dX10_buy_90 rfl (kX10_wAt rfl) ?_
          obtain ⟨g8, hf⟩ := gd hf
          refine V_ildJ C rfl g8 rfl dX10_buy_93 rfl ?_
          refine V_isub C dX10_buy_94 rfl ?_
          obtain ⟨g9, hf⟩ := gd hf
          refine V_istJ C rfl g9 rfl dX10_buy_95 rfl ?_
          obtain ⟨w10, ew10, hf⟩ := nmd hf
          rw [← ew10]
          refine V_aload_n C 0 dX10_buy_96 rfl rfl rfl ?_
          refine V_iload_n C 1 dX10_buy_97 rfl rfl rfl ?_
          refine V_iconst C dX10_buy_98 rfl (v := 3) rfl ?_
          obtain ⟨q11, hq11, hf⟩ := obd hf
          refine V_cVi C (b := 116) (As := [.int p1, .int 3]) (st := []) cf10 rfl M_X10_cIs w1208 ⟨by decide, by decide⟩ rfl rfl (Nat.le_of_ble_eq_true rfl) dX10_buy_99 rfl (kX10_cIs hq11) ?_
          obtain rfl := Option.some.inj hf
          exact K _ _ _ dX10_buy_102 rfl rfl
        · replace hf := ineg c13 hf
          refine V_aload_n C 0 dX10_buy_55 rfl rfl rfl ?_
          refine V_ldc C dX10_buy_56 rfl w1334 ?_
          obtain ⟨q12, hq12, hf⟩ := obd hf
          refine V_cVi C (b := 116) (As := [.int (-1000005)]) (st := []) cf10 rfl M_X10_finding w1184 ⟨by decide, by decide⟩ rfl rfl (Nat.le_of_ble_eq_true rfl) dX10_buy_58 rfl (kX10_finding hq12) ?_
          obtain rfl := Option.some.inj hf
          exact K _ _ _ dX10_buy_61 rfl rfl
    · replace hf := ipos c16 hf
      refine V_aload_n C 0 dX10_buy_16 rfl rfl rfl ?_
      refine V_ldc C dX10_buy_17 rfl w1183 ?_
      obtain ⟨q15, hq15, hf⟩ := obd hf
      refine V_cVi C (b := 116) (As := [.int (-1000001)]) (st := []) cf10 rfl M_X10_finding w1184 ⟨by decide, by decide⟩ rfl rfl (Nat.le_of_ble_eq_true rfl) dX10_buy_19 rfl (kX10_finding hq15) ?_
      obtain rfl := Option.some.inj hf
      exact K _ _ _ dX10_buy_22 rfl rfl
set_option maxHeartbeats 4000000 in
set_option maxRecDepth 100000 in
theorem kX10_errandsThat {ad : Nat → Nat} {G : Gh} {p1 : Int32} {u : Mem} {q : Int32} (hf : FX10_errandsThat p1 u = some q) : Ct shs ad G yX10_errandsThat cX10_errandsThat 4 (some .int) 2 43 [.ref (ad 116), .int p1] u (some (.int q)) u := by
  refine Ct_ofI (by decide) (Nat.le_of_ble_eq_true rfl) (fun X C hnL K => ?_)
  have C : Cx ad G X cX10_errandsThat "CarryFairModel" 2 43 := C
  unfold FX10_errandsThat at hf
  have Lp4 : ∀ (x0 : (Int32 × Int32)) (q4 : (Int32 × Int32)), lp (BX10_errandsThat_4 p1 u) FU x0 = some q4 → V shs ad G X 41 [(0, .ref (ad 116)), (1, .int p1), (2, .int q4.1), (3, .int q4.2)] [] u → V shs ad G X 4 [(0, .ref (ad 116)), (1, .int p1), (2, .int x0.1), (3, .int x0.2)] [] u := by
    intro  x0 q4 hq hx4_0
    refine lp_V (BX10_errandsThat_4 p1 u) (fun x4 => V shs ad G X 4 [(0, .ref (ad 116)), (1, .int p1), (2, .int x4.1), (3, .int x4.2)] [] u) q4 (fun rec4 ih4 x4 hf => ?_) FU x0 hq
    unfold BX10_errandsThat_4 at hf
    refine V_iload_n C 3 dX10_errandsThat_4 rfl rfl rfl ?_
    refine V_aload_n C 0 dX10_errandsThat_5 rfl rfl rfl ?_
    refine V_getR C cf10 rfl 0 rfl (by decide) w1082 rfl dX10_errandsThat_6 rfl ?_
    refine V_bipush C dX10_errandsThat_9 rfl (v := 43) rfl ?_
    refine V_ildJ C rfl (by decide) (j := 43) (by decide) dX10_errandsThat_11 rfl ?_
    refine V_icmp_ge C dX10_errandsThat_12 (tgt := 41) rfl rfl (fun c3 => ?_) (fun c3 => ?_)
    · replace hf := ipos c3 hf
      obtain rfl := Option.some.inj hf
      exact hx4_0
    · replace hf := ineg c3 hf
      refine V_iload_n C 2 dX10_errandsThat_15 rfl rfl rfl ?_
      refine V_aload_n C 0 dX10_errandsThat_16 rfl rfl rfl ?_
      refine V_iload_n C 3 dX10_errandsThat_17 rfl rfl rfl ?_
      refine V_iconst C dX10_errandsThat_18 rfl (v := 3) rfl ?_
      obtain ⟨q1, hq1, hf⟩ := obd hf
      refine V_cVi C (b := 116) (As := [.int x4.2, .int 3]) (st := [.int x4.1]) cf10 rfl M_X10_eIs w1222 ⟨by decide, by decide⟩ rfl rfl (Nat.le_of_ble_eq_true rfl) dX10_errandsThat_19 rfl (kX10_eIs hq1) ?_
      refine V_iload_n C 1 dX10_errandsThat_22 rfl rfl rfl ?_
      refine V_icmp_ne C dX10_errandsThat_23 (tgt := 32) rfl rfl (fun c2 => ?_) (fun c2 => ?_)
      · replace hf := ineg c2 hf
        refine V_iconst C dX10_errandsThat_32 rfl (v := 0) rfl ?_
        refine V_ior C dX10_errandsThat_33 rfl ?_
        refine V_istore_n C (L' := [(0, .ref (ad 116)), (1, .int p1), (2, .int (x4.1 ||| 0)), (3, .int x4.2)]) dX10_errandsThat_34 rfl rfl (by decide) hnL [1, 2, 0, 3] rfl ?_
        refine V_iinc C (v := (x4.2 + 1)) (L' := [(0, .ref (ad 116)), (1, .int p1), (2, .int (x4.1 ||| 0)), (3, .int (x4.2 + 1))]) 3 dX10_errandsThat_35 rfl rfl rfl (by decide) hnL [1, 2, 3, 0] rfl ?_
        refine V_goto C dX10_errandsThat_38 (tgt := 4) rfl ?_
        exact ih4 ((x4.1 ||| 0), (x4.2 + 1)) hf
      · replace hf := ipos c2 hf
        refine V_iconst C dX10_errandsThat_26 rfl (v := 1) rfl ?_
        refine V_iload_n C 3 dX10_errandsThat_27 rfl rfl rfl ?_
        refine V_jshl C dX10_errandsThat_28 rfl ?_
        refine V_goto C dX10_errandsThat_29 (tgt := 33) rfl ?_
        refine V_ior C dX10_errandsThat_33 rfl ?_
        refine V_istore_n C (L' := [(0, .ref (ad 116)), (1, .int p1), (2, .int (x4.1 ||| (jshl 1 x4.2))), (3, .int x4.2)]) dX10_errandsThat_34 rfl rfl (by decide) hnL [1, 2, 0, 3] rfl ?_
        refine V_iinc C (v := (x4.2 + 1)) (L' := [(0, .ref (ad 116)), (1, .int p1), (2, .int (x4.1 ||| (jshl 1 x4.2))), (3, .int (x4.2 + 1))]) 3 dX10_errandsThat_35 rfl rfl rfl (by decide) hnL [1, 2, 3, 0] rfl ?_
        refine V_goto C dX10_errandsThat_38 (tgt := 4) rfl ?_
        exact ih4 ((x4.1 ||| (jshl 1 x4.2)), (x4.2 + 1)) hf
  refine V_iconst C dX10_errandsThat_0 rfl (v := 0) rfl ?_
  refine V_istore_n C (L' := [(0, .ref (ad 116)), (1, .int p1), (2, .int 0)]) dX10_errandsThat_1 rfl rfl (by decide) hnL [1, 2, 0] rfl ?_
  refine V_iconst C dX10_errandsThat_2 rfl (v := 0) rfl ?_
  refine V_istore_n C (L' := [(0, .ref (ad 116)), (1, .int p1), (2, .int 0), (3, .int 0)]) dX10_errandsThat_3 rfl rfl (by decide) hnL [1, 2, 3, 0] rfl ?_
  obtain ⟨q4_4, hq4_4, hf⟩ := obd hf
  refine Lp4  (0, 0) q4_4 hq4_4 ?_
  refine V_iload_n C 2 dX10_errandsThat_41 rfl rfl rfl ?_
  obtain rfl := Option.some.inj hf
  exact K _ _ _ dX10_errandsThat_42 rfl rfl
set_option maxHeartbeats 4000000 in
set_option maxRecDepth 100000 in
theorem kX10_ofAll {ad : Nat → Nat} {G : Gh} {p1 : Int32} {u : Mem} {q : Int32} (hf : FX10_ofAll p1 u = some q) : Ct shs ad G yX10_ofAll cX10_ofAll 4 (some .int) 2 43 [.ref (ad 116), .int p1] u (some (.int q)) u := by
  refine Ct_ofI (by decide) (Nat.le_of_ble_eq_true rfl) (fun X C hnL K => ?_)
  have C : Cx ad G X cX10_ofAll "CarryFairModel" 2 43 := C
  unfold FX10_ofAll at hf
  have Lp4 : ∀ (x0 : (Int32 × Int32)) (q4 : (Int32 × Int32)), lp (BX10_ofAll_4 p1 u) FU x0 = some q4 → V shs ad G X 30 [(0, .ref (ad 116)), (1, .int p1), (2, .int q4.1), (3, .int q4.2)] [] u → V shs ad G X 4 [(0, .ref (ad 116)), (1, .int p1), (2, .int x0.1), (3, .int x0.2)] [] u := by
    intro  x0 q4 hq hx4_0
    refine lp_V (BX10_ofAll_4 p1 u) (fun x4 => V shs ad G X 4 [(0, .ref (ad 116)), (1, .int p1), (2, .int x4.1), (3, .int x4.2)] [] u) q4 (fun rec4 ih4 x4 hf => ?_) FU x0 hq
    unfold BX10_ofAll_4 at hf
    refine V_iload_n C 3 dX10_ofAll_4 rfl rfl rfl ?_
    refine V_aload_n C 0 dX10_ofAll_5 rfl rfl rfl ?_
    refine V_getR C cf10 rfl 0 rfl (by decide) w1082 rfl dX10_ofAll_6 rfl ?_
    refine V_bipush C dX10_ofAll_9 rfl (v := 42) rfl ?_
    refine V_ildJ C rfl (by decide) (j := 42) (by decide) dX10_ofAll_11 rfl ?_
    refine V_icmp_ge C dX10_ofAll_12 (tgt := 30) rfl rfl (fun c2 => ?_) (fun c2 => ?_)
    · replace hf := ipos c2 hf
      obtain rfl := Option.some.inj hf
      exact hx4_0
    · replace hf := ineg c2 hf
      refine V_iload_n C 2 dX10_ofAll_15 rfl rfl rfl ?_
      refine V_aload_n C 0 dX10_ofAll_16 rfl rfl rfl ?_
      refine V_iload_n C 3 dX10_ofAll_17 rfl rfl rfl ?_
      refine V_iload_n C 1 dX10_ofAll_18 rfl rfl rfl ?_
      obtain ⟨q1, hq1, hf⟩ := obd hf
      refine V_cVi C (b := 116) (As := [.int x4.2, .int p1]) (st := [.int x4.1]) cf10 rfl M_X10_cIs w1208 ⟨by decide, by decide⟩ rfl rfl (Nat.le_of_ble_eq_true rfl) dX10_ofAll_19 rfl (kX10_cIs hq1) ?_
      refine V_iadd C dX10_ofAll_22 rfl ?_
      refine V_istore_n C (L' := [(0, .ref (ad 116)), (1, .int p1), (2, .int (x4.1 + q1)), (3, .int x4.2)]) dX10_ofAll_23 rfl rfl (by decide) hnL [1, 2, 0, 3] rfl ?_
      refine V_iinc C (v := (x4.2 + 1)) (L' := [(0, .ref (ad 116)), (1, .int p1), (2, .int (x4.1 + q1)), (3, .int (x4.2 + 1))]) 3 dX10_ofAll_24 rfl rfl rfl (by decide) hnL [1, 2, 3, 0] rfl ?_
      refine V_goto C dX10_ofAll_27 (tgt := 4) rfl ?_
      exact ih4 ((x4.1 + q1), (x4.2 + 1)) hf
  refine V_iconst C dX10_ofAll_0 rfl (v := 0) rfl ?_
  refine V_istore_n C (L' := [(0, .ref (ad 116)), (1, .int p1), (2, .int 0)]) dX10_ofAll_1 rfl rfl (by decide) hnL [1, 2, 0] rfl ?_
  refine V_iconst C dX10_ofAll_2 rfl (v := 0) rfl ?_
  refine V_istore_n C (L' := [(0, .ref (ad 116)), (1, .int p1), (2, .int 0), (3, .int 0)]) dX10_ofAll_3 rfl rfl (by decide) hnL [1, 2, 3, 0] rfl ?_
  obtain ⟨q4_3, hq4_3, hf⟩ := obd hf
  refine Lp4  (0, 0) q4_3 hq4_3 ?_
  refine V_iload_n C 2 dX10_ofAll_30 rfl rfl rfl ?_
  obtain rfl := Option.some.inj hf
  exact K _ _ _ dX10_ofAll_31 rfl rfl
set_option maxHeartbeats 4000000 in
set_option maxRecDepth 100000 in
theorem kX10_now {ad : Nat → Nat} {G : Gh} {p1 : Int32} {u : Mem} {q : Int32 × Mem} (hf : FX10_now p1 u = some q) : Ct shs ad G yX10_now cX10_now 4 (some .int) 3 66 [.ref (ad 116), .int p1] u (some (.int q.1)) q.2 := by
  refine Ct_ofI (by decide) (Nat.le_of_ble_eq_true rfl) (fun X C hnL K => ?_)
  have C : Cx ad G X cX10_now "CarryFairModel" 3 66 := C
  unfold FX10_now at hf
  have Lp50 : ∀ (w : Mem) (x0 : (Int32 × Int32)) (q50 : (Int32 × Int32)), lp (BX10_now_50 p1 w) FU x0 = some q50 → V shs ad G X 90 [(0, .ref (ad 116)), (1, .int p1), (2, .int q50.1), (3, .int q50.2)] [] w → V shs ad G X 50 [(0, .ref (ad 116)), (1, .int p1), (2, .int x0.1), (3, .int x0.2)] [] w := by
    intro w x0 q50 hq hx50_0
    refine lp_V (BX10_now_50 p1 w) (fun x50 => V shs ad G X 50 [(0, .ref (ad 116)), (1, .int p1), (2, .int x50.1), (3, .int x50.2)] [] w) q50 (fun rec50 ih50 x50 hf => ?_) FU x0 hq
    unfold BX10_now_50 at hf
    refine V_iload_n C 3 dX10_now_50 rfl rfl rfl ?_
    refine V_aload_n C 0 dX10_now_51 rfl rfl rfl ?_
    refine V_getR C cf10 rfl 0 rfl (by decide) w1082 rfl dX10_now_52 rfl ?_
    refine V_bipush C dX10_now_55 rfl (v := 44) rfl ?_
    refine V_ildJ C rfl (by decide) (j := 44) (by decide) dX10_now_57 rfl ?_
    refine V_icmp_ge C dX10_now_58 (tgt := 90) rfl rfl (fun c8 => ?_) (fun c8 => ?_)
    · replace hf := ipos c8 hf
      obtain rfl := Option.some.inj hf
      exact hx50_0
    · replace hf := ineg c8 hf
      refine V_iload_n C 2 dX10_now_61 rfl rfl rfl ?_
      refine V_aload_n C 0 dX10_now_62 rfl rfl rfl ?_
      refine V_getR C cf10 rfl 0 rfl (by decide) w1082 rfl dX10_now_63 rfl ?_
      refine V_iload_n C 3 dX10_now_66 rfl rfl rfl ?_
      refine V_iconst C dX10_now_67 rfl (v := 1) rfl ?_
      refine V_cSi C (As := [.int x50.2, .int 1]) (st := [.ref (ad 117), .int x50.1]) M_X10_wAt w1307 ⟨by decide, by decide⟩ rfl rfl (Nat.le_of_ble_eq_true rfl) dX10_now_68 rfl (kX10_wAt rfl) ?_
      obtain ⟨g6, hf⟩ := gd hf
      refine V_ildJ C rfl g6 rfl dX10_now_71 rfl ?_
      refine V_if_lt C dX10_now_72 (tgt := 81) rfl rfl (fun c7 => ?_) (fun c7 => ?_)
      · replace hf := ipos c7 hf
        refine V_iconst C dX10_now_81 rfl (v := 0) rfl ?_
        refine V_ior C dX10_now_82 rfl ?_
        refine V_istore_n C (L' := [(0, .ref (ad 116)), (1, .int p1), (2, .int (x50.1 ||| 0)), (3, .int x50.2)]) dX10_now_83 rfl rfl (by decide) hnL [1, 2, 0, 3] rfl ?_
        refine V_iinc C (v := (x50.2 + 1)) (L' := [(0, .ref (ad 116)), (1, .int p1), (2, .int (x50.1 ||| 0)), (3, .int (x50.2 + 1))]) 3 dX10_now_84 rfl rfl rfl (by decide) hnL [1, 2, 3, 0] rfl ?_
        refine V_goto C dX10_now_87 (tgt := 50) rfl ?_
        exact ih50 ((x50.1 ||| 0), (x50.2 + 1)) hf
      · replace hf := ineg c7 hf
        refine V_iconst C dX10_now_75 rfl (v := 1) rfl ?_
        refine V_iload_n C 3 dX10_now_76 rfl rfl rfl ?_
        refine V_jshl C dX10_now_77 rfl ?_
        refine V_goto C dX10_now_78 (tgt := 82) rfl ?_
        refine V_ior C dX10_now_82 rfl ?_
        refine V_istore_n C (L' := [(0, .ref (ad 116)), (1, .int p1), (2, .int (x50.1 ||| (jshl 1 x50.2))), (3, .int x50.2)]) dX10_now_83 rfl rfl (by decide) hnL [1, 2, 0, 3] rfl ?_
        refine V_iinc C (v := (x50.2 + 1)) (L' := [(0, .ref (ad 116)), (1, .int p1), (2, .int (x50.1 ||| (jshl 1 x50.2))), (3, .int (x50.2 + 1))]) 3 dX10_now_84 rfl rfl rfl (by decide) hnL [1, 2, 3, 0] rfl ?_
        refine V_goto C dX10_now_87 (tgt := 50) rfl ?_
        exact ih50 ((x50.1 ||| (jshl 1 x50.2)), (x50.2 + 1)) hf
  refine V_iconst C dX10_now_0 rfl (v := 0) rfl ?_
  refine V_istore_n C (L' := [(0, .ref (ad 116)), (1, .int p1), (2, .int 0)]) dX10_now_1 rfl rfl (by decide) hnL [1, 2, 0] rfl ?_
  refine V_iload_n C 1 dX10_now_2 rfl rfl rfl ?_
  by_cases c1 : p1 = 0
  · replace hf := ipos c1 hf
    refine V_tin C dX10_now_3 0 c1 (by decide) (by decide) rfl (tgt := 36) rfl ?_
    refine V_aload_n C 0 dX10_now_36 rfl rfl rfl ?_
    refine V_iconst C dX10_now_37 rfl (v := 0) rfl ?_
    obtain ⟨q2, hq2, hf⟩ := obd hf
    refine V_cVi C (b := 116) (As := [.int 0]) (st := []) cf10 rfl M_X10_errandsThat w1367 ⟨by decide, by decide⟩ rfl rfl (Nat.le_of_ble_eq_true rfl) dX10_now_38 rfl (kX10_errandsThat hq2) ?_
    obtain rfl := Option.some.inj hf
    exact K _ _ _ dX10_now_41 rfl rfl
  replace hf := ineg c1 hf
  by_cases c3 : p1 = 1
  · replace hf := ipos c3 hf
    refine V_tin C dX10_now_3 1 c3 (by decide) (by decide) rfl (tgt := 42) rfl ?_
    refine V_aload_n C 0 dX10_now_42 rfl rfl rfl ?_
    refine V_iconst C dX10_now_43 rfl (v := 2) rfl ?_
    obtain ⟨q4, hq4, hf⟩ := obd hf
    refine V_cVi C (b := 116) (As := [.int 2]) (st := []) cf10 rfl M_X10_errandsThat w1367 ⟨by decide, by decide⟩ rfl rfl (Nat.le_of_ble_eq_true rfl) dX10_now_44 rfl (kX10_errandsThat hq4) ?_
    obtain rfl := Option.some.inj hf
    exact K _ _ _ dX10_now_47 rfl rfl
  replace hf := ineg c3 hf
  by_cases c5 : p1 = 2
  · replace hf := ipos c5 hf
    refine V_tin C dX10_now_3 2 c5 (by decide) (by decide) rfl (tgt := 48) rfl ?_
    refine V_iconst C dX10_now_48 rfl (v := 0) rfl ?_
    refine V_istore_n C (L' := [(0, .ref (ad 116)), (1, .int p1), (2, .int 0), (3, .int 0)]) dX10_now_49 rfl rfl (by decide) hnL [1, 2, 3, 0] rfl ?_
    obtain ⟨q50_9, hq50_9, hf⟩ := obd hf
    refine Lp50 u (0, 0) q50_9 hq50_9 ?_
    refine V_iload_n C 2 dX10_now_90 rfl rfl rfl ?_
    obtain rfl := Option.some.inj hf
    exact K _ _ _ dX10_now_91 rfl rfl
  replace hf := ineg c5 hf
  by_cases c10 : p1 = 3
  · replace hf := ipos c10 hf
    refine V_tin C dX10_now_3 3 c10 (by decide) (by decide) rfl (tgt := 92) rfl ?_
    refine V_aload_n C 0 dX10_now_92 rfl rfl rfl ?_
    refine V_iconst C dX10_now_93 rfl (v := 3) rfl ?_
    obtain ⟨q11, hq11, hf⟩ := obd hf
    refine V_cVi C (b := 116) (As := [.int 3]) (st := []) cf10 rfl M_X10_ofAll w1371 ⟨by decide, by decide⟩ rfl rfl (Nat.le_of_ble_eq_true rfl) dX10_now_94 rfl (kX10_ofAll hq11) ?_
    obtain rfl := Option.some.inj hf
    exact K _ _ _ dX10_now_97 rfl rfl
  replace hf := ineg c10 hf
  by_cases c12 : p1 = 4
  · replace hf := ipos c12 hf
    refine V_tin C dX10_now_3 4 c12 (by decide) (by decide) rfl (tgt := 98) rfl ?_
    refine V_aload_n C 0 dX10_now_98 rfl rfl rfl ?_
    refine V_iconst C dX10_now_99 rfl (v := 4) rfl ?_
    obtain ⟨q13, hq13, hf⟩ := obd hf
    refine V_cVi C (b := 116) (As := [.int 4]) (st := []) cf10 rfl M_X10_ofAll w1371 ⟨by decide, by decide⟩ rfl rfl (Nat.le_of_ble_eq_true rfl) dX10_now_100 rfl (kX10_ofAll hq13) ?_
    obtain rfl := Option.some.inj hf
    exact K _ _ _ dX10_now_103 rfl rfl
  replace hf := ineg c12 hf
  refine V_tout C dX10_now_3 (by have nc1 := lv_neT (a := 0) c1 (by decide); have nc3 := lv_neT (a := 1) c3 (by decide); have nc5 := lv_neT (a := 2) c5 (by decide); have nc10 := lv_neT (a := 3) c10 (by decide); have nc12 := lv_neT (a := 4) c12 (by decide); omega) (tgt := 104) rfl ?_
  refine V_aload_n C 0 dX10_now_104 rfl rfl rfl ?_
  refine V_ldc C dX10_now_105 rfl w1183 ?_
  obtain ⟨q14, hq14, hf⟩ := obd hf
  refine V_cVi C (b := 116) (As := [.int (-1000001)]) (st := []) cf10 rfl M_X10_finding w1184 ⟨by decide, by decide⟩ rfl rfl (Nat.le_of_ble_eq_true rfl) dX10_now_107 rfl (kX10_finding hq14) ?_
  obtain rfl := Option.some.inj hf
  exact K _ _ _ dX10_now_110 rfl rfl
set_option maxHeartbeats 4000000 in
set_option maxRecDepth 100000 in
theorem kX10_digit {ad : Nat → Nat} {G : Gh} {p1 : Int32} {p2 : Int32} {u : Mem} {q : Int32} (hf : FX10_digit p1 p2 u = some q) : Ct shs ad G yX10_digit cX10_digit 3 (some .int) 0 0 [.ref (ad 116), .int p1, .int p2] u (some (.int q)) u := by
  refine Ct_ofI (by decide) (Nat.le_of_ble_eq_true rfl) (fun X C hnL K => ?_)
  have C : Cx ad G X cX10_digit "CarryFairModel" 0 0 := C
  unfold FX10_digit at hf
  refine V_iload_n C 1 dX10_digit_0 rfl rfl rfl ?_
  refine V_aload_n C 0 dX10_digit_1 rfl rfl rfl ?_
  refine V_getR C cf10 rfl 9 rfl (by decide) w1091 rfl dX10_digit_2 rfl ?_
  refine V_iload_n C 2 dX10_digit_5 rfl rfl rfl ?_
  obtain ⟨g1, hf⟩ := gd hf
  refine V_ildJ C rfl g1 rfl dX10_digit_6 rfl ?_
  obtain ⟨g2, hf⟩ := gd hf
  refine V_idiv C dX10_digit_7 rfl g2 ?_
  refine V_iconst C dX10_digit_8 rfl (v := 3) rfl ?_
  refine V_jrem C dX10_digit_9 rfl (by decide) ?_
  obtain rfl := Option.some.inj hf
  exact K _ _ _ dX10_digit_10 rfl rfl
set_option maxHeartbeats 4000000 in
set_option maxRecDepth 100000 in
theorem kX10_shorter {ad : Nat → Nat} {G : Gh} {p1 : Int32} {p2 : Int32} {p3 : Int32} {u : Mem} {q : Mem} (hf : FX10_shorter p1 p2 p3 u = some q) : Ct shs ad G yX10_shorter cX10_shorter 4 none 1 21 [.ref (ad 116), .int p1, .int p2, .int p3] u none q := by
  refine Ct_ofV (by decide) (Nat.le_of_ble_eq_true rfl) (fun X C hnL K => ?_)
  have C : Cx ad G X cX10_shorter "CarryFairModel" 1 21 := C
  unfold FX10_shorter at hf
  refine V_aload_n C 0 dX10_shorter_0 rfl rfl rfl ?_
  refine V_getR C cf10 rfl 7 rfl (by decide) w1089 rfl dX10_shorter_1 rfl ?_
  refine V_bipush C dX10_shorter_4 rfl (v := 7) rfl ?_
  refine V_iload_n C 1 dX10_shorter_6 rfl rfl rfl ?_
  refine V_imul C dX10_shorter_7 rfl ?_
  refine V_iload_n C 2 dX10_shorter_8 rfl rfl rfl ?_
  refine V_iadd C dX10_shorter_9 rfl ?_
  refine V_aload_n C 0 dX10_shorter_10 rfl rfl rfl ?_
  refine V_getR C cf10 rfl 7 rfl (by decide) w1089 rfl dX10_shorter_11 rfl ?_
  refine V_bipush C dX10_shorter_14 rfl (v := 7) rfl ?_
  refine V_iload_n C 1 dX10_shorter_16 rfl rfl rfl ?_
  refine V_imul C dX10_shorter_17 rfl ?_
  refine V_iload_n C 2 dX10_shorter_18 rfl rfl rfl ?_
  refine V_iadd C dX10_shorter_19 rfl ?_
  obtain ⟨g1, hf⟩ := gd hf
  refine V_ildJ C rfl g1 rfl dX10_shorter_20 rfl ?_
  refine V_iload_n C 3 dX10_shorter_21 rfl rfl rfl ?_
  refine V_mmin C w1259 ⟨by decide, by decide⟩ (Nat.le_of_ble_eq_true rfl) dX10_shorter_22 rfl ?_
  obtain ⟨g2, hf⟩ := gd hf
  refine V_istJ C rfl g2 rfl dX10_shorter_25 rfl ?_
  obtain rfl := Option.some.inj hf
  exact K _ _ dX10_shorter_26 rfl
set_option maxHeartbeats 4000000 in
set_option maxRecDepth 100000 in
theorem kX10_walkOn {ad : Nat → Nat} {G : Gh} {p1 : Int32} {p2 : Int32} {u : Mem} {q : Mem} (hf : FX10_walkOn p1 p2 u = some q) : Ct shs ad G yX10_walkOn cX10_walkOn 8 none 2 44 [.ref (ad 116), .int p1, .int p2] u none q := by
  refine Ct_ofV (by decide) (Nat.le_of_ble_eq_true rfl) (fun X C hnL K => ?_)
  have C : Cx ad G X cX10_walkOn "CarryFairModel" 2 44 := C
  unfold FX10_walkOn at hf
  have Lp44 : ∀ (v3 : Int32) (v4 : Int32) (v5 : Int32) (w : Mem) (x0 : (Int32 × Int32)) (q44 : (Int32 × Int32)), lp (BX10_walkOn_44 p1 p2 v3 v4 v5 w) FU x0 = some q44 → V shs ad G X 100 [(0, .ref (ad 116)), (1, .int p1), (2, .int p2), (3, .int v3), (4, .int v4), (5, .int v5), (6, .int q44.1), (7, .int q44.2)] [] w → V shs ad G X 44 [(0, .ref (ad 116)), (1, .int p1), (2, .int p2), (3, .int v3), (4, .int v4), (5, .int v5), (6, .int x0.1), (7, .int x0.2)] [] w := by
    intro v3 v4 v5 w x0 q44 hq hx44_0
    refine lp_V (BX10_walkOn_44 p1 p2 v3 v4 v5 w) (fun x44 => V shs ad G X 44 [(0, .ref (ad 116)), (1, .int p1), (2, .int p2), (3, .int v3), (4, .int v4), (5, .int v5), (6, .int x44.1), (7, .int x44.2)] [] w) q44 (fun rec44 ih44 x44 hf => ?_) FU x0 hq
    unfold BX10_walkOn_44 at hf
    refine V_iload C 7 dX10_walkOn_44 rfl rfl ?_
    refine V_iload_n C 2 dX10_walkOn_46 rfl rfl rfl ?_
    refine V_icmp_ge C dX10_walkOn_47 (tgt := 100) rfl rfl (fun c8 => ?_) (fun c8 => ?_)
    · replace hf := ipos c8 hf
      obtain rfl := Option.some.inj hf
      exact hx44_0
    · replace hf := ineg c8 hf
      refine V_iload C 6 dX10_walkOn_50 rfl rfl ?_
      refine V_aload_n C 0 dX10_walkOn_52 rfl rfl rfl ?_
      refine V_iload_n C 1 dX10_walkOn_53 rfl rfl rfl ?_
      refine V_iload C 7 dX10_walkOn_54 rfl rfl ?_
      obtain ⟨q2, hq2, hf⟩ := obd hf
      refine V_cVi C (b := 116) (As := [.int p1, .int x44.2]) (st := [.int x44.1]) cf10 rfl M_X10_digit w1402 ⟨by decide, by decide⟩ rfl rfl (Nat.le_of_ble_eq_true rfl) dX10_walkOn_56 rfl (kX10_digit hq2) ?_
      refine V_iconst C dX10_walkOn_59 rfl (v := 1) rfl ?_
      refine V_icmp_ne C dX10_walkOn_60 (tgt := 90) rfl rfl (fun c7 => ?_) (fun c7 => ?_)
      · replace hf := ineg c7 hf
        refine V_iconst C dX10_walkOn_90 rfl (v := 0) rfl ?_
        refine V_iadd C dX10_walkOn_91 rfl ?_
        refine V_istore C (L' := [(0, .ref (ad 116)), (1, .int p1), (2, .int p2), (3, .int v3), (4, .int v4), (5, .int v5), (6, .int (x44.1 + 0)), (7, .int x44.2)]) dX10_walkOn_92 rfl (by decide) hnL [1, 2, 3, 4, 5, 6, 0, 7] rfl ?_
        refine V_iinc C (v := (x44.2 + 1)) (L' := [(0, .ref (ad 116)), (1, .int p1), (2, .int p2), (3, .int v3), (4, .int v4), (5, .int v5), (6, .int (x44.1 + 0)), (7, .int (x44.2 + 1))]) 7 dX10_walkOn_94 rfl rfl rfl (by decide) hnL [1, 2, 3, 4, 5, 6, 7, 0] rfl ?_
        refine V_goto C dX10_walkOn_97 (tgt := 44) rfl ?_
        exact ih44 ((x44.1 + 0), (x44.2 + 1)) hf
      · replace hf := ipos c7 hf
        refine V_aload_n C 0 dX10_walkOn_63 rfl rfl rfl ?_
        refine V_aload_n C 0 dX10_walkOn_64 rfl rfl rfl ?_
        refine V_getR C cf10 rfl 8 rfl (by decide) w1090 rfl dX10_walkOn_65 rfl ?_
        refine V_iload C 7 dX10_walkOn_68 rfl rfl ?_
        obtain ⟨g3, hf⟩ := gd hf
        refine V_ildJ C rfl g3 rfl dX10_walkOn_70 rfl ?_
        refine V_iconst C dX10_walkOn_71 rfl (v := 2) rfl ?_
        obtain ⟨q4, hq4, hf⟩ := obd hf
        refine V_cVi C (b := 116) (As := [.int (w 123 (x44.2).toNatClampNeg), .int 2]) (st := [.int x44.1]) cf10 rfl M_X10_eIs w1222 ⟨by decide, by decide⟩ rfl rfl (Nat.le_of_ble_eq_true rfl) dX10_walkOn_72 rfl (kX10_eIs hq4) ?_
        refine V_iload C 5 dX10_walkOn_75 rfl rfl ?_
        refine V_icmp_ne C dX10_walkOn_77 (tgt := 90) rfl rfl (fun c6 => ?_) (fun c6 => ?_)
        · replace hf := ineg c6 hf
          refine V_iconst C dX10_walkOn_90 rfl (v := 0) rfl ?_
          refine V_iadd C dX10_walkOn_91 rfl ?_
          refine V_istore C (L' := [(0, .ref (ad 116)), (1, .int p1), (2, .int p2), (3, .int v3), (4, .int v4), (5, .int v5), (6, .int (x44.1 + 0)), (7, .int x44.2)]) dX10_walkOn_92 rfl (by decide) hnL [1, 2, 3, 4, 5, 6, 0, 7] rfl ?_
          refine V_iinc C (v := (x44.2 + 1)) (L' := [(0, .ref (ad 116)), (1, .int p1), (2, .int p2), (3, .int v3), (4, .int v4), (5, .int v5), (6, .int (x44.1 + 0)), (7, .int (x44.2 + 1))]) 7 dX10_walkOn_94 rfl rfl rfl (by decide) hnL [1, 2, 3, 4, 5, 6, 7, 0] rfl ?_
          refine V_goto C dX10_walkOn_97 (tgt := 44) rfl ?_
          exact ih44 ((x44.1 + 0), (x44.2 + 1)) hf
        · replace hf := ipos c6 hf
          refine V_aload_n C 0 dX10_walkOn_80 rfl rfl rfl ?_
          refine V_getR C cf10 rfl 9 rfl (by decide) w1091 rfl dX10_walkOn_81 rfl ?_
          refine V_iload C 7 dX10_walkOn_84 rfl rfl ?_
          obtain ⟨g5, hf⟩ := gd hf
          refine V_ildJ C rfl g5 rfl dX10_walkOn_86 rfl ?_
          refine V_goto C dX10_walkOn_87 (tgt := 91) rfl ?_
          refine V_iadd C dX10_walkOn_91 rfl ?_
          refine V_istore C (L' := [(0, .ref (ad 116)), (1, .int p1), (2, .int p2), (3, .int v3), (4, .int v4), (5, .int v5), (6, .int (x44.1 + (w 124 (x44.2).toNatClampNeg))), (7, .int x44.2)]) dX10_walkOn_92 rfl (by decide) hnL [1, 2, 3, 4, 5, 6, 0, 7] rfl ?_
          refine V_iinc C (v := (x44.2 + 1)) (L' := [(0, .ref (ad 116)), (1, .int p1), (2, .int p2), (3, .int v3), (4, .int v4), (5, .int v5), (6, .int (x44.1 + (w 124 (x44.2).toNatClampNeg))), (7, .int (x44.2 + 1))]) 7 dX10_walkOn_94 rfl rfl rfl (by decide) hnL [1, 2, 3, 4, 5, 6, 7, 0] rfl ?_
          refine V_goto C dX10_walkOn_97 (tgt := 44) rfl ?_
          exact ih44 ((x44.1 + (w 124 (x44.2).toNatClampNeg)), (x44.2 + 1)) hf
  have Lp24 : ∀ (v3 : Int32) (v4 : Int32) (x0 : (Int32 × Mem)) (q24 : (Int32 × Mem)), lp (BX10_walkOn_24 p1 p2 v3 v4) FU x0 = some q24 → V shs ad G X 146 [(0, .ref (ad 116)), (1, .int p1), (2, .int p2), (3, .int v3), (4, .int v4), (5, .int q24.1)] [] q24.2 → V shs ad G X 24 [(0, .ref (ad 116)), (1, .int p1), (2, .int p2), (3, .int v3), (4, .int v4), (5, .int x0.1)] [] x0.2 := by
    intro v3 v4 x0 q24 hq hx24_0
    refine lp_V (BX10_walkOn_24 p1 p2 v3 v4) (fun x24 => V shs ad G X 24 [(0, .ref (ad 116)), (1, .int p1), (2, .int p2), (3, .int v3), (4, .int v4), (5, .int x24.1)] [] x24.2) q24 (fun rec24 ih24 x24 hf => ?_) FU x0 hq
    unfold BX10_walkOn_24 at hf
    refine V_iload C 5 dX10_walkOn_24 rfl rfl ?_
    refine V_bipush C dX10_walkOn_26 rfl (v := 7) rfl ?_
    refine V_icmp_ge C dX10_walkOn_28 (tgt := 146) rfl rfl (fun c15 => ?_) (fun c15 => ?_)
    · replace hf := ipos c15 hf
      obtain rfl := Option.some.inj hf
      exact hx24_0
    · replace hf := ineg c15 hf
      refine V_iload C 4 dX10_walkOn_31 rfl rfl ?_
      refine V_ldc C dX10_walkOn_33 rfl w1293 ?_
      refine V_icmp_ge C dX10_walkOn_35 (tgt := 146) rfl rfl (fun c14 => ?_) (fun c14 => ?_)
      · replace hf := ipos c14 hf
        obtain rfl := Option.some.inj hf
        exact hx24_0
      · replace hf := ineg c14 hf
        refine V_iload_n C 1 dX10_walkOn_38 rfl rfl rfl ?_
        refine V_istore C (L' := [(0, .ref (ad 116)), (1, .int p1), (2, .int p2), (3, .int v3), (4, .int v4), (5, .int x24.1), (6, .int p1)]) dX10_walkOn_39 rfl (by decide) hnL [1, 2, 3, 4, 5, 6, 0] rfl ?_
        refine V_iconst C dX10_walkOn_41 rfl (v := 0) rfl ?_
        refine V_istore C (L' := [(0, .ref (ad 116)), (1, .int p1), (2, .int p2), (3, .int v3), (4, .int v4), (5, .int x24.1), (6, .int p1), (7, .int 0)]) dX10_walkOn_42 rfl (by decide) hnL [1, 2, 3, 4, 5, 6, 7, 0] rfl ?_
        obtain ⟨q44_9, hq44_9, hf⟩ := obd hf
        refine Lp44 v3 v4 x24.1 x24.2 (p1, 0) q44_9 hq44_9 ?_
        refine V_aload_n C 0 dX10_walkOn_100 rfl rfl rfl ?_
        refine V_getR C cf10 rfl 5 rfl (by decide) w1087 rfl dX10_walkOn_101 rfl ?_
        refine V_bipush C dX10_walkOn_104 rfl (v := 7) rfl ?_
        refine V_iload_n C 3 dX10_walkOn_106 rfl rfl rfl ?_
        refine V_imul C dX10_walkOn_107 rfl ?_
        refine V_iload C 5 dX10_walkOn_108 rfl rfl ?_
        refine V_iadd C dX10_walkOn_110 rfl ?_
        obtain ⟨g10, hf⟩ := gd hf
        refine V_ildJ C rfl g10 rfl dX10_walkOn_111 rfl ?_
        refine V_ldc C dX10_walkOn_112 rfl w1293 ?_
        refine V_icmp_ge C dX10_walkOn_114 (tgt := 140) rfl rfl (fun c13 => ?_) (fun c13 => ?_)
        · replace hf := ipos c13 hf
          refine V_iinc C (v := (x24.1 + 1)) (L' := [(0, .ref (ad 116)), (1, .int p1), (2, .int p2), (3, .int v3), (4, .int v4), (5, .int (x24.1 + 1)), (6, .int q44_9.1), (7, .int q44_9.2)]) 5 dX10_walkOn_140 rfl rfl rfl (by decide) hnL [1, 2, 3, 4, 5, 0, 6, 7] rfl ?_
          refine V_goto C dX10_walkOn_143 (tgt := 24) rfl ?_
          refine V_sub (L' := [(0, .ref (ad 116)), (1, .int p1), (2, .int p2), (3, .int v3), (4, .int v4), (5, .int (x24.1 + 1))]) [0, 1, 2, 3, 4, 5] rfl ?_
          exact ih24 ((x24.1 + 1), x24.2) hf
        · replace hf := ineg c13 hf
          refine V_aload_n C 0 dX10_walkOn_117 rfl rfl rfl ?_
          refine V_iload C 6 dX10_walkOn_118 rfl rfl ?_
          refine V_iload C 5 dX10_walkOn_120 rfl rfl ?_
          refine V_iload C 4 dX10_walkOn_122 rfl rfl ?_
          refine V_aload_n C 0 dX10_walkOn_124 rfl rfl rfl ?_
          refine V_getR C cf10 rfl 5 rfl (by decide) w1087 rfl dX10_walkOn_125 rfl ?_
          refine V_bipush C dX10_walkOn_128 rfl (v := 7) rfl ?_
          refine V_iload_n C 3 dX10_walkOn_130 rfl rfl rfl ?_
          refine V_imul C dX10_walkOn_131 rfl ?_
          refine V_iload C 5 dX10_walkOn_132 rfl rfl ?_
          refine V_iadd C dX10_walkOn_134 rfl ?_
          obtain ⟨g11, hf⟩ := gd hf
          refine V_ildJ C rfl g11 rfl dX10_walkOn_135 rfl ?_
          refine V_iadd C dX10_walkOn_136 rfl ?_
          obtain ⟨q12, hq12, hf⟩ := obd hf
          refine V_cVv C (b := 116) (As := [.int q44_9.1, .int x24.1, .int (v4 + (x24.2 121 ((7 * v3) + x24.1).toNatClampNeg))]) (st := []) cf10 rfl M_X10_shorter w1406 ⟨by decide, by decide⟩ rfl rfl (Nat.le_of_ble_eq_true rfl) dX10_walkOn_137 rfl (kX10_shorter hq12) ?_
          refine V_iinc C (v := (x24.1 + 1)) (L' := [(0, .ref (ad 116)), (1, .int p1), (2, .int p2), (3, .int v3), (4, .int v4), (5, .int (x24.1 + 1)), (6, .int q44_9.1), (7, .int q44_9.2)]) 5 dX10_walkOn_140 rfl rfl rfl (by decide) hnL [1, 2, 3, 4, 5, 0, 6, 7] rfl ?_
          refine V_goto C dX10_walkOn_143 (tgt := 24) rfl ?_
          refine V_sub (L' := [(0, .ref (ad 116)), (1, .int p1), (2, .int p2), (3, .int v3), (4, .int v4), (5, .int (x24.1 + 1))]) [0, 1, 2, 3, 4, 5] rfl ?_
          exact ih24 ((x24.1 + 1), q12) hf
  have Lp2 : ∀ (x0 : (Int32 × Mem)) (q2 : (Int32 × Mem)), lp (BX10_walkOn_2 p1 p2) FU x0 = some q2 → V shs ad G X 152 [(0, .ref (ad 116)), (1, .int p1), (2, .int p2), (3, .int q2.1)] [] q2.2 → V shs ad G X 2 [(0, .ref (ad 116)), (1, .int p1), (2, .int p2), (3, .int x0.1)] [] x0.2 := by
    intro  x0 q2 hq hx2_0
    refine lp_V (BX10_walkOn_2 p1 p2) (fun x2 => V shs ad G X 2 [(0, .ref (ad 116)), (1, .int p1), (2, .int p2), (3, .int x2.1)] [] x2.2) q2 (fun rec2 ih2 x2 hf => ?_) FU x0 hq
    unfold BX10_walkOn_2 at hf
    refine V_iload_n C 3 dX10_walkOn_2 rfl rfl rfl ?_
    refine V_bipush C dX10_walkOn_3 rfl (v := 7) rfl ?_
    refine V_icmp_ge C dX10_walkOn_5 (tgt := 152) rfl rfl (fun c17 => ?_) (fun c17 => ?_)
    · replace hf := ipos c17 hf
      obtain rfl := Option.some.inj hf
      exact hx2_0
    · replace hf := ineg c17 hf
      refine V_aload_n C 0 dX10_walkOn_8 rfl rfl rfl ?_
      refine V_getR C cf10 rfl 7 rfl (by decide) w1089 rfl dX10_walkOn_9 rfl ?_
      refine V_bipush C dX10_walkOn_12 rfl (v := 7) rfl ?_
      refine V_iload_n C 1 dX10_walkOn_14 rfl rfl rfl ?_
      refine V_imul C dX10_walkOn_15 rfl ?_
      refine V_iload_n C 3 dX10_walkOn_16 rfl rfl rfl ?_
      refine V_iadd C dX10_walkOn_17 rfl ?_
      obtain ⟨g1, hf⟩ := gd hf
      refine V_ildJ C rfl g1 rfl dX10_walkOn_18 rfl ?_
      refine V_istore C (L' := [(0, .ref (ad 116)), (1, .int p1), (2, .int p2), (3, .int x2.1), (4, .int (x2.2 122 ((7 * p1) + x2.1).toNatClampNeg))]) dX10_walkOn_19 rfl (by decide) hnL [1, 2, 3, 4, 0] rfl ?_
      refine V_iconst C dX10_walkOn_21 rfl (v := 0) rfl ?_
      refine V_istore C (L' := [(0, .ref (ad 116)), (1, .int p1), (2, .int p2), (3, .int x2.1), (4, .int (x2.2 122 ((7 * p1) + x2.1).toNatClampNeg)), (5, .int 0)]) dX10_walkOn_22 rfl (by decide) hnL [1, 2, 3, 4, 5, 0] rfl ?_
      obtain ⟨q24_16, hq24_16, hf⟩ := obd hf
      refine Lp24 x2.1 (x2.2 122 ((7 * p1) + x2.1).toNatClampNeg) (0, x2.2) q24_16 hq24_16 ?_
      refine V_iinc C (v := (x2.1 + 1)) (L' := [(0, .ref (ad 116)), (1, .int p1), (2, .int p2), (3, .int (x2.1 + 1)), (4, .int (x2.2 122 ((7 * p1) + x2.1).toNatClampNeg)), (5, .int q24_16.1)]) 3 dX10_walkOn_146 rfl rfl rfl (by decide) hnL [1, 2, 3, 0, 4, 5] rfl ?_
      refine V_goto C dX10_walkOn_149 (tgt := 2) rfl ?_
      refine V_sub (L' := [(0, .ref (ad 116)), (1, .int p1), (2, .int p2), (3, .int (x2.1 + 1))]) [0, 1, 2, 3] rfl ?_
      exact ih2 ((x2.1 + 1), q24_16.2) hf
  refine V_iconst C dX10_walkOn_0 rfl (v := 0) rfl ?_
  refine V_istore_n C (L' := [(0, .ref (ad 116)), (1, .int p1), (2, .int p2), (3, .int 0)]) dX10_walkOn_1 rfl rfl (by decide) hnL [1, 2, 3, 0] rfl ?_
  obtain ⟨q2_18, hq2_18, hf⟩ := obd hf
  refine Lp2  (0, u) q2_18 hq2_18 ?_
  obtain rfl := Option.some.inj hf
  exact K _ _ dX10_walkOn_152 rfl
set_option maxHeartbeats 4000000 in
set_option maxRecDepth 100000 in
theorem kX10_takeOn {ad : Nat → Nat} {G : Gh} {p1 : Int32} {p2 : Int32} {p3 : Int32} {u : Mem} {q : Mem} (hf : FX10_takeOn p1 p2 p3 u = some q) : Ct shs ad G yX10_takeOn cX10_takeOn 7 none 2 44 [.ref (ad 116), .int p1, .int p2, .int p3] u none q := by
  refine Ct_ofV (by decide) (Nat.le_of_ble_eq_true rfl) (fun X C hnL K => ?_)
  have C : Cx ad G X cX10_takeOn "CarryFairModel" 2 44 := C
  unfold FX10_takeOn at hf
  have Lp6 : ∀ (w : Mem) (x0 : (Int32 × Int32)) (q6 : (Int32 × Int32)), lp (BX10_takeOn_6 p1 p2 p3 w) FU x0 = some q6 → V shs ad G X 50 [(0, .ref (ad 116)), (1, .int p1), (2, .int p2), (3, .int p3), (4, .int q6.1), (5, .int q6.2)] [] w → V shs ad G X 6 [(0, .ref (ad 116)), (1, .int p1), (2, .int p2), (3, .int p3), (4, .int x0.1), (5, .int x0.2)] [] w := by
    intro w x0 q6 hq hx6_0
    refine lp_V (BX10_takeOn_6 p1 p2 p3 w) (fun x6 => V shs ad G X 6 [(0, .ref (ad 116)), (1, .int p1), (2, .int p2), (3, .int p3), (4, .int x6.1), (5, .int x6.2)] [] w) q6 (fun rec6 ih6 x6 hf => ?_) FU x0 hq
    unfold BX10_takeOn_6 at hf
    refine V_iload C 5 dX10_takeOn_6 rfl rfl ?_
    refine V_iload_n C 2 dX10_takeOn_8 rfl rfl rfl ?_
    refine V_icmp_ge C dX10_takeOn_9 (tgt := 50) rfl rfl (fun c5 => ?_) (fun c5 => ?_)
    · replace hf := ipos c5 hf
      obtain rfl := Option.some.inj hf
      exact hx6_0
    · replace hf := ineg c5 hf
      refine V_iload C 4 dX10_takeOn_12 rfl rfl ?_
      refine V_aload_n C 0 dX10_takeOn_14 rfl rfl rfl ?_
      refine V_iload_n C 1 dX10_takeOn_15 rfl rfl rfl ?_
      refine V_iload C 5 dX10_takeOn_16 rfl rfl ?_
      obtain ⟨q1, hq1, hf⟩ := obd hf
      refine V_cVi C (b := 116) (As := [.int p1, .int x6.2]) (st := [.int x6.1]) cf10 rfl M_X10_digit w1402 ⟨by decide, by decide⟩ rfl rfl (Nat.le_of_ble_eq_true rfl) dX10_takeOn_18 rfl (kX10_digit hq1) ?_
      refine V_iconst C dX10_takeOn_21 rfl (v := 1) rfl ?_
      refine V_icmp_ne C dX10_takeOn_22 (tgt := 40) rfl rfl (fun c4 => ?_) (fun c4 => ?_)
      · replace hf := ineg c4 hf
        refine V_iconst C dX10_takeOn_40 rfl (v := 0) rfl ?_
        refine V_iadd C dX10_takeOn_41 rfl ?_
        refine V_istore C (L' := [(0, .ref (ad 116)), (1, .int p1), (2, .int p2), (3, .int p3), (4, .int (x6.1 + 0)), (5, .int x6.2)]) dX10_takeOn_42 rfl (by decide) hnL [1, 2, 3, 4, 0, 5] rfl ?_
        refine V_iinc C (v := (x6.2 + 1)) (L' := [(0, .ref (ad 116)), (1, .int p1), (2, .int p2), (3, .int p3), (4, .int (x6.1 + 0)), (5, .int (x6.2 + 1))]) 5 dX10_takeOn_44 rfl rfl rfl (by decide) hnL [1, 2, 3, 4, 5, 0] rfl ?_
        refine V_goto C dX10_takeOn_47 (tgt := 6) rfl ?_
        exact ih6 ((x6.1 + 0), (x6.2 + 1)) hf
      · replace hf := ipos c4 hf
        refine V_aload_n C 0 dX10_takeOn_25 rfl rfl rfl ?_
        refine V_aload_n C 0 dX10_takeOn_26 rfl rfl rfl ?_
        refine V_getR C cf10 rfl 8 rfl (by decide) w1090 rfl dX10_takeOn_27 rfl ?_
        refine V_iload C 5 dX10_takeOn_30 rfl rfl ?_
        obtain ⟨g2, hf⟩ := gd hf
        refine V_ildJ C rfl g2 rfl dX10_takeOn_32 rfl ?_
        refine V_iconst C dX10_takeOn_33 rfl (v := 0) rfl ?_
        obtain ⟨q3, hq3, hf⟩ := obd hf
        refine V_cVi C (b := 116) (As := [.int (w 123 (x6.2).toNatClampNeg), .int 0]) (st := [.int x6.1]) cf10 rfl M_X10_eIs w1222 ⟨by decide, by decide⟩ rfl rfl (Nat.le_of_ble_eq_true rfl) dX10_takeOn_34 rfl (kX10_eIs hq3) ?_
        refine V_goto C dX10_takeOn_37 (tgt := 41) rfl ?_
        refine V_iadd C dX10_takeOn_41 rfl ?_
        refine V_istore C (L' := [(0, .ref (ad 116)), (1, .int p1), (2, .int p2), (3, .int p3), (4, .int (x6.1 + q3)), (5, .int x6.2)]) dX10_takeOn_42 rfl (by decide) hnL [1, 2, 3, 4, 0, 5] rfl ?_
        refine V_iinc C (v := (x6.2 + 1)) (L' := [(0, .ref (ad 116)), (1, .int p1), (2, .int p2), (3, .int p3), (4, .int (x6.1 + q3)), (5, .int (x6.2 + 1))]) 5 dX10_takeOn_44 rfl rfl rfl (by decide) hnL [1, 2, 3, 4, 5, 0] rfl ?_
        refine V_goto C dX10_takeOn_47 (tgt := 6) rfl ?_
        exact ih6 ((x6.1 + q3), (x6.2 + 1)) hf
  have Lp53 : ∀ (v4 : Int32) (x0 : (Int32 × Mem)) (q53 : (Int32 × Mem)), lp (BX10_takeOn_53 p1 p2 p3 v4) FU x0 = some q53 → V shs ad G X 135 [(0, .ref (ad 116)), (1, .int p1), (2, .int p2), (3, .int p3), (4, .int v4), (5, .int q53.1)] [] q53.2 → V shs ad G X 53 [(0, .ref (ad 116)), (1, .int p1), (2, .int p2), (3, .int p3), (4, .int v4), (5, .int x0.1)] [] x0.2 := by
    intro v4 x0 q53 hq hx53_0
    refine lp_V (BX10_takeOn_53 p1 p2 p3 v4) (fun x53 => V shs ad G X 53 [(0, .ref (ad 116)), (1, .int p1), (2, .int p2), (3, .int p3), (4, .int v4), (5, .int x53.1)] [] x53.2) q53 (fun rec53 ih53 x53 hf => ?_) FU x0 hq
    unfold BX10_takeOn_53 at hf
    refine V_iload C 5 dX10_takeOn_53 rfl rfl ?_
    refine V_iload_n C 2 dX10_takeOn_55 rfl rfl rfl ?_
    refine V_icmp_ge C dX10_takeOn_56 (tgt := 135) rfl rfl (fun c17 => ?_) (fun c17 => ?_)
    · replace hf := ipos c17 hf
      obtain rfl := Option.some.inj hf
      exact hx53_0
    · replace hf := ineg c17 hf
      refine V_aload_n C 0 dX10_takeOn_59 rfl rfl rfl ?_
      refine V_aload_n C 0 dX10_takeOn_60 rfl rfl rfl ?_
      refine V_getR C cf10 rfl 8 rfl (by decide) w1090 rfl dX10_takeOn_61 rfl ?_
      refine V_iload C 5 dX10_takeOn_64 rfl rfl ?_
      obtain ⟨g7, hf⟩ := gd hf
      refine V_ildJ C rfl g7 rfl dX10_takeOn_66 rfl ?_
      refine V_iconst C dX10_takeOn_67 rfl (v := 1) rfl ?_
      obtain ⟨q8, hq8, hf⟩ := obd hf
      refine V_cVi C (b := 116) (As := [.int (x53.2 123 (x53.1).toNatClampNeg), .int 1]) (st := []) cf10 rfl M_X10_eIs w1222 ⟨by decide, by decide⟩ rfl rfl (Nat.le_of_ble_eq_true rfl) dX10_takeOn_68 rfl (kX10_eIs hq8) ?_
      refine V_istore C (L' := [(0, .ref (ad 116)), (1, .int p1), (2, .int p2), (3, .int p3), (4, .int v4), (5, .int x53.1), (6, .int q8)]) dX10_takeOn_71 rfl (by decide) hnL [1, 2, 3, 4, 5, 6, 0] rfl ?_
      refine V_aload_n C 0 dX10_takeOn_73 rfl rfl rfl ?_
      refine V_iload_n C 1 dX10_takeOn_74 rfl rfl rfl ?_
      refine V_iload C 5 dX10_takeOn_75 rfl rfl ?_
      obtain ⟨q9, hq9, hf⟩ := obd hf
      refine V_cVi C (b := 116) (As := [.int p1, .int x53.1]) (st := []) cf10 rfl M_X10_digit w1402 ⟨by decide, by decide⟩ rfl rfl (Nat.le_of_ble_eq_true rfl) dX10_takeOn_77 rfl (kX10_digit hq9) ?_
      refine V_if_ne C dX10_takeOn_80 (tgt := 129) rfl rfl (fun c16 => ?_) (fun c16 => ?_)
      · replace hf := ineg c16 hf
        refine V_iinc C (v := (x53.1 + 1)) (L' := [(0, .ref (ad 116)), (1, .int p1), (2, .int p2), (3, .int p3), (4, .int v4), (5, .int (x53.1 + 1)), (6, .int q8)]) 5 dX10_takeOn_129 rfl rfl rfl (by decide) hnL [1, 2, 3, 4, 5, 0, 6] rfl ?_
        refine V_goto C dX10_takeOn_132 (tgt := 53) rfl ?_
        refine V_sub (L' := [(0, .ref (ad 116)), (1, .int p1), (2, .int p2), (3, .int p3), (4, .int v4), (5, .int (x53.1 + 1))]) [0, 1, 2, 3, 4, 5] rfl ?_
        exact ih53 ((x53.1 + 1), x53.2) hf
      · replace hf := ipos c16 hf
        refine V_iload C 4 dX10_takeOn_83 rfl rfl ?_
        refine V_aload_n C 0 dX10_takeOn_85 rfl rfl rfl ?_
        refine V_aload_n C 0 dX10_takeOn_86 rfl rfl rfl ?_
        refine V_getR C cf10 rfl 8 rfl (by decide) w1090 rfl dX10_takeOn_87 rfl ?_
        refine V_iload C 5 dX10_takeOn_90 rfl rfl ?_
        obtain ⟨g10, hf⟩ := gd hf
        refine V_ildJ C rfl g10 rfl dX10_takeOn_92 rfl ?_
        refine V_iconst C dX10_takeOn_93 rfl (v := 0) rfl ?_
        obtain ⟨q11, hq11, hf⟩ := obd hf
        refine V_cVi C (b := 116) (As := [.int (x53.2 123 (x53.1).toNatClampNeg), .int 0]) (st := [.int v4]) cf10 rfl M_X10_eIs w1222 ⟨by decide, by decide⟩ rfl rfl (Nat.le_of_ble_eq_true rfl) dX10_takeOn_94 rfl (kX10_eIs hq11) ?_
        refine V_iadd C dX10_takeOn_97 rfl ?_
        refine V_iload_n C 3 dX10_takeOn_98 rfl rfl rfl ?_
        refine V_icmp_gt C dX10_takeOn_99 (tgt := 129) rfl rfl (fun c15 => ?_) (fun c15 => ?_)
        · replace hf := ipos c15 hf
          refine V_iinc C (v := (x53.1 + 1)) (L' := [(0, .ref (ad 116)), (1, .int p1), (2, .int p2), (3, .int p3), (4, .int v4), (5, .int (x53.1 + 1)), (6, .int q8)]) 5 dX10_takeOn_129 rfl rfl rfl (by decide) hnL [1, 2, 3, 4, 5, 0, 6] rfl ?_
          refine V_goto C dX10_takeOn_132 (tgt := 53) rfl ?_
          refine V_sub (L' := [(0, .ref (ad 116)), (1, .int p1), (2, .int p2), (3, .int p3), (4, .int v4), (5, .int (x53.1 + 1))]) [0, 1, 2, 3, 4, 5] rfl ?_
          exact ih53 ((x53.1 + 1), x53.2) hf
        · replace hf := ineg c15 hf
          refine V_aload_n C 0 dX10_takeOn_102 rfl rfl rfl ?_
          refine V_iload_n C 1 dX10_takeOn_103 rfl rfl rfl ?_
          refine V_aload_n C 0 dX10_takeOn_104 rfl rfl rfl ?_
          refine V_getR C cf10 rfl 9 rfl (by decide) w1091 rfl dX10_takeOn_105 rfl ?_
          refine V_iload C 5 dX10_takeOn_108 rfl rfl ?_
          obtain ⟨g12, hf⟩ := gd hf
          refine V_ildJ C rfl g12 rfl dX10_takeOn_110 rfl ?_
          refine V_iadd C dX10_takeOn_111 rfl ?_
          refine V_iload C 6 dX10_takeOn_112 rfl rfl ?_
          refine V_aload_n C 0 dX10_takeOn_114 rfl rfl rfl ?_
          refine V_getR C cf10 rfl 7 rfl (by decide) w1089 rfl dX10_takeOn_115 rfl ?_
          refine V_bipush C dX10_takeOn_118 rfl (v := 7) rfl ?_
          refine V_iload_n C 1 dX10_takeOn_120 rfl rfl rfl ?_
          refine V_imul C dX10_takeOn_121 rfl ?_
          refine V_iload C 6 dX10_takeOn_122 rfl rfl ?_
          refine V_iadd C dX10_takeOn_124 rfl ?_
          obtain ⟨g13, hf⟩ := gd hf
          refine V_ildJ C rfl g13 rfl dX10_takeOn_125 rfl ?_
          obtain ⟨q14, hq14, hf⟩ := obd hf
          refine V_cVv C (b := 116) (As := [.int (p1 + (x53.2 124 (x53.1).toNatClampNeg)), .int q8, .int (x53.2 122 ((7 * p1) + q8).toNatClampNeg)]) (st := []) cf10 rfl M_X10_shorter w1406 ⟨by decide, by decide⟩ rfl rfl (Nat.le_of_ble_eq_true rfl) dX10_takeOn_126 rfl (kX10_shorter hq14) ?_
          refine V_iinc C (v := (x53.1 + 1)) (L' := [(0, .ref (ad 116)), (1, .int p1), (2, .int p2), (3, .int p3), (4, .int v4), (5, .int (x53.1 + 1)), (6, .int q8)]) 5 dX10_takeOn_129 rfl rfl rfl (by decide) hnL [1, 2, 3, 4, 5, 0, 6] rfl ?_
          refine V_goto C dX10_takeOn_132 (tgt := 53) rfl ?_
          refine V_sub (L' := [(0, .ref (ad 116)), (1, .int p1), (2, .int p2), (3, .int p3), (4, .int v4), (5, .int (x53.1 + 1))]) [0, 1, 2, 3, 4, 5] rfl ?_
          exact ih53 ((x53.1 + 1), q14) hf
  refine V_iconst C dX10_takeOn_0 rfl (v := 0) rfl ?_
  refine V_istore C (L' := [(0, .ref (ad 116)), (1, .int p1), (2, .int p2), (3, .int p3), (4, .int 0)]) dX10_takeOn_1 rfl (by decide) hnL [1, 2, 3, 4, 0] rfl ?_
  refine V_iconst C dX10_takeOn_3 rfl (v := 0) rfl ?_
  refine V_istore C (L' := [(0, .ref (ad 116)), (1, .int p1), (2, .int p2), (3, .int p3), (4, .int 0), (5, .int 0)]) dX10_takeOn_4 rfl (by decide) hnL [1, 2, 3, 4, 5, 0] rfl ?_
  obtain ⟨q6_6, hq6_6, hf⟩ := obd hf
  refine Lp6 u (0, 0) q6_6 hq6_6 ?_
  refine V_iconst C dX10_takeOn_50 rfl (v := 0) rfl ?_
  refine V_istore C (L' := [(0, .ref (ad 116)), (1, .int p1), (2, .int p2), (3, .int p3), (4, .int q6_6.1), (5, .int 0)]) dX10_takeOn_51 rfl (by decide) hnL [1, 2, 3, 4, 5, 0] rfl ?_
  obtain ⟨q53_18, hq53_18, hf⟩ := obd hf
  refine Lp53 q6_6.1 (0, u) q53_18 hq53_18 ?_
  obtain rfl := Option.some.inj hf
  exact K _ _ dX10_takeOn_135 rfl
set_option maxHeartbeats 4000000 in
set_option maxRecDepth 100000 in
theorem kX10_roundOf {ad : Nat → Nat} {G : Gh} {p1 : Int32} {p2 : Int32} {u : Mem} {q : Int32 × Mem} (hf : FX10_roundOf p1 p2 u = some q) : Ct shs ad G yX10_roundOf cX10_roundOf 8 (some .int) 4 93 [.ref (ad 116), .int p1, .int p2] u (some (.int q.1)) q.2 := by
  refine Ct_ofI (by decide) (Nat.le_of_ble_eq_true rfl) (fun X C hnL K => ?_)
  have C : Cx ad G X cX10_roundOf "CarryFairModel" 4 93 := C
  unfold FX10_roundOf at hf
  have Lp22 : ∀ (v3 : Int32) (x0 : (Int32 × Int32 × Mem)) (q22 : (Int32 × Int32 × Mem)), lp (BX10_roundOf_22 p1 p2 v3) FU x0 = some q22 → V shs ad G X 61 [(0, .ref (ad 116)), (1, .int p1), (2, .int p2), (3, .int v3), (4, .int q22.1), (5, .int q22.2.1)] [] q22.2.2 → V shs ad G X 22 [(0, .ref (ad 116)), (1, .int p1), (2, .int p2), (3, .int v3), (4, .int x0.1), (5, .int x0.2.1)] [] x0.2.2 := by
    intro v3 x0 q22 hq hx22_0
    refine lp_V (BX10_roundOf_22 p1 p2 v3) (fun x22 => V shs ad G X 22 [(0, .ref (ad 116)), (1, .int p1), (2, .int p2), (3, .int v3), (4, .int x22.1), (5, .int x22.2.1)] [] x22.2.2) q22 (fun rec22 ih22 x22 hf => ?_) FU x0 hq
    unfold BX10_roundOf_22 at hf
    refine V_iload C 5 dX10_roundOf_22 rfl rfl ?_
    refine V_aload_n C 0 dX10_roundOf_24 rfl rfl rfl ?_
    refine V_getR C cf10 rfl 0 rfl (by decide) w1082 rfl dX10_roundOf_25 rfl ?_
    refine V_bipush C dX10_roundOf_28 rfl (v := 43) rfl ?_
    refine V_ildJ C rfl (by decide) (j := 43) (by decide) dX10_roundOf_30 rfl ?_
    refine V_icmp_ge C dX10_roundOf_31 (tgt := 61) rfl rfl (fun c6 => ?_) (fun c6 => ?_)
    · replace hf := ipos c6 hf
      obtain rfl := Option.some.inj hf
      exact hx22_0
    · replace hf := ineg c6 hf
      refine V_iload_n C 2 dX10_roundOf_34 rfl rfl rfl ?_
      refine V_iload C 5 dX10_roundOf_35 rfl rfl ?_
      refine V_cSi C (As := [.int p2, .int x22.2.1]) (st := []) M_X10_has w1233 ⟨by decide, by decide⟩ rfl rfl (Nat.le_of_ble_eq_true rfl) dX10_roundOf_37 rfl (kX10_has rfl) ?_
      refine V_if_eq C dX10_roundOf_40 (tgt := 55) rfl rfl (fun c5 => ?_) (fun c5 => ?_)
      · replace hf := ipos c5 hf
        refine V_iinc C (v := (x22.2.1 + 1)) (L' := [(0, .ref (ad 116)), (1, .int p1), (2, .int p2), (3, .int v3), (4, .int x22.1), (5, .int (x22.2.1 + 1))]) 5 dX10_roundOf_55 rfl rfl rfl (by decide) hnL [1, 2, 3, 4, 5, 0] rfl ?_
        refine V_goto C dX10_roundOf_58 (tgt := 22) rfl ?_
        exact ih22 (x22.1, (x22.2.1 + 1), x22.2.2) hf
      · replace hf := ineg c5 hf
        refine V_aload_n C 0 dX10_roundOf_43 rfl rfl rfl ?_
        refine V_getR C cf10 rfl 8 rfl (by decide) w1090 rfl dX10_roundOf_44 rfl ?_
        refine V_iload C 4 dX10_roundOf_47 rfl rfl ?_
        refine V_iload C 5 dX10_roundOf_49 rfl rfl ?_
        obtain ⟨g4, hf⟩ := gd hf
        refine V_istJ C rfl g4 rfl dX10_roundOf_51 rfl ?_
        refine V_iinc C (v := (x22.1 + 1)) (L' := [(0, .ref (ad 116)), (1, .int p1), (2, .int p2), (3, .int v3), (4, .int (x22.1 + 1)), (5, .int x22.2.1)]) 4 dX10_roundOf_52 rfl rfl rfl (by decide) hnL [1, 2, 3, 4, 0, 5] rfl ?_
        refine V_iinc C (v := (x22.2.1 + 1)) (L' := [(0, .ref (ad 116)), (1, .int p1), (2, .int p2), (3, .int v3), (4, .int (x22.1 + 1)), (5, .int (x22.2.1 + 1))]) 5 dX10_roundOf_55 rfl rfl rfl (by decide) hnL [1, 2, 3, 4, 5, 0] rfl ?_
        refine V_goto C dX10_roundOf_58 (tgt := 22) rfl ?_
        exact ih22 ((x22.1 + 1), (x22.2.1 + 1), (mst x22.2.2 123 (x22.1).toNatClampNeg x22.2.1)) hf
  have Lp75 : ∀ (v3 : Int32) (v4 : Int32) (v5 : Int32) (x0 : (Int32 × Mem)) (q75 : (Int32 × Mem)), lp (BX10_roundOf_75 p1 p2 v3 v4 v5) FU x0 = some q75 → V shs ad G X 105 [(0, .ref (ad 116)), (1, .int p1), (2, .int p2), (3, .int v3), (4, .int v4), (5, .int v5), (6, .int q75.1)] [] q75.2 → V shs ad G X 75 [(0, .ref (ad 116)), (1, .int p1), (2, .int p2), (3, .int v3), (4, .int v4), (5, .int v5), (6, .int x0.1)] [] x0.2 := by
    intro v3 v4 v5 x0 q75 hq hx75_0
    refine lp_V (BX10_roundOf_75 p1 p2 v3 v4 v5) (fun x75 => V shs ad G X 75 [(0, .ref (ad 116)), (1, .int p1), (2, .int p2), (3, .int v3), (4, .int v4), (5, .int v5), (6, .int x75.1)] [] x75.2) q75 (fun rec75 ih75 x75 hf => ?_) FU x0 hq
    unfold BX10_roundOf_75 at hf
    refine V_iload C 6 dX10_roundOf_75 rfl rfl ?_
    refine V_bipush C dX10_roundOf_77 rfl (v := 7) rfl ?_
    refine V_aload_n C 0 dX10_roundOf_79 rfl rfl rfl ?_
    refine V_getR C cf10 rfl 9 rfl (by decide) w1091 rfl dX10_roundOf_80 rfl ?_
    refine V_iload C 4 dX10_roundOf_83 rfl rfl ?_
    obtain ⟨g9, hf⟩ := gd hf
    refine V_ildJ C rfl g9 rfl dX10_roundOf_85 rfl ?_
    refine V_imul C dX10_roundOf_86 rfl ?_
    refine V_icmp_ge C dX10_roundOf_87 (tgt := 105) rfl rfl (fun c11 => ?_) (fun c11 => ?_)
    · replace hf := ipos c11 hf
      obtain rfl := Option.some.inj hf
      exact hx75_0
    · replace hf := ineg c11 hf
      refine V_aload_n C 0 dX10_roundOf_90 rfl rfl rfl ?_
      refine V_getR C cf10 rfl 7 rfl (by decide) w1089 rfl dX10_roundOf_91 rfl ?_
      refine V_iload C 6 dX10_roundOf_94 rfl rfl ?_
      refine V_ldc C dX10_roundOf_96 rfl w1293 ?_
      obtain ⟨g10, hf⟩ := gd hf
      refine V_istJ C rfl g10 rfl dX10_roundOf_98 rfl ?_
      refine V_iinc C (v := (x75.1 + 1)) (L' := [(0, .ref (ad 116)), (1, .int p1), (2, .int p2), (3, .int v3), (4, .int v4), (5, .int v5), (6, .int (x75.1 + 1))]) 6 dX10_roundOf_99 rfl rfl rfl (by decide) hnL [1, 2, 3, 4, 5, 6, 0] rfl ?_
      refine V_goto C dX10_roundOf_102 (tgt := 75) rfl ?_
      exact ih75 ((x75.1 + 1), (mst x75.2 122 (x75.1).toNatClampNeg 1000000)) hf
  have Lp120 : ∀ (v3 : Int32) (v4 : Int32) (v5 : Int32) (x0 : (Int32 × Mem)) (q120 : (Int32 × Mem)), lp (BX10_roundOf_120 p1 p2 v3 v4 v5) FU x0 = some q120 → V shs ad G X 150 [(0, .ref (ad 116)), (1, .int p1), (2, .int p2), (3, .int v3), (4, .int v4), (5, .int v5), (6, .int q120.1)] [] q120.2 → V shs ad G X 120 [(0, .ref (ad 116)), (1, .int p1), (2, .int p2), (3, .int v3), (4, .int v4), (5, .int v5), (6, .int x0.1)] [] x0.2 := by
    intro v3 v4 v5 x0 q120 hq hx120_0
    refine lp_V (BX10_roundOf_120 p1 p2 v3 v4 v5) (fun x120 => V shs ad G X 120 [(0, .ref (ad 116)), (1, .int p1), (2, .int p2), (3, .int v3), (4, .int v4), (5, .int v5), (6, .int x120.1)] [] x120.2) q120 (fun rec120 ih120 x120 hf => ?_) FU x0 hq
    unfold BX10_roundOf_120 at hf
    refine V_iload C 6 dX10_roundOf_120 rfl rfl ?_
    refine V_iload C 5 dX10_roundOf_122 rfl rfl ?_
    refine V_icmp_ge C dX10_roundOf_124 (tgt := 150) rfl rfl (fun c17 => ?_) (fun c17 => ?_)
    · replace hf := ipos c17 hf
      obtain rfl := Option.some.inj hf
      exact hx120_0
    · replace hf := ineg c17 hf
      refine V_aload_n C 0 dX10_roundOf_127 rfl rfl rfl ?_
      refine V_iload C 6 dX10_roundOf_128 rfl rfl ?_
      refine V_iload C 4 dX10_roundOf_130 rfl rfl ?_
      obtain ⟨q15, hq15, hf⟩ := obd hf
      refine V_cVv C (b := 116) (As := [.int x120.1, .int v4]) (st := []) cf10 rfl M_X10_walkOn w1398 ⟨by decide, by decide⟩ rfl rfl (Nat.le_of_ble_eq_true rfl) dX10_roundOf_132 rfl (kX10_walkOn hq15) ?_
      refine V_aload_n C 0 dX10_roundOf_135 rfl rfl rfl ?_
      refine V_iload C 6 dX10_roundOf_136 rfl rfl ?_
      refine V_iload C 4 dX10_roundOf_138 rfl rfl ?_
      refine V_iload_n C 3 dX10_roundOf_140 rfl rfl rfl ?_
      obtain ⟨q16, hq16, hf⟩ := obd hf
      refine V_cVv C (b := 116) (As := [.int x120.1, .int v4, .int v3]) (st := []) cf10 rfl M_X10_takeOn w1410 ⟨by decide, by decide⟩ rfl rfl (Nat.le_of_ble_eq_true rfl) dX10_roundOf_141 rfl (kX10_takeOn hq16) ?_
      refine V_iinc C (v := (x120.1 + 1)) (L' := [(0, .ref (ad 116)), (1, .int p1), (2, .int p2), (3, .int v3), (4, .int v4), (5, .int v5), (6, .int (x120.1 + 1))]) 6 dX10_roundOf_144 rfl rfl rfl (by decide) hnL [1, 2, 3, 4, 5, 6, 0] rfl ?_
      refine V_goto C dX10_roundOf_147 (tgt := 120) rfl ?_
      exact ih120 ((x120.1 + 1), q16) hf
  have Lp157 : ∀ (v3 : Int32) (v4 : Int32) (v5 : Int32) (w : Mem) (x0 : (Int32 × Int32)) (q157 : (Int32 × Int32)), lp (BX10_roundOf_157 p1 p2 v3 v4 v5 w) FU x0 = some q157 → V shs ad G X 190 [(0, .ref (ad 116)), (1, .int p1), (2, .int p2), (3, .int v3), (4, .int v4), (5, .int v5), (6, .int q157.1), (7, .int q157.2)] [] w → V shs ad G X 157 [(0, .ref (ad 116)), (1, .int p1), (2, .int p2), (3, .int v3), (4, .int v4), (5, .int v5), (6, .int x0.1), (7, .int x0.2)] [] w := by
    intro v3 v4 v5 w x0 q157 hq hx157_0
    refine lp_V (BX10_roundOf_157 p1 p2 v3 v4 v5 w) (fun x157 => V shs ad G X 157 [(0, .ref (ad 116)), (1, .int p1), (2, .int p2), (3, .int v3), (4, .int v4), (5, .int v5), (6, .int x157.1), (7, .int x157.2)] [] w) q157 (fun rec157 ih157 x157 hf => ?_) FU x0 hq
    unfold BX10_roundOf_157 at hf
    refine V_iload C 7 dX10_roundOf_157 rfl rfl ?_
    refine V_bipush C dX10_roundOf_159 rfl (v := 7) rfl ?_
    refine V_icmp_ge C dX10_roundOf_161 (tgt := 190) rfl rfl (fun c20 => ?_) (fun c20 => ?_)
    · replace hf := ipos c20 hf
      obtain rfl := Option.some.inj hf
      exact hx157_0
    · replace hf := ineg c20 hf
      refine V_iload C 6 dX10_roundOf_164 rfl rfl ?_
      refine V_aload_n C 0 dX10_roundOf_166 rfl rfl rfl ?_
      refine V_getR C cf10 rfl 7 rfl (by decide) w1089 rfl dX10_roundOf_167 rfl ?_
      refine V_bipush C dX10_roundOf_170 rfl (v := 7) rfl ?_
      refine V_iload C 5 dX10_roundOf_172 rfl rfl ?_
      refine V_imul C dX10_roundOf_174 rfl ?_
      refine V_iload C 7 dX10_roundOf_175 rfl rfl ?_
      refine V_iadd C dX10_roundOf_177 rfl ?_
      obtain ⟨g19, hf⟩ := gd hf
      refine V_ildJ C rfl g19 rfl dX10_roundOf_178 rfl ?_
      refine V_mmin C w1259 ⟨by decide, by decide⟩ (Nat.le_of_ble_eq_true rfl) dX10_roundOf_179 rfl ?_
      refine V_istore C (L' := [(0, .ref (ad 116)), (1, .int p1), (2, .int p2), (3, .int v3), (4, .int v4), (5, .int v5), (6, .int (jmin x157.1 (w 122 ((7 * v5) + x157.2).toNatClampNeg))), (7, .int x157.2)]) dX10_roundOf_182 rfl (by decide) hnL [1, 2, 3, 4, 5, 6, 0, 7] rfl ?_
      refine V_iinc C (v := (x157.2 + 1)) (L' := [(0, .ref (ad 116)), (1, .int p1), (2, .int p2), (3, .int v3), (4, .int v4), (5, .int v5), (6, .int (jmin x157.1 (w 122 ((7 * v5) + x157.2).toNatClampNeg))), (7, .int (x157.2 + 1))]) 7 dX10_roundOf_184 rfl rfl rfl (by decide) hnL [1, 2, 3, 4, 5, 6, 7, 0] rfl ?_
      refine V_goto C dX10_roundOf_187 (tgt := 157) rfl ?_
      exact ih157 ((jmin x157.1 (w 122 ((7 * v5) + x157.2).toNatClampNeg)), (x157.2 + 1)) hf
  refine V_aload_n C 0 dX10_roundOf_0 rfl rfl rfl ?_
  refine V_aload_n C 0 dX10_roundOf_1 rfl rfl rfl ?_
  refine V_iload_n C 1 dX10_roundOf_2 rfl rfl rfl ?_
  refine V_iconst C dX10_roundOf_3 rfl (v := 0) rfl ?_
  obtain ⟨q1, hq1, hf⟩ := obd hf
  refine V_cVi C (b := 116) (As := [.int p1, .int 0]) (st := [.ref (ad 116)]) cf10 rfl M_X10_cIs w1208 ⟨by decide, by decide⟩ rfl rfl (Nat.le_of_ble_eq_true rfl) dX10_roundOf_4 rfl (kX10_cIs hq1) ?_
  obtain ⟨q2, hq2, hf⟩ := obd hf
  refine V_cVv C (b := 116) (As := [.int q1]) (st := []) cf10 rfl M_X10_findFar w1289 ⟨by decide, by decide⟩ rfl rfl (Nat.le_of_ble_eq_true rfl) dX10_roundOf_7 rfl (kX10_findFar hq2) ?_
  refine V_aload_n C 0 dX10_roundOf_10 rfl rfl rfl ?_
  refine V_iload_n C 1 dX10_roundOf_11 rfl rfl rfl ?_
  obtain ⟨q3, hq3, hf⟩ := obd hf
  refine V_cVi C (b := 116) (As := [.int p1]) (st := []) cf10 rfl M_X10_bears w1204 ⟨by decide, by decide⟩ rfl rfl (Nat.le_of_ble_eq_true rfl) dX10_roundOf_12 rfl (kX10_bears hq3) ?_
  refine V_istore_n C (L' := [(0, .ref (ad 116)), (1, .int p1), (2, .int p2), (3, .int q3)]) dX10_roundOf_15 rfl rfl (by decide) hnL [1, 2, 3, 0] rfl ?_
  refine V_iconst C dX10_roundOf_16 rfl (v := 0) rfl ?_
  refine V_istore C (L' := [(0, .ref (ad 116)), (1, .int p1), (2, .int p2), (3, .int q3), (4, .int 0)]) dX10_roundOf_17 rfl (by decide) hnL [1, 2, 3, 4, 0] rfl ?_
  refine V_iconst C dX10_roundOf_19 rfl (v := 0) rfl ?_
  refine V_istore C (L' := [(0, .ref (ad 116)), (1, .int p1), (2, .int p2), (3, .int q3), (4, .int 0), (5, .int 0)]) dX10_roundOf_20 rfl (by decide) hnL [1, 2, 3, 4, 5, 0] rfl ?_
  obtain ⟨q22_7, hq22_7, hf⟩ := obd hf
  refine Lp22 q3 (0, 0, q2) q22_7 hq22_7 ?_
  refine V_aload_n C 0 dX10_roundOf_61 rfl rfl rfl ?_
  refine V_getR C cf10 rfl 9 rfl (by decide) w1091 rfl dX10_roundOf_62 rfl ?_
  refine V_iload C 4 dX10_roundOf_65 rfl rfl ?_
  obtain ⟨g8, hf⟩ := gd hf
  refine V_ildJ C rfl g8 rfl dX10_roundOf_67 rfl ?_
  refine V_iconst C dX10_roundOf_68 rfl (v := 1) rfl ?_
  refine V_isub C dX10_roundOf_69 rfl ?_
  refine V_istore C (L' := [(0, .ref (ad 116)), (1, .int p1), (2, .int p2), (3, .int q3), (4, .int q22_7.1), (5, .int ((q22_7.2.2 124 (q22_7.1).toNatClampNeg) - 1))]) dX10_roundOf_70 rfl (by decide) hnL [1, 2, 3, 4, 5, 0] rfl ?_
  refine V_iconst C dX10_roundOf_72 rfl (v := 0) rfl ?_
  refine V_istore C (L' := [(0, .ref (ad 116)), (1, .int p1), (2, .int p2), (3, .int q3), (4, .int q22_7.1), (5, .int ((q22_7.2.2 124 (q22_7.1).toNatClampNeg) - 1)), (6, .int 0)]) dX10_roundOf_73 rfl (by decide) hnL [1, 2, 3, 4, 5, 6, 0] rfl ?_
  obtain ⟨q75_12, hq75_12, hf⟩ := obd hf
  refine Lp75 q3 q22_7.1 ((q22_7.2.2 124 (q22_7.1).toNatClampNeg) - 1) (0, q22_7.2.2) q75_12 hq75_12 ?_
  refine V_aload_n C 0 dX10_roundOf_105 rfl rfl rfl ?_
  refine V_getR C cf10 rfl 7 rfl (by decide) w1089 rfl dX10_roundOf_106 rfl ?_
  refine V_aload_n C 0 dX10_roundOf_109 rfl rfl rfl ?_
  refine V_iload_n C 1 dX10_roundOf_110 rfl rfl rfl ?_
  refine V_iconst C dX10_roundOf_111 rfl (v := 1) rfl ?_
  obtain ⟨q13, hq13, hf⟩ := obd hf
  refine V_cVi C (b := 116) (As := [.int p1, .int 1]) (st := [.ref (ad 122)]) cf10 rfl M_X10_cIs w1208 ⟨by decide, by decide⟩ rfl rfl (Nat.le_of_ble_eq_true rfl) dX10_roundOf_112 rfl (kX10_cIs hq13) ?_
  refine V_iconst C dX10_roundOf_115 rfl (v := 0) rfl ?_
  obtain ⟨g14, hf⟩ := gd hf
  refine V_istJ C rfl g14 rfl dX10_roundOf_116 rfl ?_
  refine V_iconst C dX10_roundOf_117 rfl (v := 0) rfl ?_
  refine V_istore C (L' := [(0, .ref (ad 116)), (1, .int p1), (2, .int p2), (3, .int q3), (4, .int q22_7.1), (5, .int ((q22_7.2.2 124 (q22_7.1).toNatClampNeg) - 1)), (6, .int 0)]) dX10_roundOf_118 rfl (by decide) hnL [1, 2, 3, 4, 5, 6, 0] rfl ?_
  obtain ⟨q120_18, hq120_18, hf⟩ := obd hf
  refine Lp120 q3 q22_7.1 ((q22_7.2.2 124 (q22_7.1).toNatClampNeg) - 1) (0, (mst q75_12.2 122 (q13).toNatClampNeg 0)) q120_18 hq120_18 ?_
  refine V_ldc C dX10_roundOf_150 rfl w1293 ?_
  refine V_istore C (L' := [(0, .ref (ad 116)), (1, .int p1), (2, .int p2), (3, .int q3), (4, .int q22_7.1), (5, .int ((q22_7.2.2 124 (q22_7.1).toNatClampNeg) - 1)), (6, .int 1000000)]) dX10_roundOf_152 rfl (by decide) hnL [1, 2, 3, 4, 5, 6, 0] rfl ?_
  refine V_iconst C dX10_roundOf_154 rfl (v := 0) rfl ?_
  refine V_istore C (L' := [(0, .ref (ad 116)), (1, .int p1), (2, .int p2), (3, .int q3), (4, .int q22_7.1), (5, .int ((q22_7.2.2 124 (q22_7.1).toNatClampNeg) - 1)), (6, .int 1000000), (7, .int 0)]) dX10_roundOf_155 rfl (by decide) hnL [1, 2, 3, 4, 5, 6, 7, 0] rfl ?_
  obtain ⟨q157_21, hq157_21, hf⟩ := obd hf
  refine Lp157 q3 q22_7.1 ((q22_7.2.2 124 (q22_7.1).toNatClampNeg) - 1) q120_18.2 (1000000, 0) q157_21 hq157_21 ?_
  refine V_iload C 6 dX10_roundOf_190 rfl rfl ?_
  obtain rfl := Option.some.inj hf
  exact K _ _ _ dX10_roundOf_192 rfl rfl
set_option maxHeartbeats 4000000 in
set_option maxRecDepth 100000 in
theorem kX10_isSet {ad : Nat → Nat} {G : Gh} {p1 : Int32} {p2 : Int32} {u : Mem} {q : Int32} (hf : FX10_isSet p1 p2 u = some q) : Ct shs ad G yX10_isSet cX10_isSet 3 (some .boolean) 1 22 [.ref (ad 116), .int p1, .int p2] u (some (.int q)) u := by
  refine Ct_ofI (by decide) (Nat.le_of_ble_eq_true rfl) (fun X C hnL K => ?_)
  have C : Cx ad G X cX10_isSet "CarryFairModel" 1 22 := C
  unfold FX10_isSet at hf
  refine V_iload_n C 1 dX10_isSet_0 rfl rfl rfl ?_
  refine V_iconst C dX10_isSet_1 rfl (v := 0) rfl ?_
  refine V_iconst C dX10_isSet_2 rfl (v := 1) rfl ?_
  refine V_aload_n C 0 dX10_isSet_3 rfl rfl rfl ?_
  refine V_getR C cf10 rfl 0 rfl (by decide) w1082 rfl dX10_isSet_4 rfl ?_
  refine V_bipush C dX10_isSet_7 rfl (v := 43) rfl ?_
  refine V_ildJ C rfl (by decide) (j := 43) (by decide) dX10_isSet_9 rfl ?_
  refine V_jshl C dX10_isSet_10 rfl ?_
  refine V_iconst C dX10_isSet_11 rfl (v := 1) rfl ?_
  refine V_isub C dX10_isSet_12 rfl ?_
  refine V_cSi C (As := [.int p1, .int 0, .int ((jshl 1 (u 117 43)) - 1)]) (st := []) M_X10_within w1180 ⟨by decide, by decide⟩ rfl rfl (Nat.le_of_ble_eq_true rfl) dX10_isSet_13 rfl (kX10_within rfl) ?_
  refine V_if_eq C dX10_isSet_16 (tgt := 31) rfl rfl (fun c3 => ?_) (fun c3 => ?_)
  · replace hf := ipos c3 hf
    refine V_iconst C dX10_isSet_31 rfl (v := 0) rfl ?_
    obtain rfl := Option.some.inj hf
    exact K _ _ _ dX10_isSet_32 rfl (by decide)
  · replace hf := ineg c3 hf
    refine V_iload_n C 1 dX10_isSet_19 rfl rfl rfl ?_
    obtain ⟨q1, hq1, hf⟩ := obd hf
    refine V_cSi C (As := [.int p1]) (st := []) M_X10_bits w1387 ⟨by decide, by decide⟩ rfl rfl (Nat.le_of_ble_eq_true rfl) dX10_isSet_20 rfl (kX10_bits hq1) ?_
    refine V_iload_n C 2 dX10_isSet_23 rfl rfl rfl ?_
    refine V_icmp_gt C dX10_isSet_24 (tgt := 31) rfl rfl (fun c2 => ?_) (fun c2 => ?_)
    · replace hf := ipos c2 hf
      refine V_iconst C dX10_isSet_31 rfl (v := 0) rfl ?_
      obtain rfl := Option.some.inj hf
      exact K _ _ _ dX10_isSet_32 rfl (by decide)
    · replace hf := ineg c2 hf
      refine V_iconst C dX10_isSet_27 rfl (v := 1) rfl ?_
      refine V_goto C dX10_isSet_28 (tgt := 32) rfl ?_
      obtain rfl := Option.some.inj hf
      exact K _ _ _ dX10_isSet_32 rfl (by decide)
set_option maxHeartbeats 4000000 in
set_option maxRecDepth 100000 in
theorem kX10_allLie {ad : Nat → Nat} {G : Gh} {p1 : Int32} {u : Mem} {q : Int32} (hf : FX10_allLie p1 u = some q) : Ct shs ad G yX10_allLie cX10_allLie 2 (some .boolean) 3 66 [.ref (ad 116), .int p1] u (some (.int q)) u := by
  refine Ct_ofI (by decide) (Nat.le_of_ble_eq_true rfl) (fun X C hnL K => ?_)
  have C : Cx ad G X cX10_allLie "CarryFairModel" 3 66 := C
  unfold FX10_allLie at hf
  refine V_iload_n C 1 dX10_allLie_0 rfl rfl rfl ?_
  refine V_aload_n C 0 dX10_allLie_1 rfl rfl rfl ?_
  refine V_iconst C dX10_allLie_2 rfl (v := 0) rfl ?_
  obtain ⟨q1, hq1, hf⟩ := obd hf
  refine V_cVi C (b := 116) (As := [.int 0]) (st := [.int p1]) cf10 rfl M_X10_errandsThat w1367 ⟨by decide, by decide⟩ rfl rfl (Nat.le_of_ble_eq_true rfl) dX10_allLie_3 rfl (kX10_errandsThat hq1) ?_
  refine V_iconst C dX10_allLie_6 rfl (v := (-1)) (by decide) ?_
  refine V_ixor C dX10_allLie_7 rfl ?_
  refine V_iand C dX10_allLie_8 rfl ?_
  refine V_if_ne C dX10_allLie_9 (tgt := 16) rfl rfl (fun c2 => ?_) (fun c2 => ?_)
  · replace hf := ineg c2 hf
    refine V_iconst C dX10_allLie_16 rfl (v := 0) rfl ?_
    obtain rfl := Option.some.inj hf
    exact K _ _ _ dX10_allLie_17 rfl (by decide)
  · replace hf := ipos c2 hf
    refine V_iconst C dX10_allLie_12 rfl (v := 1) rfl ?_
    refine V_goto C dX10_allLie_13 (tgt := 17) rfl ?_
    obtain rfl := Option.some.inj hf
    exact K _ _ _ dX10_allLie_17 rfl (by decide)
set_option maxHeartbeats 4000000 in
set_option maxRecDepth 100000 in
theorem kX10_refuses {ad : Nat → Nat} {G : Gh} {p1 : Int32} {p2 : Int32} {u : Mem} {q : Int32} (hf : FX10_refuses p1 p2 u = some q) : Ct shs ad G yX10_refuses cX10_refuses 3 (some .int) 4 87 [.ref (ad 116), .int p1, .int p2] u (some (.int q)) u := by
  refine Ct_ofI (by decide) (Nat.le_of_ble_eq_true rfl) (fun X C hnL K => ?_)
  have C : Cx ad G X cX10_refuses "CarryFairModel" 4 87 := C
  unfold FX10_refuses at hf
  refine V_aload_n C 0 dX10_refuses_0 rfl rfl rfl ?_
  refine V_iload_n C 1 dX10_refuses_1 rfl rfl rfl ?_
  refine V_cVi C (b := 116) (As := [.int p1]) (st := []) cf10 rfl M_X10_isCarrier w1200 ⟨by decide, by decide⟩ rfl rfl (Nat.le_of_ble_eq_true rfl) dX10_refuses_2 rfl (kX10_isCarrier rfl) ?_
  refine V_if_eq C dX10_refuses_5 (tgt := 17) rfl rfl (fun c7 => ?_) (fun c7 => ?_)
  · replace hf := ipos c7 hf
    refine V_ldc C dX10_refuses_17 rfl w1183 ?_
    refine V_goto C dX10_refuses_19 (tgt := 44) rfl ?_
    obtain rfl := Option.some.inj hf
    exact K _ _ _ dX10_refuses_44 rfl rfl
  · replace hf := ineg c7 hf
    refine V_aload_n C 0 dX10_refuses_8 rfl rfl rfl ?_
    refine V_iload_n C 2 dX10_refuses_9 rfl rfl rfl ?_
    refine V_iconst C dX10_refuses_10 rfl (v := 5) rfl ?_
    obtain ⟨q1, hq1, hf⟩ := obd hf
    refine V_cVi C (b := 116) (As := [.int p2, .int 5]) (st := []) cf10 rfl M_X10_isSet w1383 ⟨by decide, by decide⟩ rfl rfl (Nat.le_of_ble_eq_true rfl) dX10_refuses_11 rfl (kX10_isSet hq1) ?_
    refine V_if_ne C dX10_refuses_14 (tgt := 22) rfl rfl (fun c6 => ?_) (fun c6 => ?_)
    · replace hf := ineg c6 hf
      refine V_aload_n C 0 dX10_refuses_22 rfl rfl rfl ?_
      refine V_iload_n C 2 dX10_refuses_23 rfl rfl rfl ?_
      obtain ⟨q2, hq2, hf⟩ := obd hf
      refine V_cVi C (b := 116) (As := [.int p2]) (st := []) cf10 rfl M_X10_allLie w1390 ⟨by decide, by decide⟩ rfl rfl (Nat.le_of_ble_eq_true rfl) dX10_refuses_24 rfl (kX10_allLie hq2) ?_
      refine V_if_eq C dX10_refuses_27 (tgt := 38) rfl rfl (fun c5 => ?_) (fun c5 => ?_)
      · replace hf := ipos c5 hf
        refine V_ldc C dX10_refuses_38 rfl w1334 ?_
        refine V_goto C dX10_refuses_40 (tgt := 44) rfl ?_
        obtain rfl := Option.some.inj hf
        exact K _ _ _ dX10_refuses_44 rfl rfl
      · replace hf := ineg c5 hf
        refine V_aload_n C 0 dX10_refuses_30 rfl rfl rfl ?_
        refine V_iload_n C 1 dX10_refuses_31 rfl rfl rfl ?_
        obtain ⟨q3, hq3, hf⟩ := obd hf
        refine V_cVi C (b := 116) (As := [.int p1]) (st := []) cf10 rfl M_X10_carries w1218 ⟨by decide, by decide⟩ rfl rfl (Nat.le_of_ble_eq_true rfl) dX10_refuses_32 rfl (kX10_carries hq3) ?_
        refine V_if_eq C dX10_refuses_35 (tgt := 43) rfl rfl (fun c4 => ?_) (fun c4 => ?_)
        · replace hf := ipos c4 hf
          refine V_iconst C dX10_refuses_43 rfl (v := 0) rfl ?_
          obtain rfl := Option.some.inj hf
          exact K _ _ _ dX10_refuses_44 rfl rfl
        · replace hf := ineg c4 hf
          refine V_ldc C dX10_refuses_38 rfl w1334 ?_
          refine V_goto C dX10_refuses_40 (tgt := 44) rfl ?_
          obtain rfl := Option.some.inj hf
          exact K _ _ _ dX10_refuses_44 rfl rfl
    · replace hf := ipos c6 hf
      refine V_ldc C dX10_refuses_17 rfl w1183 ?_
      refine V_goto C dX10_refuses_19 (tgt := 44) rfl ?_
      obtain rfl := Option.some.inj hf
      exact K _ _ _ dX10_refuses_44 rfl rfl
set_option maxHeartbeats 4000000 in
set_option maxRecDepth 100000 in
theorem kX10_told {ad : Nat → Nat} {G : Gh} {p1 : Int32} {u : Mem} {q : Int32 × Mem} (hf : FX10_told p1 u = some q) : Ct shs ad G yX10_told cX10_told 2 (some .int) 1 21 [.ref (ad 116), .int p1] u (some (.int q.1)) q.2 := by
  refine Ct_ofI (by decide) (Nat.le_of_ble_eq_true rfl) (fun X C hnL K => ?_)
  have C : Cx ad G X cX10_told "CarryFairModel" 1 21 := C
  unfold FX10_told at hf
  refine V_iload_n C 1 dX10_told_0 rfl rfl rfl ?_
  refine V_ldc C dX10_told_1 rfl w1293 ?_
  refine V_icmp_lt C dX10_told_3 (tgt := 15) rfl rfl (fun c2 => ?_) (fun c2 => ?_)
  · replace hf := ipos c2 hf
    refine V_iload_n C 1 dX10_told_15 rfl rfl rfl ?_
    obtain rfl := Option.some.inj hf
    exact K _ _ _ dX10_told_16 rfl rfl
  · replace hf := ineg c2 hf
    refine V_aload_n C 0 dX10_told_6 rfl rfl rfl ?_
    refine V_ldc C dX10_told_7 rfl w1298 ?_
    obtain ⟨q1, hq1, hf⟩ := obd hf
    refine V_cVi C (b := 116) (As := [.int (-1000004)]) (st := []) cf10 rfl M_X10_finding w1184 ⟨by decide, by decide⟩ rfl rfl (Nat.le_of_ble_eq_true rfl) dX10_told_9 rfl (kX10_finding hq1) ?_
    refine V_goto C dX10_told_12 (tgt := 16) rfl ?_
    obtain rfl := Option.some.inj hf
    exact K _ _ _ dX10_told_16 rfl rfl
set_option maxHeartbeats 4000000 in
set_option maxRecDepth 100000 in
theorem kX10_round {ad : Nat → Nat} {G : Gh} {p1 : Int32} {p2 : Int32} {u : Mem} {q : Int32 × Mem} (hf : FX10_round p1 p2 u = some q) : Ct shs ad G yX10_round cX10_round 4 (some .int) 5 120 [.ref (ad 116), .int p1, .int p2] u (some (.int q.1)) q.2 := by
  refine Ct_ofI (by decide) (Nat.le_of_ble_eq_true rfl) (fun X C hnL K => ?_)
  have C : Cx ad G X cX10_round "CarryFairModel" 5 120 := C
  unfold FX10_round at hf
  refine V_aload_n C 0 dX10_round_0 rfl rfl rfl ?_
  refine V_iload_n C 1 dX10_round_1 rfl rfl rfl ?_
  refine V_iload_n C 2 dX10_round_2 rfl rfl rfl ?_
  obtain ⟨q1, hq1, hf⟩ := obd hf
  refine V_cVi C (b := 116) (As := [.int p1, .int p2]) (st := []) cf10 rfl M_X10_refuses w1379 ⟨by decide, by decide⟩ rfl rfl (Nat.le_of_ble_eq_true rfl) dX10_round_3 rfl (kX10_refuses hq1) ?_
  refine V_istore_n C (L' := [(0, .ref (ad 116)), (1, .int p1), (2, .int p2), (3, .int q1)]) dX10_round_6 rfl rfl (by decide) hnL [1, 2, 3, 0] rfl ?_
  refine V_iload_n C 3 dX10_round_7 rfl rfl rfl ?_
  refine V_if_eq C dX10_round_8 (tgt := 19) rfl rfl (fun c5 => ?_) (fun c5 => ?_)
  · replace hf := ipos c5 hf
    refine V_aload_n C 0 dX10_round_19 rfl rfl rfl ?_
    refine V_aload_n C 0 dX10_round_20 rfl rfl rfl ?_
    refine V_iload_n C 1 dX10_round_21 rfl rfl rfl ?_
    refine V_iload_n C 2 dX10_round_22 rfl rfl rfl ?_
    obtain ⟨q2, hq2, hf⟩ := obd hf
    refine V_cVi C (b := 116) (As := [.int p1, .int p2]) (st := [.ref (ad 116)]) cf10 rfl M_X10_roundOf w1394 ⟨by decide, by decide⟩ rfl rfl (Nat.le_of_ble_eq_true rfl) dX10_round_23 rfl (kX10_roundOf hq2) ?_
    obtain ⟨q3, hq3, hf⟩ := obd hf
    refine V_cVi C (b := 116) (As := [.int q2.1]) (st := []) cf10 rfl M_X10_told w1414 ⟨by decide, by decide⟩ rfl rfl (Nat.le_of_ble_eq_true rfl) dX10_round_26 rfl (kX10_told hq3) ?_
    obtain rfl := Option.some.inj hf
    exact K _ _ _ dX10_round_29 rfl rfl
  · replace hf := ineg c5 hf
    refine V_aload_n C 0 dX10_round_11 rfl rfl rfl ?_
    refine V_iload_n C 3 dX10_round_12 rfl rfl rfl ?_
    obtain ⟨q4, hq4, hf⟩ := obd hf
    refine V_cVi C (b := 116) (As := [.int q1]) (st := []) cf10 rfl M_X10_finding w1184 ⟨by decide, by decide⟩ rfl rfl (Nat.le_of_ble_eq_true rfl) dX10_round_13 rfl (kX10_finding hq4) ?_
    refine V_goto C dX10_round_16 (tgt := 29) rfl ?_
    obtain rfl := Option.some.inj hf
    exact K _ _ _ dX10_round_29 rfl rfl
set_option maxHeartbeats 4000000 in
set_option maxRecDepth 100000 in
theorem kX10_getsOf {ad : Nat → Nat} {G : Gh} {p1 : Int32} {p2 : Int32} {u : Mem} {q : Int32 × Mem} (hf : FX10_getsOf p1 p2 u = some q) : Ct shs ad G yX10_getsOf cX10_getsOf 6 (some .int) 6 138 [.ref (ad 116), .int p1, .int p2] u (some (.int q.1)) q.2 := by
  refine Ct_ofI (by decide) (Nat.le_of_ble_eq_true rfl) (fun X C hnL K => ?_)
  have C : Cx ad G X cX10_getsOf "CarryFairModel" 6 138 := C
  unfold FX10_getsOf at hf
  have Lp5 : ∀ (x0 : (Int32 × Int32 × Mem)) (q5 : (Nat × Int32 × Int32 × Mem)), lp (BX10_getsOf_5 p1 p2) FU x0 = some q5 → (q5.1 = 0 → V shs ad G X 39 [(0, .ref (ad 116)), (1, .int p1), (2, .int p2), (3, .int q5.2.1), (4, .int q5.2.2.1)] [] q5.2.2.2) → (q5.1 = 1 → V shs ad G X 57 [(0, .ref (ad 116)), (1, .int p1), (2, .int p2), (3, .int q5.2.1), (4, .int q5.2.2.1)] [] q5.2.2.2) → V shs ad G X 5 [(0, .ref (ad 116)), (1, .int p1), (2, .int p2), (3, .int x0.1), (4, .int x0.2.1)] [] x0.2.2 := by
    intro  x0 q5 hq hx5_0 hx5_1
    refine lp_V (BX10_getsOf_5 p1 p2) (fun x5 => V shs ad G X 5 [(0, .ref (ad 116)), (1, .int p1), (2, .int p2), (3, .int x5.1), (4, .int x5.2.1)] [] x5.2.2) q5 (fun rec5 ih5 x5 hf => ?_) FU x0 hq
    unfold BX10_getsOf_5 at hf
    refine V_iload C 4 dX10_getsOf_5 rfl rfl ?_
    refine V_aload_n C 0 dX10_getsOf_7 rfl rfl rfl ?_
    refine V_getR C cf10 rfl 0 rfl (by decide) w1082 rfl dX10_getsOf_8 rfl ?_
    refine V_bipush C dX10_getsOf_11 rfl (v := 43) rfl ?_
    refine V_ildJ C rfl (by decide) (j := 43) (by decide) dX10_getsOf_13 rfl ?_
    refine V_icmp_ge C dX10_getsOf_14 (tgt := 57) rfl rfl (fun c5 => ?_) (fun c5 => ?_)
    · replace hf := ipos c5 hf
      obtain rfl := Option.some.inj hf
      exact hx5_1 rfl
    · replace hf := ineg c5 hf
      refine V_iload_n C 2 dX10_getsOf_17 rfl rfl rfl ?_
      refine V_iload C 4 dX10_getsOf_18 rfl rfl ?_
      refine V_cSi C (As := [.int p2, .int x5.2.1]) (st := []) M_X10_has w1233 ⟨by decide, by decide⟩ rfl rfl (Nat.le_of_ble_eq_true rfl) dX10_getsOf_20 rfl (kX10_has rfl) ?_
      refine V_if_eq C dX10_getsOf_23 (tgt := 51) rfl rfl (fun c4 => ?_) (fun c4 => ?_)
      · replace hf := ipos c4 hf
        refine V_iinc C (v := (x5.2.1 + 1)) (L' := [(0, .ref (ad 116)), (1, .int p1), (2, .int p2), (3, .int x5.1), (4, .int (x5.2.1 + 1))]) 4 dX10_getsOf_51 rfl rfl rfl (by decide) hnL [1, 2, 3, 4, 0] rfl ?_
        refine V_goto C dX10_getsOf_54 (tgt := 5) rfl ?_
        exact ih5 (x5.1, (x5.2.1 + 1), x5.2.2) hf
      · replace hf := ineg c4 hf
        refine V_aload_n C 0 dX10_getsOf_26 rfl rfl rfl ?_
        refine V_iload C 4 dX10_getsOf_27 rfl rfl ?_
        obtain ⟨q1, hq1, hf⟩ := obd hf
        refine V_cVi C (b := 116) (As := [.int x5.2.1]) (st := []) cf10 rfl M_X10_worthOf w1281 ⟨by decide, by decide⟩ rfl rfl (Nat.le_of_ble_eq_true rfl) dX10_getsOf_29 rfl (kX10_worthOf hq1) ?_
        refine V_istore C (L' := [(0, .ref (ad 116)), (1, .int p1), (2, .int p2), (3, .int x5.1), (4, .int x5.2.1), (5, .int q1.1)]) dX10_getsOf_32 rfl (by decide) hnL [1, 2, 3, 4, 5, 0] rfl ?_
        refine V_iload C 5 dX10_getsOf_34 rfl rfl ?_
        refine V_if_ge C dX10_getsOf_36 (tgt := 41) rfl rfl (fun c3 => ?_) (fun c3 => ?_)
        · replace hf := ipos c3 hf
          refine V_iload_n C 3 dX10_getsOf_41 rfl rfl rfl ?_
          refine V_aload_n C 0 dX10_getsOf_42 rfl rfl rfl ?_
          refine V_iload_n C 1 dX10_getsOf_43 rfl rfl rfl ?_
          refine V_iload C 5 dX10_getsOf_44 rfl rfl ?_
          obtain ⟨q2, hq2, hf⟩ := obd hf
          refine V_cVi C (b := 116) (As := [.int p1, .int q1.1]) (st := [.int x5.1]) cf10 rfl M_X10_getsFor w1355 ⟨by decide, by decide⟩ rfl rfl (Nat.le_of_ble_eq_true rfl) dX10_getsOf_46 rfl (kX10_getsFor hq2) ?_
          refine V_iadd C dX10_getsOf_49 rfl ?_
          refine V_istore_n C (L' := [(0, .ref (ad 116)), (1, .int p1), (2, .int p2), (3, .int (x5.1 + q2)), (4, .int x5.2.1), (5, .int q1.1)]) dX10_getsOf_50 rfl rfl (by decide) hnL [1, 2, 3, 0, 4, 5] rfl ?_
          refine V_iinc C (v := (x5.2.1 + 1)) (L' := [(0, .ref (ad 116)), (1, .int p1), (2, .int p2), (3, .int (x5.1 + q2)), (4, .int (x5.2.1 + 1)), (5, .int q1.1)]) 4 dX10_getsOf_51 rfl rfl rfl (by decide) hnL [1, 2, 3, 4, 0, 5] rfl ?_
          refine V_goto C dX10_getsOf_54 (tgt := 5) rfl ?_
          refine V_sub (L' := [(0, .ref (ad 116)), (1, .int p1), (2, .int p2), (3, .int (x5.1 + q2)), (4, .int (x5.2.1 + 1))]) [0, 1, 2, 3, 4] rfl ?_
          exact ih5 ((x5.1 + q2), (x5.2.1 + 1), q1.2) hf
        · replace hf := ineg c3 hf
          refine V_sub (L' := [(0, .ref (ad 116)), (1, .int p1), (2, .int p2), (3, .int x5.1), (4, .int x5.2.1)]) [0, 1, 2, 3, 4] rfl ?_
          obtain rfl := Option.some.inj hf
          exact hx5_0 rfl
  refine V_iconst C dX10_getsOf_0 rfl (v := 0) rfl ?_
  refine V_istore_n C (L' := [(0, .ref (ad 116)), (1, .int p1), (2, .int p2), (3, .int 0)]) dX10_getsOf_1 rfl rfl (by decide) hnL [1, 2, 3, 0] rfl ?_
  refine V_iconst C dX10_getsOf_2 rfl (v := 0) rfl ?_
  refine V_istore C (L' := [(0, .ref (ad 116)), (1, .int p1), (2, .int p2), (3, .int 0), (4, .int 0)]) dX10_getsOf_3 rfl (by decide) hnL [1, 2, 3, 4, 0] rfl ?_
  obtain ⟨q5_6, hq5_6, hf⟩ := obd hf
  refine Lp5  (0, 0, u) q5_6 hq5_6 ?_ ?_
  · intro hk
    replace hf := ipos hk hf
    refine V_iconst C dX10_getsOf_39 rfl (v := (-1)) (by decide) ?_
    obtain rfl := Option.some.inj hf
    exact K _ _ _ dX10_getsOf_40 rfl rfl
  · intro hk
    replace hf := ineg (by rw [hk]; decide) hf
    refine V_iload_n C 3 dX10_getsOf_57 rfl rfl rfl ?_
    obtain rfl := Option.some.inj hf
    exact K _ _ _ dX10_getsOf_58 rfl rfl
set_option maxHeartbeats 4000000 in
set_option maxRecDepth 100000 in
theorem kX10_gets {ad : Nat → Nat} {G : Gh} {p1 : Int32} {p2 : Int32} {u : Mem} {q : Int32 × Mem} (hf : FX10_gets p1 p2 u = some q) : Ct shs ad G yX10_gets cX10_gets 4 (some .int) 7 163 [.ref (ad 116), .int p1, .int p2] u (some (.int q.1)) q.2 := by
  refine Ct_ofI (by decide) (Nat.le_of_ble_eq_true rfl) (fun X C hnL K => ?_)
  have C : Cx ad G X cX10_gets "CarryFairModel" 7 163 := C
  unfold FX10_gets at hf
  refine V_aload_n C 0 dX10_gets_0 rfl rfl rfl ?_
  refine V_iload_n C 1 dX10_gets_1 rfl rfl rfl ?_
  refine V_cVi C (b := 116) (As := [.int p1]) (st := []) cf10 rfl M_X10_isCarrier w1200 ⟨by decide, by decide⟩ rfl rfl (Nat.le_of_ble_eq_true rfl) dX10_gets_2 rfl (kX10_isCarrier rfl) ?_
  refine V_if_eq C dX10_gets_5 (tgt := 17) rfl rfl (fun c8 => ?_) (fun c8 => ?_)
  · replace hf := ipos c8 hf
    refine V_aload_n C 0 dX10_gets_17 rfl rfl rfl ?_
    refine V_ldc C dX10_gets_18 rfl w1183 ?_
    obtain ⟨q1, hq1, hf⟩ := obd hf
    refine V_cVi C (b := 116) (As := [.int (-1000001)]) (st := []) cf10 rfl M_X10_finding w1184 ⟨by decide, by decide⟩ rfl rfl (Nat.le_of_ble_eq_true rfl) dX10_gets_20 rfl (kX10_finding hq1) ?_
    obtain rfl := Option.some.inj hf
    exact K _ _ _ dX10_gets_23 rfl rfl
  · replace hf := ineg c8 hf
    refine V_aload_n C 0 dX10_gets_8 rfl rfl rfl ?_
    refine V_iload_n C 2 dX10_gets_9 rfl rfl rfl ?_
    refine V_iconst C dX10_gets_10 rfl (v := 5) rfl ?_
    obtain ⟨q2, hq2, hf⟩ := obd hf
    refine V_cVi C (b := 116) (As := [.int p2, .int 5]) (st := []) cf10 rfl M_X10_isSet w1383 ⟨by decide, by decide⟩ rfl rfl (Nat.le_of_ble_eq_true rfl) dX10_gets_11 rfl (kX10_isSet hq2) ?_
    refine V_if_ne C dX10_gets_14 (tgt := 24) rfl rfl (fun c7 => ?_) (fun c7 => ?_)
    · replace hf := ineg c7 hf
      refine V_aload_n C 0 dX10_gets_24 rfl rfl rfl ?_
      refine V_iload_n C 1 dX10_gets_25 rfl rfl rfl ?_
      refine V_iload_n C 2 dX10_gets_26 rfl rfl rfl ?_
      obtain ⟨q3, hq3, hf⟩ := obd hf
      refine V_cVi C (b := 116) (As := [.int p1, .int p2]) (st := []) cf10 rfl M_X10_getsOf w1422 ⟨by decide, by decide⟩ rfl rfl (Nat.le_of_ble_eq_true rfl) dX10_gets_27 rfl (kX10_getsOf hq3) ?_
      refine V_istore_n C (L' := [(0, .ref (ad 116)), (1, .int p1), (2, .int p2), (3, .int q3.1)]) dX10_gets_30 rfl rfl (by decide) hnL [1, 2, 3, 0] rfl ?_
      refine V_iload_n C 3 dX10_gets_31 rfl rfl rfl ?_
      refine V_if_ge C dX10_gets_32 (tgt := 44) rfl rfl (fun c5 => ?_) (fun c5 => ?_)
      · replace hf := ipos c5 hf
        refine V_iload_n C 3 dX10_gets_44 rfl rfl rfl ?_
        obtain rfl := Option.some.inj hf
        exact K _ _ _ dX10_gets_45 rfl rfl
      · replace hf := ineg c5 hf
        refine V_aload_n C 0 dX10_gets_35 rfl rfl rfl ?_
        refine V_ldc C dX10_gets_36 rfl w1298 ?_
        obtain ⟨q4, hq4, hf⟩ := obd hf
        refine V_cVi C (b := 116) (As := [.int (-1000004)]) (st := []) cf10 rfl M_X10_finding w1184 ⟨by decide, by decide⟩ rfl rfl (Nat.le_of_ble_eq_true rfl) dX10_gets_38 rfl (kX10_finding hq4) ?_
        refine V_goto C dX10_gets_41 (tgt := 45) rfl ?_
        obtain rfl := Option.some.inj hf
        exact K _ _ _ dX10_gets_45 rfl rfl
    · replace hf := ipos c7 hf
      refine V_aload_n C 0 dX10_gets_17 rfl rfl rfl ?_
      refine V_ldc C dX10_gets_18 rfl w1183 ?_
      obtain ⟨q6, hq6, hf⟩ := obd hf
      refine V_cVi C (b := 116) (As := [.int (-1000001)]) (st := []) cf10 rfl M_X10_finding w1184 ⟨by decide, by decide⟩ rfl rfl (Nat.le_of_ble_eq_true rfl) dX10_gets_20 rfl (kX10_finding hq6) ?_
      obtain rfl := Option.some.inj hf
      exact K _ _ _ dX10_gets_23 rfl rfl
