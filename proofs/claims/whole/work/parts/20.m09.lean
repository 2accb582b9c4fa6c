set_option maxHeartbeats 4000000 in
set_option maxRecDepth 100000 in
theorem kX10_refusesWare {ad : Nat → Nat} {G : Gh} {p1 : Int32} {p2 : Int32} {u : Mem} {q : Int32 × Mem} (hf : FX10_refusesWare p1 p2 u = some q) : Ct shs ad G yX10_refusesWare cX10_refusesWare 8 (some .int) 7 163 [.ref (ad 116), .int p1, .int p2] u (some (.int q.1)) q.2 := by
  refine Ct_ofI (by decide) (Nat.le_of_ble_eq_true rfl) (fun X C hnL K => ?_)
  have C : Cx ad G X cX10_refusesWare "CarryFairModel" 7 163 := C
  unfold FX10_refusesWare at hf
  have Lp58 : ∀ (v3 : Int32) (x0 : (Int32 × Mem)) (q58 : (Int32 × Mem)), lp (BX10_refusesWare_58 p1 p2 v3) FU x0 = some q58 → V shs ad G X 179 [(0, .ref (ad 116)), (1, .int p1), (2, .int p2), (3, .int v3), (4, .int q58.1)] [] q58.2 → V shs ad G X 58 [(0, .ref (ad 116)), (1, .int p1), (2, .int p2), (3, .int v3), (4, .int x0.1)] [] x0.2 := by
    intro v3 x0 q58 hq hx58_0
    refine lp_V (BX10_refusesWare_58 p1 p2 v3) (fun x58 => V shs ad G X 58 [(0, .ref (ad 116)), (1, .int p1), (2, .int p2), (3, .int v3), (4, .int x58.1)] [] x58.2) q58 (fun rec58 ih58 x58 hf => ?_) FU x0 hq
    unfold BX10_refusesWare_58 at hf
    have JX10_refusesWare_131_58 : ∀ (v4 : Int32) (v5 : Int32) (s0 : Int32) (w : Mem), JX10_refusesWare_131_58 p1 p2 v3 v4 v5 s0 w rec58 = some q58 → V shs ad G X 131 [(0, .ref (ad 116)), (1, .int p1), (2, .int p2), (3, .int v3), (4, .int v4), (5, .int v5)] [.int s0] w := by
      intro v4 v5 s0 w hf
      unfold JX10_refusesWare_131_58 at hf
      refine V_istore C (L' := [(0, .ref (ad 116)), (1, .int p1), (2, .int p2), (3, .int v3), (4, .int v4), (5, .int v5), (6, .int s0)]) dX10_refusesWare_131 rfl (by decide) hnL [1, 2, 3, 4, 5, 6, 0] rfl ?_
      refine V_iload C 6 dX10_refusesWare_133 rfl rfl ?_
      refine V_if_eq C dX10_refusesWare_135 (tgt := 148) rfl rfl (fun c9 => ?_) (fun c9 => ?_)
      · replace hf := ipos c9 hf
        refine V_ldc C dX10_refusesWare_148 rfl w1293 ?_
        refine V_istore C (L' := [(0, .ref (ad 116)), (1, .int p1), (2, .int p2), (3, .int v3), (4, .int v4), (5, .int v5), (6, .int s0), (7, .int 1000000)]) dX10_refusesWare_150 rfl (by decide) hnL [1, 2, 3, 4, 5, 6, 7, 0] rfl ?_
        refine V_iload C 7 dX10_refusesWare_152 rfl rfl ?_
        refine V_aload_n C 0 dX10_refusesWare_154 rfl rfl rfl ?_
        refine V_getI C cf10 rfl 11 rfl (by decide) w1093 rfl dX10_refusesWare_155 rfl ?_
        refine V_icmp_ge C dX10_refusesWare_158 (tgt := 173) rfl rfl (fun c6 => ?_) (fun c6 => ?_)
        · replace hf := ipos c6 hf
          refine V_iinc C (v := (v4 + 1)) (L' := [(0, .ref (ad 116)), (1, .int p1), (2, .int p2), (3, .int v3), (4, .int (v4 + 1)), (5, .int v5), (6, .int s0), (7, .int 1000000)]) 4 dX10_refusesWare_173 rfl rfl rfl (by decide) hnL [1, 2, 3, 4, 0, 5, 6, 7] rfl ?_
          refine V_goto C dX10_refusesWare_176 (tgt := 58) rfl ?_
          refine V_sub (L' := [(0, .ref (ad 116)), (1, .int p1), (2, .int p2), (3, .int v3), (4, .int (v4 + 1))]) [0, 1, 2, 3, 4] rfl ?_
          exact ih58 ((v4 + 1), w) hf
        · replace hf := ineg c6 hf
          refine V_aload_n C 0 dX10_refusesWare_161 rfl rfl rfl ?_
          refine V_iload C 7 dX10_refusesWare_162 rfl rfl ?_
          refine V_put C cf10 rfl 11 rfl (by decide) w1093 rfl rfl rfl rfl dX10_refusesWare_164 rfl ?_
          refine V_aload_n C 0 dX10_refusesWare_167 rfl rfl rfl ?_
          refine V_iload C 4 dX10_refusesWare_168 rfl rfl ?_
          refine V_put C cf10 rfl 10 rfl (by decide) w1092 rfl rfl rfl rfl dX10_refusesWare_170 rfl ?_
          refine V_iinc C (v := (v4 + 1)) (L' := [(0, .ref (ad 116)), (1, .int p1), (2, .int p2), (3, .int v3), (4, .int (v4 + 1)), (5, .int v5), (6, .int s0), (7, .int 1000000)]) 4 dX10_refusesWare_173 rfl rfl rfl (by decide) hnL [1, 2, 3, 4, 0, 5, 6, 7] rfl ?_
          refine V_goto C dX10_refusesWare_176 (tgt := 58) rfl ?_
          refine V_sub (L' := [(0, .ref (ad 116)), (1, .int p1), (2, .int p2), (3, .int v3), (4, .int (v4 + 1))]) [0, 1, 2, 3, 4] rfl ?_
          exact ih58 ((v4 + 1), (mst (mst w 116 11 1000000) 116 10 v4)) hf
      · replace hf := ineg c9 hf
        refine V_aload_n C 0 dX10_refusesWare_138 rfl rfl rfl ?_
        refine V_iload_n C 1 dX10_refusesWare_139 rfl rfl rfl ?_
        refine V_iload C 4 dX10_refusesWare_140 rfl rfl ?_
        obtain ⟨q7, hq7, hf⟩ := obd hf
        refine V_cVi C (b := 116) (As := [.int p1, .int v4]) (st := []) cf10 rfl M_X10_roundOf w1394 ⟨by decide, by decide⟩ rfl rfl (Nat.le_of_ble_eq_true rfl) dX10_refusesWare_142 rfl (kX10_roundOf hq7) ?_
        refine V_goto C dX10_refusesWare_145 (tgt := 150) rfl ?_
        refine V_istore C (L' := [(0, .ref (ad 116)), (1, .int p1), (2, .int p2), (3, .int v3), (4, .int v4), (5, .int v5), (6, .int s0), (7, .int q7.1)]) dX10_refusesWare_150 rfl (by decide) hnL [1, 2, 3, 4, 5, 6, 7, 0] rfl ?_
        refine V_iload C 7 dX10_refusesWare_152 rfl rfl ?_
        refine V_aload_n C 0 dX10_refusesWare_154 rfl rfl rfl ?_
        refine V_getI C cf10 rfl 11 rfl (by decide) w1093 rfl dX10_refusesWare_155 rfl ?_
        refine V_icmp_ge C dX10_refusesWare_158 (tgt := 173) rfl rfl (fun c8 => ?_) (fun c8 => ?_)
        · replace hf := ipos c8 hf
          refine V_iinc C (v := (v4 + 1)) (L' := [(0, .ref (ad 116)), (1, .int p1), (2, .int p2), (3, .int v3), (4, .int (v4 + 1)), (5, .int v5), (6, .int s0), (7, .int q7.1)]) 4 dX10_refusesWare_173 rfl rfl rfl (by decide) hnL [1, 2, 3, 4, 0, 5, 6, 7] rfl ?_
          refine V_goto C dX10_refusesWare_176 (tgt := 58) rfl ?_
          refine V_sub (L' := [(0, .ref (ad 116)), (1, .int p1), (2, .int p2), (3, .int v3), (4, .int (v4 + 1))]) [0, 1, 2, 3, 4] rfl ?_
          exact ih58 ((v4 + 1), q7.2) hf
        · replace hf := ineg c8 hf
          refine V_aload_n C 0 dX10_refusesWare_161 rfl rfl rfl ?_
          refine V_iload C 7 dX10_refusesWare_162 rfl rfl ?_
          refine V_put C cf10 rfl 11 rfl (by decide) w1093 rfl rfl rfl rfl dX10_refusesWare_164 rfl ?_
          refine V_aload_n C 0 dX10_refusesWare_167 rfl rfl rfl ?_
          refine V_iload C 4 dX10_refusesWare_168 rfl rfl ?_
          refine V_put C cf10 rfl 10 rfl (by decide) w1092 rfl rfl rfl rfl dX10_refusesWare_170 rfl ?_
          refine V_iinc C (v := (v4 + 1)) (L' := [(0, .ref (ad 116)), (1, .int p1), (2, .int p2), (3, .int v3), (4, .int (v4 + 1)), (5, .int v5), (6, .int s0), (7, .int q7.1)]) 4 dX10_refusesWare_173 rfl rfl rfl (by decide) hnL [1, 2, 3, 4, 0, 5, 6, 7] rfl ?_
          refine V_goto C dX10_refusesWare_176 (tgt := 58) rfl ?_
          refine V_sub (L' := [(0, .ref (ad 116)), (1, .int p1), (2, .int p2), (3, .int v3), (4, .int (v4 + 1))]) [0, 1, 2, 3, 4] rfl ?_
          exact ih58 ((v4 + 1), (mst (mst q7.2 116 11 q7.1) 116 10 v4)) hf
    have JX10_refusesWare_130_58 : ∀ (v4 : Int32) (v5 : Int32) (w : Mem), JX10_refusesWare_130_58 p1 p2 v3 v4 v5 w rec58 = some q58 → V shs ad G X 130 [(0, .ref (ad 116)), (1, .int p1), (2, .int p2), (3, .int v3), (4, .int v4), (5, .int v5)] [] w := by
      intro v4 v5 w hf
      unfold JX10_refusesWare_130_58 at hf
      refine V_iconst C dX10_refusesWare_130 rfl (v := 0) rfl ?_
      exact JX10_refusesWare_131_58 v4 v5 0 w hf
    refine V_iload C 4 dX10_refusesWare_58 rfl rfl ?_
    refine V_iconst C dX10_refusesWare_60 rfl (v := 1) rfl ?_
    refine V_aload_n C 0 dX10_refusesWare_61 rfl rfl rfl ?_
    refine V_getR C cf10 rfl 0 rfl (by decide) w1082 rfl dX10_refusesWare_62 rfl ?_
    refine V_bipush C dX10_refusesWare_65 rfl (v := 43) rfl ?_
    refine V_ildJ C rfl (by decide) (j := 43) (by decide) dX10_refusesWare_67 rfl ?_
    refine V_jshl C dX10_refusesWare_68 rfl ?_
    refine V_icmp_ge C dX10_refusesWare_69 (tgt := 179) rfl rfl (fun c16 => ?_) (fun c16 => ?_)
    · replace hf := ipos c16 hf
      obtain rfl := Option.some.inj hf
      exact hx58_0
    · replace hf := ineg c16 hf
      refine V_iload C 4 dX10_refusesWare_72 rfl rfl ?_
      refine V_iload_n C 3 dX10_refusesWare_74 rfl rfl rfl ?_
      refine V_iconst C dX10_refusesWare_75 rfl (v := (-1)) (by decide) ?_
      refine V_ixor C dX10_refusesWare_76 rfl ?_
      refine V_iand C dX10_refusesWare_77 rfl ?_
      refine V_if_ne C dX10_refusesWare_78 (tgt := 173) rfl rfl (fun c15 => ?_) (fun c15 => ?_)
      · replace hf := ineg c15 hf
        refine V_iinc C (v := (x58.1 + 1)) (L' := [(0, .ref (ad 116)), (1, .int p1), (2, .int p2), (3, .int v3), (4, .int (x58.1 + 1))]) 4 dX10_refusesWare_173 rfl rfl rfl (by decide) hnL [1, 2, 3, 4, 0] rfl ?_
        refine V_goto C dX10_refusesWare_176 (tgt := 58) rfl ?_
        exact ih58 ((x58.1 + 1), x58.2) hf
      · replace hf := ipos c15 hf
        refine V_iload C 4 dX10_refusesWare_81 rfl rfl ?_
        obtain ⟨q4, hq4, hf⟩ := obd hf
        refine V_cSi C (As := [.int x58.1]) (st := []) M_X10_bits w1387 ⟨by decide, by decide⟩ rfl rfl (Nat.le_of_ble_eq_true rfl) dX10_refusesWare_83 rfl (kX10_bits hq4) ?_
        refine V_iconst C dX10_refusesWare_86 rfl (v := 5) rfl ?_
        refine V_icmp_gt C dX10_refusesWare_87 (tgt := 173) rfl rfl (fun c14 => ?_) (fun c14 => ?_)
        · replace hf := ipos c14 hf
          refine V_iinc C (v := (x58.1 + 1)) (L' := [(0, .ref (ad 116)), (1, .int p1), (2, .int p2), (3, .int v3), (4, .int (x58.1 + 1))]) 4 dX10_refusesWare_173 rfl rfl rfl (by decide) hnL [1, 2, 3, 4, 0] rfl ?_
          refine V_goto C dX10_refusesWare_176 (tgt := 58) rfl ?_
          exact ih58 ((x58.1 + 1), x58.2) hf
        · replace hf := ineg c14 hf
          refine V_aload_n C 0 dX10_refusesWare_90 rfl rfl rfl ?_
          refine V_iload_n C 1 dX10_refusesWare_91 rfl rfl rfl ?_
          refine V_iload C 4 dX10_refusesWare_92 rfl rfl ?_
          obtain ⟨q5, hq5, hf⟩ := obd hf
          refine V_cVi C (b := 116) (As := [.int p1, .int x58.1]) (st := []) cf10 rfl M_X10_getsOf w1422 ⟨by decide, by decide⟩ rfl rfl (Nat.le_of_ble_eq_true rfl) dX10_refusesWare_94 rfl (kX10_getsOf hq5) ?_
          refine V_istore C (L' := [(0, .ref (ad 116)), (1, .int p1), (2, .int p2), (3, .int v3), (4, .int x58.1), (5, .int q5.1)]) dX10_refusesWare_97 rfl (by decide) hnL [1, 2, 3, 4, 5, 0] rfl ?_
          refine V_iload C 5 dX10_refusesWare_99 rfl rfl ?_
          refine V_if_lt C dX10_refusesWare_101 (tgt := 130) rfl rfl (fun c13 => ?_) (fun c13 => ?_)
          · replace hf := ipos c13 hf
            exact JX10_refusesWare_130_58 x58.1 q5.1 q5.2 hf
          · replace hf := ineg c13 hf
            refine V_aload_n C 0 dX10_refusesWare_104 rfl rfl rfl ?_
            refine V_iload_n C 1 dX10_refusesWare_105 rfl rfl rfl ?_
            refine V_iconst C dX10_refusesWare_106 rfl (v := 3) rfl ?_
            obtain ⟨q10, hq10, hf⟩ := obd hf
            refine V_cVi C (b := 116) (As := [.int p1, .int 3]) (st := []) cf10 rfl M_X10_cIs w1208 ⟨by decide, by decide⟩ rfl rfl (Nat.le_of_ble_eq_true rfl) dX10_refusesWare_107 rfl (kX10_cIs hq10) ?_
            refine V_iload C 5 dX10_refusesWare_110 rfl rfl ?_
            refine V_iadd C dX10_refusesWare_112 rfl ?_
            refine V_aload_n C 0 dX10_refusesWare_113 rfl rfl rfl ?_
            refine V_getR C cf10 rfl 0 rfl (by decide) w1082 rfl dX10_refusesWare_114 rfl ?_
            refine V_iload_n C 2 dX10_refusesWare_117 rfl rfl rfl ?_
            refine V_iconst C dX10_refusesWare_118 rfl (v := 0) rfl ?_
            refine V_cSi C (As := [.int p2, .int 0]) (st := [.ref (ad 117), .int (q10 + q5.1)]) M_X10_wAt w1307 ⟨by decide, by decide⟩ rfl rfl (Nat.le_of_ble_eq_true rfl) dX10_refusesWare_119 rfl (kX10_wAt rfl) ?_
            obtain ⟨g11, hf⟩ := gd hf
            refine V_ildJ C rfl g11 rfl dX10_refusesWare_122 rfl ?_
            refine V_icmp_lt C dX10_refusesWare_123 (tgt := 130) rfl rfl (fun c12 => ?_) (fun c12 => ?_)
            · replace hf := ipos c12 hf
              exact JX10_refusesWare_130_58 x58.1 q5.1 q5.2 hf
            · replace hf := ineg c12 hf
              refine V_iconst C dX10_refusesWare_126 rfl (v := 1) rfl ?_
              refine V_goto C dX10_refusesWare_127 (tgt := 131) rfl ?_
              exact JX10_refusesWare_131_58 x58.1 q5.1 1 q5.2 hf
  refine V_aload_n C 0 dX10_refusesWare_0 rfl rfl rfl ?_
  refine V_iload_n C 1 dX10_refusesWare_1 rfl rfl rfl ?_
  refine V_cVi C (b := 116) (As := [.int p1]) (st := []) cf10 rfl M_X10_isCarrier w1200 ⟨by decide, by decide⟩ rfl rfl (Nat.le_of_ble_eq_true rfl) dX10_refusesWare_2 rfl (kX10_isCarrier rfl) ?_
  refine V_if_eq C dX10_refusesWare_5 (tgt := 16) rfl rfl (fun c22 => ?_) (fun c22 => ?_)
  · replace hf := ipos c22 hf
    refine V_ldc C dX10_refusesWare_16 rfl w1183 ?_
    obtain rfl := Option.some.inj hf
    exact K _ _ _ dX10_refusesWare_18 rfl rfl
  · replace hf := ineg c22 hf
    refine V_aload_n C 0 dX10_refusesWare_8 rfl rfl rfl ?_
    refine V_iload_n C 2 dX10_refusesWare_9 rfl rfl rfl ?_
    refine V_cVi C (b := 116) (As := [.int p2]) (st := []) cf10 rfl M_X10_isWare w1314 ⟨by decide, by decide⟩ rfl rfl (Nat.le_of_ble_eq_true rfl) dX10_refusesWare_10 rfl (kX10_isWare rfl) ?_
    refine V_if_ne C dX10_refusesWare_13 (tgt := 19) rfl rfl (fun c21 => ?_) (fun c21 => ?_)
    · replace hf := ineg c21 hf
      refine V_aload_n C 0 dX10_refusesWare_19 rfl rfl rfl ?_
      refine V_getR C cf10 rfl 0 rfl (by decide) w1082 rfl dX10_refusesWare_20 rfl ?_
      refine V_iload_n C 2 dX10_refusesWare_23 rfl rfl rfl ?_
      refine V_iconst C dX10_refusesWare_24 rfl (v := 1) rfl ?_
      refine V_cSi C (As := [.int p2, .int 1]) (st := [.ref (ad 117)]) M_X10_wAt w1307 ⟨by decide, by decide⟩ rfl rfl (Nat.le_of_ble_eq_true rfl) dX10_refusesWare_25 rfl (kX10_wAt rfl) ?_
      obtain ⟨g1, hf⟩ := gd hf
      refine V_ildJ C rfl g1 rfl dX10_refusesWare_28 rfl ?_
      refine V_if_ge C dX10_refusesWare_29 (tgt := 40) rfl rfl (fun c20 => ?_) (fun c20 => ?_)
      · replace hf := ipos c20 hf
        refine V_ldc C dX10_refusesWare_40 rfl w1334 ?_
        obtain rfl := Option.some.inj hf
        exact K _ _ _ dX10_refusesWare_42 rfl rfl
      · replace hf := ineg c20 hf
        refine V_aload_n C 0 dX10_refusesWare_32 rfl rfl rfl ?_
        refine V_iload_n C 1 dX10_refusesWare_33 rfl rfl rfl ?_
        obtain ⟨q2, hq2, hf⟩ := obd hf
        refine V_cVi C (b := 116) (As := [.int p1]) (st := []) cf10 rfl M_X10_carries w1218 ⟨by decide, by decide⟩ rfl rfl (Nat.le_of_ble_eq_true rfl) dX10_refusesWare_34 rfl (kX10_carries hq2) ?_
        refine V_if_eq C dX10_refusesWare_37 (tgt := 43) rfl rfl (fun c19 => ?_) (fun c19 => ?_)
        · replace hf := ipos c19 hf
          refine V_aload_n C 0 dX10_refusesWare_43 rfl rfl rfl ?_
          refine V_ldc C dX10_refusesWare_44 rfl w1293 ?_
          refine V_put C cf10 rfl 11 rfl (by decide) w1093 rfl rfl rfl rfl dX10_refusesWare_46 rfl ?_
          refine V_aload_n C 0 dX10_refusesWare_49 rfl rfl rfl ?_
          refine V_iconst C dX10_refusesWare_50 rfl (v := 0) rfl ?_
          obtain ⟨q3, hq3, hf⟩ := obd hf
          refine V_cVi C (b := 116) (As := [.int 0]) (st := []) cf10 rfl M_X10_errandsThat w1367 ⟨by decide, by decide⟩ rfl rfl (Nat.le_of_ble_eq_true rfl) dX10_refusesWare_51 rfl (kX10_errandsThat hq3) ?_
          refine V_istore_n C (L' := [(0, .ref (ad 116)), (1, .int p1), (2, .int p2), (3, .int q3)]) dX10_refusesWare_54 rfl rfl (by decide) hnL [1, 2, 3, 0] rfl ?_
          refine V_iconst C dX10_refusesWare_55 rfl (v := 0) rfl ?_
          refine V_istore C (L' := [(0, .ref (ad 116)), (1, .int p1), (2, .int p2), (3, .int q3), (4, .int 0)]) dX10_refusesWare_56 rfl (by decide) hnL [1, 2, 3, 4, 0] rfl ?_
          obtain ⟨q58_17, hq58_17, hf⟩ := obd hf
          refine Lp58 q3 (0, (mst u 116 11 1000000)) q58_17 hq58_17 ?_
          refine V_aload_n C 0 dX10_refusesWare_179 rfl rfl rfl ?_
          refine V_getI C cf10 rfl 11 rfl (by decide) w1093 rfl dX10_refusesWare_180 rfl ?_
          refine V_ldc C dX10_refusesWare_183 rfl w1293 ?_
          refine V_icmp_lt C dX10_refusesWare_185 (tgt := 193) rfl rfl (fun c18 => ?_) (fun c18 => ?_)
          · replace hf := ipos c18 hf
            refine V_iconst C dX10_refusesWare_193 rfl (v := 0) rfl ?_
            obtain rfl := Option.some.inj hf
            exact K _ _ _ dX10_refusesWare_194 rfl rfl
          · replace hf := ineg c18 hf
            refine V_ldc C dX10_refusesWare_188 rfl w1298 ?_
            refine V_goto C dX10_refusesWare_190 (tgt := 194) rfl ?_
            obtain rfl := Option.some.inj hf
            exact K _ _ _ dX10_refusesWare_194 rfl rfl
        · replace hf := ineg c19 hf
          refine V_ldc C dX10_refusesWare_40 rfl w1334 ?_
          obtain rfl := Option.some.inj hf
          exact K _ _ _ dX10_refusesWare_42 rfl rfl
    · replace hf := ipos c21 hf
      refine V_ldc C dX10_refusesWare_16 rfl w1183 ?_
      obtain rfl := Option.some.inj hf
      exact K _ _ _ dX10_refusesWare_18 rfl rfl
set_option maxHeartbeats 4000000 in
set_option maxRecDepth 100000 in
theorem kX10_cheapest {ad : Nat → Nat} {G : Gh} {p1 : Int32} {p2 : Int32} {u : Mem} {q : Int32 × Mem} (hf : FX10_cheapest p1 p2 u = some q) : Ct shs ad G yX10_cheapest cX10_cheapest 4 (some .int) 8 190 [.ref (ad 116), .int p1, .int p2] u (some (.int q.1)) q.2 := by
  refine Ct_ofI (by decide) (Nat.le_of_ble_eq_true rfl) (fun X C hnL K => ?_)
  have C : Cx ad G X cX10_cheapest "CarryFairModel" 8 190 := C
  unfold FX10_cheapest at hf
  refine V_aload_n C 0 dX10_cheapest_0 rfl rfl rfl ?_
  refine V_iload_n C 1 dX10_cheapest_1 rfl rfl rfl ?_
  refine V_iload_n C 2 dX10_cheapest_2 rfl rfl rfl ?_
  obtain ⟨q1, hq1, hf⟩ := obd hf
  refine V_cVi C (b := 116) (As := [.int p1, .int p2]) (st := []) cf10 rfl M_X10_refusesWare w1430 ⟨by decide, by decide⟩ rfl rfl (Nat.le_of_ble_eq_true rfl) dX10_cheapest_3 rfl (kX10_refusesWare hq1) ?_
  refine V_istore_n C (L' := [(0, .ref (ad 116)), (1, .int p1), (2, .int p2), (3, .int q1.1)]) dX10_cheapest_6 rfl rfl (by decide) hnL [1, 2, 3, 0] rfl ?_
  refine V_iload_n C 3 dX10_cheapest_7 rfl rfl rfl ?_
  refine V_if_eq C dX10_cheapest_8 (tgt := 19) rfl rfl (fun c3 => ?_) (fun c3 => ?_)
  · replace hf := ipos c3 hf
    refine V_aload_n C 0 dX10_cheapest_19 rfl rfl rfl ?_
    refine V_getI C cf10 rfl 11 rfl (by decide) w1093 rfl dX10_cheapest_20 rfl ?_
    obtain rfl := Option.some.inj hf
    exact K _ _ _ dX10_cheapest_23 rfl rfl
  · replace hf := ineg c3 hf
    refine V_aload_n C 0 dX10_cheapest_11 rfl rfl rfl ?_
    refine V_iload_n C 3 dX10_cheapest_12 rfl rfl rfl ?_
    obtain ⟨q2, hq2, hf⟩ := obd hf
    refine V_cVi C (b := 116) (As := [.int q1.1]) (st := []) cf10 rfl M_X10_finding w1184 ⟨by decide, by decide⟩ rfl rfl (Nat.le_of_ble_eq_true rfl) dX10_cheapest_13 rfl (kX10_finding hq2) ?_
    refine V_goto C dX10_cheapest_16 (tgt := 23) rfl ?_
    obtain rfl := Option.some.inj hf
    exact K _ _ _ dX10_cheapest_23 rfl rfl
set_option maxHeartbeats 4000000 in
set_option maxRecDepth 100000 in
theorem kX10_which {ad : Nat → Nat} {G : Gh} {p1 : Int32} {p2 : Int32} {u : Mem} {q : Int32 × Mem} (hf : FX10_which p1 p2 u = some q) : Ct shs ad G yX10_which cX10_which 4 (some .int) 8 190 [.ref (ad 116), .int p1, .int p2] u (some (.int q.1)) q.2 := by
  refine Ct_ofI (by decide) (Nat.le_of_ble_eq_true rfl) (fun X C hnL K => ?_)
  have C : Cx ad G X cX10_which "CarryFairModel" 8 190 := C
  unfold FX10_which at hf
  refine V_aload_n C 0 dX10_which_0 rfl rfl rfl ?_
  refine V_iload_n C 1 dX10_which_1 rfl rfl rfl ?_
  refine V_iload_n C 2 dX10_which_2 rfl rfl rfl ?_
  obtain ⟨q1, hq1, hf⟩ := obd hf
  refine V_cVi C (b := 116) (As := [.int p1, .int p2]) (st := []) cf10 rfl M_X10_refusesWare w1430 ⟨by decide, by decide⟩ rfl rfl (Nat.le_of_ble_eq_true rfl) dX10_which_3 rfl (kX10_refusesWare hq1) ?_
  refine V_istore_n C (L' := [(0, .ref (ad 116)), (1, .int p1), (2, .int p2), (3, .int q1.1)]) dX10_which_6 rfl rfl (by decide) hnL [1, 2, 3, 0] rfl ?_
  refine V_iload_n C 3 dX10_which_7 rfl rfl rfl ?_
  refine V_if_eq C dX10_which_8 (tgt := 19) rfl rfl (fun c3 => ?_) (fun c3 => ?_)
  · replace hf := ipos c3 hf
    refine V_aload_n C 0 dX10_which_19 rfl rfl rfl ?_
    refine V_getI C cf10 rfl 10 rfl (by decide) w1092 rfl dX10_which_20 rfl ?_
    obtain rfl := Option.some.inj hf
    exact K _ _ _ dX10_which_23 rfl rfl
  · replace hf := ineg c3 hf
    refine V_aload_n C 0 dX10_which_11 rfl rfl rfl ?_
    refine V_iload_n C 3 dX10_which_12 rfl rfl rfl ?_
    obtain ⟨q2, hq2, hf⟩ := obd hf
    refine V_cVi C (b := 116) (As := [.int q1.1]) (st := []) cf10 rfl M_X10_finding w1184 ⟨by decide, by decide⟩ rfl rfl (Nat.le_of_ble_eq_true rfl) dX10_which_13 rfl (kX10_finding hq2) ?_
    refine V_goto C dX10_which_16 (tgt := 23) rfl ?_
    obtain rfl := Option.some.inj hf
    exact K _ _ _ dX10_which_23 rfl rfl
set_option maxHeartbeats 4000000 in
set_option maxRecDepth 100000 in
theorem kX10_who {ad : Nat → Nat} {G : Gh} {p1 : Int32} {u : Mem} {q : Int32 × Mem} (hf : FX10_who p1 u = some q) : Ct shs ad G yX10_who cX10_who 6 (some .int) 5 120 [.ref (ad 116), .int p1] u (some (.int q.1)) q.2 := by
  refine Ct_ofI (by decide) (Nat.le_of_ble_eq_true rfl) (fun X C hnL K => ?_)
  have C : Cx ad G X cX10_who "CarryFairModel" 5 120 := C
  unfold FX10_who at hf
  have Lp39 : ∀ (x0 : (Int32 × Int32 × Int32 × Mem)) (q39 : (Int32 × Int32 × Int32 × Mem)), lp (BX10_who_39 p1) FU x0 = some q39 → V shs ad G X 100 [(0, .ref (ad 116)), (1, .int p1), (2, .int q39.1), (3, .int q39.2.1), (4, .int q39.2.2.1)] [] q39.2.2.2 → V shs ad G X 39 [(0, .ref (ad 116)), (1, .int p1), (2, .int x0.1), (3, .int x0.2.1), (4, .int x0.2.2.1)] [] x0.2.2.2 := by
    intro  x0 q39 hq hx39_0
    refine lp_V (BX10_who_39 p1) (fun x39 => V shs ad G X 39 [(0, .ref (ad 116)), (1, .int p1), (2, .int x39.1), (3, .int x39.2.1), (4, .int x39.2.2.1)] [] x39.2.2.2) q39 (fun rec39 ih39 x39 hf => ?_) FU x0 hq
    unfold BX10_who_39 at hf
    have JX10_who_72_39 : ∀ (v2 : Int32) (v3 : Int32) (v4 : Int32) (s0 : Int32) (w : Mem), JX10_who_72_39 p1 v2 v3 v4 s0 w rec39 = some q39 → V shs ad G X 72 [(0, .ref (ad 116)), (1, .int p1), (2, .int v2), (3, .int v3), (4, .int v4)] [.int s0] w := by
      intro v2 v3 v4 s0 w hf
      unfold JX10_who_72_39 at hf
      refine V_istore C (L' := [(0, .ref (ad 116)), (1, .int p1), (2, .int v2), (3, .int v3), (4, .int v4), (5, .int s0)]) dX10_who_72 rfl (by decide) hnL [1, 2, 3, 4, 5, 0] rfl ?_
      refine V_iload C 5 dX10_who_74 rfl rfl ?_
      refine V_iload_n C 3 dX10_who_76 rfl rfl rfl ?_
      refine V_icmp_ge C dX10_who_77 (tgt := 85) rfl rfl (fun c4 => ?_) (fun c4 => ?_)
      · replace hf := ipos c4 hf
        refine V_iload_n C 2 dX10_who_85 rfl rfl rfl ?_
        refine V_istore_n C (L' := [(0, .ref (ad 116)), (1, .int p1), (2, .int v2), (3, .int v3), (4, .int v4), (5, .int s0)]) dX10_who_86 rfl rfl (by decide) hnL [1, 2, 0, 3, 4, 5] rfl ?_
        refine V_iload_n C 3 dX10_who_87 rfl rfl rfl ?_
        refine V_iload C 5 dX10_who_88 rfl rfl ?_
        refine V_mmin C w1259 ⟨by decide, by decide⟩ (Nat.le_of_ble_eq_true rfl) dX10_who_90 rfl ?_
        refine V_istore_n C (L' := [(0, .ref (ad 116)), (1, .int p1), (2, .int v2), (3, .int (jmin v3 s0)), (4, .int v4), (5, .int s0)]) dX10_who_93 rfl rfl (by decide) hnL [1, 2, 3, 0, 4, 5] rfl ?_
        refine V_iinc C (v := (v4 + 1)) (L' := [(0, .ref (ad 116)), (1, .int p1), (2, .int v2), (3, .int (jmin v3 s0)), (4, .int (v4 + 1)), (5, .int s0)]) 4 dX10_who_94 rfl rfl rfl (by decide) hnL [1, 2, 3, 4, 0, 5] rfl ?_
        refine V_goto C dX10_who_97 (tgt := 39) rfl ?_
        refine V_sub (L' := [(0, .ref (ad 116)), (1, .int p1), (2, .int v2), (3, .int (jmin v3 s0)), (4, .int (v4 + 1))]) [0, 1, 2, 3, 4] rfl ?_
        exact ih39 (v2, (jmin v3 s0), (v4 + 1), w) hf
      · replace hf := ineg c4 hf
        refine V_iload C 4 dX10_who_80 rfl rfl ?_
        refine V_goto C dX10_who_82 (tgt := 86) rfl ?_
        refine V_istore_n C (L' := [(0, .ref (ad 116)), (1, .int p1), (2, .int v4), (3, .int v3), (4, .int v4), (5, .int s0)]) dX10_who_86 rfl rfl (by decide) hnL [1, 2, 0, 3, 4, 5] rfl ?_
        refine V_iload_n C 3 dX10_who_87 rfl rfl rfl ?_
        refine V_iload C 5 dX10_who_88 rfl rfl ?_
        refine V_mmin C w1259 ⟨by decide, by decide⟩ (Nat.le_of_ble_eq_true rfl) dX10_who_90 rfl ?_
        refine V_istore_n C (L' := [(0, .ref (ad 116)), (1, .int p1), (2, .int v4), (3, .int (jmin v3 s0)), (4, .int v4), (5, .int s0)]) dX10_who_93 rfl rfl (by decide) hnL [1, 2, 3, 0, 4, 5] rfl ?_
        refine V_iinc C (v := (v4 + 1)) (L' := [(0, .ref (ad 116)), (1, .int p1), (2, .int v4), (3, .int (jmin v3 s0)), (4, .int (v4 + 1)), (5, .int s0)]) 4 dX10_who_94 rfl rfl rfl (by decide) hnL [1, 2, 3, 4, 0, 5] rfl ?_
        refine V_goto C dX10_who_97 (tgt := 39) rfl ?_
        refine V_sub (L' := [(0, .ref (ad 116)), (1, .int p1), (2, .int v4), (3, .int (jmin v3 s0)), (4, .int (v4 + 1))]) [0, 1, 2, 3, 4] rfl ?_
        exact ih39 (v4, (jmin v3 s0), (v4 + 1), w) hf
    refine V_iload C 4 dX10_who_39 rfl rfl ?_
    refine V_aload_n C 0 dX10_who_41 rfl rfl rfl ?_
    refine V_getR C cf10 rfl 0 rfl (by decide) w1082 rfl dX10_who_42 rfl ?_
    refine V_bipush C dX10_who_45 rfl (v := 42) rfl ?_
    refine V_ildJ C rfl (by decide) (j := 42) (by decide) dX10_who_47 rfl ?_
    refine V_icmp_ge C dX10_who_48 (tgt := 100) rfl rfl (fun c7 => ?_) (fun c7 => ?_)
    · replace hf := ipos c7 hf
      obtain rfl := Option.some.inj hf
      exact hx39_0
    · replace hf := ineg c7 hf
      refine V_aload_n C 0 dX10_who_51 rfl rfl rfl ?_
      refine V_iload C 4 dX10_who_52 rfl rfl ?_
      obtain ⟨q3, hq3, hf⟩ := obd hf
      refine V_cVi C (b := 116) (As := [.int x39.2.2.1]) (st := []) cf10 rfl M_X10_carries w1218 ⟨by decide, by decide⟩ rfl rfl (Nat.le_of_ble_eq_true rfl) dX10_who_54 rfl (kX10_carries hq3) ?_
      refine V_if_ne C dX10_who_57 (tgt := 70) rfl rfl (fun c6 => ?_) (fun c6 => ?_)
      · replace hf := ineg c6 hf
        refine V_ldc C dX10_who_70 rfl w1293 ?_
        exact JX10_who_72_39 x39.1 x39.2.1 x39.2.2.1 1000000 x39.2.2.2 hf
      · replace hf := ipos c6 hf
        refine V_aload_n C 0 dX10_who_60 rfl rfl rfl ?_
        refine V_iload C 4 dX10_who_61 rfl rfl ?_
        refine V_iload_n C 1 dX10_who_63 rfl rfl rfl ?_
        obtain ⟨q5, hq5, hf⟩ := obd hf
        refine V_cVi C (b := 116) (As := [.int x39.2.2.1, .int p1]) (st := []) cf10 rfl M_X10_roundOf w1394 ⟨by decide, by decide⟩ rfl rfl (Nat.le_of_ble_eq_true rfl) dX10_who_64 rfl (kX10_roundOf hq5) ?_
        refine V_goto C dX10_who_67 (tgt := 72) rfl ?_
        exact JX10_who_72_39 x39.1 x39.2.1 x39.2.2.1 q5.1 q5.2 hf
  refine V_aload_n C 0 dX10_who_0 rfl rfl rfl ?_
  refine V_iload_n C 1 dX10_who_1 rfl rfl rfl ?_
  refine V_iconst C dX10_who_2 rfl (v := 5) rfl ?_
  obtain ⟨q1, hq1, hf⟩ := obd hf
  refine V_cVi C (b := 116) (As := [.int p1, .int 5]) (st := []) cf10 rfl M_X10_isSet w1383 ⟨by decide, by decide⟩ rfl rfl (Nat.le_of_ble_eq_true rfl) dX10_who_3 rfl (kX10_isSet hq1) ?_
  refine V_if_ne C dX10_who_6 (tgt := 16) rfl rfl (fun c14 => ?_) (fun c14 => ?_)
  · replace hf := ineg c14 hf
    refine V_aload_n C 0 dX10_who_16 rfl rfl rfl ?_
    refine V_iload_n C 1 dX10_who_17 rfl rfl rfl ?_
    obtain ⟨q2, hq2, hf⟩ := obd hf
    refine V_cVi C (b := 116) (As := [.int p1]) (st := []) cf10 rfl M_X10_allLie w1390 ⟨by decide, by decide⟩ rfl rfl (Nat.le_of_ble_eq_true rfl) dX10_who_18 rfl (kX10_allLie hq2) ?_
    refine V_if_ne C dX10_who_21 (tgt := 31) rfl rfl (fun c12 => ?_) (fun c12 => ?_)
    · replace hf := ineg c12 hf
      refine V_iconst C dX10_who_31 rfl (v := (-1)) (by decide) ?_
      refine V_istore_n C (L' := [(0, .ref (ad 116)), (1, .int p1), (2, .int (-1))]) dX10_who_32 rfl rfl (by decide) hnL [1, 2, 0] rfl ?_
      refine V_ldc C dX10_who_33 rfl w1293 ?_
      refine V_istore_n C (L' := [(0, .ref (ad 116)), (1, .int p1), (2, .int (-1)), (3, .int 1000000)]) dX10_who_35 rfl rfl (by decide) hnL [1, 2, 3, 0] rfl ?_
      refine V_iconst C dX10_who_36 rfl (v := 0) rfl ?_
      refine V_istore C (L' := [(0, .ref (ad 116)), (1, .int p1), (2, .int (-1)), (3, .int 1000000), (4, .int 0)]) dX10_who_37 rfl (by decide) hnL [1, 2, 3, 4, 0] rfl ?_
      obtain ⟨q39_8, hq39_8, hf⟩ := obd hf
      refine Lp39  ((-1), 1000000, 0, u) q39_8 hq39_8 ?_
      refine V_iload_n C 2 dX10_who_100 rfl rfl rfl ?_
      refine V_if_ge C dX10_who_101 (tgt := 113) rfl rfl (fun c10 => ?_) (fun c10 => ?_)
      · replace hf := ipos c10 hf
        refine V_iload_n C 2 dX10_who_113 rfl rfl rfl ?_
        obtain rfl := Option.some.inj hf
        exact K _ _ _ dX10_who_114 rfl rfl
      · replace hf := ineg c10 hf
        refine V_aload_n C 0 dX10_who_104 rfl rfl rfl ?_
        refine V_ldc C dX10_who_105 rfl w1298 ?_
        obtain ⟨q9, hq9, hf⟩ := obd hf
        refine V_cVi C (b := 116) (As := [.int (-1000004)]) (st := []) cf10 rfl M_X10_finding w1184 ⟨by decide, by decide⟩ rfl rfl (Nat.le_of_ble_eq_true rfl) dX10_who_107 rfl (kX10_finding hq9) ?_
        refine V_goto C dX10_who_110 (tgt := 114) rfl ?_
        obtain rfl := Option.some.inj hf
        exact K _ _ _ dX10_who_114 rfl rfl
    · replace hf := ipos c12 hf
      refine V_aload_n C 0 dX10_who_24 rfl rfl rfl ?_
      refine V_ldc C dX10_who_25 rfl w1334 ?_
      obtain ⟨q11, hq11, hf⟩ := obd hf
      refine V_cVi C (b := 116) (As := [.int (-1000005)]) (st := []) cf10 rfl M_X10_finding w1184 ⟨by decide, by decide⟩ rfl rfl (Nat.le_of_ble_eq_true rfl) dX10_who_27 rfl (kX10_finding hq11) ?_
      obtain rfl := Option.some.inj hf
      exact K _ _ _ dX10_who_30 rfl rfl
  · replace hf := ipos c14 hf
    refine V_aload_n C 0 dX10_who_9 rfl rfl rfl ?_
    refine V_ldc C dX10_who_10 rfl w1183 ?_
    obtain ⟨q13, hq13, hf⟩ := obd hf
    refine V_cVi C (b := 116) (As := [.int (-1000001)]) (st := []) cf10 rfl M_X10_finding w1184 ⟨by decide, by decide⟩ rfl rfl (Nat.le_of_ble_eq_true rfl) dX10_who_12 rfl (kX10_finding hq13) ?_
    obtain rfl := Option.some.inj hf
    exact K _ _ _ dX10_who_15 rfl rfl
set_option maxHeartbeats 4000000 in
set_option maxRecDepth 100000 in
theorem kX10_joined {ad : Nat → Nat} {G : Gh} {p1 : Int32} {p2 : Int32} {u : Mem} {q : Int32 × Mem} (hf : FX10_joined p1 p2 u = some q) : Ct shs ad G yX10_joined cX10_joined 7 (some .int) 5 120 [.ref (ad 116), .int p1, .int p2] u (some (.int q.1)) q.2 := by
  refine Ct_ofI (by decide) (Nat.le_of_ble_eq_true rfl) (fun X C hnL K => ?_)
  have C : Cx ad G X cX10_joined "CarryFairModel" 5 120 := C
  unfold FX10_joined at hf
  have Lp31 : ∀ (v3 : Int32) (v4 : Int32) (x0 : (Int32 × Int32 × Mem)) (q31 : (Int32 × Int32 × Mem)), lp (BX10_joined_31 p1 p2 v3 v4) FU x0 = some q31 → V shs ad G X 106 [(0, .ref (ad 116)), (1, .int p1), (2, .int p2), (3, .int v3), (4, .int v4), (5, .int q31.1), (6, .int q31.2.1)] [] q31.2.2 → V shs ad G X 31 [(0, .ref (ad 116)), (1, .int p1), (2, .int p2), (3, .int v3), (4, .int v4), (5, .int x0.1), (6, .int x0.2.1)] [] x0.2.2 := by
    intro v3 v4 x0 q31 hq hx31_0
    refine lp_V (BX10_joined_31 p1 p2 v3 v4) (fun x31 => V shs ad G X 31 [(0, .ref (ad 116)), (1, .int p1), (2, .int p2), (3, .int v3), (4, .int v4), (5, .int x31.1), (6, .int x31.2.1)] [] x31.2.2) q31 (fun rec31 ih31 x31 hf => ?_) FU x0 hq
    unfold BX10_joined_31 at hf
    refine V_iload C 6 dX10_joined_31 rfl rfl ?_
    refine V_aload_n C 0 dX10_joined_33 rfl rfl rfl ?_
    refine V_getR C cf10 rfl 0 rfl (by decide) w1082 rfl dX10_joined_34 rfl ?_
    refine V_bipush C dX10_joined_37 rfl (v := 43) rfl ?_
    refine V_ildJ C rfl (by decide) (j := 43) (by decide) dX10_joined_39 rfl ?_
    refine V_icmp_ge C dX10_joined_40 (tgt := 106) rfl rfl (fun c9 => ?_) (fun c9 => ?_)
    · replace hf := ipos c9 hf
      obtain rfl := Option.some.inj hf
      exact hx31_0
    · replace hf := ineg c9 hf
      refine V_iload C 4 dX10_joined_43 rfl rfl ?_
      refine V_ldc C dX10_joined_45 rfl w1293 ?_
      refine V_icmp_ge C dX10_joined_47 (tgt := 106) rfl rfl (fun c8 => ?_) (fun c8 => ?_)
      · replace hf := ipos c8 hf
        obtain rfl := Option.some.inj hf
        exact hx31_0
      · replace hf := ineg c8 hf
        refine V_iload_n C 2 dX10_joined_50 rfl rfl rfl ?_
        refine V_iload C 6 dX10_joined_51 rfl rfl ?_
        refine V_cSi C (As := [.int p2, .int x31.2.1]) (st := []) M_X10_has w1233 ⟨by decide, by decide⟩ rfl rfl (Nat.le_of_ble_eq_true rfl) dX10_joined_53 rfl (kX10_has rfl) ?_
        refine V_if_eq C dX10_joined_56 (tgt := 100) rfl rfl (fun c7 => ?_) (fun c7 => ?_)
        · replace hf := ipos c7 hf
          refine V_iinc C (v := (x31.2.1 + 1)) (L' := [(0, .ref (ad 116)), (1, .int p1), (2, .int p2), (3, .int v3), (4, .int v4), (5, .int x31.1), (6, .int (x31.2.1 + 1))]) 6 dX10_joined_100 rfl rfl rfl (by decide) hnL [1, 2, 3, 4, 5, 6, 0] rfl ?_
          refine V_goto C dX10_joined_103 (tgt := 31) rfl ?_
          exact ih31 (x31.1, (x31.2.1 + 1), x31.2.2) hf
        · replace hf := ineg c7 hf
          refine V_iload C 5 dX10_joined_59 rfl rfl ?_
          refine V_aload_n C 0 dX10_joined_61 rfl rfl rfl ?_
          refine V_iload_n C 1 dX10_joined_62 rfl rfl rfl ?_
          refine V_iconst C dX10_joined_63 rfl (v := 1) rfl ?_
          refine V_iload C 6 dX10_joined_64 rfl rfl ?_
          refine V_jshl C dX10_joined_66 rfl ?_
          obtain ⟨q3, hq3, hf⟩ := obd hf
          refine V_cVi C (b := 116) (As := [.int p1, .int (jshl 1 x31.2.1)]) (st := [.int x31.1]) cf10 rfl M_X10_roundOf w1394 ⟨by decide, by decide⟩ rfl rfl (Nat.le_of_ble_eq_true rfl) dX10_joined_67 rfl (kX10_roundOf hq3) ?_
          refine V_iadd C dX10_joined_70 rfl ?_
          refine V_istore C (L' := [(0, .ref (ad 116)), (1, .int p1), (2, .int p2), (3, .int v3), (4, .int v4), (5, .int (x31.1 + q3.1)), (6, .int x31.2.1)]) dX10_joined_71 rfl (by decide) hnL [1, 2, 3, 4, 5, 0, 6] rfl ?_
          refine V_iload C 5 dX10_joined_73 rfl rfl ?_
          refine V_aload_n C 0 dX10_joined_75 rfl rfl rfl ?_
          refine V_getR C cf10 rfl 5 rfl (by decide) w1087 rfl dX10_joined_76 rfl ?_
          refine V_bipush C dX10_joined_79 rfl (v := 7) rfl ?_
          refine V_aload_n C 0 dX10_joined_81 rfl rfl rfl ?_
          refine V_iload C 6 dX10_joined_82 rfl rfl ?_
          refine V_iconst C dX10_joined_84 rfl (v := 2) rfl ?_
          obtain ⟨q4, hq4, hf⟩ := obd hf
          refine V_cVi C (b := 116) (As := [.int x31.2.1, .int 2]) (st := [.int 7, .ref (ad 121), .int (x31.1 + q3.1)]) cf10 rfl M_X10_eIs w1222 ⟨by decide, by decide⟩ rfl rfl (Nat.le_of_ble_eq_true rfl) dX10_joined_85 rfl (kX10_eIs hq4) ?_
          refine V_imul C dX10_joined_88 rfl ?_
          refine V_aload_n C 0 dX10_joined_89 rfl rfl rfl ?_
          refine V_iload_n C 1 dX10_joined_90 rfl rfl rfl ?_
          refine V_iconst C dX10_joined_91 rfl (v := 1) rfl ?_
          obtain ⟨q5, hq5, hf⟩ := obd hf
          refine V_cVi C (b := 116) (As := [.int p1, .int 1]) (st := [.int (7 * q4), .ref (ad 121), .int (x31.1 + q3.1)]) cf10 rfl M_X10_cIs w1208 ⟨by decide, by decide⟩ rfl rfl (Nat.le_of_ble_eq_true rfl) dX10_joined_92 rfl (kX10_cIs hq5) ?_
          refine V_iadd C dX10_joined_95 rfl ?_
          obtain ⟨g6, hf⟩ := gd hf
          refine V_ildJ C rfl g6 rfl dX10_joined_96 rfl ?_
          refine V_iadd C dX10_joined_97 rfl ?_
          refine V_istore C (L' := [(0, .ref (ad 116)), (1, .int p1), (2, .int p2), (3, .int v3), (4, .int v4), (5, .int ((x31.1 + q3.1) + (q3.2 121 ((7 * q4) + q5).toNatClampNeg))), (6, .int x31.2.1)]) dX10_joined_98 rfl (by decide) hnL [1, 2, 3, 4, 5, 0, 6] rfl ?_
          refine V_iinc C (v := (x31.2.1 + 1)) (L' := [(0, .ref (ad 116)), (1, .int p1), (2, .int p2), (3, .int v3), (4, .int v4), (5, .int ((x31.1 + q3.1) + (q3.2 121 ((7 * q4) + q5).toNatClampNeg))), (6, .int (x31.2.1 + 1))]) 6 dX10_joined_100 rfl rfl rfl (by decide) hnL [1, 2, 3, 4, 5, 6, 0] rfl ?_
          refine V_goto C dX10_joined_103 (tgt := 31) rfl ?_
          exact ih31 (((x31.1 + q3.1) + (q3.2 121 ((7 * q4) + q5).toNatClampNeg)), (x31.2.1 + 1), q3.2) hf
  refine V_aload_n C 0 dX10_joined_0 rfl rfl rfl ?_
  refine V_iload_n C 1 dX10_joined_1 rfl rfl rfl ?_
  refine V_iload_n C 2 dX10_joined_2 rfl rfl rfl ?_
  obtain ⟨q1, hq1, hf⟩ := obd hf
  refine V_cVi C (b := 116) (As := [.int p1, .int p2]) (st := []) cf10 rfl M_X10_refuses w1379 ⟨by decide, by decide⟩ rfl rfl (Nat.le_of_ble_eq_true rfl) dX10_joined_3 rfl (kX10_refuses hq1) ?_
  refine V_istore_n C (L' := [(0, .ref (ad 116)), (1, .int p1), (2, .int p2), (3, .int q1)]) dX10_joined_6 rfl rfl (by decide) hnL [1, 2, 3, 0] rfl ?_
  refine V_iload_n C 3 dX10_joined_7 rfl rfl rfl ?_
  refine V_if_eq C dX10_joined_8 (tgt := 17) rfl rfl (fun c14 => ?_) (fun c14 => ?_)
  · replace hf := ipos c14 hf
    refine V_aload_n C 0 dX10_joined_17 rfl rfl rfl ?_
    refine V_iload_n C 1 dX10_joined_18 rfl rfl rfl ?_
    refine V_iload_n C 2 dX10_joined_19 rfl rfl rfl ?_
    obtain ⟨q2, hq2, hf⟩ := obd hf
    refine V_cVi C (b := 116) (As := [.int p1, .int p2]) (st := []) cf10 rfl M_X10_roundOf w1394 ⟨by decide, by decide⟩ rfl rfl (Nat.le_of_ble_eq_true rfl) dX10_joined_20 rfl (kX10_roundOf hq2) ?_
    refine V_istore C (L' := [(0, .ref (ad 116)), (1, .int p1), (2, .int p2), (3, .int q1), (4, .int q2.1)]) dX10_joined_23 rfl (by decide) hnL [1, 2, 3, 4, 0] rfl ?_
    refine V_iconst C dX10_joined_25 rfl (v := 0) rfl ?_
    refine V_istore C (L' := [(0, .ref (ad 116)), (1, .int p1), (2, .int p2), (3, .int q1), (4, .int q2.1), (5, .int 0)]) dX10_joined_26 rfl (by decide) hnL [1, 2, 3, 4, 5, 0] rfl ?_
    refine V_iconst C dX10_joined_28 rfl (v := 0) rfl ?_
    refine V_istore C (L' := [(0, .ref (ad 116)), (1, .int p1), (2, .int p2), (3, .int q1), (4, .int q2.1), (5, .int 0), (6, .int 0)]) dX10_joined_29 rfl (by decide) hnL [1, 2, 3, 4, 5, 6, 0] rfl ?_
    obtain ⟨q31_10, hq31_10, hf⟩ := obd hf
    refine Lp31 q1 q2.1 (0, 0, q2.2) q31_10 hq31_10 ?_
    refine V_iload C 4 dX10_joined_106 rfl rfl ?_
    refine V_ldc C dX10_joined_108 rfl w1293 ?_
    refine V_icmp_lt C dX10_joined_110 (tgt := 122) rfl rfl (fun c12 => ?_) (fun c12 => ?_)
    · replace hf := ipos c12 hf
      refine V_iload C 5 dX10_joined_122 rfl rfl ?_
      refine V_iload C 4 dX10_joined_124 rfl rfl ?_
      refine V_isub C dX10_joined_126 rfl ?_
      obtain rfl := Option.some.inj hf
      exact K _ _ _ dX10_joined_127 rfl rfl
    · replace hf := ineg c12 hf
      refine V_aload_n C 0 dX10_joined_113 rfl rfl rfl ?_
      refine V_ldc C dX10_joined_114 rfl w1298 ?_
      obtain ⟨q11, hq11, hf⟩ := obd hf
      refine V_cVi C (b := 116) (As := [.int (-1000004)]) (st := []) cf10 rfl M_X10_finding w1184 ⟨by decide, by decide⟩ rfl rfl (Nat.le_of_ble_eq_true rfl) dX10_joined_116 rfl (kX10_finding hq11) ?_
      refine V_goto C dX10_joined_119 (tgt := 127) rfl ?_
      obtain rfl := Option.some.inj hf
      exact K _ _ _ dX10_joined_127 rfl rfl
  · replace hf := ineg c14 hf
    refine V_aload_n C 0 dX10_joined_11 rfl rfl rfl ?_
    refine V_iload_n C 3 dX10_joined_12 rfl rfl rfl ?_
    obtain ⟨q13, hq13, hf⟩ := obd hf
    refine V_cVi C (b := 116) (As := [.int q1]) (st := []) cf10 rfl M_X10_finding w1184 ⟨by decide, by decide⟩ rfl rfl (Nat.le_of_ble_eq_true rfl) dX10_joined_13 rfl (kX10_finding hq13) ?_
    obtain rfl := Option.some.inj hf
    exact K _ _ _ dX10_joined_16 rfl rfl
set_option maxHeartbeats 4000000 in
set_option maxRecDepth 100000 in
theorem kX10_refusesShared {ad : Nat → Nat} {G : Gh} {p1 : Int32} {p2 : Int32} {p3 : Int32} {u : Mem} {q : Int32 × Mem} (hf : FX10_refusesShared p1 p2 p3 u = some q) : Ct shs ad G yX10_refusesShared cX10_refusesShared 6 (some .int) 5 120 [.ref (ad 116), .int p1, .int p2, .int p3] u (some (.int q.1)) q.2 := by
  refine Ct_ofI (by decide) (Nat.le_of_ble_eq_true rfl) (fun X C hnL K => ?_)
  have C : Cx ad G X cX10_refusesShared "CarryFairModel" 5 120 := C
  unfold FX10_refusesShared at hf
  have Lp69 : ∀ (x0 : (Int32 × Mem)) (q69 : (Int32 × Mem)), lp (BX10_refusesShared_69 p1 p2 p3) FU x0 = some q69 → V shs ad G X 136 [(0, .ref (ad 116)), (1, .int p1), (2, .int p2), (3, .int p3), (4, .int q69.1)] [] q69.2 → V shs ad G X 69 [(0, .ref (ad 116)), (1, .int p1), (2, .int p2), (3, .int p3), (4, .int x0.1)] [] x0.2 := by
    intro  x0 q69 hq hx69_0
    refine lp_V (BX10_refusesShared_69 p1 p2 p3) (fun x69 => V shs ad G X 69 [(0, .ref (ad 116)), (1, .int p1), (2, .int p2), (3, .int p3), (4, .int x69.1)] [] x69.2) q69 (fun rec69 ih69 x69 hf => ?_) FU x0 hq
    unfold BX10_refusesShared_69 at hf
    refine V_iload C 4 dX10_refusesShared_69 rfl rfl ?_
    refine V_iload_n C 3 dX10_refusesShared_71 rfl rfl rfl ?_
    refine V_icmp_gt C dX10_refusesShared_72 (tgt := 136) rfl rfl (fun c9 => ?_) (fun c9 => ?_)
    · replace hf := ipos c9 hf
      obtain rfl := Option.some.inj hf
      exact hx69_0
    · replace hf := ineg c9 hf
      refine V_iload C 4 dX10_refusesShared_75 rfl rfl ?_
      refine V_iload_n C 3 dX10_refusesShared_77 rfl rfl rfl ?_
      refine V_iconst C dX10_refusesShared_78 rfl (v := (-1)) (by decide) ?_
      refine V_ixor C dX10_refusesShared_79 rfl ?_
      refine V_iand C dX10_refusesShared_80 rfl ?_
      refine V_if_ne C dX10_refusesShared_81 (tgt := 130) rfl rfl (fun c8 => ?_) (fun c8 => ?_)
      · replace hf := ineg c8 hf
        refine V_iinc C (v := (x69.1 + 1)) (L' := [(0, .ref (ad 116)), (1, .int p1), (2, .int p2), (3, .int p3), (4, .int (x69.1 + 1))]) 4 dX10_refusesShared_130 rfl rfl rfl (by decide) hnL [1, 2, 3, 4, 0] rfl ?_
        refine V_goto C dX10_refusesShared_133 (tgt := 69) rfl ?_
        exact ih69 ((x69.1 + 1), x69.2) hf
      · replace hf := ipos c8 hf
        refine V_aload_n C 0 dX10_refusesShared_84 rfl rfl rfl ?_
        refine V_iload_n C 1 dX10_refusesShared_85 rfl rfl rfl ?_
        refine V_iload C 4 dX10_refusesShared_86 rfl rfl ?_
        obtain ⟨q5, hq5, hf⟩ := obd hf
        refine V_cVi C (b := 116) (As := [.int p1, .int x69.1]) (st := []) cf10 rfl M_X10_roundOf w1394 ⟨by decide, by decide⟩ rfl rfl (Nat.le_of_ble_eq_true rfl) dX10_refusesShared_88 rfl (kX10_roundOf hq5) ?_
        refine V_istore C (L' := [(0, .ref (ad 116)), (1, .int p1), (2, .int p2), (3, .int p3), (4, .int x69.1), (5, .int q5.1)]) dX10_refusesShared_91 rfl (by decide) hnL [1, 2, 3, 4, 5, 0] rfl ?_
        refine V_iload C 5 dX10_refusesShared_93 rfl rfl ?_
        refine V_aload_n C 0 dX10_refusesShared_95 rfl rfl rfl ?_
        refine V_iload_n C 2 dX10_refusesShared_96 rfl rfl rfl ?_
        refine V_iload_n C 3 dX10_refusesShared_97 rfl rfl rfl ?_
        refine V_iload C 4 dX10_refusesShared_98 rfl rfl ?_
        refine V_iconst C dX10_refusesShared_100 rfl (v := (-1)) (by decide) ?_
        refine V_ixor C dX10_refusesShared_101 rfl ?_
        refine V_iand C dX10_refusesShared_102 rfl ?_
        obtain ⟨q6, hq6, hf⟩ := obd hf
        refine V_cVi C (b := 116) (As := [.int p2, .int (p3 &&& (x69.1 ^^^ (-1)))]) (st := [.int q5.1]) cf10 rfl M_X10_roundOf w1394 ⟨by decide, by decide⟩ rfl rfl (Nat.le_of_ble_eq_true rfl) dX10_refusesShared_103 rfl (kX10_roundOf hq6) ?_
        refine V_iadd C dX10_refusesShared_106 rfl ?_
        refine V_istore C (L' := [(0, .ref (ad 116)), (1, .int p1), (2, .int p2), (3, .int p3), (4, .int x69.1), (5, .int (q5.1 + q6.1))]) dX10_refusesShared_107 rfl (by decide) hnL [1, 2, 3, 4, 5, 0] rfl ?_
        refine V_iload C 5 dX10_refusesShared_109 rfl rfl ?_
        refine V_aload_n C 0 dX10_refusesShared_111 rfl rfl rfl ?_
        refine V_getI C cf10 rfl 11 rfl (by decide) w1093 rfl dX10_refusesShared_112 rfl ?_
        refine V_icmp_ge C dX10_refusesShared_115 (tgt := 130) rfl rfl (fun c7 => ?_) (fun c7 => ?_)
        · replace hf := ipos c7 hf
          refine V_iinc C (v := (x69.1 + 1)) (L' := [(0, .ref (ad 116)), (1, .int p1), (2, .int p2), (3, .int p3), (4, .int (x69.1 + 1)), (5, .int (q5.1 + q6.1))]) 4 dX10_refusesShared_130 rfl rfl rfl (by decide) hnL [1, 2, 3, 4, 0, 5] rfl ?_
          refine V_goto C dX10_refusesShared_133 (tgt := 69) rfl ?_
          refine V_sub (L' := [(0, .ref (ad 116)), (1, .int p1), (2, .int p2), (3, .int p3), (4, .int (x69.1 + 1))]) [0, 1, 2, 3, 4] rfl ?_
          exact ih69 ((x69.1 + 1), q6.2) hf
        · replace hf := ineg c7 hf
          refine V_aload_n C 0 dX10_refusesShared_118 rfl rfl rfl ?_
          refine V_iload C 5 dX10_refusesShared_119 rfl rfl ?_
          refine V_put C cf10 rfl 11 rfl (by decide) w1093 rfl rfl rfl rfl dX10_refusesShared_121 rfl ?_
          refine V_aload_n C 0 dX10_refusesShared_124 rfl rfl rfl ?_
          refine V_iload C 4 dX10_refusesShared_125 rfl rfl ?_
          refine V_put C cf10 rfl 10 rfl (by decide) w1092 rfl rfl rfl rfl dX10_refusesShared_127 rfl ?_
          refine V_iinc C (v := (x69.1 + 1)) (L' := [(0, .ref (ad 116)), (1, .int p1), (2, .int p2), (3, .int p3), (4, .int (x69.1 + 1)), (5, .int (q5.1 + q6.1))]) 4 dX10_refusesShared_130 rfl rfl rfl (by decide) hnL [1, 2, 3, 4, 0, 5] rfl ?_
          refine V_goto C dX10_refusesShared_133 (tgt := 69) rfl ?_
          refine V_sub (L' := [(0, .ref (ad 116)), (1, .int p1), (2, .int p2), (3, .int p3), (4, .int (x69.1 + 1))]) [0, 1, 2, 3, 4] rfl ?_
          exact ih69 ((x69.1 + 1), (mst (mst q6.2 116 11 (q5.1 + q6.1)) 116 10 x69.1)) hf
  refine V_aload_n C 0 dX10_refusesShared_0 rfl rfl rfl ?_
  refine V_iload_n C 1 dX10_refusesShared_1 rfl rfl rfl ?_
  refine V_cVi C (b := 116) (As := [.int p1]) (st := []) cf10 rfl M_X10_isCarrier w1200 ⟨by decide, by decide⟩ rfl rfl (Nat.le_of_ble_eq_true rfl) dX10_refusesShared_2 rfl (kX10_isCarrier rfl) ?_
  refine V_if_eq C dX10_refusesShared_5 (tgt := 30) rfl rfl (fun c18 => ?_) (fun c18 => ?_)
  · replace hf := ipos c18 hf
    refine V_ldc C dX10_refusesShared_30 rfl w1183 ?_
    obtain rfl := Option.some.inj hf
    exact K _ _ _ dX10_refusesShared_32 rfl rfl
  · replace hf := ineg c18 hf
    refine V_aload_n C 0 dX10_refusesShared_8 rfl rfl rfl ?_
    refine V_iload_n C 2 dX10_refusesShared_9 rfl rfl rfl ?_
    refine V_cVi C (b := 116) (As := [.int p2]) (st := []) cf10 rfl M_X10_isCarrier w1200 ⟨by decide, by decide⟩ rfl rfl (Nat.le_of_ble_eq_true rfl) dX10_refusesShared_10 rfl (kX10_isCarrier rfl) ?_
    refine V_if_eq C dX10_refusesShared_13 (tgt := 30) rfl rfl (fun c17 => ?_) (fun c17 => ?_)
    · replace hf := ipos c17 hf
      refine V_ldc C dX10_refusesShared_30 rfl w1183 ?_
      obtain rfl := Option.some.inj hf
      exact K _ _ _ dX10_refusesShared_32 rfl rfl
    · replace hf := ineg c17 hf
      refine V_iload_n C 1 dX10_refusesShared_16 rfl rfl rfl ?_
      refine V_iload_n C 2 dX10_refusesShared_17 rfl rfl rfl ?_
      refine V_icmp_eq C dX10_refusesShared_18 (tgt := 30) rfl rfl (fun c16 => ?_) (fun c16 => ?_)
      · replace hf := ipos c16 hf
        refine V_ldc C dX10_refusesShared_30 rfl w1183 ?_
        obtain rfl := Option.some.inj hf
        exact K _ _ _ dX10_refusesShared_32 rfl rfl
      · replace hf := ineg c16 hf
        refine V_aload_n C 0 dX10_refusesShared_21 rfl rfl rfl ?_
        refine V_iload_n C 3 dX10_refusesShared_22 rfl rfl rfl ?_
        refine V_iconst C dX10_refusesShared_23 rfl (v := 5) rfl ?_
        obtain ⟨q1, hq1, hf⟩ := obd hf
        refine V_cVi C (b := 116) (As := [.int p3, .int 5]) (st := []) cf10 rfl M_X10_isSet w1383 ⟨by decide, by decide⟩ rfl rfl (Nat.le_of_ble_eq_true rfl) dX10_refusesShared_24 rfl (kX10_isSet hq1) ?_
        refine V_if_ne C dX10_refusesShared_27 (tgt := 33) rfl rfl (fun c15 => ?_) (fun c15 => ?_)
        · replace hf := ineg c15 hf
          refine V_aload_n C 0 dX10_refusesShared_33 rfl rfl rfl ?_
          refine V_iload_n C 3 dX10_refusesShared_34 rfl rfl rfl ?_
          obtain ⟨q2, hq2, hf⟩ := obd hf
          refine V_cVi C (b := 116) (As := [.int p3]) (st := []) cf10 rfl M_X10_allLie w1390 ⟨by decide, by decide⟩ rfl rfl (Nat.le_of_ble_eq_true rfl) dX10_refusesShared_35 rfl (kX10_allLie hq2) ?_
          refine V_if_eq C dX10_refusesShared_38 (tgt := 57) rfl rfl (fun c14 => ?_) (fun c14 => ?_)
          · replace hf := ipos c14 hf
            refine V_ldc C dX10_refusesShared_57 rfl w1334 ?_
            obtain rfl := Option.some.inj hf
            exact K _ _ _ dX10_refusesShared_59 rfl rfl
          · replace hf := ineg c14 hf
            refine V_aload_n C 0 dX10_refusesShared_41 rfl rfl rfl ?_
            refine V_iload_n C 1 dX10_refusesShared_42 rfl rfl rfl ?_
            obtain ⟨q3, hq3, hf⟩ := obd hf
            refine V_cVi C (b := 116) (As := [.int p1]) (st := []) cf10 rfl M_X10_carries w1218 ⟨by decide, by decide⟩ rfl rfl (Nat.le_of_ble_eq_true rfl) dX10_refusesShared_43 rfl (kX10_carries hq3) ?_
            refine V_if_ne C dX10_refusesShared_46 (tgt := 57) rfl rfl (fun c13 => ?_) (fun c13 => ?_)
            · replace hf := ineg c13 hf
              refine V_ldc C dX10_refusesShared_57 rfl w1334 ?_
              obtain rfl := Option.some.inj hf
              exact K _ _ _ dX10_refusesShared_59 rfl rfl
            · replace hf := ipos c13 hf
              refine V_aload_n C 0 dX10_refusesShared_49 rfl rfl rfl ?_
              refine V_iload_n C 2 dX10_refusesShared_50 rfl rfl rfl ?_
              obtain ⟨q4, hq4, hf⟩ := obd hf
              refine V_cVi C (b := 116) (As := [.int p2]) (st := []) cf10 rfl M_X10_carries w1218 ⟨by decide, by decide⟩ rfl rfl (Nat.le_of_ble_eq_true rfl) dX10_refusesShared_51 rfl (kX10_carries hq4) ?_
              refine V_if_eq C dX10_refusesShared_54 (tgt := 60) rfl rfl (fun c12 => ?_) (fun c12 => ?_)
              · replace hf := ipos c12 hf
                refine V_aload_n C 0 dX10_refusesShared_60 rfl rfl rfl ?_
                refine V_ldc C dX10_refusesShared_61 rfl w1293 ?_
                refine V_put C cf10 rfl 11 rfl (by decide) w1093 rfl rfl rfl rfl dX10_refusesShared_63 rfl ?_
                refine V_iconst C dX10_refusesShared_66 rfl (v := 0) rfl ?_
                refine V_istore C (L' := [(0, .ref (ad 116)), (1, .int p1), (2, .int p2), (3, .int p3), (4, .int 0)]) dX10_refusesShared_67 rfl (by decide) hnL [1, 2, 3, 4, 0] rfl ?_
                obtain ⟨q69_10, hq69_10, hf⟩ := obd hf
                refine Lp69  (0, (mst u 116 11 1000000)) q69_10 hq69_10 ?_
                refine V_aload_n C 0 dX10_refusesShared_136 rfl rfl rfl ?_
                refine V_getI C cf10 rfl 11 rfl (by decide) w1093 rfl dX10_refusesShared_137 rfl ?_
                refine V_ldc C dX10_refusesShared_140 rfl w1293 ?_
                refine V_icmp_lt C dX10_refusesShared_142 (tgt := 150) rfl rfl (fun c11 => ?_) (fun c11 => ?_)
                · replace hf := ipos c11 hf
                  refine V_iconst C dX10_refusesShared_150 rfl (v := 0) rfl ?_
                  obtain rfl := Option.some.inj hf
                  exact K _ _ _ dX10_refusesShared_151 rfl rfl
                · replace hf := ineg c11 hf
                  refine V_ldc C dX10_refusesShared_145 rfl w1298 ?_
                  refine V_goto C dX10_refusesShared_147 (tgt := 151) rfl ?_
                  obtain rfl := Option.some.inj hf
                  exact K _ _ _ dX10_refusesShared_151 rfl rfl
              · replace hf := ineg c12 hf
                refine V_ldc C dX10_refusesShared_57 rfl w1334 ?_
                obtain rfl := Option.some.inj hf
                exact K _ _ _ dX10_refusesShared_59 rfl rfl
        · replace hf := ipos c15 hf
          refine V_ldc C dX10_refusesShared_30 rfl w1183 ?_
          obtain rfl := Option.some.inj hf
          exact K _ _ _ dX10_refusesShared_32 rfl rfl
set_option maxHeartbeats 4000000 in
set_option maxRecDepth 100000 in
theorem kX10_shared {ad : Nat → Nat} {G : Gh} {p1 : Int32} {p2 : Int32} {p3 : Int32} {u : Mem} {q : Int32 × Mem} (hf : FX10_shared p1 p2 p3 u = some q) : Ct shs ad G yX10_shared cX10_shared 5 (some .int) 6 145 [.ref (ad 116), .int p1, .int p2, .int p3] u (some (.int q.1)) q.2 := by
  refine Ct_ofI (by decide) (Nat.le_of_ble_eq_true rfl) (fun X C hnL K => ?_)
  have C : Cx ad G X cX10_shared "CarryFairModel" 6 145 := C
  unfold FX10_shared at hf
  refine V_aload_n C 0 dX10_shared_0 rfl rfl rfl ?_
  refine V_iload_n C 1 dX10_shared_1 rfl rfl rfl ?_
  refine V_iload_n C 2 dX10_shared_2 rfl rfl rfl ?_
  refine V_iload_n C 3 dX10_shared_3 rfl rfl rfl ?_
  obtain ⟨q1, hq1, hf⟩ := obd hf
  refine V_cVi C (b := 116) (As := [.int p1, .int p2, .int p3]) (st := []) cf10 rfl M_X10_refusesShared w1450 ⟨by decide, by decide⟩ rfl rfl (Nat.le_of_ble_eq_true rfl) dX10_shared_4 rfl (kX10_refusesShared hq1) ?_
  refine V_istore C (L' := [(0, .ref (ad 116)), (1, .int p1), (2, .int p2), (3, .int p3), (4, .int q1.1)]) dX10_shared_7 rfl (by decide) hnL [1, 2, 3, 4, 0] rfl ?_
  refine V_iload C 4 dX10_shared_9 rfl rfl ?_
  refine V_if_eq C dX10_shared_11 (tgt := 23) rfl rfl (fun c3 => ?_) (fun c3 => ?_)
  · replace hf := ipos c3 hf
    refine V_aload_n C 0 dX10_shared_23 rfl rfl rfl ?_
    refine V_getI C cf10 rfl 11 rfl (by decide) w1093 rfl dX10_shared_24 rfl ?_
    obtain rfl := Option.some.inj hf
    exact K _ _ _ dX10_shared_27 rfl rfl
  · replace hf := ineg c3 hf
    refine V_aload_n C 0 dX10_shared_14 rfl rfl rfl ?_
    refine V_iload C 4 dX10_shared_15 rfl rfl ?_
    obtain ⟨q2, hq2, hf⟩ := obd hf
    refine V_cVi C (b := 116) (As := [.int q1.1]) (st := []) cf10 rfl M_X10_finding w1184 ⟨by decide, by decide⟩ rfl rfl (Nat.le_of_ble_eq_true rfl) dX10_shared_17 rfl (kX10_finding hq2) ?_
    refine V_goto C dX10_shared_20 (tgt := 27) rfl ?_
    obtain rfl := Option.some.inj hf
    exact K _ _ _ dX10_shared_27 rfl rfl
set_option maxHeartbeats 4000000 in
set_option maxRecDepth 100000 in
theorem kX10_part {ad : Nat → Nat} {G : Gh} {p1 : Int32} {p2 : Int32} {p3 : Int32} {u : Mem} {q : Int32 × Mem} (hf : FX10_part p1 p2 p3 u = some q) : Ct shs ad G yX10_part cX10_part 5 (some .int) 6 145 [.ref (ad 116), .int p1, .int p2, .int p3] u (some (.int q.1)) q.2 := by
  refine Ct_ofI (by decide) (Nat.le_of_ble_eq_true rfl) (fun X C hnL K => ?_)
  have C : Cx ad G X cX10_part "CarryFairModel" 6 145 := C
  unfold FX10_part at hf
  refine V_aload_n C 0 dX10_part_0 rfl rfl rfl ?_
  refine V_iload_n C 1 dX10_part_1 rfl rfl rfl ?_
  refine V_iload_n C 2 dX10_part_2 rfl rfl rfl ?_
  refine V_iload_n C 3 dX10_part_3 rfl rfl rfl ?_
  obtain ⟨q1, hq1, hf⟩ := obd hf
  refine V_cVi C (b := 116) (As := [.int p1, .int p2, .int p3]) (st := []) cf10 rfl M_X10_refusesShared w1450 ⟨by decide, by decide⟩ rfl rfl (Nat.le_of_ble_eq_true rfl) dX10_part_4 rfl (kX10_refusesShared hq1) ?_
  refine V_istore C (L' := [(0, .ref (ad 116)), (1, .int p1), (2, .int p2), (3, .int p3), (4, .int q1.1)]) dX10_part_7 rfl (by decide) hnL [1, 2, 3, 4, 0] rfl ?_
  refine V_iload C 4 dX10_part_9 rfl rfl ?_
  refine V_if_eq C dX10_part_11 (tgt := 23) rfl rfl (fun c3 => ?_) (fun c3 => ?_)
  · replace hf := ipos c3 hf
    refine V_aload_n C 0 dX10_part_23 rfl rfl rfl ?_
    refine V_getI C cf10 rfl 10 rfl (by decide) w1092 rfl dX10_part_24 rfl ?_
    obtain rfl := Option.some.inj hf
    exact K _ _ _ dX10_part_27 rfl rfl
  · replace hf := ineg c3 hf
    refine V_aload_n C 0 dX10_part_14 rfl rfl rfl ?_
    refine V_iload C 4 dX10_part_15 rfl rfl ?_
    obtain ⟨q2, hq2, hf⟩ := obd hf
    refine V_cVi C (b := 116) (As := [.int q1.1]) (st := []) cf10 rfl M_X10_finding w1184 ⟨by decide, by decide⟩ rfl rfl (Nat.le_of_ble_eq_true rfl) dX10_part_17 rfl (kX10_finding hq2) ?_
    refine V_goto C dX10_part_20 (tgt := 27) rfl ?_
    obtain rfl := Option.some.inj hf
    exact K _ _ _ dX10_part_27 rfl rfl
set_option maxHeartbeats 4000000 in
set_option maxRecDepth 100000 in
theorem kX10_strength {ad : Nat → Nat} {G : Gh} {p1 : Int32} {p2 : Int32} {u : Mem} {q : Int32 × Mem} (hf : FX10_strength p1 p2 u = some q) : Ct shs ad G yX10_strength cX10_strength 7 (some .int) 5 120 [.ref (ad 116), .int p1, .int p2] u (some (.int q.1)) q.2 := by
  refine Ct_ofI (by decide) (Nat.le_of_ble_eq_true rfl) (fun X C hnL K => ?_)
  have C : Cx ad G X cX10_strength "CarryFairModel" 5 120 := C
  unfold FX10_strength at hf
  have Lp32 : ∀ (v3 : Int32) (v4 : Int32) (x0 : (Int32 × Int32 × Mem)) (q32 : (Int32 × Int32 × Mem)), lp (BX10_strength_32 p1 p2 v3 v4) FU x0 = some q32 → V shs ad G X 72 [(0, .ref (ad 116)), (1, .int p1), (2, .int p2), (3, .int v3), (4, .int v4), (5, .int q32.1), (6, .int q32.2.1)] [] q32.2.2 → V shs ad G X 32 [(0, .ref (ad 116)), (1, .int p1), (2, .int p2), (3, .int v3), (4, .int v4), (5, .int x0.1), (6, .int x0.2.1)] [] x0.2.2 := by
    intro v3 v4 x0 q32 hq hx32_0
    refine lp_V (BX10_strength_32 p1 p2 v3 v4) (fun x32 => V shs ad G X 32 [(0, .ref (ad 116)), (1, .int p1), (2, .int p2), (3, .int v3), (4, .int v4), (5, .int x32.1), (6, .int x32.2.1)] [] x32.2.2) q32 (fun rec32 ih32 x32 hf => ?_) FU x0 hq
    unfold BX10_strength_32 at hf
    refine V_iload C 5 dX10_strength_32 rfl rfl ?_
    refine V_bipush C dX10_strength_34 rfl (v := 99) rfl ?_
    refine V_icmp_ge C dX10_strength_36 (tgt := 72) rfl rfl (fun c6 => ?_) (fun c6 => ?_)
    · replace hf := ipos c6 hf
      obtain rfl := Option.some.inj hf
      exact hx32_0
    · replace hf := ineg c6 hf
      refine V_iload C 6 dX10_strength_39 rfl rfl ?_
      refine V_ldc C dX10_strength_41 rfl w1293 ?_
      refine V_icmp_lt C dX10_strength_43 (tgt := 72) rfl rfl (fun c5 => ?_) (fun c5 => ?_)
      · replace hf := ipos c5 hf
        obtain rfl := Option.some.inj hf
        exact hx32_0
      · replace hf := ineg c5 hf
        refine V_iinc C (v := (x32.1 + 1)) (L' := [(0, .ref (ad 116)), (1, .int p1), (2, .int p2), (3, .int v3), (4, .int v4), (5, .int (x32.1 + 1)), (6, .int x32.2.1)]) 5 dX10_strength_46 rfl rfl rfl (by decide) hnL [1, 2, 3, 4, 5, 0, 6] rfl ?_
        refine V_aload_n C 0 dX10_strength_49 rfl rfl rfl ?_
        refine V_getR C cf10 rfl 0 rfl (by decide) w1082 rfl dX10_strength_50 rfl ?_
        refine V_iload_n C 1 dX10_strength_53 rfl rfl rfl ?_
        refine V_iconst C dX10_strength_54 rfl (v := 2) rfl ?_
        refine V_cSi C (As := [.int p1, .int 2]) (st := [.ref (ad 117)]) M_X10_cAt w1193 ⟨by decide, by decide⟩ rfl rfl (Nat.le_of_ble_eq_true rfl) dX10_strength_55 rfl (kX10_cAt rfl) ?_
        refine V_iload C 5 dX10_strength_58 rfl rfl ?_
        obtain ⟨g3, hf⟩ := gd hf
        refine V_istJ C rfl g3 rfl dX10_strength_60 rfl ?_
        refine V_aload_n C 0 dX10_strength_61 rfl rfl rfl ?_
        refine V_iload_n C 1 dX10_strength_62 rfl rfl rfl ?_
        refine V_iload_n C 2 dX10_strength_63 rfl rfl rfl ?_
        obtain ⟨q4, hq4, hf⟩ := obd hf
        refine V_cVi C (b := 116) (As := [.int p1, .int p2]) (st := []) cf10 rfl M_X10_roundOf w1394 ⟨by decide, by decide⟩ rfl rfl (Nat.le_of_ble_eq_true rfl) dX10_strength_64 rfl (kX10_roundOf hq4) ?_
        refine V_istore C (L' := [(0, .ref (ad 116)), (1, .int p1), (2, .int p2), (3, .int v3), (4, .int v4), (5, .int (x32.1 + 1)), (6, .int q4.1)]) dX10_strength_67 rfl (by decide) hnL [1, 2, 3, 4, 5, 6, 0] rfl ?_
        refine V_goto C dX10_strength_69 (tgt := 32) rfl ?_
        exact ih32 ((x32.1 + 1), q4.1, q4.2) hf
  refine V_aload_n C 0 dX10_strength_0 rfl rfl rfl ?_
  refine V_iload_n C 1 dX10_strength_1 rfl rfl rfl ?_
  refine V_iload_n C 2 dX10_strength_2 rfl rfl rfl ?_
  obtain ⟨q1, hq1, hf⟩ := obd hf
  refine V_cVi C (b := 116) (As := [.int p1, .int p2]) (st := []) cf10 rfl M_X10_refuses w1379 ⟨by decide, by decide⟩ rfl rfl (Nat.le_of_ble_eq_true rfl) dX10_strength_3 rfl (kX10_refuses hq1) ?_
  refine V_istore_n C (L' := [(0, .ref (ad 116)), (1, .int p1), (2, .int p2), (3, .int q1)]) dX10_strength_6 rfl rfl (by decide) hnL [1, 2, 3, 0] rfl ?_
  refine V_iload_n C 3 dX10_strength_7 rfl rfl rfl ?_
  refine V_if_eq C dX10_strength_8 (tgt := 17) rfl rfl (fun c12 => ?_) (fun c12 => ?_)
  · replace hf := ipos c12 hf
    refine V_aload_n C 0 dX10_strength_17 rfl rfl rfl ?_
    refine V_iload_n C 1 dX10_strength_18 rfl rfl rfl ?_
    refine V_iconst C dX10_strength_19 rfl (v := 2) rfl ?_
    obtain ⟨q2, hq2, hf⟩ := obd hf
    refine V_cVi C (b := 116) (As := [.int p1, .int 2]) (st := []) cf10 rfl M_X10_cIs w1208 ⟨by decide, by decide⟩ rfl rfl (Nat.le_of_ble_eq_true rfl) dX10_strength_20 rfl (kX10_cIs hq2) ?_
    refine V_istore C (L' := [(0, .ref (ad 116)), (1, .int p1), (2, .int p2), (3, .int q1), (4, .int q2)]) dX10_strength_23 rfl (by decide) hnL [1, 2, 3, 4, 0] rfl ?_
    refine V_iconst C dX10_strength_25 rfl (v := 0) rfl ?_
    refine V_istore C (L' := [(0, .ref (ad 116)), (1, .int p1), (2, .int p2), (3, .int q1), (4, .int q2), (5, .int 0)]) dX10_strength_26 rfl (by decide) hnL [1, 2, 3, 4, 5, 0] rfl ?_
    refine V_ldc C dX10_strength_28 rfl w1293 ?_
    refine V_istore C (L' := [(0, .ref (ad 116)), (1, .int p1), (2, .int p2), (3, .int q1), (4, .int q2), (5, .int 0), (6, .int 1000000)]) dX10_strength_30 rfl (by decide) hnL [1, 2, 3, 4, 5, 6, 0] rfl ?_
    obtain ⟨q32_7, hq32_7, hf⟩ := obd hf
    refine Lp32 q1 q2 (0, 1000000, u) q32_7 hq32_7 ?_
    refine V_aload_n C 0 dX10_strength_72 rfl rfl rfl ?_
    refine V_getR C cf10 rfl 0 rfl (by decide) w1082 rfl dX10_strength_73 rfl ?_
    refine V_iload_n C 1 dX10_strength_76 rfl rfl rfl ?_
    refine V_iconst C dX10_strength_77 rfl (v := 2) rfl ?_
    refine V_cSi C (As := [.int p1, .int 2]) (st := [.ref (ad 117)]) M_X10_cAt w1193 ⟨by decide, by decide⟩ rfl rfl (Nat.le_of_ble_eq_true rfl) dX10_strength_78 rfl (kX10_cAt rfl) ?_
    refine V_iload C 4 dX10_strength_81 rfl rfl ?_
    obtain ⟨g8, hf⟩ := gd hf
    refine V_istJ C rfl g8 rfl dX10_strength_83 rfl ?_
    refine V_iload C 6 dX10_strength_84 rfl rfl ?_
    refine V_ldc C dX10_strength_86 rfl w1293 ?_
    refine V_icmp_lt C dX10_strength_88 (tgt := 100) rfl rfl (fun c10 => ?_) (fun c10 => ?_)
    · replace hf := ipos c10 hf
      refine V_iload C 5 dX10_strength_100 rfl rfl ?_
      obtain rfl := Option.some.inj hf
      exact K _ _ _ dX10_strength_102 rfl rfl
    · replace hf := ineg c10 hf
      refine V_aload_n C 0 dX10_strength_91 rfl rfl rfl ?_
      refine V_ldc C dX10_strength_92 rfl w1298 ?_
      obtain ⟨q9, hq9, hf⟩ := obd hf
      refine V_cVi C (b := 116) (As := [.int (-1000004)]) (st := []) cf10 rfl M_X10_finding w1184 ⟨by decide, by decide⟩ rfl rfl (Nat.le_of_ble_eq_true rfl) dX10_strength_94 rfl (kX10_finding hq9) ?_
      refine V_goto C dX10_strength_97 (tgt := 102) rfl ?_
      obtain rfl := Option.some.inj hf
      exact K _ _ _ dX10_strength_102 rfl rfl
  · replace hf := ineg c12 hf
    refine V_aload_n C 0 dX10_strength_11 rfl rfl rfl ?_
    refine V_iload_n C 3 dX10_strength_12 rfl rfl rfl ?_
    obtain ⟨q11, hq11, hf⟩ := obd hf
    refine V_cVi C (b := 116) (As := [.int q1]) (st := []) cf10 rfl M_X10_finding w1184 ⟨by decide, by decide⟩ rfl rfl (Nat.le_of_ble_eq_true rfl) dX10_strength_13 rfl (kX10_finding hq11) ?_
    obtain rfl := Option.some.inj hf
    exact K _ _ _ dX10_strength_16 rfl rfl
set_option maxHeartbeats 4000000 in
set_option maxRecDepth 100000 in
theorem kX10_kindFor {ad : Nat → Nat} {G : Gh} {p1 : Int32} {p2 : Int32} {u : Mem} {q : Int32 × Mem} (hf : FX10_kindFor p1 p2 u = some q) : Ct shs ad G yX10_kindFor cX10_kindFor 9 (some .int) 5 120 [.ref (ad 116), .int p1, .int p2] u (some (.int q.1)) q.2 := by
  refine Ct_ofI (by decide) (Nat.le_of_ble_eq_true rfl) (fun X C hnL K => ?_)
  have C : Cx ad G X cX10_kindFor "CarryFairModel" 5 120 := C
  unfold FX10_kindFor at hf
  have Lp35 : ∀ (v3 : Int32) (v4 : Int32) (x0 : (Int32 × Int32 × Int32 × Mem)) (q35 : (Int32 × Int32 × Int32 × Mem)), lp (BX10_kindFor_35 p1 p2 v3 v4) FU x0 = some q35 → V shs ad G X 93 [(0, .ref (ad 116)), (1, .int p1), (2, .int p2), (3, .int v3), (4, .int v4), (5, .int q35.1), (6, .int q35.2.1), (7, .int q35.2.2.1)] [] q35.2.2.2 → V shs ad G X 35 [(0, .ref (ad 116)), (1, .int p1), (2, .int p2), (3, .int v3), (4, .int v4), (5, .int x0.1), (6, .int x0.2.1), (7, .int x0.2.2.1)] [] x0.2.2.2 := by
    intro v3 v4 x0 q35 hq hx35_0
    refine lp_V (BX10_kindFor_35 p1 p2 v3 v4) (fun x35 => V shs ad G X 35 [(0, .ref (ad 116)), (1, .int p1), (2, .int p2), (3, .int v3), (4, .int v4), (5, .int x35.1), (6, .int x35.2.1), (7, .int x35.2.2.1)] [] x35.2.2.2) q35 (fun rec35 ih35 x35 hf => ?_) FU x0 hq
    unfold BX10_kindFor_35 at hf
    refine V_iload C 7 dX10_kindFor_35 rfl rfl ?_
    refine V_bipush C dX10_kindFor_37 rfl (v := 6) rfl ?_
    refine V_icmp_gt C dX10_kindFor_39 (tgt := 93) rfl rfl (fun c6 => ?_) (fun c6 => ?_)
    · replace hf := ipos c6 hf
      obtain rfl := Option.some.inj hf
      exact hx35_0
    · replace hf := ineg c6 hf
      refine V_aload_n C 0 dX10_kindFor_42 rfl rfl rfl ?_
      refine V_getR C cf10 rfl 0 rfl (by decide) w1082 rfl dX10_kindFor_43 rfl ?_
      refine V_iload_n C 1 dX10_kindFor_46 rfl rfl rfl ?_
      refine V_iconst C dX10_kindFor_47 rfl (v := 0) rfl ?_
      refine V_cSi C (As := [.int p1, .int 0]) (st := [.ref (ad 117)]) M_X10_cAt w1193 ⟨by decide, by decide⟩ rfl rfl (Nat.le_of_ble_eq_true rfl) dX10_kindFor_48 rfl (kX10_cAt rfl) ?_
      refine V_iload C 7 dX10_kindFor_51 rfl rfl ?_
      obtain ⟨g3, hf⟩ := gd hf
      refine V_istJ C rfl g3 rfl dX10_kindFor_53 rfl ?_
      refine V_aload_n C 0 dX10_kindFor_54 rfl rfl rfl ?_
      refine V_iload_n C 1 dX10_kindFor_55 rfl rfl rfl ?_
      refine V_iload_n C 2 dX10_kindFor_56 rfl rfl rfl ?_
      obtain ⟨q4, hq4, hf⟩ := obd hf
      refine V_cVi C (b := 116) (As := [.int p1, .int p2]) (st := []) cf10 rfl M_X10_roundOf w1394 ⟨by decide, by decide⟩ rfl rfl (Nat.le_of_ble_eq_true rfl) dX10_kindFor_57 rfl (kX10_roundOf hq4) ?_
      refine V_istore C (L' := [(0, .ref (ad 116)), (1, .int p1), (2, .int p2), (3, .int v3), (4, .int v4), (5, .int x35.1), (6, .int x35.2.1), (7, .int x35.2.2.1), (8, .int q4.1)]) dX10_kindFor_60 rfl (by decide) hnL [1, 2, 3, 4, 5, 6, 7, 8, 0] rfl ?_
      refine V_iload C 8 dX10_kindFor_62 rfl rfl ?_
      refine V_iload C 6 dX10_kindFor_64 rfl rfl ?_
      refine V_icmp_ge C dX10_kindFor_66 (tgt := 74) rfl rfl (fun c5 => ?_) (fun c5 => ?_)
      · replace hf := ipos c5 hf
        refine V_iload C 5 dX10_kindFor_74 rfl rfl ?_
        refine V_istore C (L' := [(0, .ref (ad 116)), (1, .int p1), (2, .int p2), (3, .int v3), (4, .int v4), (5, .int x35.1), (6, .int x35.2.1), (7, .int x35.2.2.1), (8, .int q4.1)]) dX10_kindFor_76 rfl (by decide) hnL [1, 2, 3, 4, 5, 0, 6, 7, 8] rfl ?_
        refine V_iload C 6 dX10_kindFor_78 rfl rfl ?_
        refine V_iload C 8 dX10_kindFor_80 rfl rfl ?_
        refine V_mmin C w1259 ⟨by decide, by decide⟩ (Nat.le_of_ble_eq_true rfl) dX10_kindFor_82 rfl ?_
        refine V_istore C (L' := [(0, .ref (ad 116)), (1, .int p1), (2, .int p2), (3, .int v3), (4, .int v4), (5, .int x35.1), (6, .int (jmin x35.2.1 q4.1)), (7, .int x35.2.2.1), (8, .int q4.1)]) dX10_kindFor_85 rfl (by decide) hnL [1, 2, 3, 4, 5, 6, 0, 7, 8] rfl ?_
        refine V_iinc C (v := (x35.2.2.1 + 1)) (L' := [(0, .ref (ad 116)), (1, .int p1), (2, .int p2), (3, .int v3), (4, .int v4), (5, .int x35.1), (6, .int (jmin x35.2.1 q4.1)), (7, .int (x35.2.2.1 + 1)), (8, .int q4.1)]) 7 dX10_kindFor_87 rfl rfl rfl (by decide) hnL [1, 2, 3, 4, 5, 6, 7, 0, 8] rfl ?_
        refine V_goto C dX10_kindFor_90 (tgt := 35) rfl ?_
        refine V_sub (L' := [(0, .ref (ad 116)), (1, .int p1), (2, .int p2), (3, .int v3), (4, .int v4), (5, .int x35.1), (6, .int (jmin x35.2.1 q4.1)), (7, .int (x35.2.2.1 + 1))]) [0, 1, 2, 3, 4, 5, 6, 7] rfl ?_
        exact ih35 (x35.1, (jmin x35.2.1 q4.1), (x35.2.2.1 + 1), q4.2) hf
      · replace hf := ineg c5 hf
        refine V_iload C 7 dX10_kindFor_69 rfl rfl ?_
        refine V_goto C dX10_kindFor_71 (tgt := 76) rfl ?_
        refine V_istore C (L' := [(0, .ref (ad 116)), (1, .int p1), (2, .int p2), (3, .int v3), (4, .int v4), (5, .int x35.2.2.1), (6, .int x35.2.1), (7, .int x35.2.2.1), (8, .int q4.1)]) dX10_kindFor_76 rfl (by decide) hnL [1, 2, 3, 4, 5, 0, 6, 7, 8] rfl ?_
        refine V_iload C 6 dX10_kindFor_78 rfl rfl ?_
        refine V_iload C 8 dX10_kindFor_80 rfl rfl ?_
        refine V_mmin C w1259 ⟨by decide, by decide⟩ (Nat.le_of_ble_eq_true rfl) dX10_kindFor_82 rfl ?_
        refine V_istore C (L' := [(0, .ref (ad 116)), (1, .int p1), (2, .int p2), (3, .int v3), (4, .int v4), (5, .int x35.2.2.1), (6, .int (jmin x35.2.1 q4.1)), (7, .int x35.2.2.1), (8, .int q4.1)]) dX10_kindFor_85 rfl (by decide) hnL [1, 2, 3, 4, 5, 6, 0, 7, 8] rfl ?_
        refine V_iinc C (v := (x35.2.2.1 + 1)) (L' := [(0, .ref (ad 116)), (1, .int p1), (2, .int p2), (3, .int v3), (4, .int v4), (5, .int x35.2.2.1), (6, .int (jmin x35.2.1 q4.1)), (7, .int (x35.2.2.1 + 1)), (8, .int q4.1)]) 7 dX10_kindFor_87 rfl rfl rfl (by decide) hnL [1, 2, 3, 4, 5, 6, 7, 0, 8] rfl ?_
        refine V_goto C dX10_kindFor_90 (tgt := 35) rfl ?_
        refine V_sub (L' := [(0, .ref (ad 116)), (1, .int p1), (2, .int p2), (3, .int v3), (4, .int v4), (5, .int x35.2.2.1), (6, .int (jmin x35.2.1 q4.1)), (7, .int (x35.2.2.1 + 1))]) [0, 1, 2, 3, 4, 5, 6, 7] rfl ?_
        exact ih35 (x35.2.2.1, (jmin x35.2.1 q4.1), (x35.2.2.1 + 1), q4.2) hf
  refine V_aload_n C 0 dX10_kindFor_0 rfl rfl rfl ?_
  refine V_iload_n C 1 dX10_kindFor_1 rfl rfl rfl ?_
  refine V_iload_n C 2 dX10_kindFor_2 rfl rfl rfl ?_
  obtain ⟨q1, hq1, hf⟩ := obd hf
  refine V_cVi C (b := 116) (As := [.int p1, .int p2]) (st := []) cf10 rfl M_X10_refuses w1379 ⟨by decide, by decide⟩ rfl rfl (Nat.le_of_ble_eq_true rfl) dX10_kindFor_3 rfl (kX10_refuses hq1) ?_
  refine V_istore_n C (L' := [(0, .ref (ad 116)), (1, .int p1), (2, .int p2), (3, .int q1)]) dX10_kindFor_6 rfl rfl (by decide) hnL [1, 2, 3, 0] rfl ?_
  refine V_iload_n C 3 dX10_kindFor_7 rfl rfl rfl ?_
  refine V_if_eq C dX10_kindFor_8 (tgt := 17) rfl rfl (fun c12 => ?_) (fun c12 => ?_)
  · replace hf := ipos c12 hf
    refine V_aload_n C 0 dX10_kindFor_17 rfl rfl rfl ?_
    refine V_iload_n C 1 dX10_kindFor_18 rfl rfl rfl ?_
    refine V_iconst C dX10_kindFor_19 rfl (v := 0) rfl ?_
    obtain ⟨q2, hq2, hf⟩ := obd hf
    refine V_cVi C (b := 116) (As := [.int p1, .int 0]) (st := []) cf10 rfl M_X10_cIs w1208 ⟨by decide, by decide⟩ rfl rfl (Nat.le_of_ble_eq_true rfl) dX10_kindFor_20 rfl (kX10_cIs hq2) ?_
    refine V_istore C (L' := [(0, .ref (ad 116)), (1, .int p1), (2, .int p2), (3, .int q1), (4, .int q2)]) dX10_kindFor_23 rfl (by decide) hnL [1, 2, 3, 4, 0] rfl ?_
    refine V_iconst C dX10_kindFor_25 rfl (v := (-1)) (by decide) ?_
    refine V_istore C (L' := [(0, .ref (ad 116)), (1, .int p1), (2, .int p2), (3, .int q1), (4, .int q2), (5, .int (-1))]) dX10_kindFor_26 rfl (by decide) hnL [1, 2, 3, 4, 5, 0] rfl ?_
    refine V_ldc C dX10_kindFor_28 rfl w1293 ?_
    refine V_istore C (L' := [(0, .ref (ad 116)), (1, .int p1), (2, .int p2), (3, .int q1), (4, .int q2), (5, .int (-1)), (6, .int 1000000)]) dX10_kindFor_30 rfl (by decide) hnL [1, 2, 3, 4, 5, 6, 0] rfl ?_
    refine V_iconst C dX10_kindFor_32 rfl (v := 0) rfl ?_
    refine V_istore C (L' := [(0, .ref (ad 116)), (1, .int p1), (2, .int p2), (3, .int q1), (4, .int q2), (5, .int (-1)), (6, .int 1000000), (7, .int 0)]) dX10_kindFor_33 rfl (by decide) hnL [1, 2, 3, 4, 5, 6, 7, 0] rfl ?_
    obtain ⟨q35_7, hq35_7, hf⟩ := obd hf
    refine Lp35 q1 q2 ((-1), 1000000, 0, u) q35_7 hq35_7 ?_
    refine V_aload_n C 0 dX10_kindFor_93 rfl rfl rfl ?_
    refine V_getR C cf10 rfl 0 rfl (by decide) w1082 rfl dX10_kindFor_94 rfl ?_
    refine V_iload_n C 1 dX10_kindFor_97 rfl rfl rfl ?_
    refine V_iconst C dX10_kindFor_98 rfl (v := 0) rfl ?_
    refine V_cSi C (As := [.int p1, .int 0]) (st := [.ref (ad 117)]) M_X10_cAt w1193 ⟨by decide, by decide⟩ rfl rfl (Nat.le_of_ble_eq_true rfl) dX10_kindFor_99 rfl (kX10_cAt rfl) ?_
    refine V_iload C 4 dX10_kindFor_102 rfl rfl ?_
    obtain ⟨g8, hf⟩ := gd hf
    refine V_istJ C rfl g8 rfl dX10_kindFor_104 rfl ?_
    refine V_iload C 5 dX10_kindFor_105 rfl rfl ?_
    refine V_if_ge C dX10_kindFor_107 (tgt := 119) rfl rfl (fun c10 => ?_) (fun c10 => ?_)
    · replace hf := ipos c10 hf
      refine V_iload C 5 dX10_kindFor_119 rfl rfl ?_
      obtain rfl := Option.some.inj hf
      exact K _ _ _ dX10_kindFor_121 rfl rfl
    · replace hf := ineg c10 hf
      refine V_aload_n C 0 dX10_kindFor_110 rfl rfl rfl ?_
      refine V_ldc C dX10_kindFor_111 rfl w1298 ?_
      obtain ⟨q9, hq9, hf⟩ := obd hf
      refine V_cVi C (b := 116) (As := [.int (-1000004)]) (st := []) cf10 rfl M_X10_finding w1184 ⟨by decide, by decide⟩ rfl rfl (Nat.le_of_ble_eq_true rfl) dX10_kindFor_113 rfl (kX10_finding hq9) ?_
      refine V_goto C dX10_kindFor_116 (tgt := 121) rfl ?_
      obtain rfl := Option.some.inj hf
      exact K _ _ _ dX10_kindFor_121 rfl rfl
  · replace hf := ineg c12 hf
    refine V_aload_n C 0 dX10_kindFor_11 rfl rfl rfl ?_
    refine V_iload_n C 3 dX10_kindFor_12 rfl rfl rfl ?_
    obtain ⟨q11, hq11, hf⟩ := obd hf
    refine V_cVi C (b := 116) (As := [.int q1]) (st := []) cf10 rfl M_X10_finding w1184 ⟨by decide, by decide⟩ rfl rfl (Nat.le_of_ble_eq_true rfl) dX10_kindFor_13 rfl (kX10_finding hq11) ?_
    obtain rfl := Option.some.inj hf
    exact K _ _ _ dX10_kindFor_16 rfl rfl
set_option maxHeartbeats 4000000 in
set_option maxRecDepth 100000 in
theorem kX10_refusesBridge {ad : Nat → Nat} {G : Gh} {p1 : Int32} {p2 : Int32} {u : Mem} {q : Int32 × Mem} (hf : FX10_refusesBridge p1 p2 u = some q) : Ct shs ad G yX10_refusesBridge cX10_refusesBridge 7 (some .int) 5 120 [.ref (ad 116), .int p1, .int p2] u (some (.int q.1)) q.2 := by
  refine Ct_ofI (by decide) (Nat.le_of_ble_eq_true rfl) (fun X C hnL K => ?_)
  have C : Cx ad G X cX10_refusesBridge "CarryFairModel" 5 120 := C
  unfold FX10_refusesBridge at hf
  have Lp35 : ∀ (v3 : Int32) (v4 : Int32) (x0 : (Int32 × Mem)) (q35 : (Int32 × Mem)), lp (BX10_refusesBridge_35 p1 p2 v3 v4) FU x0 = some q35 → V shs ad G X 160 [(0, .ref (ad 116)), (1, .int p1), (2, .int p2), (3, .int v3), (4, .int v4), (5, .int q35.1)] [] q35.2 → V shs ad G X 35 [(0, .ref (ad 116)), (1, .int p1), (2, .int p2), (3, .int v3), (4, .int v4), (5, .int x0.1)] [] x0.2 := by
    intro v3 v4 x0 q35 hq hx35_0
    refine lp_V (BX10_refusesBridge_35 p1 p2 v3 v4) (fun x35 => V shs ad G X 35 [(0, .ref (ad 116)), (1, .int p1), (2, .int p2), (3, .int v3), (4, .int v4), (5, .int x35.1)] [] x35.2) q35 (fun rec35 ih35 x35 hf => ?_) FU x0 hq
    unfold BX10_refusesBridge_35 at hf
    refine V_iload C 5 dX10_refusesBridge_35 rfl rfl ?_
    refine V_bipush C dX10_refusesBridge_37 rfl (v := 7) rfl ?_
    refine V_icmp_ge C dX10_refusesBridge_39 (tgt := 160) rfl rfl (fun c12 => ?_) (fun c12 => ?_)
    · replace hf := ipos c12 hf
      obtain rfl := Option.some.inj hf
      exact hx35_0
    · replace hf := ineg c12 hf
      refine V_aload_n C 0 dX10_refusesBridge_42 rfl rfl rfl ?_
      refine V_getR C cf10 rfl 0 rfl (by decide) w1082 rfl dX10_refusesBridge_43 rfl ?_
      refine V_iload C 4 dX10_refusesBridge_46 rfl rfl ?_
      refine V_iload C 5 dX10_refusesBridge_48 rfl rfl ?_
      refine V_cSi C (As := [.int v4, .int x35.1]) (st := [.ref (ad 117)]) M_X10_wayAt w1256 ⟨by decide, by decide⟩ rfl rfl (Nat.le_of_ble_eq_true rfl) dX10_refusesBridge_50 rfl (kX10_wayAt rfl) ?_
      obtain ⟨g2, hf⟩ := gd hf
      refine V_ildJ C rfl g2 rfl dX10_refusesBridge_53 rfl ?_
      refine V_if_le C dX10_refusesBridge_54 (tgt := 154) rfl rfl (fun c11 => ?_) (fun c11 => ?_)
      · replace hf := ipos c11 hf
        refine V_iinc C (v := (x35.1 + 1)) (L' := [(0, .ref (ad 116)), (1, .int p1), (2, .int p2), (3, .int v3), (4, .int v4), (5, .int (x35.1 + 1))]) 5 dX10_refusesBridge_154 rfl rfl rfl (by decide) hnL [1, 2, 3, 4, 5, 0] rfl ?_
        refine V_goto C dX10_refusesBridge_157 (tgt := 35) rfl ?_
        exact ih35 ((x35.1 + 1), x35.2) hf
      · replace hf := ineg c11 hf
        refine V_aload_n C 0 dX10_refusesBridge_57 rfl rfl rfl ?_
        refine V_getR C cf10 rfl 0 rfl (by decide) w1082 rfl dX10_refusesBridge_58 rfl ?_
        refine V_iload C 4 dX10_refusesBridge_61 rfl rfl ?_
        refine V_iload C 5 dX10_refusesBridge_63 rfl rfl ?_
        refine V_cSi C (As := [.int v4, .int x35.1]) (st := [.ref (ad 117)]) M_X10_wayAt w1256 ⟨by decide, by decide⟩ rfl rfl (Nat.le_of_ble_eq_true rfl) dX10_refusesBridge_65 rfl (kX10_wayAt rfl) ?_
        refine V_iconst C dX10_refusesBridge_68 rfl (v := 1) rfl ?_
        refine V_iadd C dX10_refusesBridge_69 rfl ?_
        obtain ⟨g3, hf⟩ := gd hf
        refine V_ildJ C rfl g3 rfl dX10_refusesBridge_70 rfl ?_
        refine V_iconst C dX10_refusesBridge_71 rfl (v := 1) rfl ?_
        refine V_icmp_ne C dX10_refusesBridge_72 (tgt := 154) rfl rfl (fun c10 => ?_) (fun c10 => ?_)
        · replace hf := ineg c10 hf
          refine V_iinc C (v := (x35.1 + 1)) (L' := [(0, .ref (ad 116)), (1, .int p1), (2, .int p2), (3, .int v3), (4, .int v4), (5, .int (x35.1 + 1))]) 5 dX10_refusesBridge_154 rfl rfl rfl (by decide) hnL [1, 2, 3, 4, 5, 0] rfl ?_
          refine V_goto C dX10_refusesBridge_157 (tgt := 35) rfl ?_
          exact ih35 ((x35.1 + 1), x35.2) hf
        · replace hf := ipos c10 hf
          refine V_aload_n C 0 dX10_refusesBridge_75 rfl rfl rfl ?_
          refine V_getR C cf10 rfl 0 rfl (by decide) w1082 rfl dX10_refusesBridge_76 rfl ?_
          refine V_iload C 4 dX10_refusesBridge_79 rfl rfl ?_
          refine V_iload C 5 dX10_refusesBridge_81 rfl rfl ?_
          refine V_cSi C (As := [.int v4, .int x35.1]) (st := [.ref (ad 117)]) M_X10_wayAt w1256 ⟨by decide, by decide⟩ rfl rfl (Nat.le_of_ble_eq_true rfl) dX10_refusesBridge_83 rfl (kX10_wayAt rfl) ?_
          refine V_iconst C dX10_refusesBridge_86 rfl (v := 1) rfl ?_
          refine V_iadd C dX10_refusesBridge_87 rfl ?_
          refine V_iconst C dX10_refusesBridge_88 rfl (v := 0) rfl ?_
          obtain ⟨g4, hf⟩ := gd hf
          refine V_istJ C rfl g4 rfl dX10_refusesBridge_89 rfl ?_
          refine V_aload_n C 0 dX10_refusesBridge_90 rfl rfl rfl ?_
          refine V_iload_n C 1 dX10_refusesBridge_91 rfl rfl rfl ?_
          refine V_iload_n C 2 dX10_refusesBridge_92 rfl rfl rfl ?_
          obtain ⟨q5, hq5, hf⟩ := obd hf
          refine V_cVi C (b := 116) (As := [.int p1, .int p2]) (st := []) cf10 rfl M_X10_roundOf w1394 ⟨by decide, by decide⟩ rfl rfl (Nat.le_of_ble_eq_true rfl) dX10_refusesBridge_93 rfl (kX10_roundOf hq5) ?_
          refine V_istore C (L' := [(0, .ref (ad 116)), (1, .int p1), (2, .int p2), (3, .int v3), (4, .int v4), (5, .int x35.1), (6, .int q5.1)]) dX10_refusesBridge_96 rfl (by decide) hnL [1, 2, 3, 4, 5, 6, 0] rfl ?_
          refine V_aload_n C 0 dX10_refusesBridge_98 rfl rfl rfl ?_
          refine V_getR C cf10 rfl 0 rfl (by decide) w1082 rfl dX10_refusesBridge_99 rfl ?_
          refine V_iload C 4 dX10_refusesBridge_102 rfl rfl ?_
          refine V_iload C 5 dX10_refusesBridge_104 rfl rfl ?_
          refine V_cSi C (As := [.int v4, .int x35.1]) (st := [.ref (ad 117)]) M_X10_wayAt w1256 ⟨by decide, by decide⟩ rfl rfl (Nat.le_of_ble_eq_true rfl) dX10_refusesBridge_106 rfl (kX10_wayAt rfl) ?_
          refine V_iconst C dX10_refusesBridge_109 rfl (v := 1) rfl ?_
          refine V_iadd C dX10_refusesBridge_110 rfl ?_
          refine V_iconst C dX10_refusesBridge_111 rfl (v := 1) rfl ?_
          obtain ⟨g6, hf⟩ := gd hf
          refine V_istJ C rfl g6 rfl dX10_refusesBridge_112 rfl ?_
          refine V_aload_n C 0 dX10_refusesBridge_113 rfl rfl rfl ?_
          refine V_iload C 6 dX10_refusesBridge_114 rfl rfl ?_
          refine V_aload_n C 0 dX10_refusesBridge_116 rfl rfl rfl ?_
          refine V_getI C cf10 rfl 11 rfl (by decide) w1093 rfl dX10_refusesBridge_117 rfl ?_
          refine V_icmp_ge C dX10_refusesBridge_120 (tgt := 134) rfl rfl (fun c9 => ?_) (fun c9 => ?_)
          · replace hf := ipos c9 hf
            refine V_aload_n C 0 dX10_refusesBridge_134 rfl rfl rfl ?_
            refine V_getI C cf10 rfl 12 rfl (by decide) w1094 rfl dX10_refusesBridge_135 rfl ?_
            refine V_put C cf10 rfl 12 rfl (by decide) w1094 rfl rfl rfl rfl dX10_refusesBridge_138 rfl ?_
            obtain ⟨w7, ew7, hf⟩ := nmd hf
            rw [← ew7]
            refine V_aload_n C 0 dX10_refusesBridge_141 rfl rfl rfl ?_
            refine V_aload_n C 0 dX10_refusesBridge_142 rfl rfl rfl ?_
            refine V_getI C cf10 rfl 11 rfl (by decide) w1093 rfl dX10_refusesBridge_143 rfl ?_
            refine V_iload C 6 dX10_refusesBridge_146 rfl rfl ?_
            refine V_mmin C w1259 ⟨by decide, by decide⟩ (Nat.le_of_ble_eq_true rfl) dX10_refusesBridge_148 rfl ?_
            refine V_put C cf10 rfl 11 rfl (by decide) w1093 rfl rfl rfl rfl dX10_refusesBridge_151 rfl ?_
            refine V_iinc C (v := (x35.1 + 1)) (L' := [(0, .ref (ad 116)), (1, .int p1), (2, .int p2), (3, .int v3), (4, .int v4), (5, .int (x35.1 + 1)), (6, .int q5.1)]) 5 dX10_refusesBridge_154 rfl rfl rfl (by decide) hnL [1, 2, 3, 4, 5, 0, 6] rfl ?_
            refine V_goto C dX10_refusesBridge_157 (tgt := 35) rfl ?_
            refine V_sub (L' := [(0, .ref (ad 116)), (1, .int p1), (2, .int p2), (3, .int v3), (4, .int v4), (5, .int (x35.1 + 1))]) [0, 1, 2, 3, 4, 5] rfl ?_
            exact ih35 ((x35.1 + 1), (mst w7 116 11 (jmin (w7 116 11) q5.1))) hf
          · replace hf := ineg c9 hf
            refine V_bipush C dX10_refusesBridge_123 rfl (v := 10) rfl ?_
            refine V_iload C 4 dX10_refusesBridge_125 rfl rfl ?_
            refine V_imul C dX10_refusesBridge_127 rfl ?_
            refine V_iload C 5 dX10_refusesBridge_128 rfl rfl ?_
            refine V_iadd C dX10_refusesBridge_130 rfl ?_
            refine V_goto C dX10_refusesBridge_131 (tgt := 138) rfl ?_
            refine V_put C cf10 rfl 12 rfl (by decide) w1094 rfl rfl rfl rfl dX10_refusesBridge_138 rfl ?_
            refine V_aload_n C 0 dX10_refusesBridge_141 rfl rfl rfl ?_
            refine V_aload_n C 0 dX10_refusesBridge_142 rfl rfl rfl ?_
            refine V_getI C cf10 rfl 11 rfl (by decide) w1093 rfl dX10_refusesBridge_143 rfl ?_
            refine V_iload C 6 dX10_refusesBridge_146 rfl rfl ?_
            refine V_mmin C w1259 ⟨by decide, by decide⟩ (Nat.le_of_ble_eq_true rfl) dX10_refusesBridge_148 rfl ?_
            refine V_put C cf10 rfl 11 rfl (by decide) w1093 rfl rfl rfl rfl dX10_refusesBridge_151 rfl ?_
            obtain ⟨w8, ew8, hf⟩ := nmd hf
            rw [← ew8]
            refine V_iinc C (v := (x35.1 + 1)) (L' := [(0, .ref (ad 116)), (1, .int p1), (2, .int p2), (3, .int v3), (4, .int v4), (5, .int (x35.1 + 1)), (6, .int q5.1)]) 5 dX10_refusesBridge_154 rfl rfl rfl (by decide) hnL [1, 2, 3, 4, 5, 0, 6] rfl ?_
            refine V_goto C dX10_refusesBridge_157 (tgt := 35) rfl ?_
            refine V_sub (L' := [(0, .ref (ad 116)), (1, .int p1), (2, .int p2), (3, .int v3), (4, .int v4), (5, .int (x35.1 + 1))]) [0, 1, 2, 3, 4, 5] rfl ?_
            exact ih35 ((x35.1 + 1), w8) hf
  have Lp22 : ∀ (v3 : Int32) (x0 : (Int32 × Mem)) (q22 : (Int32 × Mem)), lp (BX10_refusesBridge_22 p1 p2 v3) FU x0 = some q22 → V shs ad G X 166 [(0, .ref (ad 116)), (1, .int p1), (2, .int p2), (3, .int v3), (4, .int q22.1)] [] q22.2 → V shs ad G X 22 [(0, .ref (ad 116)), (1, .int p1), (2, .int p2), (3, .int v3), (4, .int x0.1)] [] x0.2 := by
    intro v3 x0 q22 hq hx22_0
    refine lp_V (BX10_refusesBridge_22 p1 p2 v3) (fun x22 => V shs ad G X 22 [(0, .ref (ad 116)), (1, .int p1), (2, .int p2), (3, .int v3), (4, .int x22.1)] [] x22.2) q22 (fun rec22 ih22 x22 hf => ?_) FU x0 hq
    unfold BX10_refusesBridge_22 at hf
    refine V_iload C 4 dX10_refusesBridge_22 rfl rfl ?_
    refine V_bipush C dX10_refusesBridge_24 rfl (v := 7) rfl ?_
    refine V_icmp_ge C dX10_refusesBridge_26 (tgt := 166) rfl rfl (fun c14 => ?_) (fun c14 => ?_)
    · replace hf := ipos c14 hf
      obtain rfl := Option.some.inj hf
      exact hx22_0
    · replace hf := ineg c14 hf
      refine V_iload C 4 dX10_refusesBridge_29 rfl rfl ?_
      refine V_iconst C dX10_refusesBridge_31 rfl (v := 1) rfl ?_
      refine V_iadd C dX10_refusesBridge_32 rfl ?_
      refine V_istore C (L' := [(0, .ref (ad 116)), (1, .int p1), (2, .int p2), (3, .int v3), (4, .int x22.1), (5, .int (x22.1 + 1))]) dX10_refusesBridge_33 rfl (by decide) hnL [1, 2, 3, 4, 5, 0] rfl ?_
      obtain ⟨q35_13, hq35_13, hf⟩ := obd hf
      refine Lp35 v3 x22.1 ((x22.1 + 1), x22.2) q35_13 hq35_13 ?_
      refine V_iinc C (v := (x22.1 + 1)) (L' := [(0, .ref (ad 116)), (1, .int p1), (2, .int p2), (3, .int v3), (4, .int (x22.1 + 1)), (5, .int q35_13.1)]) 4 dX10_refusesBridge_160 rfl rfl rfl (by decide) hnL [1, 2, 3, 4, 0, 5] rfl ?_
      refine V_goto C dX10_refusesBridge_163 (tgt := 22) rfl ?_
      refine V_sub (L' := [(0, .ref (ad 116)), (1, .int p1), (2, .int p2), (3, .int v3), (4, .int (x22.1 + 1))]) [0, 1, 2, 3, 4] rfl ?_
      exact ih22 ((x22.1 + 1), q35_13.2) hf
  refine V_aload_n C 0 dX10_refusesBridge_0 rfl rfl rfl ?_
  refine V_iload_n C 1 dX10_refusesBridge_1 rfl rfl rfl ?_
  refine V_iload_n C 2 dX10_refusesBridge_2 rfl rfl rfl ?_
  obtain ⟨q1, hq1, hf⟩ := obd hf
  refine V_cVi C (b := 116) (As := [.int p1, .int p2]) (st := []) cf10 rfl M_X10_refuses w1379 ⟨by decide, by decide⟩ rfl rfl (Nat.le_of_ble_eq_true rfl) dX10_refusesBridge_3 rfl (kX10_refuses hq1) ?_
  refine V_istore_n C (L' := [(0, .ref (ad 116)), (1, .int p1), (2, .int p2), (3, .int q1)]) dX10_refusesBridge_6 rfl rfl (by decide) hnL [1, 2, 3, 0] rfl ?_
  refine V_iload_n C 3 dX10_refusesBridge_7 rfl rfl rfl ?_
  refine V_if_eq C dX10_refusesBridge_8 (tgt := 13) rfl rfl (fun c17 => ?_) (fun c17 => ?_)
  · replace hf := ipos c17 hf
    refine V_aload_n C 0 dX10_refusesBridge_13 rfl rfl rfl ?_
    refine V_ldc C dX10_refusesBridge_14 rfl w1293 ?_
    refine V_put C cf10 rfl 11 rfl (by decide) w1093 rfl rfl rfl rfl dX10_refusesBridge_16 rfl ?_
    refine V_iconst C dX10_refusesBridge_19 rfl (v := 0) rfl ?_
    refine V_istore C (L' := [(0, .ref (ad 116)), (1, .int p1), (2, .int p2), (3, .int q1), (4, .int 0)]) dX10_refusesBridge_20 rfl (by decide) hnL [1, 2, 3, 4, 0] rfl ?_
    obtain ⟨q22_15, hq22_15, hf⟩ := obd hf
    refine Lp22 q1 (0, (mst u 116 11 1000000)) q22_15 hq22_15 ?_
    refine V_aload_n C 0 dX10_refusesBridge_166 rfl rfl rfl ?_
    refine V_getI C cf10 rfl 11 rfl (by decide) w1093 rfl dX10_refusesBridge_167 rfl ?_
    refine V_ldc C dX10_refusesBridge_170 rfl w1293 ?_
    refine V_icmp_lt C dX10_refusesBridge_172 (tgt := 180) rfl rfl (fun c16 => ?_) (fun c16 => ?_)
    · replace hf := ipos c16 hf
      refine V_iconst C dX10_refusesBridge_180 rfl (v := 0) rfl ?_
      obtain rfl := Option.some.inj hf
      exact K _ _ _ dX10_refusesBridge_181 rfl rfl
    · replace hf := ineg c16 hf
      refine V_ldc C dX10_refusesBridge_175 rfl w1298 ?_
      refine V_goto C dX10_refusesBridge_177 (tgt := 181) rfl ?_
      obtain rfl := Option.some.inj hf
      exact K _ _ _ dX10_refusesBridge_181 rfl rfl
  · replace hf := ineg c17 hf
    refine V_iload_n C 3 dX10_refusesBridge_11 rfl rfl rfl ?_
    obtain rfl := Option.some.inj hf
    exact K _ _ _ dX10_refusesBridge_12 rfl rfl
set_option maxHeartbeats 4000000 in
set_option maxRecDepth 100000 in
theorem kX10_bridge {ad : Nat → Nat} {G : Gh} {p1 : Int32} {p2 : Int32} {u : Mem} {q : Int32 × Mem} (hf : FX10_bridge p1 p2 u = some q) : Ct shs ad G yX10_bridge cX10_bridge 4 (some .int) 6 146 [.ref (ad 116), .int p1, .int p2] u (some (.int q.1)) q.2 := by
  refine Ct_ofI (by decide) (Nat.le_of_ble_eq_true rfl) (fun X C hnL K => ?_)
  have C : Cx ad G X cX10_bridge "CarryFairModel" 6 146 := C
  unfold FX10_bridge at hf
  refine V_aload_n C 0 dX10_bridge_0 rfl rfl rfl ?_
  refine V_iload_n C 1 dX10_bridge_1 rfl rfl rfl ?_
  refine V_iload_n C 2 dX10_bridge_2 rfl rfl rfl ?_
  obtain ⟨q1, hq1, hf⟩ := obd hf
  refine V_cVi C (b := 116) (As := [.int p1, .int p2]) (st := []) cf10 rfl M_X10_refusesBridge w1470 ⟨by decide, by decide⟩ rfl rfl (Nat.le_of_ble_eq_true rfl) dX10_bridge_3 rfl (kX10_refusesBridge hq1) ?_
  refine V_istore_n C (L' := [(0, .ref (ad 116)), (1, .int p1), (2, .int p2), (3, .int q1.1)]) dX10_bridge_6 rfl rfl (by decide) hnL [1, 2, 3, 0] rfl ?_
  refine V_iload_n C 3 dX10_bridge_7 rfl rfl rfl ?_
  refine V_if_eq C dX10_bridge_8 (tgt := 19) rfl rfl (fun c3 => ?_) (fun c3 => ?_)
  · replace hf := ipos c3 hf
    refine V_aload_n C 0 dX10_bridge_19 rfl rfl rfl ?_
    refine V_getI C cf10 rfl 12 rfl (by decide) w1094 rfl dX10_bridge_20 rfl ?_
    obtain rfl := Option.some.inj hf
    exact K _ _ _ dX10_bridge_23 rfl rfl
  · replace hf := ineg c3 hf
    refine V_aload_n C 0 dX10_bridge_11 rfl rfl rfl ?_
    refine V_iload_n C 3 dX10_bridge_12 rfl rfl rfl ?_
    obtain ⟨q2, hq2, hf⟩ := obd hf
    refine V_cVi C (b := 116) (As := [.int q1.1]) (st := []) cf10 rfl M_X10_finding w1184 ⟨by decide, by decide⟩ rfl rfl (Nat.le_of_ble_eq_true rfl) dX10_bridge_13 rfl (kX10_finding hq2) ?_
    refine V_goto C dX10_bridge_16 (tgt := 23) rfl ?_
    obtain rfl := Option.some.inj hf
    exact K _ _ _ dX10_bridge_23 rfl rfl
set_option maxHeartbeats 4000000 in
set_option maxRecDepth 100000 in
theorem kX10_worth {ad : Nat → Nat} {G : Gh} {p1 : Int32} {p2 : Int32} {u : Mem} {q : Int32 × Mem} (hf : FX10_worth p1 p2 u = some q) : Ct shs ad G yX10_worth cX10_worth 5 (some .int) 6 146 [.ref (ad 116), .int p1, .int p2] u (some (.int q.1)) q.2 := by
  refine Ct_ofI (by decide) (Nat.le_of_ble_eq_true rfl) (fun X C hnL K => ?_)
  have C : Cx ad G X cX10_worth "CarryFairModel" 6 146 := C
  unfold FX10_worth at hf
  refine V_aload_n C 0 dX10_worth_0 rfl rfl rfl ?_
  refine V_iload_n C 1 dX10_worth_1 rfl rfl rfl ?_
  refine V_iload_n C 2 dX10_worth_2 rfl rfl rfl ?_
  obtain ⟨q1, hq1, hf⟩ := obd hf
  refine V_cVi C (b := 116) (As := [.int p1, .int p2]) (st := []) cf10 rfl M_X10_refusesBridge w1470 ⟨by decide, by decide⟩ rfl rfl (Nat.le_of_ble_eq_true rfl) dX10_worth_3 rfl (kX10_refusesBridge hq1) ?_
  refine V_istore_n C (L' := [(0, .ref (ad 116)), (1, .int p1), (2, .int p2), (3, .int q1.1)]) dX10_worth_6 rfl rfl (by decide) hnL [1, 2, 3, 0] rfl ?_
  refine V_iload_n C 3 dX10_worth_7 rfl rfl rfl ?_
  refine V_if_eq C dX10_worth_8 (tgt := 17) rfl rfl (fun c6 => ?_) (fun c6 => ?_)
  · replace hf := ipos c6 hf
    refine V_aload_n C 0 dX10_worth_17 rfl rfl rfl ?_
    refine V_iload_n C 1 dX10_worth_18 rfl rfl rfl ?_
    refine V_iload_n C 2 dX10_worth_19 rfl rfl rfl ?_
    obtain ⟨q2, hq2, hf⟩ := obd hf
    refine V_cVi C (b := 116) (As := [.int p1, .int p2]) (st := []) cf10 rfl M_X10_roundOf w1394 ⟨by decide, by decide⟩ rfl rfl (Nat.le_of_ble_eq_true rfl) dX10_worth_20 rfl (kX10_roundOf hq2) ?_
    refine V_istore C (L' := [(0, .ref (ad 116)), (1, .int p1), (2, .int p2), (3, .int q1.1), (4, .int q2.1)]) dX10_worth_23 rfl (by decide) hnL [1, 2, 3, 4, 0] rfl ?_
    refine V_iload C 4 dX10_worth_25 rfl rfl ?_
    refine V_ldc C dX10_worth_27 rfl w1293 ?_
    refine V_icmp_lt C dX10_worth_29 (tgt := 41) rfl rfl (fun c4 => ?_) (fun c4 => ?_)
    · replace hf := ipos c4 hf
      refine V_iload C 4 dX10_worth_41 rfl rfl ?_
      refine V_aload_n C 0 dX10_worth_43 rfl rfl rfl ?_
      refine V_getI C cf10 rfl 11 rfl (by decide) w1093 rfl dX10_worth_44 rfl ?_
      refine V_isub C dX10_worth_47 rfl ?_
      obtain rfl := Option.some.inj hf
      exact K _ _ _ dX10_worth_48 rfl rfl
    · replace hf := ineg c4 hf
      refine V_aload_n C 0 dX10_worth_32 rfl rfl rfl ?_
      refine V_ldc C dX10_worth_33 rfl w1298 ?_
      obtain ⟨q3, hq3, hf⟩ := obd hf
      refine V_cVi C (b := 116) (As := [.int (-1000004)]) (st := []) cf10 rfl M_X10_finding w1184 ⟨by decide, by decide⟩ rfl rfl (Nat.le_of_ble_eq_true rfl) dX10_worth_35 rfl (kX10_finding hq3) ?_
      refine V_goto C dX10_worth_38 (tgt := 48) rfl ?_
      obtain rfl := Option.some.inj hf
      exact K _ _ _ dX10_worth_48 rfl rfl
  · replace hf := ineg c6 hf
    refine V_aload_n C 0 dX10_worth_11 rfl rfl rfl ?_
    refine V_iload_n C 3 dX10_worth_12 rfl rfl rfl ?_
    obtain ⟨q5, hq5, hf⟩ := obd hf
    refine V_cVi C (b := 116) (As := [.int q1.1]) (st := []) cf10 rfl M_X10_finding w1184 ⟨by decide, by decide⟩ rfl rfl (Nat.le_of_ble_eq_true rfl) dX10_worth_13 rfl (kX10_finding hq5) ?_
    obtain rfl := Option.some.inj hf
    exact K _ _ _ dX10_worth_16 rfl rfl
set_option maxHeartbeats 4000000 in
set_option maxRecDepth 100000 in
theorem kX10_reach {ad : Nat → Nat} {G : Gh} {p1 : Int32} {u : Mem} {q : Int32 × Mem} (hf : FX10_reach p1 u = some q) : Ct shs ad G yX10_reach cX10_reach 4 (some .int) 4 93 [.ref (ad 116), .int p1] u (some (.int q.1)) q.2 := by
  refine Ct_ofI (by decide) (Nat.le_of_ble_eq_true rfl) (fun X C hnL K => ?_)
  have C : Cx ad G X cX10_reach "CarryFairModel" 4 93 := C
  unfold FX10_reach at hf
  have Lp29 : ∀ (w : Mem) (x0 : (Int32 × Int32)) (q29 : (Int32 × Int32)), lp (BX10_reach_29 p1 w) FU x0 = some q29 → V shs ad G X 72 [(0, .ref (ad 116)), (1, .int p1), (2, .int q29.1), (3, .int q29.2)] [] w → V shs ad G X 29 [(0, .ref (ad 116)), (1, .int p1), (2, .int x0.1), (3, .int x0.2)] [] w := by
    intro w x0 q29 hq hx29_0
    refine lp_V (BX10_reach_29 p1 w) (fun x29 => V shs ad G X 29 [(0, .ref (ad 116)), (1, .int p1), (2, .int x29.1), (3, .int x29.2)] [] w) q29 (fun rec29 ih29 x29 hf => ?_) FU x0 hq
    unfold BX10_reach_29 at hf
    refine V_iload_n C 3 dX10_reach_29 rfl rfl rfl ?_
    refine V_bipush C dX10_reach_30 rfl (v := 7) rfl ?_
    refine V_icmp_ge C dX10_reach_32 (tgt := 72) rfl rfl (fun c6 => ?_) (fun c6 => ?_)
    · replace hf := ipos c6 hf
      obtain rfl := Option.some.inj hf
      exact hx29_0
    · replace hf := ineg c6 hf
      refine V_iload_n C 2 dX10_reach_35 rfl rfl rfl ?_
      refine V_aload_n C 0 dX10_reach_36 rfl rfl rfl ?_
      refine V_getR C cf10 rfl 5 rfl (by decide) w1087 rfl dX10_reach_37 rfl ?_
      refine V_bipush C dX10_reach_40 rfl (v := 7) rfl ?_
      refine V_aload_n C 0 dX10_reach_42 rfl rfl rfl ?_
      refine V_iload_n C 1 dX10_reach_43 rfl rfl rfl ?_
      refine V_iconst C dX10_reach_44 rfl (v := 1) rfl ?_
      obtain ⟨q3, hq3, hf⟩ := obd hf
      refine V_cVi C (b := 116) (As := [.int p1, .int 1]) (st := [.int 7, .ref (ad 121), .int x29.1]) cf10 rfl M_X10_cIs w1208 ⟨by decide, by decide⟩ rfl rfl (Nat.le_of_ble_eq_true rfl) dX10_reach_45 rfl (kX10_cIs hq3) ?_
      refine V_imul C dX10_reach_48 rfl ?_
      refine V_iload_n C 3 dX10_reach_49 rfl rfl rfl ?_
      refine V_iadd C dX10_reach_50 rfl ?_
      obtain ⟨g4, hf⟩ := gd hf
      refine V_ildJ C rfl g4 rfl dX10_reach_51 rfl ?_
      refine V_ldc C dX10_reach_52 rfl w1293 ?_
      refine V_icmp_ge C dX10_reach_54 (tgt := 63) rfl rfl (fun c5 => ?_) (fun c5 => ?_)
      · replace hf := ipos c5 hf
        refine V_iconst C dX10_reach_63 rfl (v := 0) rfl ?_
        refine V_ior C dX10_reach_64 rfl ?_
        refine V_istore_n C (L' := [(0, .ref (ad 116)), (1, .int p1), (2, .int (x29.1 ||| 0)), (3, .int x29.2)]) dX10_reach_65 rfl rfl (by decide) hnL [1, 2, 0, 3] rfl ?_
        refine V_iinc C (v := (x29.2 + 1)) (L' := [(0, .ref (ad 116)), (1, .int p1), (2, .int (x29.1 ||| 0)), (3, .int (x29.2 + 1))]) 3 dX10_reach_66 rfl rfl rfl (by decide) hnL [1, 2, 3, 0] rfl ?_
        refine V_goto C dX10_reach_69 (tgt := 29) rfl ?_
        exact ih29 ((x29.1 ||| 0), (x29.2 + 1)) hf
      · replace hf := ineg c5 hf
        refine V_iconst C dX10_reach_57 rfl (v := 1) rfl ?_
        refine V_iload_n C 3 dX10_reach_58 rfl rfl rfl ?_
        refine V_jshl C dX10_reach_59 rfl ?_
        refine V_goto C dX10_reach_60 (tgt := 64) rfl ?_
        refine V_ior C dX10_reach_64 rfl ?_
        refine V_istore_n C (L' := [(0, .ref (ad 116)), (1, .int p1), (2, .int (x29.1 ||| (jshl 1 x29.2))), (3, .int x29.2)]) dX10_reach_65 rfl rfl (by decide) hnL [1, 2, 0, 3] rfl ?_
        refine V_iinc C (v := (x29.2 + 1)) (L' := [(0, .ref (ad 116)), (1, .int p1), (2, .int (x29.1 ||| (jshl 1 x29.2))), (3, .int (x29.2 + 1))]) 3 dX10_reach_66 rfl rfl rfl (by decide) hnL [1, 2, 3, 0] rfl ?_
        refine V_goto C dX10_reach_69 (tgt := 29) rfl ?_
        exact ih29 ((x29.1 ||| (jshl 1 x29.2)), (x29.2 + 1)) hf
  refine V_aload_n C 0 dX10_reach_0 rfl rfl rfl ?_
  refine V_iload_n C 1 dX10_reach_1 rfl rfl rfl ?_
  refine V_cVi C (b := 116) (As := [.int p1]) (st := []) cf10 rfl M_X10_isCarrier w1200 ⟨by decide, by decide⟩ rfl rfl (Nat.le_of_ble_eq_true rfl) dX10_reach_2 rfl (kX10_isCarrier rfl) ?_
  refine V_if_ne C dX10_reach_5 (tgt := 15) rfl rfl (fun c9 => ?_) (fun c9 => ?_)
  · replace hf := ineg c9 hf
    refine V_aload_n C 0 dX10_reach_15 rfl rfl rfl ?_
    refine V_aload_n C 0 dX10_reach_16 rfl rfl rfl ?_
    refine V_iload_n C 1 dX10_reach_17 rfl rfl rfl ?_
    refine V_iconst C dX10_reach_18 rfl (v := 0) rfl ?_
    obtain ⟨q1, hq1, hf⟩ := obd hf
    refine V_cVi C (b := 116) (As := [.int p1, .int 0]) (st := [.ref (ad 116)]) cf10 rfl M_X10_cIs w1208 ⟨by decide, by decide⟩ rfl rfl (Nat.le_of_ble_eq_true rfl) dX10_reach_19 rfl (kX10_cIs hq1) ?_
    obtain ⟨q2, hq2, hf⟩ := obd hf
    refine V_cVv C (b := 116) (As := [.int q1]) (st := []) cf10 rfl M_X10_findFar w1289 ⟨by decide, by decide⟩ rfl rfl (Nat.le_of_ble_eq_true rfl) dX10_reach_22 rfl (kX10_findFar hq2) ?_
    refine V_iconst C dX10_reach_25 rfl (v := 0) rfl ?_
    refine V_istore_n C (L' := [(0, .ref (ad 116)), (1, .int p1), (2, .int 0)]) dX10_reach_26 rfl rfl (by decide) hnL [1, 2, 0] rfl ?_
    refine V_iconst C dX10_reach_27 rfl (v := 0) rfl ?_
    refine V_istore_n C (L' := [(0, .ref (ad 116)), (1, .int p1), (2, .int 0), (3, .int 0)]) dX10_reach_28 rfl rfl (by decide) hnL [1, 2, 3, 0] rfl ?_
    obtain ⟨q29_7, hq29_7, hf⟩ := obd hf
    refine Lp29 q2 (0, 0) q29_7 hq29_7 ?_
    refine V_iload_n C 2 dX10_reach_72 rfl rfl rfl ?_
    obtain rfl := Option.some.inj hf
    exact K _ _ _ dX10_reach_73 rfl rfl
  · replace hf := ipos c9 hf
    refine V_aload_n C 0 dX10_reach_8 rfl rfl rfl ?_
    refine V_ldc C dX10_reach_9 rfl w1183 ?_
    obtain ⟨q8, hq8, hf⟩ := obd hf
    refine V_cVi C (b := 116) (As := [.int (-1000001)]) (st := []) cf10 rfl M_X10_finding w1184 ⟨by decide, by decide⟩ rfl rfl (Nat.le_of_ble_eq_true rfl) dX10_reach_11 rfl (kX10_finding hq8) ?_
    obtain rfl := Option.some.inj hf
    exact K _ _ _ dX10_reach_14 rfl rfl
