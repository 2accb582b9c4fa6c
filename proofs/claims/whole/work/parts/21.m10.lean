set_option maxHeartbeats 4000000 in
set_option maxRecDepth 100000 in
theorem kX10_middle {ad : Nat → Nat} {G : Gh} {p1 : Int32} {u : Mem} {q : Int32 × Mem} (hf : FX10_middle p1 u = some q) : Ct shs ad G yX10_middle cX10_middle 8 (some .int) 4 93 [.ref (ad 116), .int p1] u (some (.int q.1)) q.2 := by
  refine Ct_ofI (by decide) (Nat.le_of_ble_eq_true rfl) (fun X C hnL K => ?_)
  have C : Cx ad G X cX10_middle "CarryFairModel" 4 93 := C
  unfold FX10_middle at hf
  have Lp38 : ∀ (v3 : Int32) (w : Mem) (x0 : (Int32 × Int32)) (q38 : (Int32 × Int32)), lp (BX10_middle_38 p1 v3 w) FU x0 = some q38 → V shs ad G X 81 [(0, .ref (ad 116)), (1, .int p1), (2, .int q38.1), (3, .int v3), (4, .int q38.2)] [] w → V shs ad G X 38 [(0, .ref (ad 116)), (1, .int p1), (2, .int x0.1), (3, .int v3), (4, .int x0.2)] [] w := by
    intro v3 w x0 q38 hq hx38_0
    refine lp_V (BX10_middle_38 p1 v3 w) (fun x38 => V shs ad G X 38 [(0, .ref (ad 116)), (1, .int p1), (2, .int x38.1), (3, .int v3), (4, .int x38.2)] [] w) q38 (fun rec38 ih38 x38 hf => ?_) FU x0 hq
    unfold BX10_middle_38 at hf
    refine V_iload C 4 dX10_middle_38 rfl rfl ?_
    refine V_bipush C dX10_middle_40 rfl (v := 7) rfl ?_
    refine V_icmp_ge C dX10_middle_42 (tgt := 81) rfl rfl (fun c6 => ?_) (fun c6 => ?_)
    · replace hf := ipos c6 hf
      obtain rfl := Option.some.inj hf
      exact hx38_0
    · replace hf := ineg c6 hf
      refine V_iload_n C 2 dX10_middle_45 rfl rfl rfl ?_
      refine V_iload_n C 3 dX10_middle_46 rfl rfl rfl ?_
      refine V_iload C 4 dX10_middle_47 rfl rfl ?_
      refine V_icmp_eq C dX10_middle_49 (tgt := 72) rfl rfl (fun c5 => ?_) (fun c5 => ?_)
      · replace hf := ipos c5 hf
        refine V_iconst C dX10_middle_72 rfl (v := 0) rfl ?_
        refine V_ior C dX10_middle_73 rfl ?_
        refine V_istore_n C (L' := [(0, .ref (ad 116)), (1, .int p1), (2, .int (x38.1 ||| 0)), (3, .int v3), (4, .int x38.2)]) dX10_middle_74 rfl rfl (by decide) hnL [1, 2, 0, 3, 4] rfl ?_
        refine V_iinc C (v := (x38.2 + 1)) (L' := [(0, .ref (ad 116)), (1, .int p1), (2, .int (x38.1 ||| 0)), (3, .int v3), (4, .int (x38.2 + 1))]) 4 dX10_middle_75 rfl rfl rfl (by decide) hnL [1, 2, 3, 4, 0] rfl ?_
        refine V_goto C dX10_middle_78 (tgt := 38) rfl ?_
        exact ih38 ((x38.1 ||| 0), (x38.2 + 1)) hf
      · replace hf := ineg c5 hf
        refine V_aload_n C 0 dX10_middle_52 rfl rfl rfl ?_
        refine V_getR C cf10 rfl 0 rfl (by decide) w1082 rfl dX10_middle_53 rfl ?_
        refine V_iload_n C 3 dX10_middle_56 rfl rfl rfl ?_
        refine V_iload C 4 dX10_middle_57 rfl rfl ?_
        refine V_cSi C (As := [.int v3, .int x38.2]) (st := [.ref (ad 117), .int x38.1]) M_X10_wayAt w1256 ⟨by decide, by decide⟩ rfl rfl (Nat.le_of_ble_eq_true rfl) dX10_middle_59 rfl (kX10_wayAt rfl) ?_
        obtain ⟨g3, hf⟩ := gd hf
        refine V_ildJ C rfl g3 rfl dX10_middle_62 rfl ?_
        refine V_if_le C dX10_middle_63 (tgt := 72) rfl rfl (fun c4 => ?_) (fun c4 => ?_)
        · replace hf := ipos c4 hf
          refine V_iconst C dX10_middle_72 rfl (v := 0) rfl ?_
          refine V_ior C dX10_middle_73 rfl ?_
          refine V_istore_n C (L' := [(0, .ref (ad 116)), (1, .int p1), (2, .int (x38.1 ||| 0)), (3, .int v3), (4, .int x38.2)]) dX10_middle_74 rfl rfl (by decide) hnL [1, 2, 0, 3, 4] rfl ?_
          refine V_iinc C (v := (x38.2 + 1)) (L' := [(0, .ref (ad 116)), (1, .int p1), (2, .int (x38.1 ||| 0)), (3, .int v3), (4, .int (x38.2 + 1))]) 4 dX10_middle_75 rfl rfl rfl (by decide) hnL [1, 2, 3, 4, 0] rfl ?_
          refine V_goto C dX10_middle_78 (tgt := 38) rfl ?_
          exact ih38 ((x38.1 ||| 0), (x38.2 + 1)) hf
        · replace hf := ineg c4 hf
          refine V_iconst C dX10_middle_66 rfl (v := 1) rfl ?_
          refine V_iload_n C 3 dX10_middle_67 rfl rfl rfl ?_
          refine V_jshl C dX10_middle_68 rfl ?_
          refine V_goto C dX10_middle_69 (tgt := 73) rfl ?_
          refine V_ior C dX10_middle_73 rfl ?_
          refine V_istore_n C (L' := [(0, .ref (ad 116)), (1, .int p1), (2, .int (x38.1 ||| (jshl 1 v3))), (3, .int v3), (4, .int x38.2)]) dX10_middle_74 rfl rfl (by decide) hnL [1, 2, 0, 3, 4] rfl ?_
          refine V_iinc C (v := (x38.2 + 1)) (L' := [(0, .ref (ad 116)), (1, .int p1), (2, .int (x38.1 ||| (jshl 1 v3))), (3, .int v3), (4, .int (x38.2 + 1))]) 4 dX10_middle_75 rfl rfl rfl (by decide) hnL [1, 2, 3, 4, 0] rfl ?_
          refine V_goto C dX10_middle_78 (tgt := 38) rfl ?_
          exact ih38 ((x38.1 ||| (jshl 1 v3)), (x38.2 + 1)) hf
  have Lp29 : ∀ (w : Mem) (x0 : (Int32 × Int32)) (q29 : (Int32 × Int32)), lp (BX10_middle_29 p1 w) FU x0 = some q29 → V shs ad G X 87 [(0, .ref (ad 116)), (1, .int p1), (2, .int q29.1), (3, .int q29.2)] [] w → V shs ad G X 29 [(0, .ref (ad 116)), (1, .int p1), (2, .int x0.1), (3, .int x0.2)] [] w := by
    intro w x0 q29 hq hx29_0
    refine lp_V (BX10_middle_29 p1 w) (fun x29 => V shs ad G X 29 [(0, .ref (ad 116)), (1, .int p1), (2, .int x29.1), (3, .int x29.2)] [] w) q29 (fun rec29 ih29 x29 hf => ?_) FU x0 hq
    unfold BX10_middle_29 at hf
    refine V_iload_n C 3 dX10_middle_29 rfl rfl rfl ?_
    refine V_bipush C dX10_middle_30 rfl (v := 7) rfl ?_
    refine V_icmp_ge C dX10_middle_32 (tgt := 87) rfl rfl (fun c8 => ?_) (fun c8 => ?_)
    · replace hf := ipos c8 hf
      obtain rfl := Option.some.inj hf
      exact hx29_0
    · replace hf := ineg c8 hf
      refine V_iconst C dX10_middle_35 rfl (v := 0) rfl ?_
      refine V_istore C (L' := [(0, .ref (ad 116)), (1, .int p1), (2, .int x29.1), (3, .int x29.2), (4, .int 0)]) dX10_middle_36 rfl (by decide) hnL [1, 2, 3, 4, 0] rfl ?_
      obtain ⟨q38_7, hq38_7, hf⟩ := obd hf
      refine Lp38 x29.2 w (x29.1, 0) q38_7 hq38_7 ?_
      refine V_iinc C (v := (x29.2 + 1)) (L' := [(0, .ref (ad 116)), (1, .int p1), (2, .int q38_7.1), (3, .int (x29.2 + 1)), (4, .int q38_7.2)]) 3 dX10_middle_81 rfl rfl rfl (by decide) hnL [1, 2, 3, 0, 4] rfl ?_
      refine V_goto C dX10_middle_84 (tgt := 29) rfl ?_
      refine V_sub (L' := [(0, .ref (ad 116)), (1, .int p1), (2, .int q38_7.1), (3, .int (x29.2 + 1))]) [0, 1, 2, 3] rfl ?_
      exact ih29 (q38_7.1, (x29.2 + 1)) hf
  have Lp123 : ∀ (v2 : Int32) (v3 : Int32) (v4 : Int32) (v5 : Int32) (w : Mem) (x0 : (Int32 × Int32)) (q123 : (Int32 × Int32)), lp (BX10_middle_123 p1 v2 v3 v4 v5 w) FU x0 = some q123 → V shs ad G X 170 [(0, .ref (ad 116)), (1, .int p1), (2, .int v2), (3, .int v3), (4, .int v4), (5, .int v5), (6, .int q123.1), (7, .int q123.2)] [] w → V shs ad G X 123 [(0, .ref (ad 116)), (1, .int p1), (2, .int v2), (3, .int v3), (4, .int v4), (5, .int v5), (6, .int x0.1), (7, .int x0.2)] [] w := by
    intro v2 v3 v4 v5 w x0 q123 hq hx123_0
    refine lp_V (BX10_middle_123 p1 v2 v3 v4 v5 w) (fun x123 => V shs ad G X 123 [(0, .ref (ad 116)), (1, .int p1), (2, .int v2), (3, .int v3), (4, .int v4), (5, .int v5), (6, .int x123.1), (7, .int x123.2)] [] w) q123 (fun rec123 ih123 x123 hf => ?_) FU x0 hq
    unfold BX10_middle_123 at hf
    refine V_iload C 7 dX10_middle_123 rfl rfl ?_
    refine V_bipush C dX10_middle_125 rfl (v := 7) rfl ?_
    refine V_icmp_ge C dX10_middle_127 (tgt := 170) rfl rfl (fun c12 => ?_) (fun c12 => ?_)
    · replace hf := ipos c12 hf
      obtain rfl := Option.some.inj hf
      exact hx123_0
    · replace hf := ineg c12 hf
      refine V_iload_n C 2 dX10_middle_130 rfl rfl rfl ?_
      refine V_iload C 7 dX10_middle_131 rfl rfl ?_
      refine V_cSi C (As := [.int v2, .int x123.2]) (st := []) M_X10_has w1233 ⟨by decide, by decide⟩ rfl rfl (Nat.le_of_ble_eq_true rfl) dX10_middle_133 rfl (kX10_has rfl) ?_
      refine V_if_eq C dX10_middle_136 (tgt := 160) rfl rfl (fun c11 => ?_) (fun c11 => ?_)
      · replace hf := ipos c11 hf
        refine V_iload C 6 dX10_middle_160 rfl rfl ?_
        refine V_istore C (L' := [(0, .ref (ad 116)), (1, .int p1), (2, .int v2), (3, .int v3), (4, .int v4), (5, .int v5), (6, .int x123.1), (7, .int x123.2)]) dX10_middle_162 rfl (by decide) hnL [1, 2, 3, 4, 5, 6, 0, 7] rfl ?_
        refine V_iinc C (v := (x123.2 + 1)) (L' := [(0, .ref (ad 116)), (1, .int p1), (2, .int v2), (3, .int v3), (4, .int v4), (5, .int v5), (6, .int x123.1), (7, .int (x123.2 + 1))]) 7 dX10_middle_164 rfl rfl rfl (by decide) hnL [1, 2, 3, 4, 5, 6, 7, 0] rfl ?_
        refine V_goto C dX10_middle_167 (tgt := 123) rfl ?_
        exact ih123 (x123.1, (x123.2 + 1)) hf
      · replace hf := ineg c11 hf
        refine V_iload C 6 dX10_middle_139 rfl rfl ?_
        refine V_aload_n C 0 dX10_middle_141 rfl rfl rfl ?_
        refine V_getR C cf10 rfl 5 rfl (by decide) w1087 rfl dX10_middle_142 rfl ?_
        refine V_bipush C dX10_middle_145 rfl (v := 7) rfl ?_
        refine V_iload C 5 dX10_middle_147 rfl rfl ?_
        refine V_imul C dX10_middle_149 rfl ?_
        refine V_iload C 7 dX10_middle_150 rfl rfl ?_
        refine V_iadd C dX10_middle_152 rfl ?_
        obtain ⟨g10, hf⟩ := gd hf
        refine V_ildJ C rfl g10 rfl dX10_middle_153 rfl ?_
        refine V_mmax C w1260 ⟨by decide, by decide⟩ (Nat.le_of_ble_eq_true rfl) dX10_middle_154 rfl ?_
        refine V_goto C dX10_middle_157 (tgt := 162) rfl ?_
        refine V_istore C (L' := [(0, .ref (ad 116)), (1, .int p1), (2, .int v2), (3, .int v3), (4, .int v4), (5, .int v5), (6, .int (jmax x123.1 (w 121 ((7 * v5) + x123.2).toNatClampNeg))), (7, .int x123.2)]) dX10_middle_162 rfl (by decide) hnL [1, 2, 3, 4, 5, 6, 0, 7] rfl ?_
        refine V_iinc C (v := (x123.2 + 1)) (L' := [(0, .ref (ad 116)), (1, .int p1), (2, .int v2), (3, .int v3), (4, .int v4), (5, .int v5), (6, .int (jmax x123.1 (w 121 ((7 * v5) + x123.2).toNatClampNeg))), (7, .int (x123.2 + 1))]) 7 dX10_middle_164 rfl rfl rfl (by decide) hnL [1, 2, 3, 4, 5, 6, 7, 0] rfl ?_
        refine V_goto C dX10_middle_167 (tgt := 123) rfl ?_
        exact ih123 ((jmax x123.1 (w 121 ((7 * v5) + x123.2).toNatClampNeg)), (x123.2 + 1)) hf
  have Lp96 : ∀ (v2 : Int32) (w : Mem) (x0 : (Int32 × Int32 × Int32)) (q96 : (Int32 × Int32 × Int32)), lp (BX10_middle_96 p1 v2 w) FU x0 = some q96 → V shs ad G X 199 [(0, .ref (ad 116)), (1, .int p1), (2, .int v2), (3, .int q96.1), (4, .int q96.2.1), (5, .int q96.2.2)] [] w → V shs ad G X 96 [(0, .ref (ad 116)), (1, .int p1), (2, .int v2), (3, .int x0.1), (4, .int x0.2.1), (5, .int x0.2.2)] [] w := by
    intro v2 w x0 q96 hq hx96_0
    refine lp_V (BX10_middle_96 p1 v2 w) (fun x96 => V shs ad G X 96 [(0, .ref (ad 116)), (1, .int p1), (2, .int v2), (3, .int x96.1), (4, .int x96.2.1), (5, .int x96.2.2)] [] w) q96 (fun rec96 ih96 x96 hf => ?_) FU x0 hq
    unfold BX10_middle_96 at hf
    have JX10_middle_118_96 : ∀ (v3 : Int32) (v4 : Int32) (v5 : Int32) (s0 : Int32), JX10_middle_118_96 p1 v2 v3 v4 v5 s0 w rec96 = some q96 → V shs ad G X 118 [(0, .ref (ad 116)), (1, .int p1), (2, .int v2), (3, .int v3), (4, .int v4), (5, .int v5)] [.int s0] w := by
      intro v3 v4 v5 s0 hf
      unfold JX10_middle_118_96 at hf
      refine V_istore C (L' := [(0, .ref (ad 116)), (1, .int p1), (2, .int v2), (3, .int v3), (4, .int v4), (5, .int v5), (6, .int s0)]) dX10_middle_118 rfl (by decide) hnL [1, 2, 3, 4, 5, 6, 0] rfl ?_
      refine V_iconst C dX10_middle_120 rfl (v := 0) rfl ?_
      refine V_istore C (L' := [(0, .ref (ad 116)), (1, .int p1), (2, .int v2), (3, .int v3), (4, .int v4), (5, .int v5), (6, .int s0), (7, .int 0)]) dX10_middle_121 rfl (by decide) hnL [1, 2, 3, 4, 5, 6, 7, 0] rfl ?_
      obtain ⟨q123_13, hq123_13, hf⟩ := obd hf
      refine Lp123 v2 v3 v4 v5 w (s0, 0) q123_13 hq123_13 ?_
      refine V_iload C 6 dX10_middle_170 rfl rfl ?_
      refine V_iload C 4 dX10_middle_172 rfl rfl ?_
      refine V_icmp_ge C dX10_middle_174 (tgt := 182) rfl rfl (fun c14 => ?_) (fun c14 => ?_)
      · replace hf := ipos c14 hf
        refine V_iload_n C 3 dX10_middle_182 rfl rfl rfl ?_
        refine V_istore_n C (L' := [(0, .ref (ad 116)), (1, .int p1), (2, .int v2), (3, .int v3), (4, .int v4), (5, .int v5), (6, .int q123_13.1), (7, .int q123_13.2)]) dX10_middle_183 rfl rfl (by decide) hnL [1, 2, 3, 0, 4, 5, 6, 7] rfl ?_
        refine V_iload C 4 dX10_middle_184 rfl rfl ?_
        refine V_iload C 6 dX10_middle_186 rfl rfl ?_
        refine V_mmin C w1259 ⟨by decide, by decide⟩ (Nat.le_of_ble_eq_true rfl) dX10_middle_188 rfl ?_
        refine V_istore C (L' := [(0, .ref (ad 116)), (1, .int p1), (2, .int v2), (3, .int v3), (4, .int (jmin v4 q123_13.1)), (5, .int v5), (6, .int q123_13.1), (7, .int q123_13.2)]) dX10_middle_191 rfl (by decide) hnL [1, 2, 3, 4, 0, 5, 6, 7] rfl ?_
        refine V_iinc C (v := (v5 + 1)) (L' := [(0, .ref (ad 116)), (1, .int p1), (2, .int v2), (3, .int v3), (4, .int (jmin v4 q123_13.1)), (5, .int (v5 + 1)), (6, .int q123_13.1), (7, .int q123_13.2)]) 5 dX10_middle_193 rfl rfl rfl (by decide) hnL [1, 2, 3, 4, 5, 0, 6, 7] rfl ?_
        refine V_goto C dX10_middle_196 (tgt := 96) rfl ?_
        refine V_sub (L' := [(0, .ref (ad 116)), (1, .int p1), (2, .int v2), (3, .int v3), (4, .int (jmin v4 q123_13.1)), (5, .int (v5 + 1))]) [0, 1, 2, 3, 4, 5] rfl ?_
        exact ih96 (v3, (jmin v4 q123_13.1), (v5 + 1)) hf
      · replace hf := ineg c14 hf
        refine V_iload C 5 dX10_middle_177 rfl rfl ?_
        refine V_goto C dX10_middle_179 (tgt := 183) rfl ?_
        refine V_istore_n C (L' := [(0, .ref (ad 116)), (1, .int p1), (2, .int v2), (3, .int v5), (4, .int v4), (5, .int v5), (6, .int q123_13.1), (7, .int q123_13.2)]) dX10_middle_183 rfl rfl (by decide) hnL [1, 2, 3, 0, 4, 5, 6, 7] rfl ?_
        refine V_iload C 4 dX10_middle_184 rfl rfl ?_
        refine V_iload C 6 dX10_middle_186 rfl rfl ?_
        refine V_mmin C w1259 ⟨by decide, by decide⟩ (Nat.le_of_ble_eq_true rfl) dX10_middle_188 rfl ?_
        refine V_istore C (L' := [(0, .ref (ad 116)), (1, .int p1), (2, .int v2), (3, .int v5), (4, .int (jmin v4 q123_13.1)), (5, .int v5), (6, .int q123_13.1), (7, .int q123_13.2)]) dX10_middle_191 rfl (by decide) hnL [1, 2, 3, 4, 0, 5, 6, 7] rfl ?_
        refine V_iinc C (v := (v5 + 1)) (L' := [(0, .ref (ad 116)), (1, .int p1), (2, .int v2), (3, .int v5), (4, .int (jmin v4 q123_13.1)), (5, .int (v5 + 1)), (6, .int q123_13.1), (7, .int q123_13.2)]) 5 dX10_middle_193 rfl rfl rfl (by decide) hnL [1, 2, 3, 4, 5, 0, 6, 7] rfl ?_
        refine V_goto C dX10_middle_196 (tgt := 96) rfl ?_
        refine V_sub (L' := [(0, .ref (ad 116)), (1, .int p1), (2, .int v2), (3, .int v5), (4, .int (jmin v4 q123_13.1)), (5, .int (v5 + 1))]) [0, 1, 2, 3, 4, 5] rfl ?_
        exact ih96 (v5, (jmin v4 q123_13.1), (v5 + 1)) hf
    refine V_iload C 5 dX10_middle_96 rfl rfl ?_
    refine V_bipush C dX10_middle_98 rfl (v := 7) rfl ?_
    refine V_icmp_ge C dX10_middle_100 (tgt := 199) rfl rfl (fun c16 => ?_) (fun c16 => ?_)
    · replace hf := ipos c16 hf
      obtain rfl := Option.some.inj hf
      exact hx96_0
    · replace hf := ineg c16 hf
      refine V_iload_n C 2 dX10_middle_103 rfl rfl rfl ?_
      refine V_iload C 5 dX10_middle_104 rfl rfl ?_
      refine V_cSi C (As := [.int v2, .int x96.2.2]) (st := []) M_X10_has w1233 ⟨by decide, by decide⟩ rfl rfl (Nat.le_of_ble_eq_true rfl) dX10_middle_106 rfl (kX10_has rfl) ?_
      refine V_if_eq C dX10_middle_109 (tgt := 116) rfl rfl (fun c15 => ?_) (fun c15 => ?_)
      · replace hf := ipos c15 hf
        refine V_ldc C dX10_middle_116 rfl w1293 ?_
        exact JX10_middle_118_96 x96.1 x96.2.1 x96.2.2 1000000 hf
      · replace hf := ineg c15 hf
        refine V_iconst C dX10_middle_112 rfl (v := 0) rfl ?_
        refine V_goto C dX10_middle_113 (tgt := 118) rfl ?_
        exact JX10_middle_118_96 x96.1 x96.2.1 x96.2.2 0 hf
  refine V_aload_n C 0 dX10_middle_0 rfl rfl rfl ?_
  refine V_iload_n C 1 dX10_middle_1 rfl rfl rfl ?_
  refine V_cVi C (b := 116) (As := [.int p1]) (st := []) cf10 rfl M_X10_isCarrier w1200 ⟨by decide, by decide⟩ rfl rfl (Nat.le_of_ble_eq_true rfl) dX10_middle_2 rfl (kX10_isCarrier rfl) ?_
  refine V_if_ne C dX10_middle_5 (tgt := 15) rfl rfl (fun c21 => ?_) (fun c21 => ?_)
  · replace hf := ineg c21 hf
    refine V_aload_n C 0 dX10_middle_15 rfl rfl rfl ?_
    refine V_aload_n C 0 dX10_middle_16 rfl rfl rfl ?_
    refine V_iload_n C 1 dX10_middle_17 rfl rfl rfl ?_
    refine V_iconst C dX10_middle_18 rfl (v := 0) rfl ?_
    obtain ⟨q1, hq1, hf⟩ := obd hf
    refine V_cVi C (b := 116) (As := [.int p1, .int 0]) (st := [.ref (ad 116)]) cf10 rfl M_X10_cIs w1208 ⟨by decide, by decide⟩ rfl rfl (Nat.le_of_ble_eq_true rfl) dX10_middle_19 rfl (kX10_cIs hq1) ?_
    obtain ⟨q2, hq2, hf⟩ := obd hf
    refine V_cVv C (b := 116) (As := [.int q1]) (st := []) cf10 rfl M_X10_findFar w1289 ⟨by decide, by decide⟩ rfl rfl (Nat.le_of_ble_eq_true rfl) dX10_middle_22 rfl (kX10_findFar hq2) ?_
    refine V_iconst C dX10_middle_25 rfl (v := 0) rfl ?_
    refine V_istore_n C (L' := [(0, .ref (ad 116)), (1, .int p1), (2, .int 0)]) dX10_middle_26 rfl rfl (by decide) hnL [1, 2, 0] rfl ?_
    refine V_iconst C dX10_middle_27 rfl (v := 0) rfl ?_
    refine V_istore_n C (L' := [(0, .ref (ad 116)), (1, .int p1), (2, .int 0), (3, .int 0)]) dX10_middle_28 rfl rfl (by decide) hnL [1, 2, 3, 0] rfl ?_
    obtain ⟨q29_9, hq29_9, hf⟩ := obd hf
    refine Lp29 q2 (0, 0) q29_9 hq29_9 ?_
    refine V_iconst C dX10_middle_87 rfl (v := (-1)) (by decide) ?_
    refine V_istore_n C (L' := [(0, .ref (ad 116)), (1, .int p1), (2, .int q29_9.1), (3, .int (-1))]) dX10_middle_88 rfl rfl (by decide) hnL [1, 2, 3, 0] rfl ?_
    refine V_ldc C dX10_middle_89 rfl w1293 ?_
    refine V_istore C (L' := [(0, .ref (ad 116)), (1, .int p1), (2, .int q29_9.1), (3, .int (-1)), (4, .int 1000000)]) dX10_middle_91 rfl (by decide) hnL [1, 2, 3, 4, 0] rfl ?_
    refine V_iconst C dX10_middle_93 rfl (v := 0) rfl ?_
    refine V_istore C (L' := [(0, .ref (ad 116)), (1, .int p1), (2, .int q29_9.1), (3, .int (-1)), (4, .int 1000000), (5, .int 0)]) dX10_middle_94 rfl (by decide) hnL [1, 2, 3, 4, 5, 0] rfl ?_
    obtain ⟨q96_17, hq96_17, hf⟩ := obd hf
    refine Lp96 q29_9.1 q2 ((-1), 1000000, 0) q96_17 hq96_17 ?_
    refine V_iload_n C 3 dX10_middle_199 rfl rfl rfl ?_
    refine V_if_ge C dX10_middle_200 (tgt := 212) rfl rfl (fun c19 => ?_) (fun c19 => ?_)
    · replace hf := ipos c19 hf
      refine V_iload_n C 3 dX10_middle_212 rfl rfl rfl ?_
      obtain rfl := Option.some.inj hf
      exact K _ _ _ dX10_middle_213 rfl rfl
    · replace hf := ineg c19 hf
      refine V_aload_n C 0 dX10_middle_203 rfl rfl rfl ?_
      refine V_ldc C dX10_middle_204 rfl w1298 ?_
      obtain ⟨q18, hq18, hf⟩ := obd hf
      refine V_cVi C (b := 116) (As := [.int (-1000004)]) (st := []) cf10 rfl M_X10_finding w1184 ⟨by decide, by decide⟩ rfl rfl (Nat.le_of_ble_eq_true rfl) dX10_middle_206 rfl (kX10_finding hq18) ?_
      refine V_goto C dX10_middle_209 (tgt := 213) rfl ?_
      obtain rfl := Option.some.inj hf
      exact K _ _ _ dX10_middle_213 rfl rfl
  · replace hf := ipos c21 hf
    refine V_aload_n C 0 dX10_middle_8 rfl rfl rfl ?_
    refine V_ldc C dX10_middle_9 rfl w1183 ?_
    obtain ⟨q20, hq20, hf⟩ := obd hf
    refine V_cVi C (b := 116) (As := [.int (-1000001)]) (st := []) cf10 rfl M_X10_finding w1184 ⟨by decide, by decide⟩ rfl rfl (Nat.le_of_ble_eq_true rfl) dX10_middle_11 rfl (kX10_finding hq20) ?_
    obtain rfl := Option.some.inj hf
    exact K _ _ _ dX10_middle_14 rfl rfl
set_option maxHeartbeats 4000000 in
set_option maxRecDepth 100000 in
theorem kX10_heavy {ad : Nat → Nat} {G : Gh} {p1 : Int32} {p2 : Int32} {u : Mem} {q : Int32 × Mem} (hf : FX10_heavy p1 p2 u = some q) : Ct shs ad G yX10_heavy cX10_heavy 6 (some .int) 3 66 [.ref (ad 116), .int p1, .int p2] u (some (.int q.1)) q.2 := by
  refine Ct_ofI (by decide) (Nat.le_of_ble_eq_true rfl) (fun X C hnL K => ?_)
  have C : Cx ad G X cX10_heavy "CarryFairModel" 3 66 := C
  unfold FX10_heavy at hf
  have Lp53 : ∀ (v3 : Int32) (w : Mem) (x0 : (Int32 × Int32)) (q53 : (Int32 × Int32)), lp (BX10_heavy_53 p1 p2 v3 w) FU x0 = some q53 → V shs ad G X 112 [(0, .ref (ad 116)), (1, .int p1), (2, .int p2), (3, .int v3), (4, .int q53.1), (5, .int q53.2)] [] w → V shs ad G X 53 [(0, .ref (ad 116)), (1, .int p1), (2, .int p2), (3, .int v3), (4, .int x0.1), (5, .int x0.2)] [] w := by
    intro v3 w x0 q53 hq hx53_0
    refine lp_V (BX10_heavy_53 p1 p2 v3 w) (fun x53 => V shs ad G X 53 [(0, .ref (ad 116)), (1, .int p1), (2, .int p2), (3, .int v3), (4, .int x53.1), (5, .int x53.2)] [] w) q53 (fun rec53 ih53 x53 hf => ?_) FU x0 hq
    unfold BX10_heavy_53 at hf
    refine V_iload C 5 dX10_heavy_53 rfl rfl ?_
    refine V_aload_n C 0 dX10_heavy_55 rfl rfl rfl ?_
    refine V_getR C cf10 rfl 0 rfl (by decide) w1082 rfl dX10_heavy_56 rfl ?_
    refine V_bipush C dX10_heavy_59 rfl (v := 43) rfl ?_
    refine V_ildJ C rfl (by decide) (j := 43) (by decide) dX10_heavy_61 rfl ?_
    refine V_icmp_ge C dX10_heavy_62 (tgt := 112) rfl rfl (fun c9 => ?_) (fun c9 => ?_)
    · replace hf := ipos c9 hf
      obtain rfl := Option.some.inj hf
      exact hx53_0
    · replace hf := ineg c9 hf
      refine V_iload C 4 dX10_heavy_65 rfl rfl ?_
      refine V_iload_n C 2 dX10_heavy_67 rfl rfl rfl ?_
      refine V_iload C 5 dX10_heavy_68 rfl rfl ?_
      refine V_cSi C (As := [.int p2, .int x53.2]) (st := [.int x53.1]) M_X10_has w1233 ⟨by decide, by decide⟩ rfl rfl (Nat.le_of_ble_eq_true rfl) dX10_heavy_70 rfl (kX10_has rfl) ?_
      refine V_if_eq C dX10_heavy_73 (tgt := 102) rfl rfl (fun c8 => ?_) (fun c8 => ?_)
      · replace hf := ipos c8 hf
        refine V_iconst C dX10_heavy_102 rfl (v := 0) rfl ?_
        refine V_ior C dX10_heavy_103 rfl ?_
        refine V_istore C (L' := [(0, .ref (ad 116)), (1, .int p1), (2, .int p2), (3, .int v3), (4, .int (x53.1 ||| 0)), (5, .int x53.2)]) dX10_heavy_104 rfl (by decide) hnL [1, 2, 3, 4, 0, 5] rfl ?_
        refine V_iinc C (v := (x53.2 + 1)) (L' := [(0, .ref (ad 116)), (1, .int p1), (2, .int p2), (3, .int v3), (4, .int (x53.1 ||| 0)), (5, .int (x53.2 + 1))]) 5 dX10_heavy_106 rfl rfl rfl (by decide) hnL [1, 2, 3, 4, 5, 0] rfl ?_
        refine V_goto C dX10_heavy_109 (tgt := 53) rfl ?_
        exact ih53 ((x53.1 ||| 0), (x53.2 + 1)) hf
      · replace hf := ineg c8 hf
        refine V_iload_n C 3 dX10_heavy_76 rfl rfl rfl ?_
        refine V_aload_n C 0 dX10_heavy_77 rfl rfl rfl ?_
        refine V_iload C 5 dX10_heavy_78 rfl rfl ?_
        refine V_iconst C dX10_heavy_80 rfl (v := 0) rfl ?_
        obtain ⟨q5, hq5, hf⟩ := obd hf
        refine V_cVi C (b := 116) (As := [.int x53.2, .int 0]) (st := [.int v3, .int x53.1]) cf10 rfl M_X10_eIs w1222 ⟨by decide, by decide⟩ rfl rfl (Nat.le_of_ble_eq_true rfl) dX10_heavy_81 rfl (kX10_eIs hq5) ?_
        refine V_iconst C dX10_heavy_84 rfl (v := 2) rfl ?_
        refine V_idiv C dX10_heavy_85 rfl (by decide) ?_
        refine V_iadd C dX10_heavy_86 rfl ?_
        refine V_aload_n C 0 dX10_heavy_87 rfl rfl rfl ?_
        refine V_iload_n C 1 dX10_heavy_88 rfl rfl rfl ?_
        obtain ⟨q6, hq6, hf⟩ := obd hf
        refine V_cVi C (b := 116) (As := [.int p1]) (st := [.int (v3 + (q5 / 2)), .int x53.1]) cf10 rfl M_X10_bears w1204 ⟨by decide, by decide⟩ rfl rfl (Nat.le_of_ble_eq_true rfl) dX10_heavy_89 rfl (kX10_bears hq6) ?_
        refine V_icmp_le C dX10_heavy_92 (tgt := 102) rfl rfl (fun c7 => ?_) (fun c7 => ?_)
        · replace hf := ipos c7 hf
          refine V_iconst C dX10_heavy_102 rfl (v := 0) rfl ?_
          refine V_ior C dX10_heavy_103 rfl ?_
          refine V_istore C (L' := [(0, .ref (ad 116)), (1, .int p1), (2, .int p2), (3, .int v3), (4, .int (x53.1 ||| 0)), (5, .int x53.2)]) dX10_heavy_104 rfl (by decide) hnL [1, 2, 3, 4, 0, 5] rfl ?_
          refine V_iinc C (v := (x53.2 + 1)) (L' := [(0, .ref (ad 116)), (1, .int p1), (2, .int p2), (3, .int v3), (4, .int (x53.1 ||| 0)), (5, .int (x53.2 + 1))]) 5 dX10_heavy_106 rfl rfl rfl (by decide) hnL [1, 2, 3, 4, 5, 0] rfl ?_
          refine V_goto C dX10_heavy_109 (tgt := 53) rfl ?_
          exact ih53 ((x53.1 ||| 0), (x53.2 + 1)) hf
        · replace hf := ineg c7 hf
          refine V_iconst C dX10_heavy_95 rfl (v := 1) rfl ?_
          refine V_iload C 5 dX10_heavy_96 rfl rfl ?_
          refine V_jshl C dX10_heavy_98 rfl ?_
          refine V_goto C dX10_heavy_99 (tgt := 103) rfl ?_
          refine V_ior C dX10_heavy_103 rfl ?_
          refine V_istore C (L' := [(0, .ref (ad 116)), (1, .int p1), (2, .int p2), (3, .int v3), (4, .int (x53.1 ||| (jshl 1 x53.2))), (5, .int x53.2)]) dX10_heavy_104 rfl (by decide) hnL [1, 2, 3, 4, 0, 5] rfl ?_
          refine V_iinc C (v := (x53.2 + 1)) (L' := [(0, .ref (ad 116)), (1, .int p1), (2, .int p2), (3, .int v3), (4, .int (x53.1 ||| (jshl 1 x53.2))), (5, .int (x53.2 + 1))]) 5 dX10_heavy_106 rfl rfl rfl (by decide) hnL [1, 2, 3, 4, 5, 0] rfl ?_
          refine V_goto C dX10_heavy_109 (tgt := 53) rfl ?_
          exact ih53 ((x53.1 ||| (jshl 1 x53.2)), (x53.2 + 1)) hf
  refine V_aload_n C 0 dX10_heavy_0 rfl rfl rfl ?_
  refine V_iload_n C 1 dX10_heavy_1 rfl rfl rfl ?_
  refine V_cVi C (b := 116) (As := [.int p1]) (st := []) cf10 rfl M_X10_isCarrier w1200 ⟨by decide, by decide⟩ rfl rfl (Nat.le_of_ble_eq_true rfl) dX10_heavy_2 rfl (kX10_isCarrier rfl) ?_
  refine V_if_eq C dX10_heavy_5 (tgt := 18) rfl rfl (fun c15 => ?_) (fun c15 => ?_)
  · replace hf := ipos c15 hf
    refine V_aload_n C 0 dX10_heavy_18 rfl rfl rfl ?_
    refine V_ldc C dX10_heavy_19 rfl w1183 ?_
    obtain ⟨q1, hq1, hf⟩ := obd hf
    refine V_cVi C (b := 116) (As := [.int (-1000001)]) (st := []) cf10 rfl M_X10_finding w1184 ⟨by decide, by decide⟩ rfl rfl (Nat.le_of_ble_eq_true rfl) dX10_heavy_21 rfl (kX10_finding hq1) ?_
    obtain rfl := Option.some.inj hf
    exact K _ _ _ dX10_heavy_24 rfl rfl
  · replace hf := ineg c15 hf
    refine V_aload_n C 0 dX10_heavy_8 rfl rfl rfl ?_
    refine V_iload_n C 2 dX10_heavy_9 rfl rfl rfl ?_
    refine V_bipush C dX10_heavy_10 rfl (v := 8) rfl ?_
    obtain ⟨q2, hq2, hf⟩ := obd hf
    refine V_cVi C (b := 116) (As := [.int p2, .int 8]) (st := []) cf10 rfl M_X10_isSet w1383 ⟨by decide, by decide⟩ rfl rfl (Nat.le_of_ble_eq_true rfl) dX10_heavy_12 rfl (kX10_isSet hq2) ?_
    refine V_if_ne C dX10_heavy_15 (tgt := 25) rfl rfl (fun c14 => ?_) (fun c14 => ?_)
    · replace hf := ineg c14 hf
      refine V_aload_n C 0 dX10_heavy_25 rfl rfl rfl ?_
      refine V_iload_n C 2 dX10_heavy_26 rfl rfl rfl ?_
      obtain ⟨q3, hq3, hf⟩ := obd hf
      refine V_cVi C (b := 116) (As := [.int p2]) (st := []) cf10 rfl M_X10_weighs w1229 ⟨by decide, by decide⟩ rfl rfl (Nat.le_of_ble_eq_true rfl) dX10_heavy_27 rfl (kX10_weighs hq3) ?_
      refine V_istore_n C (L' := [(0, .ref (ad 116)), (1, .int p1), (2, .int p2), (3, .int q3)]) dX10_heavy_30 rfl rfl (by decide) hnL [1, 2, 3, 0] rfl ?_
      refine V_iload_n C 3 dX10_heavy_31 rfl rfl rfl ?_
      refine V_aload_n C 0 dX10_heavy_32 rfl rfl rfl ?_
      refine V_iload_n C 1 dX10_heavy_33 rfl rfl rfl ?_
      obtain ⟨q4, hq4, hf⟩ := obd hf
      refine V_cVi C (b := 116) (As := [.int p1]) (st := [.int q3]) cf10 rfl M_X10_bears w1204 ⟨by decide, by decide⟩ rfl rfl (Nat.le_of_ble_eq_true rfl) dX10_heavy_34 rfl (kX10_bears hq4) ?_
      refine V_icmp_le C dX10_heavy_37 (tgt := 47) rfl rfl (fun c12 => ?_) (fun c12 => ?_)
      · replace hf := ipos c12 hf
        refine V_iconst C dX10_heavy_47 rfl (v := 0) rfl ?_
        refine V_istore C (L' := [(0, .ref (ad 116)), (1, .int p1), (2, .int p2), (3, .int q3), (4, .int 0)]) dX10_heavy_48 rfl (by decide) hnL [1, 2, 3, 4, 0] rfl ?_
        refine V_iconst C dX10_heavy_50 rfl (v := 0) rfl ?_
        refine V_istore C (L' := [(0, .ref (ad 116)), (1, .int p1), (2, .int p2), (3, .int q3), (4, .int 0), (5, .int 0)]) dX10_heavy_51 rfl (by decide) hnL [1, 2, 3, 4, 5, 0] rfl ?_
        obtain ⟨q53_10, hq53_10, hf⟩ := obd hf
        refine Lp53 q3 u (0, 0) q53_10 hq53_10 ?_
        refine V_iload C 4 dX10_heavy_112 rfl rfl ?_
        obtain rfl := Option.some.inj hf
        exact K _ _ _ dX10_heavy_114 rfl rfl
      · replace hf := ineg c12 hf
        refine V_aload_n C 0 dX10_heavy_40 rfl rfl rfl ?_
        refine V_ldc C dX10_heavy_41 rfl w1334 ?_
        obtain ⟨q11, hq11, hf⟩ := obd hf
        refine V_cVi C (b := 116) (As := [.int (-1000005)]) (st := []) cf10 rfl M_X10_finding w1184 ⟨by decide, by decide⟩ rfl rfl (Nat.le_of_ble_eq_true rfl) dX10_heavy_43 rfl (kX10_finding hq11) ?_
        obtain rfl := Option.some.inj hf
        exact K _ _ _ dX10_heavy_46 rfl rfl
    · replace hf := ipos c14 hf
      refine V_aload_n C 0 dX10_heavy_18 rfl rfl rfl ?_
      refine V_ldc C dX10_heavy_19 rfl w1183 ?_
      obtain ⟨q13, hq13, hf⟩ := obd hf
      refine V_cVi C (b := 116) (As := [.int (-1000001)]) (st := []) cf10 rfl M_X10_finding w1184 ⟨by decide, by decide⟩ rfl rfl (Nat.le_of_ble_eq_true rfl) dX10_heavy_21 rfl (kX10_finding hq13) ?_
      obtain rfl := Option.some.inj hf
      exact K _ _ _ dX10_heavy_24 rfl rfl
set_option maxHeartbeats 4000000 in
set_option maxRecDepth 100000 in
theorem kX10_drawn {ad : Nat → Nat} {G : Gh} {p1 : Int32} {u : Mem} {q : Int32 × Mem} (hf : FX10_drawn p1 u = some q) : Ct shs ad G yX10_drawn cX10_drawn 2 (some .int) 0 0 [.ref (ad 116), .int p1] u (some (.int q.1)) q.2 := by
  refine Ct_ofI (by decide) (Nat.le_of_ble_eq_true rfl) (fun X C hnL K => ?_)
  have C : Cx ad G X cX10_drawn "CarryFairModel" 0 0 := C
  unfold FX10_drawn at hf
  refine V_aload_n C 0 dX10_drawn_0 rfl rfl rfl ?_
  refine V_getR C cf10 rfl 0 rfl (by decide) w1082 rfl dX10_drawn_1 rfl ?_
  refine V_bipush C dX10_drawn_4 rfl (v := 45) rfl ?_
  refine V_aload_n C 0 dX10_drawn_6 rfl rfl rfl ?_
  refine V_getR C cf10 rfl 0 rfl (by decide) w1082 rfl dX10_drawn_7 rfl ?_
  refine V_bipush C dX10_drawn_10 rfl (v := 45) rfl ?_
  refine V_ildJ C rfl (by decide) (j := 45) (by decide) dX10_drawn_12 rfl ?_
  refine V_ldcw C dX10_drawn_13 rfl w1506 ?_
  refine V_imul C dX10_drawn_16 rfl ?_
  refine V_sipush C dX10_drawn_17 rfl (v := 12345) rfl ?_
  refine V_iadd C dX10_drawn_20 rfl ?_
  refine V_istJ C rfl (by decide) (j := 45) (by decide) dX10_drawn_21 rfl ?_
  refine V_aload_n C 0 dX10_drawn_22 rfl rfl rfl ?_
  refine V_getR C cf10 rfl 0 rfl (by decide) w1082 rfl dX10_drawn_23 rfl ?_
  refine V_bipush C dX10_drawn_26 rfl (v := 45) rfl ?_
  refine V_ildJ C rfl (by decide) (j := 45) (by decide) dX10_drawn_28 rfl ?_
  refine V_bipush C dX10_drawn_29 rfl (v := 8) rfl ?_
  refine V_jushr C dX10_drawn_31 rfl ?_
  refine V_iload_n C 1 dX10_drawn_32 rfl rfl rfl ?_
  obtain ⟨g1, hf⟩ := gd hf
  refine V_jrem C dX10_drawn_33 rfl g1 ?_
  obtain rfl := Option.some.inj hf
  exact K _ _ _ dX10_drawn_34 rfl rfl
set_option maxHeartbeats 4000000 in
set_option maxRecDepth 100000 in
theorem kX10_takesAll {ad : Nat → Nat} {G : Gh} {p1 : Int32} {u : Mem} {q : Mem} (hf : FX10_takesAll p1 u = some q) : Ct shs ad G yX10_takesAll cX10_takesAll 3 none 4 88 [.ref (ad 116), .int p1] u none q := by
  refine Ct_ofV (by decide) (Nat.le_of_ble_eq_true rfl) (fun X C hnL K => ?_)
  have C : Cx ad G X cX10_takesAll "CarryFairModel" 4 88 := C
  unfold FX10_takesAll at hf
  have Lp2 : ∀ (x0 : (Int32 × Mem)) (q2 : (Int32 × Mem)), lp (BX10_takesAll_2 p1) FU x0 = some q2 → V shs ad G X 48 [(0, .ref (ad 116)), (1, .int p1), (2, .int q2.1)] [] q2.2 → V shs ad G X 2 [(0, .ref (ad 116)), (1, .int p1), (2, .int x0.1)] [] x0.2 := by
    intro  x0 q2 hq hx2_0
    refine lp_V (BX10_takesAll_2 p1) (fun x2 => V shs ad G X 2 [(0, .ref (ad 116)), (1, .int p1), (2, .int x2.1)] [] x2.2) q2 (fun rec2 ih2 x2 hf => ?_) FU x0 hq
    unfold BX10_takesAll_2 at hf
    refine V_iload_n C 2 dX10_takesAll_2 rfl rfl rfl ?_
    refine V_aload_n C 0 dX10_takesAll_3 rfl rfl rfl ?_
    refine V_getR C cf10 rfl 0 rfl (by decide) w1082 rfl dX10_takesAll_4 rfl ?_
    refine V_bipush C dX10_takesAll_7 rfl (v := 43) rfl ?_
    refine V_ildJ C rfl (by decide) (j := 43) (by decide) dX10_takesAll_9 rfl ?_
    refine V_icmp_ge C dX10_takesAll_10 (tgt := 48) rfl rfl (fun c7 => ?_) (fun c7 => ?_)
    · replace hf := ipos c7 hf
      obtain rfl := Option.some.inj hf
      exact hx2_0
    · replace hf := ineg c7 hf
      refine V_aload_n C 0 dX10_takesAll_13 rfl rfl rfl ?_
      refine V_iload_n C 2 dX10_takesAll_14 rfl rfl rfl ?_
      refine V_aload_n C 0 dX10_takesAll_15 rfl rfl rfl ?_
      refine V_iload_n C 1 dX10_takesAll_16 rfl rfl rfl ?_
      refine V_iconst C dX10_takesAll_17 rfl (v := 1) rfl ?_
      obtain ⟨q1, hq1, hf⟩ := obd hf
      refine V_cVi C (b := 116) (As := [.int p1, .int 1]) (st := [.int x2.1, .ref (ad 116)]) cf10 rfl M_X10_cIs w1208 ⟨by decide, by decide⟩ rfl rfl (Nat.le_of_ble_eq_true rfl) dX10_takesAll_18 rfl (kX10_cIs hq1) ?_
      obtain ⟨q2, hq2, hf⟩ := obd hf
      refine V_cVi C (b := 116) (As := [.int x2.1, .int q1]) (st := []) cf10 rfl M_X10_liesAt w1330 ⟨by decide, by decide⟩ rfl rfl (Nat.le_of_ble_eq_true rfl) dX10_takesAll_21 rfl (kX10_liesAt hq2) ?_
      refine V_if_eq C dX10_takesAll_24 (tgt := 42) rfl rfl (fun c6 => ?_) (fun c6 => ?_)
      · replace hf := ipos c6 hf
        refine V_iinc C (v := (x2.1 + 1)) (L' := [(0, .ref (ad 116)), (1, .int p1), (2, .int (x2.1 + 1))]) 2 dX10_takesAll_42 rfl rfl rfl (by decide) hnL [1, 2, 0] rfl ?_
        refine V_goto C dX10_takesAll_45 (tgt := 2) rfl ?_
        exact ih2 ((x2.1 + 1), x2.2) hf
      · replace hf := ineg c6 hf
        refine V_aload_n C 0 dX10_takesAll_27 rfl rfl rfl ?_
        refine V_iload_n C 1 dX10_takesAll_28 rfl rfl rfl ?_
        refine V_iload_n C 2 dX10_takesAll_29 rfl rfl rfl ?_
        obtain ⟨q3, hq3, hf⟩ := obd hf
        refine V_cVi C (b := 116) (As := [.int p1, .int x2.1]) (st := []) cf10 rfl M_X10_fitsTo w1335 ⟨by decide, by decide⟩ rfl rfl (Nat.le_of_ble_eq_true rfl) dX10_takesAll_30 rfl (kX10_fitsTo hq3) ?_
        refine V_if_eq C dX10_takesAll_33 (tgt := 42) rfl rfl (fun c5 => ?_) (fun c5 => ?_)
        · replace hf := ipos c5 hf
          refine V_iinc C (v := (x2.1 + 1)) (L' := [(0, .ref (ad 116)), (1, .int p1), (2, .int (x2.1 + 1))]) 2 dX10_takesAll_42 rfl rfl rfl (by decide) hnL [1, 2, 0] rfl ?_
          refine V_goto C dX10_takesAll_45 (tgt := 2) rfl ?_
          exact ih2 ((x2.1 + 1), x2.2) hf
        · replace hf := ineg c5 hf
          refine V_aload_n C 0 dX10_takesAll_36 rfl rfl rfl ?_
          refine V_iload_n C 1 dX10_takesAll_37 rfl rfl rfl ?_
          refine V_iload_n C 2 dX10_takesAll_38 rfl rfl rfl ?_
          obtain ⟨q4, hq4, hf⟩ := obd hf
          refine V_cVv C (b := 116) (As := [.int p1, .int x2.1]) (st := []) cf10 rfl M_X10_taken w1339 ⟨by decide, by decide⟩ rfl rfl (Nat.le_of_ble_eq_true rfl) dX10_takesAll_39 rfl (kX10_taken hq4) ?_
          refine V_iinc C (v := (x2.1 + 1)) (L' := [(0, .ref (ad 116)), (1, .int p1), (2, .int (x2.1 + 1))]) 2 dX10_takesAll_42 rfl rfl rfl (by decide) hnL [1, 2, 0] rfl ?_
          refine V_goto C dX10_takesAll_45 (tgt := 2) rfl ?_
          exact ih2 ((x2.1 + 1), q4) hf
  refine V_iconst C dX10_takesAll_0 rfl (v := 0) rfl ?_
  refine V_istore_n C (L' := [(0, .ref (ad 116)), (1, .int p1), (2, .int 0)]) dX10_takesAll_1 rfl rfl (by decide) hnL [1, 2, 0] rfl ?_
  obtain ⟨q2_8, hq2_8, hf⟩ := obd hf
  refine Lp2  (0, u) q2_8 hq2_8 ?_
  obtain rfl := Option.some.inj hf
  exact K _ _ dX10_takesAll_48 rfl
set_option maxHeartbeats 4000000 in
set_option maxRecDepth 100000 in
theorem kX10_refusesDays {ad : Nat → Nat} {G : Gh} {p1 : Int32} {u : Mem} {q : Int32} (hf : FX10_refusesDays p1 u = q) : Ct shs ad G yX10_refusesDays cX10_refusesDays 2 (some .int) 1 22 [.ref (ad 116), .int p1] u (some (.int q)) u := by
  refine Ct_ofI (by decide) (Nat.le_of_ble_eq_true rfl) (fun X C hnL K => ?_)
  have C : Cx ad G X cX10_refusesDays "CarryFairModel" 1 22 := C
  unfold FX10_refusesDays at hf
  refine V_iload_n C 1 dX10_refusesDays_0 rfl rfl rfl ?_
  refine V_iconst C dX10_refusesDays_1 rfl (v := 1) rfl ?_
  refine V_bipush C dX10_refusesDays_2 rfl (v := 12) rfl ?_
  refine V_cSi C (As := [.int p1, .int 1, .int 12]) (st := []) M_X10_within w1180 ⟨by decide, by decide⟩ rfl rfl (Nat.le_of_ble_eq_true rfl) dX10_refusesDays_4 rfl (kX10_within rfl) ?_
  refine V_if_ne C dX10_refusesDays_7 (tgt := 15) rfl rfl (fun c2 => ?_) (fun c2 => ?_)
  · replace hf := ineg c2 hf
    refine V_aload_n C 0 dX10_refusesDays_15 rfl rfl rfl ?_
    refine V_getR C cf10 rfl 0 rfl (by decide) w1082 rfl dX10_refusesDays_16 rfl ?_
    refine V_bipush C dX10_refusesDays_19 rfl (v := 42) rfl ?_
    refine V_ildJ C rfl (by decide) (j := 42) (by decide) dX10_refusesDays_21 rfl ?_
    refine V_if_ne C dX10_refusesDays_22 (tgt := 30) rfl rfl (fun c1 => ?_) (fun c1 => ?_)
    · replace hf := ineg c1 hf
      refine V_iconst C dX10_refusesDays_30 rfl (v := 0) rfl ?_
      subst hf
      exact K _ _ _ dX10_refusesDays_31 rfl rfl
    · replace hf := ipos c1 hf
      refine V_ldc C dX10_refusesDays_25 rfl w1334 ?_
      refine V_goto C dX10_refusesDays_27 (tgt := 31) rfl ?_
      subst hf
      exact K _ _ _ dX10_refusesDays_31 rfl rfl
  · replace hf := ipos c2 hf
    refine V_ldc C dX10_refusesDays_10 rfl w1183 ?_
    refine V_goto C dX10_refusesDays_12 (tgt := 31) rfl ?_
    subst hf
    exact K _ _ _ dX10_refusesDays_31 rfl rfl
set_option maxHeartbeats 4000000 in
set_option maxRecDepth 100000 in
theorem kX10_days {ad : Nat → Nat} {G : Gh} {p1 : Int32} {u : Mem} {q : Int32 × Mem} (hf : FX10_days p1 u = some q) : Ct shs ad G yX10_days cX10_days 5 (some .int) 7 164 [.ref (ad 116), .int p1] u (some (.int q.1)) q.2 := by
  refine Ct_ofI (by decide) (Nat.le_of_ble_eq_true rfl) (fun X C hnL K => ?_)
  have C : Cx ad G X cX10_days "CarryFairModel" 7 164 := C
  unfold FX10_days at hf
  have Lp9 : ∀ (x0 : (Int32 × Int32 × Mem)) (q9 : (Int32 × Int32 × Mem)), lp (BX10_days_9 p1) FU x0 = some q9 → V shs ad G X 56 [(0, .ref (ad 116)), (1, .int p1), (2, .int q9.1), (3, .int q9.2.1)] [] q9.2.2 → V shs ad G X 9 [(0, .ref (ad 116)), (1, .int p1), (2, .int x0.1), (3, .int x0.2.1)] [] x0.2.2 := by
    intro  x0 q9 hq hx9_0
    refine lp_V (BX10_days_9 p1) (fun x9 => V shs ad G X 9 [(0, .ref (ad 116)), (1, .int p1), (2, .int x9.1), (3, .int x9.2.1)] [] x9.2.2) q9 (fun rec9 ih9 x9 hf => ?_) FU x0 hq
    unfold BX10_days_9 at hf
    refine V_iload_n C 3 dX10_days_9 rfl rfl rfl ?_
    refine V_iload_n C 1 dX10_days_10 rfl rfl rfl ?_
    refine V_icmp_ge C dX10_days_11 (tgt := 56) rfl rfl (fun c5 => ?_) (fun c5 => ?_)
    · replace hf := ipos c5 hf
      obtain rfl := Option.some.inj hf
      exact hx9_0
    · replace hf := ineg c5 hf
      refine V_aload_n C 0 dX10_days_14 rfl rfl rfl ?_
      refine V_aload_n C 0 dX10_days_15 rfl rfl rfl ?_
      refine V_getR C cf10 rfl 0 rfl (by decide) w1082 rfl dX10_days_16 rfl ?_
      refine V_bipush C dX10_days_19 rfl (v := 42) rfl ?_
      refine V_ildJ C rfl (by decide) (j := 42) (by decide) dX10_days_21 rfl ?_
      obtain ⟨q1, hq1, hf⟩ := obd hf
      refine V_cVi C (b := 116) (As := [.int (x9.2.2 117 42)]) (st := []) cf10 rfl M_X10_drawn w1502 ⟨by decide, by decide⟩ rfl rfl (Nat.le_of_ble_eq_true rfl) dX10_days_22 rfl (kX10_drawn hq1) ?_
      refine V_istore C (L' := [(0, .ref (ad 116)), (1, .int p1), (2, .int x9.1), (3, .int x9.2.1), (4, .int q1.1)]) dX10_days_25 rfl (by decide) hnL [1, 2, 3, 4, 0] rfl ?_
      refine V_aload_n C 0 dX10_days_27 rfl rfl rfl ?_
      refine V_iload C 4 dX10_days_28 rfl rfl ?_
      obtain ⟨q2, hq2, hf⟩ := obd hf
      refine V_cVv C (b := 116) (As := [.int q1.1]) (st := []) cf10 rfl M_X10_takesAll w1507 ⟨by decide, by decide⟩ rfl rfl (Nat.le_of_ble_eq_true rfl) dX10_days_30 rfl (kX10_takesAll hq2) ?_
      refine V_iload_n C 2 dX10_days_33 rfl rfl rfl ?_
      refine V_aload_n C 0 dX10_days_34 rfl rfl rfl ?_
      refine V_iload C 4 dX10_days_35 rfl rfl ?_
      refine V_aload_n C 0 dX10_days_37 rfl rfl rfl ?_
      refine V_bipush C dX10_days_38 rfl (v := 7) rfl ?_
      obtain ⟨q3, hq3, hf⟩ := obd hf
      refine V_cVi C (b := 116) (As := [.int 7]) (st := [.int q1.1, .ref (ad 116), .int x9.1]) cf10 rfl M_X10_drawn w1502 ⟨by decide, by decide⟩ rfl rfl (Nat.le_of_ble_eq_true rfl) dX10_days_40 rfl (kX10_drawn hq3) ?_
      obtain ⟨q4, hq4, hf⟩ := obd hf
      refine V_cVi C (b := 116) (As := [.int q1.1, .int q3.1]) (st := [.int x9.1]) cf10 rfl M_X10_walked w1351 ⟨by decide, by decide⟩ rfl rfl (Nat.le_of_ble_eq_true rfl) dX10_days_43 rfl (kX10_walked hq4) ?_
      refine V_mmax C w1260 ⟨by decide, by decide⟩ (Nat.le_of_ble_eq_true rfl) dX10_days_46 rfl ?_
      refine V_istore_n C (L' := [(0, .ref (ad 116)), (1, .int p1), (2, .int (jmax x9.1 q4.1)), (3, .int x9.2.1), (4, .int q1.1)]) dX10_days_49 rfl rfl (by decide) hnL [1, 2, 0, 3, 4] rfl ?_
      refine V_iinc C (v := (x9.2.1 + 1)) (L' := [(0, .ref (ad 116)), (1, .int p1), (2, .int (jmax x9.1 q4.1)), (3, .int (x9.2.1 + 1)), (4, .int q1.1)]) 3 dX10_days_50 rfl rfl rfl (by decide) hnL [1, 2, 3, 0, 4] rfl ?_
      refine V_goto C dX10_days_53 (tgt := 9) rfl ?_
      refine V_sub (L' := [(0, .ref (ad 116)), (1, .int p1), (2, .int (jmax x9.1 q4.1)), (3, .int (x9.2.1 + 1))]) [0, 1, 2, 3] rfl ?_
      exact ih9 ((jmax x9.1 q4.1), (x9.2.1 + 1), q4.2) hf
  refine V_aload_n C 0 dX10_days_0 rfl rfl rfl ?_
  refine V_iconst C dX10_days_1 rfl (v := 0) rfl ?_
  refine V_put C cf10 rfl 6 rfl (by decide) w1088 rfl rfl rfl rfl dX10_days_2 rfl ?_
  refine V_iconst C dX10_days_5 rfl (v := 0) rfl ?_
  refine V_istore_n C (L' := [(0, .ref (ad 116)), (1, .int p1), (2, .int 0)]) dX10_days_6 rfl rfl (by decide) hnL [1, 2, 0] rfl ?_
  refine V_iconst C dX10_days_7 rfl (v := 0) rfl ?_
  refine V_istore_n C (L' := [(0, .ref (ad 116)), (1, .int p1), (2, .int 0), (3, .int 0)]) dX10_days_8 rfl rfl (by decide) hnL [1, 2, 3, 0] rfl ?_
  obtain ⟨q9_6, hq9_6, hf⟩ := obd hf
  refine Lp9  (0, 0, (mst u 116 6 0)) q9_6 hq9_6 ?_
  refine V_iload_n C 2 dX10_days_56 rfl rfl rfl ?_
  refine V_if_ge C dX10_days_57 (tgt := 64) rfl rfl (fun c7 => ?_) (fun c7 => ?_)
  · replace hf := ipos c7 hf
    refine V_aload_n C 0 dX10_days_64 rfl rfl rfl ?_
    refine V_getI C cf10 rfl 6 rfl (by decide) w1088 rfl dX10_days_65 rfl ?_
    obtain rfl := Option.some.inj hf
    exact K _ _ _ dX10_days_68 rfl rfl
  · replace hf := ineg c7 hf
    refine V_iload_n C 2 dX10_days_60 rfl rfl rfl ?_
    refine V_goto C dX10_days_61 (tgt := 68) rfl ?_
    obtain rfl := Option.some.inj hf
    exact K _ _ _ dX10_days_68 rfl rfl
set_option maxHeartbeats 4000000 in
set_option maxRecDepth 100000 in
theorem kX10_day {ad : Nat → Nat} {G : Gh} {p1 : Int32} {u : Mem} {q : Int32 × Mem} (hf : FX10_day p1 u = some q) : Ct shs ad G yX10_day cX10_day 3 (some .int) 8 188 [.ref (ad 116), .int p1] u (some (.int q.1)) q.2 := by
  refine Ct_ofI (by decide) (Nat.le_of_ble_eq_true rfl) (fun X C hnL K => ?_)
  have C : Cx ad G X cX10_day "CarryFairModel" 8 188 := C
  unfold FX10_day at hf
  refine V_aload_n C 0 dX10_day_0 rfl rfl rfl ?_
  refine V_iload_n C 1 dX10_day_1 rfl rfl rfl ?_
  refine V_cVi C (b := 116) (As := [.int p1]) (st := []) cf10 rfl M_X10_refusesDays w1494 ⟨by decide, by decide⟩ rfl rfl (Nat.le_of_ble_eq_true rfl) dX10_day_2 rfl (kX10_refusesDays rfl) ?_
  refine V_istore_n C (L' := [(0, .ref (ad 116)), (1, .int p1), (2, .int (FX10_refusesDays p1 u))]) dX10_day_5 rfl rfl (by decide) hnL [1, 2, 0] rfl ?_
  refine V_iload_n C 2 dX10_day_6 rfl rfl rfl ?_
  refine V_if_eq C dX10_day_7 (tgt := 18) rfl rfl (fun c3 => ?_) (fun c3 => ?_)
  · replace hf := ipos c3 hf
    refine V_aload_n C 0 dX10_day_18 rfl rfl rfl ?_
    refine V_iload_n C 1 dX10_day_19 rfl rfl rfl ?_
    obtain ⟨q1, hq1, hf⟩ := obd hf
    refine V_cVi C (b := 116) (As := [.int p1]) (st := []) cf10 rfl M_X10_days w1498 ⟨by decide, by decide⟩ rfl rfl (Nat.le_of_ble_eq_true rfl) dX10_day_20 rfl (kX10_days hq1) ?_
    obtain rfl := Option.some.inj hf
    exact K _ _ _ dX10_day_23 rfl rfl
  · replace hf := ineg c3 hf
    refine V_aload_n C 0 dX10_day_10 rfl rfl rfl ?_
    refine V_iload_n C 2 dX10_day_11 rfl rfl rfl ?_
    obtain ⟨q2, hq2, hf⟩ := obd hf
    refine V_cVi C (b := 116) (As := [.int (FX10_refusesDays p1 u)]) (st := []) cf10 rfl M_X10_finding w1184 ⟨by decide, by decide⟩ rfl rfl (Nat.le_of_ble_eq_true rfl) dX10_day_12 rfl (kX10_finding hq2) ?_
    refine V_goto C dX10_day_15 (tgt := 23) rfl ?_
    obtain rfl := Option.some.inj hf
    exact K _ _ _ dX10_day_23 rfl rfl
set_option maxHeartbeats 4000000 in
set_option maxRecDepth 100000 in
theorem kX10_ahead {ad : Nat → Nat} {G : Gh} {p1 : Int32} {u : Mem} {q : Int32 × Mem} (hf : FX10_ahead p1 u = some q) : Ct shs ad G yX10_ahead cX10_ahead 3 (some .int) 8 188 [.ref (ad 116), .int p1] u (some (.int q.1)) q.2 := by
  refine Ct_ofI (by decide) (Nat.le_of_ble_eq_true rfl) (fun X C hnL K => ?_)
  have C : Cx ad G X cX10_ahead "CarryFairModel" 8 188 := C
  unfold FX10_ahead at hf
  refine V_aload_n C 0 dX10_ahead_0 rfl rfl rfl ?_
  refine V_iload_n C 1 dX10_ahead_1 rfl rfl rfl ?_
  refine V_cVi C (b := 116) (As := [.int p1]) (st := []) cf10 rfl M_X10_refusesDays w1494 ⟨by decide, by decide⟩ rfl rfl (Nat.le_of_ble_eq_true rfl) dX10_ahead_2 rfl (kX10_refusesDays rfl) ?_
  refine V_istore_n C (L' := [(0, .ref (ad 116)), (1, .int p1), (2, .int (FX10_refusesDays p1 u))]) dX10_ahead_5 rfl rfl (by decide) hnL [1, 2, 0] rfl ?_
  refine V_iload_n C 2 dX10_ahead_6 rfl rfl rfl ?_
  refine V_if_eq C dX10_ahead_7 (tgt := 16) rfl rfl (fun c5 => ?_) (fun c5 => ?_)
  · replace hf := ipos c5 hf
    refine V_aload_n C 0 dX10_ahead_16 rfl rfl rfl ?_
    refine V_getR C cf10 rfl 0 rfl (by decide) w1082 rfl dX10_ahead_17 rfl ?_
    refine V_aload_n C 0 dX10_ahead_20 rfl rfl rfl ?_
    refine V_getR C cf10 rfl 2 rfl (by decide) w1084 rfl dX10_ahead_21 rfl ?_
    obtain ⟨q1, hq1, hf⟩ := obd hf
    refine V_cSv C (As := [.ref (ad 117), .ref (ad 119)]) (st := []) M_X10_copyRow w1515 ⟨by decide, by decide⟩ rfl rfl (Nat.le_of_ble_eq_true rfl) dX10_ahead_24 rfl (kX10_copyRow rfl rfl hq1) ?_
    refine V_aload_n C 0 dX10_ahead_27 rfl rfl rfl ?_
    refine V_aload_n C 0 dX10_ahead_28 rfl rfl rfl ?_
    refine V_iload_n C 1 dX10_ahead_29 rfl rfl rfl ?_
    obtain ⟨q2, hq2, hf⟩ := obd hf
    refine V_cVi C (b := 116) (As := [.int p1]) (st := [.ref (ad 116)]) cf10 rfl M_X10_days w1498 ⟨by decide, by decide⟩ rfl rfl (Nat.le_of_ble_eq_true rfl) dX10_ahead_30 rfl (kX10_days hq2) ?_
    obtain ⟨q3, hq3, hf⟩ := obd hf
    refine V_cVi C (b := 116) (As := [.int q2.1]) (st := []) cf10 rfl M_X10_putBack w1518 ⟨by decide, by decide⟩ rfl rfl (Nat.le_of_ble_eq_true rfl) dX10_ahead_33 rfl (kX10_putBack hq3) ?_
    obtain rfl := Option.some.inj hf
    exact K _ _ _ dX10_ahead_36 rfl rfl
  · replace hf := ineg c5 hf
    refine V_aload_n C 0 dX10_ahead_10 rfl rfl rfl ?_
    refine V_iload_n C 2 dX10_ahead_11 rfl rfl rfl ?_
    obtain ⟨q4, hq4, hf⟩ := obd hf
    refine V_cVi C (b := 116) (As := [.int (FX10_refusesDays p1 u)]) (st := []) cf10 rfl M_X10_finding w1184 ⟨by decide, by decide⟩ rfl rfl (Nat.le_of_ble_eq_true rfl) dX10_ahead_12 rfl (kX10_finding hq4) ?_
    obtain rfl := Option.some.inj hf
    exact K _ _ _ dX10_ahead_15 rfl rfl
set_option maxHeartbeats 4000000 in
set_option maxRecDepth 100000 in
theorem kX10_seed {ad : Nat → Nat} {G : Gh} {p1 : Int32} {u : Mem} {q : Int32 × Mem} (hf : FX10_seed p1 u = some q) : Ct shs ad G yX10_seed cX10_seed 2 (some .int) 1 23 [.ref (ad 116), .int p1] u (some (.int q.1)) q.2 := by
  refine Ct_ofI (by decide) (Nat.le_of_ble_eq_true rfl) (fun X C hnL K => ?_)
  have C : Cx ad G X cX10_seed "CarryFairModel" 1 23 := C
  unfold FX10_seed at hf
  refine V_aload_n C 0 dX10_seed_0 rfl rfl rfl ?_
  refine V_bipush C dX10_seed_1 rfl (v := 45) rfl ?_
  refine V_iload_n C 1 dX10_seed_3 rfl rfl rfl ?_
  obtain ⟨q1, hq1, hf⟩ := obd hf
  refine V_cVi C (b := 116) (As := [.int 45, .int p1]) (st := []) cf10 rfl M_X10_become w1244 ⟨by decide, by decide⟩ rfl rfl (Nat.le_of_ble_eq_true rfl) dX10_seed_4 rfl (kX10_become hq1) ?_
  obtain rfl := Option.some.inj hf
  exact K _ _ _ dX10_seed_7 rfl rfl
set_option maxHeartbeats 4000000 in
set_option maxRecDepth 100000 in
theorem kX10_feed {ad : Nat → Nat} {G : Gh} {p1 : Int32} {p2 : Int32} {u : Mem} {q : Int32 × Mem} (hf : FX10_feed p1 p2 u = some q) : Ct shs ad G yX10_feed cX10_feed 4 (some .int) 1 22 [.ref (ad 116), .int p1, .int p2] u (some (.int q.1)) q.2 := by
  refine Ct_ofI (by decide) (Nat.le_of_ble_eq_true rfl) (fun X C hnL K => ?_)
  have C : Cx ad G X cX10_feed "CarryFairModel" 1 22 := C
  unfold FX10_feed at hf
  have Lp38 : ∀ (x0 : (Int32 × Mem)) (q38 : (Int32 × Mem)), lp (BX10_feed_38 p1 p2) FU x0 = some q38 → V shs ad G X 77 [(0, .ref (ad 116)), (1, .int p1), (2, .int p2), (3, .int q38.1)] [] q38.2 → V shs ad G X 38 [(0, .ref (ad 116)), (1, .int p1), (2, .int p2), (3, .int x0.1)] [] x0.2 := by
    intro  x0 q38 hq hx38_0
    refine lp_V (BX10_feed_38 p1 p2) (fun x38 => V shs ad G X 38 [(0, .ref (ad 116)), (1, .int p1), (2, .int p2), (3, .int x38.1)] [] x38.2) q38 (fun rec38 ih38 x38 hf => ?_) FU x0 hq
    unfold BX10_feed_38 at hf
    refine V_iload_n C 3 dX10_feed_38 rfl rfl rfl ?_
    refine V_if_lt C dX10_feed_39 (tgt := 77) rfl rfl (fun c3 => ?_) (fun c3 => ?_)
    · replace hf := ipos c3 hf
      obtain rfl := Option.some.inj hf
      exact hx38_0
    · replace hf := ineg c3 hf
      refine V_aload_n C 0 dX10_feed_42 rfl rfl rfl ?_
      refine V_getR C cf10 rfl 13 rfl (by decide) w1095 rfl dX10_feed_43 rfl ?_
      refine V_aload_n C 0 dX10_feed_46 rfl rfl rfl ?_
      refine V_getI C cf10 rfl 14 rfl (by decide) w1096 rfl dX10_feed_47 rfl ?_
      refine V_iload_n C 1 dX10_feed_50 rfl rfl rfl ?_
      refine V_bipush C dX10_feed_51 rfl (v := 8) rfl ?_
      refine V_iload_n C 3 dX10_feed_53 rfl rfl rfl ?_
      refine V_imul C dX10_feed_54 rfl ?_
      refine V_jshr C dX10_feed_55 rfl ?_
      refine V_sipush C dX10_feed_56 rfl (v := 255) rfl ?_
      refine V_iand C dX10_feed_59 rfl ?_
      obtain ⟨g1, hf⟩ := gd hf
      refine V_istJ C rfl g1 rfl dX10_feed_60 rfl ?_
      refine V_aload_n C 0 dX10_feed_61 rfl rfl rfl ?_
      refine V_dup C dX10_feed_62 rfl rfl ?_
      refine V_getI C cf10 rfl 14 rfl (by decide) w1096 rfl dX10_feed_63 rfl ?_
      refine V_iconst C dX10_feed_66 rfl (v := 1) rfl ?_
      refine V_iadd C dX10_feed_67 rfl ?_
      refine V_put C cf10 rfl 14 rfl (by decide) w1096 rfl rfl rfl rfl dX10_feed_68 rfl ?_
      obtain ⟨w2, ew2, hf⟩ := nmd hf
      rw [← ew2]
      refine V_iinc C (v := (x38.1 + (-1))) (L' := [(0, .ref (ad 116)), (1, .int p1), (2, .int p2), (3, .int (x38.1 + (-1)))]) 3 dX10_feed_71 rfl rfl rfl (by decide) hnL [1, 2, 3, 0] rfl ?_
      refine V_goto C dX10_feed_74 (tgt := 38) rfl ?_
      exact ih38 ((x38.1 + (-1)), w2) hf
  refine V_iload_n C 2 dX10_feed_0 rfl rfl rfl ?_
  refine V_iconst C dX10_feed_1 rfl (v := 1) rfl ?_
  refine V_iconst C dX10_feed_2 rfl (v := 4) rfl ?_
  refine V_cSi C (As := [.int p2, .int 1, .int 4]) (st := []) M_X10_within w1180 ⟨by decide, by decide⟩ rfl rfl (Nat.le_of_ble_eq_true rfl) dX10_feed_3 rfl (kX10_within rfl) ?_
  refine V_if_ne C dX10_feed_6 (tgt := 16) rfl rfl (fun c8 => ?_) (fun c8 => ?_)
  · replace hf := ineg c8 hf
    refine V_aload_n C 0 dX10_feed_16 rfl rfl rfl ?_
    refine V_getI C cf10 rfl 14 rfl (by decide) w1096 rfl dX10_feed_17 rfl ?_
    refine V_iload_n C 2 dX10_feed_20 rfl rfl rfl ?_
    refine V_iadd C dX10_feed_21 rfl ?_
    refine V_bipush C dX10_feed_22 rfl (v := 120) rfl ?_
    refine V_icmp_le C dX10_feed_24 (tgt := 34) rfl rfl (fun c6 => ?_) (fun c6 => ?_)
    · replace hf := ipos c6 hf
      refine V_iload_n C 2 dX10_feed_34 rfl rfl rfl ?_
      refine V_iconst C dX10_feed_35 rfl (v := 1) rfl ?_
      refine V_isub C dX10_feed_36 rfl ?_
      refine V_istore_n C (L' := [(0, .ref (ad 116)), (1, .int p1), (2, .int p2), (3, .int (p2 - 1))]) dX10_feed_37 rfl rfl (by decide) hnL [1, 2, 3, 0] rfl ?_
      obtain ⟨q38_4, hq38_4, hf⟩ := obd hf
      refine Lp38  ((p2 - 1), u) q38_4 hq38_4 ?_
      refine V_aload_n C 0 dX10_feed_77 rfl rfl rfl ?_
      refine V_getI C cf10 rfl 14 rfl (by decide) w1096 rfl dX10_feed_78 rfl ?_
      obtain rfl := Option.some.inj hf
      exact K _ _ _ dX10_feed_81 rfl rfl
    · replace hf := ineg c6 hf
      refine V_aload_n C 0 dX10_feed_27 rfl rfl rfl ?_
      refine V_ldc C dX10_feed_28 rfl w1188 ?_
      obtain ⟨q5, hq5, hf⟩ := obd hf
      refine V_cVi C (b := 116) (As := [.int (-1000002)]) (st := []) cf10 rfl M_X10_finding w1184 ⟨by decide, by decide⟩ rfl rfl (Nat.le_of_ble_eq_true rfl) dX10_feed_30 rfl (kX10_finding hq5) ?_
      obtain rfl := Option.some.inj hf
      exact K _ _ _ dX10_feed_33 rfl rfl
  · replace hf := ipos c8 hf
    refine V_aload_n C 0 dX10_feed_9 rfl rfl rfl ?_
    refine V_ldc C dX10_feed_10 rfl w1183 ?_
    obtain ⟨q7, hq7, hf⟩ := obd hf
    refine V_cVi C (b := 116) (As := [.int (-1000001)]) (st := []) cf10 rfl M_X10_finding w1184 ⟨by decide, by decide⟩ rfl rfl (Nat.le_of_ble_eq_true rfl) dX10_feed_12 rfl (kX10_finding hq7) ?_
    obtain rfl := Option.some.inj hf
    exact K _ _ _ dX10_feed_15 rfl rfl
set_option maxHeartbeats 4000000 in
set_option maxRecDepth 100000 in
theorem kX10_wipe {ad : Nat → Nat} {G : Gh}  {u : Mem} {q : Int32 × Mem} (hf : FX10_wipe u = q) : Ct shs ad G yX10_wipe cX10_wipe 2 (some .int) 0 0 [.ref (ad 116)] u (some (.int q.1)) q.2 := by
  refine Ct_ofI (by decide) (Nat.le_of_ble_eq_true rfl) (fun X C hnL K => ?_)
  have C : Cx ad G X cX10_wipe "CarryFairModel" 0 0 := C
  unfold FX10_wipe at hf
  refine V_aload_n C 0 dX10_wipe_0 rfl rfl rfl ?_
  refine V_getI C cf10 rfl 14 rfl (by decide) w1096 rfl dX10_wipe_1 rfl ?_
  refine V_istore_n C (L' := [(0, .ref (ad 116)), (1, .int (u 116 14))]) dX10_wipe_4 rfl rfl (by decide) hnL [1, 0] rfl ?_
  refine V_aload_n C 0 dX10_wipe_5 rfl rfl rfl ?_
  refine V_iconst C dX10_wipe_6 rfl (v := 0) rfl ?_
  refine V_put C cf10 rfl 14 rfl (by decide) w1096 rfl rfl rfl rfl dX10_wipe_7 rfl ?_
  refine V_iload_n C 1 dX10_wipe_10 rfl rfl rfl ?_
  subst hf
  exact K _ _ _ dX10_wipe_11 rfl rfl
set_option maxHeartbeats 4000000 in
set_option maxRecDepth 100000 in
theorem kX10_byteAt {ad : Nat → Nat} {G : Gh} {p1 : Int32} {u : Mem} {q : Int32} (hf : FX10_byteAt p1 u = some q) : Ct shs ad G yX10_byteAt cX10_byteAt 2 (some .int) 0 0 [.ref (ad 116), .int p1] u (some (.int q)) u := by
  refine Ct_ofI (by decide) (Nat.le_of_ble_eq_true rfl) (fun X C hnL K => ?_)
  have C : Cx ad G X cX10_byteAt "CarryFairModel" 0 0 := C
  unfold FX10_byteAt at hf
  refine V_iload_n C 1 dX10_byteAt_0 rfl rfl rfl ?_
  refine V_aload_n C 0 dX10_byteAt_1 rfl rfl rfl ?_
  refine V_getI C cf10 rfl 14 rfl (by decide) w1096 rfl dX10_byteAt_2 rfl ?_
  refine V_icmp_ge C dX10_byteAt_5 (tgt := 17) rfl rfl (fun c2 => ?_) (fun c2 => ?_)
  · replace hf := ipos c2 hf
    refine V_iconst C dX10_byteAt_17 rfl (v := (-1)) (by decide) ?_
    obtain rfl := Option.some.inj hf
    exact K _ _ _ dX10_byteAt_18 rfl rfl
  · replace hf := ineg c2 hf
    refine V_aload_n C 0 dX10_byteAt_8 rfl rfl rfl ?_
    refine V_getR C cf10 rfl 13 rfl (by decide) w1095 rfl dX10_byteAt_9 rfl ?_
    refine V_iload_n C 1 dX10_byteAt_12 rfl rfl rfl ?_
    obtain ⟨g1, hf⟩ := gd hf
    refine V_ildJ C rfl g1 rfl dX10_byteAt_13 rfl ?_
    refine V_goto C dX10_byteAt_14 (tgt := 18) rfl ?_
    obtain rfl := Option.some.inj hf
    exact K _ _ _ dX10_byteAt_18 rfl rfl
set_option maxHeartbeats 4000000 in
set_option maxRecDepth 100000 in
theorem kX10_next {ad : Nat → Nat} {G : Gh}  {u : Mem} {q : Mem} (hf : FX10_next u = some q) : Ct shs ad G yX10_next cX10_next 2 none 1 22 [.ref (ad 116)] u none q := by
  refine Ct_ofV (by decide) (Nat.le_of_ble_eq_true rfl) (fun X C hnL K => ?_)
  have C : Cx ad G X cX10_next "CarryFairModel" 1 22 := C
  unfold FX10_next at hf
  have Lp8 : ∀ (x0 : (Mem)) (q8 : (Mem)), lp (BX10_next_8) FU x0 = some q8 → V shs ad G X 34 [(0, .ref (ad 116))] [] q8 → V shs ad G X 8 [(0, .ref (ad 116))] [] x0 := by
    intro  x0 q8 hq hx8_0
    refine lp_V (BX10_next_8) (fun x8 => V shs ad G X 8 [(0, .ref (ad 116))] [] x8) q8 (fun rec8 ih8 x8 hf => ?_) FU x0 hq
    unfold BX10_next_8 at hf
    refine V_aload_n C 0 dX10_next_8 rfl rfl rfl ?_
    refine V_aload_n C 0 dX10_next_9 rfl rfl rfl ?_
    refine V_getI C cf10 rfl 15 rfl (by decide) w1097 rfl dX10_next_10 rfl ?_
    obtain ⟨q1, hq1, hf⟩ := obd hf
    refine V_cVi C (b := 116) (As := [.int (x8 116 15)]) (st := []) cf10 rfl M_X10_byteAt w1542 ⟨by decide, by decide⟩ rfl rfl (Nat.le_of_ble_eq_true rfl) dX10_next_13 rfl (kX10_byteAt hq1) ?_
    refine V_bipush C dX10_next_16 rfl (v := 32) rfl ?_
    refine V_icmp_ne C dX10_next_18 (tgt := 34) rfl rfl (fun c2 => ?_) (fun c2 => ?_)
    · replace hf := ineg c2 hf
      obtain rfl := Option.some.inj hf
      exact hx8_0
    · replace hf := ipos c2 hf
      refine V_aload_n C 0 dX10_next_21 rfl rfl rfl ?_
      refine V_dup C dX10_next_22 rfl rfl ?_
      refine V_getI C cf10 rfl 15 rfl (by decide) w1097 rfl dX10_next_23 rfl ?_
      refine V_iconst C dX10_next_26 rfl (v := 1) rfl ?_
      refine V_iadd C dX10_next_27 rfl ?_
      refine V_put C cf10 rfl 15 rfl (by decide) w1097 rfl rfl rfl rfl dX10_next_28 rfl ?_
      refine V_goto C dX10_next_31 (tgt := 8) rfl ?_
      exact ih8 (mst x8 116 15 ((x8 116 15) + 1)) hf
  have Lp131 : ∀ (v1 : Int32) (x0 : (Mem)) (q131 : (Mem)), lp (BX10_next_131 v1) FU x0 = some q131 → V shs ad G X 206 [(0, .ref (ad 116)), (1, .int v1)] [] q131 → V shs ad G X 131 [(0, .ref (ad 116)), (1, .int v1)] [] x0 := by
    intro v1 x0 q131 hq hx131_0
    refine lp_V (BX10_next_131 v1) (fun x131 => V shs ad G X 131 [(0, .ref (ad 116)), (1, .int v1)] [] x131) q131 (fun rec131 ih131 x131 hf => ?_) FU x0 hq
    unfold BX10_next_131 at hf
    refine V_aload_n C 0 dX10_next_131 rfl rfl rfl ?_
    refine V_aload_n C 0 dX10_next_132 rfl rfl rfl ?_
    refine V_getI C cf10 rfl 16 rfl (by decide) w1098 rfl dX10_next_133 rfl ?_
    obtain ⟨q6, hq6, hf⟩ := obd hf
    refine V_cVi C (b := 116) (As := [.int (x131 116 16)]) (st := []) cf10 rfl M_X10_byteAt w1542 ⟨by decide, by decide⟩ rfl rfl (Nat.le_of_ble_eq_true rfl) dX10_next_136 rfl (kX10_byteAt hq6) ?_
    refine V_bipush C dX10_next_139 rfl (v := 48) rfl ?_
    refine V_bipush C dX10_next_141 rfl (v := 57) rfl ?_
    refine V_cSi C (As := [.int q6, .int 48, .int 57]) (st := []) M_X10_within w1180 ⟨by decide, by decide⟩ rfl rfl (Nat.le_of_ble_eq_true rfl) dX10_next_143 rfl (kX10_within rfl) ?_
    refine V_if_eq C dX10_next_146 (tgt := 206) rfl rfl (fun c9 => ?_) (fun c9 => ?_)
    · replace hf := ipos c9 hf
      obtain rfl := Option.some.inj hf
      exact hx131_0
    · replace hf := ineg c9 hf
      refine V_aload_n C 0 dX10_next_149 rfl rfl rfl ?_
      refine V_sipush C dX10_next_150 rfl (v := 10000) rfl ?_
      refine V_bipush C dX10_next_153 rfl (v := 10) rfl ?_
      refine V_aload_n C 0 dX10_next_155 rfl rfl rfl ?_
      refine V_getI C cf10 rfl 18 rfl (by decide) w1100 rfl dX10_next_156 rfl ?_
      refine V_imul C dX10_next_159 rfl ?_
      refine V_aload_n C 0 dX10_next_160 rfl rfl rfl ?_
      refine V_aload_n C 0 dX10_next_161 rfl rfl rfl ?_
      refine V_getI C cf10 rfl 16 rfl (by decide) w1098 rfl dX10_next_162 rfl ?_
      obtain ⟨q7, hq7, hf⟩ := obd hf
      refine V_cVi C (b := 116) (As := [.int (x131 116 16)]) (st := [.int (10 * (x131 116 18)), .int 10000, .ref (ad 116)]) cf10 rfl M_X10_byteAt w1542 ⟨by decide, by decide⟩ rfl rfl (Nat.le_of_ble_eq_true rfl) dX10_next_165 rfl (kX10_byteAt hq7) ?_
      refine V_iadd C dX10_next_168 rfl ?_
      refine V_bipush C dX10_next_169 rfl (v := 48) rfl ?_
      refine V_isub C dX10_next_171 rfl ?_
      refine V_mmin C w1259 ⟨by decide, by decide⟩ (Nat.le_of_ble_eq_true rfl) dX10_next_172 rfl ?_
      refine V_put C cf10 rfl 18 rfl (by decide) w1100 rfl rfl rfl rfl dX10_next_175 rfl ?_
      refine V_aload_n C 0 dX10_next_178 rfl rfl rfl ?_
      refine V_dup C dX10_next_179 rfl rfl ?_
      refine V_getI C cf10 rfl 16 rfl (by decide) w1098 rfl dX10_next_180 rfl ?_
      refine V_iconst C dX10_next_183 rfl (v := 1) rfl ?_
      refine V_iadd C dX10_next_184 rfl ?_
      refine V_put C cf10 rfl 16 rfl (by decide) w1098 rfl rfl rfl rfl dX10_next_185 rfl ?_
      obtain ⟨w8, ew8, hf⟩ := nmd hf
      rw [← ew8]
      refine V_goto C dX10_next_188 (tgt := 131) rfl ?_
      exact ih131 w8 hf
  have Lp84 : ∀ (v1 : Int32) (x0 : (Mem)) (q84 : (Mem)), lp (BX10_next_84 v1) FU x0 = some q84 → V shs ad G X 206 [(0, .ref (ad 116)), (1, .int v1)] [] q84 → V shs ad G X 84 [(0, .ref (ad 116)), (1, .int v1)] [] x0 := by
    intro v1 x0 q84 hq hx84_0
    refine lp_V (BX10_next_84 v1) (fun x84 => V shs ad G X 84 [(0, .ref (ad 116)), (1, .int v1)] [] x84) q84 (fun rec84 ih84 x84 hf => ?_) FU x0 hq
    unfold BX10_next_84 at hf
    refine V_aload_n C 0 dX10_next_84 rfl rfl rfl ?_
    refine V_aload_n C 0 dX10_next_85 rfl rfl rfl ?_
    refine V_getI C cf10 rfl 16 rfl (by decide) w1098 rfl dX10_next_86 rfl ?_
    obtain ⟨q12, hq12, hf⟩ := obd hf
    refine V_cVi C (b := 116) (As := [.int (x84 116 16)]) (st := []) cf10 rfl M_X10_byteAt w1542 ⟨by decide, by decide⟩ rfl rfl (Nat.le_of_ble_eq_true rfl) dX10_next_89 rfl (kX10_byteAt hq12) ?_
    refine V_bipush C dX10_next_92 rfl (v := 97) rfl ?_
    refine V_bipush C dX10_next_94 rfl (v := 122) rfl ?_
    refine V_cSi C (As := [.int q12, .int 97, .int 122]) (st := []) M_X10_within w1180 ⟨by decide, by decide⟩ rfl rfl (Nat.le_of_ble_eq_true rfl) dX10_next_96 rfl (kX10_within rfl) ?_
    refine V_if_eq C dX10_next_99 (tgt := 206) rfl rfl (fun c13 => ?_) (fun c13 => ?_)
    · replace hf := ipos c13 hf
      obtain rfl := Option.some.inj hf
      exact hx84_0
    · replace hf := ineg c13 hf
      refine V_aload_n C 0 dX10_next_102 rfl rfl rfl ?_
      refine V_dup C dX10_next_103 rfl rfl ?_
      refine V_getI C cf10 rfl 16 rfl (by decide) w1098 rfl dX10_next_104 rfl ?_
      refine V_iconst C dX10_next_107 rfl (v := 1) rfl ?_
      refine V_iadd C dX10_next_108 rfl ?_
      refine V_put C cf10 rfl 16 rfl (by decide) w1098 rfl rfl rfl rfl dX10_next_109 rfl ?_
      refine V_goto C dX10_next_112 (tgt := 84) rfl ?_
      exact ih84 (mst x84 116 16 ((x84 116 16) + 1)) hf
  refine V_aload_n C 0 dX10_next_0 rfl rfl rfl ?_
  refine V_aload_n C 0 dX10_next_1 rfl rfl rfl ?_
  refine V_getI C cf10 rfl 16 rfl (by decide) w1098 rfl dX10_next_2 rfl ?_
  refine V_put C cf10 rfl 15 rfl (by decide) w1097 rfl rfl rfl rfl dX10_next_5 rfl ?_
  obtain ⟨q8_3, hq8_3, hf⟩ := obd hf
  refine Lp8  (mst u 116 15 (u 116 16)) q8_3 hq8_3 ?_
  refine V_aload_n C 0 dX10_next_34 rfl rfl rfl ?_
  refine V_aload_n C 0 dX10_next_35 rfl rfl rfl ?_
  refine V_getI C cf10 rfl 15 rfl (by decide) w1097 rfl dX10_next_36 rfl ?_
  obtain ⟨q4, hq4, hf⟩ := obd hf
  refine V_cVi C (b := 116) (As := [.int (q8_3 116 15)]) (st := []) cf10 rfl M_X10_byteAt w1542 ⟨by decide, by decide⟩ rfl rfl (Nat.le_of_ble_eq_true rfl) dX10_next_39 rfl (kX10_byteAt hq4) ?_
  refine V_istore_n C (L' := [(0, .ref (ad 116)), (1, .int q4)]) dX10_next_42 rfl rfl (by decide) hnL [1, 0] rfl ?_
  refine V_aload_n C 0 dX10_next_43 rfl rfl rfl ?_
  refine V_aload_n C 0 dX10_next_44 rfl rfl rfl ?_
  refine V_getI C cf10 rfl 15 rfl (by decide) w1097 rfl dX10_next_45 rfl ?_
  refine V_put C cf10 rfl 16 rfl (by decide) w1098 rfl rfl rfl rfl dX10_next_48 rfl ?_
  refine V_aload_n C 0 dX10_next_51 rfl rfl rfl ?_
  refine V_iconst C dX10_next_52 rfl (v := 0) rfl ?_
  refine V_put C cf10 rfl 18 rfl (by decide) w1100 rfl rfl rfl rfl dX10_next_53 rfl ?_
  refine V_iload_n C 1 dX10_next_56 rfl rfl rfl ?_
  refine V_if_ge C dX10_next_57 (tgt := 68) rfl rfl (fun c16 => ?_) (fun c16 => ?_)
  · replace hf := ipos c16 hf
    refine V_iload_n C 1 dX10_next_68 rfl rfl rfl ?_
    refine V_bipush C dX10_next_69 rfl (v := 97) rfl ?_
    refine V_bipush C dX10_next_71 rfl (v := 122) rfl ?_
    refine V_cSi C (As := [.int q4, .int 97, .int 122]) (st := []) M_X10_within w1180 ⟨by decide, by decide⟩ rfl rfl (Nat.le_of_ble_eq_true rfl) dX10_next_73 rfl (kX10_within rfl) ?_
    refine V_if_eq C dX10_next_76 (tgt := 115) rfl rfl (fun c15 => ?_) (fun c15 => ?_)
    · replace hf := ipos c15 hf
      refine V_iload_n C 1 dX10_next_115 rfl rfl rfl ?_
      refine V_bipush C dX10_next_116 rfl (v := 48) rfl ?_
      refine V_bipush C dX10_next_118 rfl (v := 57) rfl ?_
      refine V_cSi C (As := [.int q4, .int 48, .int 57]) (st := []) M_X10_within w1180 ⟨by decide, by decide⟩ rfl rfl (Nat.le_of_ble_eq_true rfl) dX10_next_120 rfl (kX10_within rfl) ?_
      refine V_if_eq C dX10_next_123 (tgt := 191) rfl rfl (fun c11 => ?_) (fun c11 => ?_)
      · replace hf := ipos c11 hf
        refine V_aload_n C 0 dX10_next_191 rfl rfl rfl ?_
        refine V_iconst C dX10_next_192 rfl (v := 3) rfl ?_
        refine V_put C cf10 rfl 17 rfl (by decide) w1099 rfl rfl rfl rfl dX10_next_193 rfl ?_
        refine V_aload_n C 0 dX10_next_196 rfl rfl rfl ?_
        refine V_dup C dX10_next_197 rfl rfl ?_
        refine V_getI C cf10 rfl 16 rfl (by decide) w1098 rfl dX10_next_198 rfl ?_
        refine V_iconst C dX10_next_201 rfl (v := 1) rfl ?_
        refine V_iadd C dX10_next_202 rfl ?_
        refine V_put C cf10 rfl 16 rfl (by decide) w1098 rfl rfl rfl rfl dX10_next_203 rfl ?_
        obtain ⟨w5, ew5, hf⟩ := nmd hf
        rw [← ew5]
        obtain rfl := Option.some.inj hf
        exact K _ _ dX10_next_206 rfl
      · replace hf := ineg c11 hf
        refine V_aload_n C 0 dX10_next_126 rfl rfl rfl ?_
        refine V_iconst C dX10_next_127 rfl (v := 2) rfl ?_
        refine V_put C cf10 rfl 17 rfl (by decide) w1099 rfl rfl rfl rfl dX10_next_128 rfl ?_
        obtain ⟨q131_10, hq131_10, hf⟩ := obd hf
        refine Lp131 q4 (mst (mst (mst q8_3 116 16 (q8_3 116 15)) 116 18 0) 116 17 2) q131_10 hq131_10 ?_
        obtain rfl := Option.some.inj hf
        exact K _ _ dX10_next_206 rfl
    · replace hf := ineg c15 hf
      refine V_aload_n C 0 dX10_next_79 rfl rfl rfl ?_
      refine V_iconst C dX10_next_80 rfl (v := 1) rfl ?_
      refine V_put C cf10 rfl 17 rfl (by decide) w1099 rfl rfl rfl rfl dX10_next_81 rfl ?_
      obtain ⟨q84_14, hq84_14, hf⟩ := obd hf
      refine Lp84 q4 (mst (mst (mst q8_3 116 16 (q8_3 116 15)) 116 18 0) 116 17 1) q84_14 hq84_14 ?_
      obtain rfl := Option.some.inj hf
      exact K _ _ dX10_next_206 rfl
  · replace hf := ineg c16 hf
    refine V_aload_n C 0 dX10_next_60 rfl rfl rfl ?_
    refine V_iconst C dX10_next_61 rfl (v := 0) rfl ?_
    refine V_put C cf10 rfl 17 rfl (by decide) w1099 rfl rfl rfl rfl dX10_next_62 rfl ?_
    refine V_goto C dX10_next_65 (tgt := 206) rfl ?_
    obtain rfl := Option.some.inj hf
    exact K _ _ dX10_next_206 rfl
set_option maxHeartbeats 4000000 in
set_option maxRecDepth 100000 in
theorem kX10_isWord {ad : Nat → Nat} {G : Gh} {p1 : Nat} (h1 : p1 < 16) {u : Mem} {q : Int32} (hf : FX10_isWord p1 u = some q) : Ct shs ad G yX10_isWord cX10_isWord 4 (some .boolean) 4 85 [.ref (ad 116), .ref (ad (1000 + p1))] u (some (.int q)) u := by
  refine Ct_ofI (by decide) (Nat.le_of_ble_eq_true rfl) (fun X C hnL K => ?_)
  have C : Cx ad G X cX10_isWord "CarryFairModel" 4 85 := C
  unfold FX10_isWord at hf
  have Lp32 : ∀ (x0 : (Int32 × Int32)) (q32 : (Int32 × Int32)), lp (BX10_isWord_32 p1 u) FU x0 = some q32 → V shs ad G X 75 [(0, .ref (ad 116)), (1, .ref (ad (1000 + p1))), (2, .int q32.1), (3, .int q32.2)] [] u → V shs ad G X 32 [(0, .ref (ad 116)), (1, .ref (ad (1000 + p1))), (2, .int x0.1), (3, .int x0.2)] [] u := by
    intro  x0 q32 hq hx32_0
    refine lp_V (BX10_isWord_32 p1 u) (fun x32 => V shs ad G X 32 [(0, .ref (ad 116)), (1, .ref (ad (1000 + p1))), (2, .int x32.1), (3, .int x32.2)] [] u) q32 (fun rec32 ih32 x32 hf => ?_) FU x0 hq
    unfold BX10_isWord_32 at hf
    refine V_iload_n C 3 dX10_isWord_32 rfl rfl rfl ?_
    refine V_aload_n C 1 dX10_isWord_33 rfl rfl rfl ?_
    refine V_cTi C (b := p1) (As := []) (st := [.int x32.2]) h1 rfl M_length w1558 ⟨by decide, by decide⟩ rfl rfl (Nat.le_of_ble_eq_true rfl) dX10_isWord_34 rfl (c_length h1) ?_
    refine V_icmp_ge C dX10_isWord_37 (tgt := 75) rfl rfl (fun c5 => ?_) (fun c5 => ?_)
    · replace hf := ipos c5 hf
      obtain rfl := Option.some.inj hf
      exact hx32_0
    · replace hf := ineg c5 hf
      refine V_iload_n C 2 dX10_isWord_40 rfl rfl rfl ?_
      refine V_if_eq C dX10_isWord_41 (tgt := 75) rfl rfl (fun c4 => ?_) (fun c4 => ?_)
      · replace hf := ipos c4 hf
        obtain rfl := Option.some.inj hf
        exact hx32_0
      · replace hf := ineg c4 hf
        refine V_aload_n C 0 dX10_isWord_44 rfl rfl rfl ?_
        refine V_getR C cf10 rfl 13 rfl (by decide) w1095 rfl dX10_isWord_45 rfl ?_
        refine V_aload_n C 0 dX10_isWord_48 rfl rfl rfl ?_
        refine V_getI C cf10 rfl 15 rfl (by decide) w1097 rfl dX10_isWord_49 rfl ?_
        refine V_iload_n C 3 dX10_isWord_52 rfl rfl rfl ?_
        refine V_iadd C dX10_isWord_53 rfl ?_
        obtain ⟨g1, hf⟩ := gd hf
        refine V_ildJ C rfl g1 rfl dX10_isWord_54 rfl ?_
        refine V_aload_n C 1 dX10_isWord_55 rfl rfl rfl ?_
        refine V_iload_n C 3 dX10_isWord_56 rfl rfl rfl ?_
        obtain ⟨g2, hf⟩ := gd hf
        refine V_cTi C (b := p1) (As := [.int x32.2]) (st := [.int (u 125 ((u 116 15) + x32.2).toNatClampNeg)]) h1 rfl M_charAt w1559 ⟨by decide, by decide⟩ rfl rfl (Nat.le_of_ble_eq_true rfl) dX10_isWord_57 rfl (c_charAt h1 g2) ?_
        refine V_icmp_ne C dX10_isWord_60 (tgt := 67) rfl rfl (fun c3 => ?_) (fun c3 => ?_)
        · replace hf := ineg c3 hf
          refine V_iconst C dX10_isWord_67 rfl (v := 0) rfl ?_
          refine V_istore_n C (L' := [(0, .ref (ad 116)), (1, .ref (ad (1000 + p1))), (2, .int 0), (3, .int x32.2)]) dX10_isWord_68 rfl rfl (by decide) hnL [1, 2, 0, 3] rfl ?_
          refine V_iinc C (v := (x32.2 + 1)) (L' := [(0, .ref (ad 116)), (1, .ref (ad (1000 + p1))), (2, .int 0), (3, .int (x32.2 + 1))]) 3 dX10_isWord_69 rfl rfl rfl (by decide) hnL [1, 2, 3, 0] rfl ?_
          refine V_goto C dX10_isWord_72 (tgt := 32) rfl ?_
          exact ih32 (0, (x32.2 + 1)) hf
        · replace hf := ipos c3 hf
          refine V_iconst C dX10_isWord_63 rfl (v := 1) rfl ?_
          refine V_goto C dX10_isWord_64 (tgt := 68) rfl ?_
          refine V_istore_n C (L' := [(0, .ref (ad 116)), (1, .ref (ad (1000 + p1))), (2, .int 1), (3, .int x32.2)]) dX10_isWord_68 rfl rfl (by decide) hnL [1, 2, 0, 3] rfl ?_
          refine V_iinc C (v := (x32.2 + 1)) (L' := [(0, .ref (ad 116)), (1, .ref (ad (1000 + p1))), (2, .int 1), (3, .int (x32.2 + 1))]) 3 dX10_isWord_69 rfl rfl rfl (by decide) hnL [1, 2, 3, 0] rfl ?_
          refine V_goto C dX10_isWord_72 (tgt := 32) rfl ?_
          exact ih32 (1, (x32.2 + 1)) hf
  have JX10_isWord_29 : ∀ (s0 : Int32), JX10_isWord_29 p1 u s0 = some q → V shs ad G X 29 [(0, .ref (ad 116)), (1, .ref (ad (1000 + p1)))] [.int s0] u := by
    intro s0 hf
    unfold JX10_isWord_29 at hf
    refine V_istore_n C (L' := [(0, .ref (ad 116)), (1, .ref (ad (1000 + p1))), (2, .int s0)]) dX10_isWord_29 rfl rfl (by decide) hnL [1, 2, 0] rfl ?_
    refine V_iconst C dX10_isWord_30 rfl (v := 0) rfl ?_
    refine V_istore_n C (L' := [(0, .ref (ad 116)), (1, .ref (ad (1000 + p1))), (2, .int s0), (3, .int 0)]) dX10_isWord_31 rfl rfl (by decide) hnL [1, 2, 3, 0] rfl ?_
    obtain ⟨q32_6, hq32_6, hf⟩ := obd hf
    refine Lp32  (s0, 0) q32_6 hq32_6 ?_
    refine V_iload_n C 2 dX10_isWord_75 rfl rfl rfl ?_
    obtain ⟨g7, hf⟩ := gd hf
    obtain rfl := Option.some.inj hf
    exact K _ _ _ dX10_isWord_76 rfl (nzb g7)
  have JX10_isWord_28 : JX10_isWord_28 p1 u = some q → V shs ad G X 28 [(0, .ref (ad 116)), (1, .ref (ad (1000 + p1)))] [] u := by
    intro  hf
    unfold JX10_isWord_28 at hf
    refine V_iconst C dX10_isWord_28 rfl (v := 0) rfl ?_
    exact JX10_isWord_29 0 hf
  refine V_aload_n C 0 dX10_isWord_0 rfl rfl rfl ?_
  refine V_getI C cf10 rfl 17 rfl (by decide) w1099 rfl dX10_isWord_1 rfl ?_
  refine V_iconst C dX10_isWord_4 rfl (v := 1) rfl ?_
  refine V_icmp_ne C dX10_isWord_5 (tgt := 28) rfl rfl (fun c9 => ?_) (fun c9 => ?_)
  · replace hf := ineg c9 hf
    exact JX10_isWord_28  hf
  · replace hf := ipos c9 hf
    refine V_aload_n C 0 dX10_isWord_8 rfl rfl rfl ?_
    refine V_getI C cf10 rfl 16 rfl (by decide) w1098 rfl dX10_isWord_9 rfl ?_
    refine V_aload_n C 0 dX10_isWord_12 rfl rfl rfl ?_
    refine V_getI C cf10 rfl 15 rfl (by decide) w1097 rfl dX10_isWord_13 rfl ?_
    refine V_isub C dX10_isWord_16 rfl ?_
    refine V_aload_n C 1 dX10_isWord_17 rfl rfl rfl ?_
    refine V_cTi C (b := p1) (As := []) (st := [.int ((u 116 16) - (u 116 15))]) h1 rfl M_length w1558 ⟨by decide, by decide⟩ rfl rfl (Nat.le_of_ble_eq_true rfl) dX10_isWord_18 rfl (c_length h1) ?_
    refine V_icmp_ne C dX10_isWord_21 (tgt := 28) rfl rfl (fun c8 => ?_) (fun c8 => ?_)
    · replace hf := ineg c8 hf
      exact JX10_isWord_28  hf
    · replace hf := ipos c8 hf
      refine V_iconst C dX10_isWord_24 rfl (v := 1) rfl ?_
      refine V_goto C dX10_isWord_25 (tgt := 29) rfl ?_
      exact JX10_isWord_29 1 hf
set_option maxHeartbeats 4000000 in
set_option maxRecDepth 100000 in
theorem kX10_must {ad : Nat → Nat} {G : Gh} {p1 : Int32} {u : Mem} {q : Mem} (hf : FX10_must p1 u = some q) : Ct shs ad G yX10_must cX10_must 2 none 2 43 [.ref (ad 116), .int p1] u none q := by
  refine Ct_ofV (by decide) (Nat.le_of_ble_eq_true rfl) (fun X C hnL K => ?_)
  have C : Cx ad G X cX10_must "CarryFairModel" 2 43 := C
  unfold FX10_must at hf
  refine V_aload_n C 0 dX10_must_0 rfl rfl rfl ?_
  refine V_aload_n C 0 dX10_must_1 rfl rfl rfl ?_
  refine V_getI C cf10 rfl 19 rfl (by decide) w1101 rfl dX10_must_2 rfl ?_
  refine V_if_ne C dX10_must_5 (tgt := 12) rfl rfl (fun c8 => ?_) (fun c8 => ?_)
  · replace hf := ineg c8 hf
    refine V_iconst C dX10_must_12 rfl (v := 1) rfl ?_
    refine V_goto C dX10_must_13 (tgt := 17) rfl ?_
    refine V_put C cf10 rfl 19 rfl (by decide) w1101 rfl rfl rfl rfl dX10_must_17 rfl ?_
    refine V_aload_n C 0 dX10_must_20 rfl rfl rfl ?_
    refine V_getI C cf10 rfl 19 rfl (by decide) w1101 rfl dX10_must_21 rfl ?_
    refine V_if_ne C dX10_must_24 (tgt := 31) rfl rfl (fun c2 => ?_) (fun c2 => ?_)
    · replace hf := ineg c2 hf
      obtain rfl := Option.some.inj hf
      exact K _ _ dX10_must_31 rfl
    · replace hf := ipos c2 hf
      refine V_aload_n C 0 dX10_must_27 rfl rfl rfl ?_
      obtain ⟨q1, hq1, hf⟩ := obd hf
      refine V_cVv C (b := 116) (As := []) (st := []) cf10 rfl M_X10_next w1538 ⟨by decide, by decide⟩ rfl rfl (Nat.le_of_ble_eq_true rfl) dX10_must_28 rfl (kX10_next hq1) ?_
      obtain rfl := Option.some.inj hf
      exact K _ _ dX10_must_31 rfl
  · replace hf := ipos c8 hf
    refine V_iload_n C 1 dX10_must_8 rfl rfl rfl ?_
    refine V_if_ne C dX10_must_9 (tgt := 16) rfl rfl (fun c7 => ?_) (fun c7 => ?_)
    · replace hf := ineg c7 hf
      refine V_iconst C dX10_must_16 rfl (v := 0) rfl ?_
      refine V_put C cf10 rfl 19 rfl (by decide) w1101 rfl rfl rfl rfl dX10_must_17 rfl ?_
      refine V_aload_n C 0 dX10_must_20 rfl rfl rfl ?_
      refine V_getI C cf10 rfl 19 rfl (by decide) w1101 rfl dX10_must_21 rfl ?_
      refine V_if_ne C dX10_must_24 (tgt := 31) rfl rfl (fun c4 => ?_) (fun c4 => ?_)
      · replace hf := ineg c4 hf
        obtain rfl := Option.some.inj hf
        exact K _ _ dX10_must_31 rfl
      · replace hf := ipos c4 hf
        refine V_aload_n C 0 dX10_must_27 rfl rfl rfl ?_
        obtain ⟨q3, hq3, hf⟩ := obd hf
        refine V_cVv C (b := 116) (As := []) (st := []) cf10 rfl M_X10_next w1538 ⟨by decide, by decide⟩ rfl rfl (Nat.le_of_ble_eq_true rfl) dX10_must_28 rfl (kX10_next hq3) ?_
        obtain rfl := Option.some.inj hf
        exact K _ _ dX10_must_31 rfl
    · replace hf := ipos c7 hf
      refine V_iconst C dX10_must_12 rfl (v := 1) rfl ?_
      refine V_goto C dX10_must_13 (tgt := 17) rfl ?_
      refine V_put C cf10 rfl 19 rfl (by decide) w1101 rfl rfl rfl rfl dX10_must_17 rfl ?_
      refine V_aload_n C 0 dX10_must_20 rfl rfl rfl ?_
      refine V_getI C cf10 rfl 19 rfl (by decide) w1101 rfl dX10_must_21 rfl ?_
      refine V_if_ne C dX10_must_24 (tgt := 31) rfl rfl (fun c6 => ?_) (fun c6 => ?_)
      · replace hf := ineg c6 hf
        obtain rfl := Option.some.inj hf
        exact K _ _ dX10_must_31 rfl
      · replace hf := ipos c6 hf
        refine V_aload_n C 0 dX10_must_27 rfl rfl rfl ?_
        obtain ⟨q5, hq5, hf⟩ := obd hf
        refine V_cVv C (b := 116) (As := []) (st := []) cf10 rfl M_X10_next w1538 ⟨by decide, by decide⟩ rfl rfl (Nat.le_of_ble_eq_true rfl) dX10_must_28 rfl (kX10_next hq5) ?_
        obtain rfl := Option.some.inj hf
        exact K _ _ dX10_must_31 rfl
set_option maxHeartbeats 4000000 in
set_option maxRecDepth 100000 in
theorem kX10_number {ad : Nat → Nat} {G : Gh} {p1 : Int32} {p2 : Int32} {u : Mem} {q : Int32 × Mem} (hf : FX10_number p1 p2 u = some q) : Ct shs ad G yX10_number cX10_number 4 (some .int) 3 64 [.ref (ad 116), .int p1, .int p2] u (some (.int q.1)) q.2 := by
  refine Ct_ofI (by decide) (Nat.le_of_ble_eq_true rfl) (fun X C hnL K => ?_)
  have C : Cx ad G X cX10_number "CarryFairModel" 3 64 := C
  unfold FX10_number at hf
  refine V_aload_n C 0 dX10_number_0 rfl rfl rfl ?_
  refine V_getI C cf10 rfl 18 rfl (by decide) w1100 rfl dX10_number_1 rfl ?_
  refine V_istore_n C (L' := [(0, .ref (ad 116)), (1, .int p1), (2, .int p2), (3, .int (u 116 18))]) dX10_number_4 rfl rfl (by decide) hnL [1, 2, 3, 0] rfl ?_
  refine V_aload_n C 0 dX10_number_5 rfl rfl rfl ?_
  refine V_aload_n C 0 dX10_number_6 rfl rfl rfl ?_
  refine V_getI C cf10 rfl 17 rfl (by decide) w1099 rfl dX10_number_7 rfl ?_
  refine V_iconst C dX10_number_10 rfl (v := 2) rfl ?_
  refine V_icmp_ne C dX10_number_11 (tgt := 27) rfl rfl (fun c5 => ?_) (fun c5 => ?_)
  · replace hf := ineg c5 hf
    refine V_iconst C dX10_number_27 rfl (v := 0) rfl ?_
    obtain ⟨q1, hq1, hf⟩ := obd hf
    refine V_cVv C (b := 116) (As := [.int 0]) (st := []) cf10 rfl M_X10_must w1560 ⟨by decide, by decide⟩ rfl rfl (Nat.le_of_ble_eq_true rfl) dX10_number_28 rfl (kX10_must hq1) ?_
    refine V_iload_n C 3 dX10_number_31 rfl rfl rfl ?_
    obtain rfl := Option.some.inj hf
    exact K _ _ _ dX10_number_32 rfl rfl
  · replace hf := ipos c5 hf
    refine V_iload_n C 3 dX10_number_14 rfl rfl rfl ?_
    refine V_iload_n C 1 dX10_number_15 rfl rfl rfl ?_
    refine V_iload_n C 2 dX10_number_16 rfl rfl rfl ?_
    refine V_cSi C (As := [.int (u 116 18), .int p1, .int p2]) (st := [.ref (ad 116)]) M_X10_within w1180 ⟨by decide, by decide⟩ rfl rfl (Nat.le_of_ble_eq_true rfl) dX10_number_17 rfl (kX10_within rfl) ?_
    refine V_if_eq C dX10_number_20 (tgt := 27) rfl rfl (fun c4 => ?_) (fun c4 => ?_)
    · replace hf := ipos c4 hf
      refine V_iconst C dX10_number_27 rfl (v := 0) rfl ?_
      obtain ⟨q2, hq2, hf⟩ := obd hf
      refine V_cVv C (b := 116) (As := [.int 0]) (st := []) cf10 rfl M_X10_must w1560 ⟨by decide, by decide⟩ rfl rfl (Nat.le_of_ble_eq_true rfl) dX10_number_28 rfl (kX10_must hq2) ?_
      refine V_iload_n C 3 dX10_number_31 rfl rfl rfl ?_
      obtain rfl := Option.some.inj hf
      exact K _ _ _ dX10_number_32 rfl rfl
    · replace hf := ineg c4 hf
      refine V_iconst C dX10_number_23 rfl (v := 1) rfl ?_
      refine V_goto C dX10_number_24 (tgt := 28) rfl ?_
      obtain ⟨q3, hq3, hf⟩ := obd hf
      refine V_cVv C (b := 116) (As := [.int 1]) (st := []) cf10 rfl M_X10_must w1560 ⟨by decide, by decide⟩ rfl rfl (Nat.le_of_ble_eq_true rfl) dX10_number_28 rfl (kX10_must hq3) ?_
      refine V_iload_n C 3 dX10_number_31 rfl rfl rfl ?_
      obtain rfl := Option.some.inj hf
      exact K _ _ _ dX10_number_32 rfl rfl
set_option maxHeartbeats 4000000 in
set_option maxRecDepth 100000 in
theorem kX10_item {ad : Nat → Nat} {G : Gh} {p1 : Int32} {p2 : Int32} {p3 : Int32} {p4 : Int32} {p5 : Int32} {u : Mem} {q : Mem} (hf : FX10_item p1 p2 p3 p4 p5 u = some q) : Ct shs ad G yX10_item cX10_item 7 none 0 0 [.ref (ad 116), .int p1, .int p2, .int p3, .int p4, .int p5] u none q := by
  refine Ct_ofV (by decide) (Nat.le_of_ble_eq_true rfl) (fun X C hnL K => ?_)
  have C : Cx ad G X cX10_item "CarryFairModel" 0 0 := C
  unfold FX10_item at hf
  refine V_iconst C dX10_item_0 rfl (v := 5) rfl ?_
  refine V_aload_n C 0 dX10_item_1 rfl rfl rfl ?_
  refine V_getI C cf10 rfl 22 rfl (by decide) w1104 rfl dX10_item_2 rfl ?_
  refine V_imul C dX10_item_5 rfl ?_
  refine V_istore C (L' := [(0, .ref (ad 116)), (1, .int p1), (2, .int p2), (3, .int p3), (4, .int p4), (5, .int p5), (6, .int (5 * (u 116 22)))]) dX10_item_6 rfl (by decide) hnL [1, 2, 3, 4, 5, 6, 0] rfl ?_
  refine V_aload_n C 0 dX10_item_8 rfl rfl rfl ?_
  refine V_getR C cf10 rfl 21 rfl (by decide) w1103 rfl dX10_item_9 rfl ?_
  refine V_iload C 6 dX10_item_12 rfl rfl ?_
  refine V_iload_n C 1 dX10_item_14 rfl rfl rfl ?_
  obtain ⟨g1, hf⟩ := gd hf
  refine V_istJ C rfl g1 rfl dX10_item_15 rfl ?_
  refine V_aload_n C 0 dX10_item_16 rfl rfl rfl ?_
  refine V_getR C cf10 rfl 21 rfl (by decide) w1103 rfl dX10_item_17 rfl ?_
  refine V_iload C 6 dX10_item_20 rfl rfl ?_
  refine V_iconst C dX10_item_22 rfl (v := 1) rfl ?_
  refine V_iadd C dX10_item_23 rfl ?_
  refine V_iload_n C 2 dX10_item_24 rfl rfl rfl ?_
  obtain ⟨g2, hf⟩ := gd hf
  refine V_istJ C rfl g2 rfl dX10_item_25 rfl ?_
  refine V_aload_n C 0 dX10_item_26 rfl rfl rfl ?_
  refine V_getR C cf10 rfl 21 rfl (by decide) w1103 rfl dX10_item_27 rfl ?_
  refine V_iload C 6 dX10_item_30 rfl rfl ?_
  refine V_iconst C dX10_item_32 rfl (v := 2) rfl ?_
  refine V_iadd C dX10_item_33 rfl ?_
  refine V_iload_n C 3 dX10_item_34 rfl rfl rfl ?_
  obtain ⟨g3, hf⟩ := gd hf
  refine V_istJ C rfl g3 rfl dX10_item_35 rfl ?_
  obtain ⟨w4, ew4, hf⟩ := nmd hf
  rw [← ew4]
  refine V_aload_n C 0 dX10_item_36 rfl rfl rfl ?_
  refine V_getR C cf10 rfl 21 rfl (by decide) w1103 rfl dX10_item_37 rfl ?_
  refine V_iload C 6 dX10_item_40 rfl rfl ?_
  refine V_iconst C dX10_item_42 rfl (v := 3) rfl ?_
  refine V_iadd C dX10_item_43 rfl ?_
  refine V_iload C 4 dX10_item_44 rfl rfl ?_
  obtain ⟨g5, hf⟩ := gd hf
  refine V_istJ C rfl g5 rfl dX10_item_46 rfl ?_
  refine V_aload_n C 0 dX10_item_47 rfl rfl rfl ?_
  refine V_getR C cf10 rfl 21 rfl (by decide) w1103 rfl dX10_item_48 rfl ?_
  refine V_iload C 6 dX10_item_51 rfl rfl ?_
  refine V_iconst C dX10_item_53 rfl (v := 4) rfl ?_
  refine V_iadd C dX10_item_54 rfl ?_
  refine V_iload C 5 dX10_item_55 rfl rfl ?_
  obtain ⟨g6, hf⟩ := gd hf
  refine V_istJ C rfl g6 rfl dX10_item_57 rfl ?_
  refine V_aload_n C 0 dX10_item_58 rfl rfl rfl ?_
  refine V_dup C dX10_item_59 rfl rfl ?_
  refine V_getI C cf10 rfl 22 rfl (by decide) w1104 rfl dX10_item_60 rfl ?_
  refine V_iconst C dX10_item_63 rfl (v := 1) rfl ?_
  refine V_iadd C dX10_item_64 rfl ?_
  refine V_put C cf10 rfl 22 rfl (by decide) w1104 rfl rfl rfl rfl dX10_item_65 rfl ?_
  obtain ⟨w7, ew7, hf⟩ := nmd hf
  rw [← ew7]
  obtain rfl := Option.some.inj hf
  exact K _ _ dX10_item_68 rfl
set_option maxHeartbeats 4000000 in
set_option maxRecDepth 100000 in
theorem kX10_kindTold {ad : Nat → Nat} {G : Gh}  {u : Mem} {q : Int32} (hf : FX10_kindTold u = some q) : Ct shs ad G yX10_kindTold cX10_kindTold 3 (some .int) 5 108 [.ref (ad 116)] u (some (.int q)) u := by
  refine Ct_ofI (by decide) (Nat.le_of_ble_eq_true rfl) (fun X C hnL K => ?_)
  have C : Cx ad G X cX10_kindTold "CarryFairModel" 5 108 := C
  unfold FX10_kindTold at hf
  have Lp4 : ∀ (x0 : (Int32 × Int32)) (q4 : (Int32 × Int32)), lp (BX10_kindTold_4 u) FU x0 = some q4 → V shs ad G X 38 [(0, .ref (ad 116)), (1, .int q4.1), (2, .int q4.2)] [] u → V shs ad G X 4 [(0, .ref (ad 116)), (1, .int x0.1), (2, .int x0.2)] [] u := by
    intro  x0 q4 hq hx4_0
    refine lp_V (BX10_kindTold_4 u) (fun x4 => V shs ad G X 4 [(0, .ref (ad 116)), (1, .int x4.1), (2, .int x4.2)] [] u) q4 (fun rec4 ih4 x4 hf => ?_) FU x0 hq
    unfold BX10_kindTold_4 at hf
    refine V_iload_n C 2 dX10_kindTold_4 rfl rfl rfl ?_
    refine V_aload_n C 0 dX10_kindTold_5 rfl rfl rfl ?_
    refine V_getR C cf10 rfl 20 rfl (by decide) w1102 rfl dX10_kindTold_6 rfl ?_
    refine V_alen C (show shs[126]? = some (.inr ((6, 7), some [some 1000, some 1001, some 1002, some 1003, some 1004, some 1005, some 1006])) from rfl) (fun _ => rfl) (v := 7) rfl dX10_kindTold_9 rfl ?_
    refine V_icmp_ge C dX10_kindTold_10 (tgt := 38) rfl rfl (fun c4 => ?_) (fun c4 => ?_)
    · replace hf := ipos c4 hf
      obtain rfl := Option.some.inj hf
      exact hx4_0
    · replace hf := ineg c4 hf
      refine V_aload_n C 0 dX10_kindTold_13 rfl rfl rfl ?_
      refine V_aload_n C 0 dX10_kindTold_14 rfl rfl rfl ?_
      refine V_getR C cf10 rfl 20 rfl (by decide) w1102 rfl dX10_kindTold_15 rfl ?_
      refine V_iload_n C 2 dX10_kindTold_18 rfl rfl rfl ?_
      obtain ⟨g1, hf⟩ := gd hf
      refine V_aald C (show shs[126]? = some (.inr ((6, 7), some [some 1000, some 1001, some 1002, some 1003, some 1004, some 1005, some 1006])) from rfl) (fun _ => rfl) g1 (sKig g1) dX10_kindTold_19 rfl ?_
      obtain ⟨q2, hq2, hf⟩ := obd hf
      refine V_cVi C (b := 116) (As := [.ref (ad (1000 + (x4.2).toNatClampNeg))]) (st := []) cf10 rfl M_X10_isWord w1554 ⟨by decide, by decide⟩ rfl rfl (Nat.le_of_ble_eq_true rfl) dX10_kindTold_20 rfl (kX10_isWord (sKi g1) hq2) ?_
      refine V_if_eq C dX10_kindTold_23 (tgt := 30) rfl rfl (fun c3 => ?_) (fun c3 => ?_)
      · replace hf := ipos c3 hf
        refine V_iload_n C 1 dX10_kindTold_30 rfl rfl rfl ?_
        refine V_istore_n C (L' := [(0, .ref (ad 116)), (1, .int x4.1), (2, .int x4.2)]) dX10_kindTold_31 rfl rfl (by decide) hnL [1, 0, 2] rfl ?_
        refine V_iinc C (v := (x4.2 + 1)) (L' := [(0, .ref (ad 116)), (1, .int x4.1), (2, .int (x4.2 + 1))]) 2 dX10_kindTold_32 rfl rfl rfl (by decide) hnL [1, 2, 0] rfl ?_
        refine V_goto C dX10_kindTold_35 (tgt := 4) rfl ?_
        exact ih4 (x4.1, (x4.2 + 1)) hf
      · replace hf := ineg c3 hf
        refine V_iload_n C 2 dX10_kindTold_26 rfl rfl rfl ?_
        refine V_goto C dX10_kindTold_27 (tgt := 31) rfl ?_
        refine V_istore_n C (L' := [(0, .ref (ad 116)), (1, .int x4.2), (2, .int x4.2)]) dX10_kindTold_31 rfl rfl (by decide) hnL [1, 0, 2] rfl ?_
        refine V_iinc C (v := (x4.2 + 1)) (L' := [(0, .ref (ad 116)), (1, .int x4.2), (2, .int (x4.2 + 1))]) 2 dX10_kindTold_32 rfl rfl rfl (by decide) hnL [1, 2, 0] rfl ?_
        refine V_goto C dX10_kindTold_35 (tgt := 4) rfl ?_
        exact ih4 (x4.2, (x4.2 + 1)) hf
  refine V_iconst C dX10_kindTold_0 rfl (v := (-1)) (by decide) ?_
  refine V_istore_n C (L' := [(0, .ref (ad 116)), (1, .int (-1))]) dX10_kindTold_1 rfl rfl (by decide) hnL [1, 0] rfl ?_
  refine V_iconst C dX10_kindTold_2 rfl (v := 0) rfl ?_
  refine V_istore_n C (L' := [(0, .ref (ad 116)), (1, .int (-1)), (2, .int 0)]) dX10_kindTold_3 rfl rfl (by decide) hnL [1, 2, 0] rfl ?_
  obtain ⟨q4_5, hq4_5, hf⟩ := obd hf
  refine Lp4  ((-1), 0) q4_5 hq4_5 ?_
  refine V_iload_n C 1 dX10_kindTold_38 rfl rfl rfl ?_
  obtain rfl := Option.some.inj hf
  exact K _ _ _ dX10_kindTold_39 rfl rfl
set_option maxHeartbeats 4000000 in
set_option maxRecDepth 100000 in
theorem kX10_isNext {ad : Nat → Nat} {G : Gh} {p1 : Nat} (h1 : p1 < 16) {u : Mem} {q : Int32 × Mem} (hf : FX10_isNext p1 u = some q) : Ct shs ad G yX10_isNext cX10_isNext 3 (some .boolean) 5 108 [.ref (ad 116), .ref (ad (1000 + p1))] u (some (.int q.1)) q.2 := by
  refine Ct_ofI (by decide) (Nat.le_of_ble_eq_true rfl) (fun X C hnL K => ?_)
  have C : Cx ad G X cX10_isNext "CarryFairModel" 5 108 := C
  unfold FX10_isNext at hf
  refine V_aload_n C 0 dX10_isNext_0 rfl rfl rfl ?_
  refine V_getI C cf10 rfl 19 rfl (by decide) w1101 rfl dX10_isNext_1 rfl ?_
  refine V_if_ne C dX10_isNext_4 (tgt := 19) rfl rfl (fun c4 => ?_) (fun c4 => ?_)
  · replace hf := ineg c4 hf
    refine V_iconst C dX10_isNext_19 rfl (v := 0) rfl ?_
    refine V_istore_n C (L' := [(0, .ref (ad 116)), (1, .ref (ad (1000 + p1))), (2, .int 0)]) dX10_isNext_20 rfl rfl (by decide) hnL [1, 2, 0] rfl ?_
    refine V_iload_n C 2 dX10_isNext_21 rfl rfl rfl ?_
    refine V_if_eq C dX10_isNext_22 (tgt := 30) rfl rfl (fun _ => ?_) (fun z => absurd (by decide) z)
    refine V_iload_n C 2 dX10_isNext_30 rfl rfl rfl ?_
    obtain rfl := Option.some.inj hf
    exact K _ _ _ dX10_isNext_31 rfl (by decide)
  · replace hf := ipos c4 hf
    refine V_aload_n C 0 dX10_isNext_7 rfl rfl rfl ?_
    refine V_aload_n C 1 dX10_isNext_8 rfl rfl rfl ?_
    obtain ⟨q1, hq1, hf⟩ := obd hf
    refine V_cVi C (b := 116) (As := [.ref (ad (1000 + p1))]) (st := []) cf10 rfl M_X10_isWord w1554 ⟨by decide, by decide⟩ rfl rfl (Nat.le_of_ble_eq_true rfl) dX10_isNext_9 rfl (kX10_isWord h1 hq1) ?_
    refine V_if_eq C dX10_isNext_12 (tgt := 19) rfl rfl (fun c3 => ?_) (fun c3 => ?_)
    · replace hf := ipos c3 hf
      refine V_iconst C dX10_isNext_19 rfl (v := 0) rfl ?_
      refine V_istore_n C (L' := [(0, .ref (ad 116)), (1, .ref (ad (1000 + p1))), (2, .int 0)]) dX10_isNext_20 rfl rfl (by decide) hnL [1, 2, 0] rfl ?_
      refine V_iload_n C 2 dX10_isNext_21 rfl rfl rfl ?_
      refine V_if_eq C dX10_isNext_22 (tgt := 30) rfl rfl (fun _ => ?_) (fun z => absurd (by decide) z)
      refine V_iload_n C 2 dX10_isNext_30 rfl rfl rfl ?_
      obtain rfl := Option.some.inj hf
      exact K _ _ _ dX10_isNext_31 rfl (by decide)
    · replace hf := ineg c3 hf
      refine V_iconst C dX10_isNext_15 rfl (v := 1) rfl ?_
      refine V_goto C dX10_isNext_16 (tgt := 20) rfl ?_
      refine V_istore_n C (L' := [(0, .ref (ad 116)), (1, .ref (ad (1000 + p1))), (2, .int 1)]) dX10_isNext_20 rfl rfl (by decide) hnL [1, 2, 0] rfl ?_
      refine V_iload_n C 2 dX10_isNext_21 rfl rfl rfl ?_
      refine V_if_eq C dX10_isNext_22 (tgt := 30) rfl rfl (fun z => absurd z (by decide)) (fun _ => ?_)
      refine V_aload_n C 0 dX10_isNext_25 rfl rfl rfl ?_
      refine V_iconst C dX10_isNext_26 rfl (v := 1) rfl ?_
      obtain ⟨q2, hq2, hf⟩ := obd hf
      refine V_cVv C (b := 116) (As := [.int 1]) (st := []) cf10 rfl M_X10_must w1560 ⟨by decide, by decide⟩ rfl rfl (Nat.le_of_ble_eq_true rfl) dX10_isNext_27 rfl (kX10_must hq2) ?_
      refine V_iload_n C 2 dX10_isNext_30 rfl rfl rfl ?_
      obtain rfl := Option.some.inj hf
      exact K _ _ _ dX10_isNext_31 rfl (by decide)
set_option maxHeartbeats 4000000 in
set_option maxRecDepth 100000 in
theorem kX10_unlike {ad : Nat → Nat} {G : Gh} {p1 : Int32} {u : Mem} {q : Int32 × Mem} (hf : FX10_unlike p1 u = some q) : Ct shs ad G yX10_unlike cX10_unlike 3 (some .int) 3 64 [.ref (ad 116), .int p1] u (some (.int q.1)) q.2 := by
  refine Ct_ofI (by decide) (Nat.le_of_ble_eq_true rfl) (fun X C hnL K => ?_)
  have C : Cx ad G X cX10_unlike "CarryFairModel" 3 64 := C
  unfold FX10_unlike at hf
  refine V_aload_n C 0 dX10_unlike_0 rfl rfl rfl ?_
  refine V_getI C cf10 rfl 18 rfl (by decide) w1100 rfl dX10_unlike_1 rfl ?_
  refine V_istore_n C (L' := [(0, .ref (ad 116)), (1, .int p1), (2, .int (u 116 18))]) dX10_unlike_4 rfl rfl (by decide) hnL [1, 2, 0] rfl ?_
  refine V_aload_n C 0 dX10_unlike_5 rfl rfl rfl ?_
  refine V_aload_n C 0 dX10_unlike_6 rfl rfl rfl ?_
  refine V_getI C cf10 rfl 19 rfl (by decide) w1101 rfl dX10_unlike_7 rfl ?_
  refine V_if_ne C dX10_unlike_10 (tgt := 37) rfl rfl (fun c9 => ?_) (fun c9 => ?_)
  · replace hf := ineg c9 hf
    refine V_iconst C dX10_unlike_37 rfl (v := 0) rfl ?_
    obtain ⟨q1, hq1, hf⟩ := obd hf
    refine V_cVv C (b := 116) (As := [.int 0]) (st := []) cf10 rfl M_X10_must w1560 ⟨by decide, by decide⟩ rfl rfl (Nat.le_of_ble_eq_true rfl) dX10_unlike_38 rfl (kX10_must hq1) ?_
    refine V_iload_n C 2 dX10_unlike_41 rfl rfl rfl ?_
    obtain rfl := Option.some.inj hf
    exact K _ _ _ dX10_unlike_42 rfl rfl
  · replace hf := ipos c9 hf
    refine V_aload_n C 0 dX10_unlike_13 rfl rfl rfl ?_
    refine V_getI C cf10 rfl 17 rfl (by decide) w1099 rfl dX10_unlike_14 rfl ?_
    refine V_iconst C dX10_unlike_17 rfl (v := 2) rfl ?_
    refine V_icmp_ne C dX10_unlike_18 (tgt := 37) rfl rfl (fun c8 => ?_) (fun c8 => ?_)
    · replace hf := ineg c8 hf
      refine V_iconst C dX10_unlike_37 rfl (v := 0) rfl ?_
      obtain ⟨q2, hq2, hf⟩ := obd hf
      refine V_cVv C (b := 116) (As := [.int 0]) (st := []) cf10 rfl M_X10_must w1560 ⟨by decide, by decide⟩ rfl rfl (Nat.le_of_ble_eq_true rfl) dX10_unlike_38 rfl (kX10_must hq2) ?_
      refine V_iload_n C 2 dX10_unlike_41 rfl rfl rfl ?_
      obtain rfl := Option.some.inj hf
      exact K _ _ _ dX10_unlike_42 rfl rfl
    · replace hf := ipos c8 hf
      refine V_iload_n C 2 dX10_unlike_21 rfl rfl rfl ?_
      refine V_cSi C (As := [.int (u 116 18)]) (st := [.ref (ad 116)]) M_X10_isPlace w1240 ⟨by decide, by decide⟩ rfl rfl (Nat.le_of_ble_eq_true rfl) dX10_unlike_22 rfl (kX10_isPlace rfl) ?_
      refine V_if_eq C dX10_unlike_25 (tgt := 37) rfl rfl (fun c7 => ?_) (fun c7 => ?_)
      · replace hf := ipos c7 hf
        refine V_iconst C dX10_unlike_37 rfl (v := 0) rfl ?_
        obtain ⟨q3, hq3, hf⟩ := obd hf
        refine V_cVv C (b := 116) (As := [.int 0]) (st := []) cf10 rfl M_X10_must w1560 ⟨by decide, by decide⟩ rfl rfl (Nat.le_of_ble_eq_true rfl) dX10_unlike_38 rfl (kX10_must hq3) ?_
        refine V_iload_n C 2 dX10_unlike_41 rfl rfl rfl ?_
        obtain rfl := Option.some.inj hf
        exact K _ _ _ dX10_unlike_42 rfl rfl
      · replace hf := ineg c7 hf
        refine V_iload_n C 2 dX10_unlike_28 rfl rfl rfl ?_
        refine V_iload_n C 1 dX10_unlike_29 rfl rfl rfl ?_
        refine V_icmp_eq C dX10_unlike_30 (tgt := 37) rfl rfl (fun c6 => ?_) (fun c6 => ?_)
        · replace hf := ipos c6 hf
          refine V_iconst C dX10_unlike_37 rfl (v := 0) rfl ?_
          obtain ⟨q4, hq4, hf⟩ := obd hf
          refine V_cVv C (b := 116) (As := [.int 0]) (st := []) cf10 rfl M_X10_must w1560 ⟨by decide, by decide⟩ rfl rfl (Nat.le_of_ble_eq_true rfl) dX10_unlike_38 rfl (kX10_must hq4) ?_
          refine V_iload_n C 2 dX10_unlike_41 rfl rfl rfl ?_
          obtain rfl := Option.some.inj hf
          exact K _ _ _ dX10_unlike_42 rfl rfl
        · replace hf := ineg c6 hf
          refine V_iconst C dX10_unlike_33 rfl (v := 1) rfl ?_
          refine V_goto C dX10_unlike_34 (tgt := 38) rfl ?_
          obtain ⟨q5, hq5, hf⟩ := obd hf
          refine V_cVv C (b := 116) (As := [.int 1]) (st := []) cf10 rfl M_X10_must w1560 ⟨by decide, by decide⟩ rfl rfl (Nat.le_of_ble_eq_true rfl) dX10_unlike_38 rfl (kX10_must hq5) ?_
          refine V_iload_n C 2 dX10_unlike_41 rfl rfl rfl ?_
          obtain rfl := Option.some.inj hf
          exact K _ _ _ dX10_unlike_42 rfl rfl
