set_option maxHeartbeats 4000000 in
set_option maxRecDepth 100000 in
theorem kX6_goOn {ad : Nat → Nat} {G : Gh}  {u : Mem} {q : Mem} (hf : FX6_goOn u = some q) : Ct shs ad G yX6_goOn cX6_goOn 1 none 1 21 [.ref (ad 104)] u none q := by
  refine Ct_ofV (by decide) (Nat.le_of_ble_eq_true rfl) (fun X C hnL K => ?_)
  have C : Cx ad G X cX6_goOn "CarryFair$Tape" 1 21 := C
  unfold FX6_goOn at hf
  have Lp8 : ∀ (x0 : (Mem)) (q8 : (Mem)), lp (BX6_goOn_8) FU x0 = some q8 → V shs ad G X 46 [(0, .ref (ad 104))] [] q8 → V shs ad G X 8 [(0, .ref (ad 104))] [] x0 := by
    intro  x0 q8 hq hx8_0
    refine lp_V (BX6_goOn_8) (fun x8 => V shs ad G X 8 [(0, .ref (ad 104))] [] x8) q8 (fun rec8 ih8 x8 hf => ?_) FU x0 hq
    unfold BX6_goOn_8 at hf
    refine V_aload_n C 0 dX6_goOn_8 rfl rfl rfl ?_
    refine V_getI C cf6 rfl 3 rfl (by decide) w325 rfl dX6_goOn_9 rfl ?_
    refine V_aload_n C 0 dX6_goOn_12 rfl rfl rfl ?_
    refine V_getI C cf6 rfl 1 rfl (by decide) w322 rfl dX6_goOn_13 rfl ?_
    refine V_icmp_ge C dX6_goOn_16 (tgt := 46) rfl rfl (fun c3 => ?_) (fun c3 => ?_)
    · replace hf := ipos c3 hf
      obtain rfl := Option.some.inj hf
      exact hx8_0
    · replace hf := ineg c3 hf
      refine V_aload_n C 0 dX6_goOn_19 rfl rfl rfl ?_
      refine V_getR C cf6 rfl 0 rfl (by decide) w321 rfl dX6_goOn_20 rfl ?_
      refine V_aload_n C 0 dX6_goOn_23 rfl rfl rfl ?_
      refine V_getI C cf6 rfl 3 rfl (by decide) w325 rfl dX6_goOn_24 rfl ?_
      obtain ⟨g1, hf⟩ := gd hf
      refine V_ildJ C rfl g1 rfl dX6_goOn_27 rfl ?_
      refine V_bipush C dX6_goOn_28 rfl (v := 32) rfl ?_
      refine V_icmp_ne C dX6_goOn_30 (tgt := 46) rfl rfl (fun c2 => ?_) (fun c2 => ?_)
      · replace hf := ineg c2 hf
        obtain rfl := Option.some.inj hf
        exact hx8_0
      · replace hf := ipos c2 hf
        refine V_aload_n C 0 dX6_goOn_33 rfl rfl rfl ?_
        refine V_dup C dX6_goOn_34 rfl rfl ?_
        refine V_getI C cf6 rfl 3 rfl (by decide) w325 rfl dX6_goOn_35 rfl ?_
        refine V_iconst C dX6_goOn_38 rfl (v := 1) rfl ?_
        refine V_iadd C dX6_goOn_39 rfl ?_
        refine V_put C cf6 rfl 3 rfl (by decide) w325 rfl rfl rfl rfl dX6_goOn_40 rfl ?_
        refine V_goto C dX6_goOn_43 (tgt := 8) rfl ?_
        exact ih8 (mst x8 104 3 ((x8 104 3) + 1)) hf
  have Lp90 : ∀ (x0 : (Mem)) (q90 : (Nat × Mem)), lp (BX6_goOn_90) FU x0 = some q90 → (q90.1 = 0 → V shs ad G X 176 [(0, .ref (ad 104))] [] q90.2) → (q90.1 = 1 → V shs ad G X 177 [(0, .ref (ad 104))] [] q90.2) → V shs ad G X 90 [(0, .ref (ad 104))] [] x0 := by
    intro  x0 q90 hq hx90_0 hx90_1
    refine lp_V (BX6_goOn_90) (fun x90 => V shs ad G X 90 [(0, .ref (ad 104))] [] x90) q90 (fun rec90 ih90 x90 hf => ?_) FU x0 hq
    unfold BX6_goOn_90 at hf
    refine V_aload_n C 0 dX6_goOn_90 rfl rfl rfl ?_
    refine V_getI C cf6 rfl 4 rfl (by decide) w326 rfl dX6_goOn_91 rfl ?_
    refine V_aload_n C 0 dX6_goOn_94 rfl rfl rfl ?_
    refine V_getI C cf6 rfl 1 rfl (by decide) w322 rfl dX6_goOn_95 rfl ?_
    refine V_icmp_ge C dX6_goOn_98 (tgt := 177) rfl rfl (fun c11 => ?_) (fun c11 => ?_)
    · replace hf := ipos c11 hf
      obtain rfl := Option.some.inj hf
      exact hx90_1 rfl
    · replace hf := ineg c11 hf
      refine V_aload_n C 0 dX6_goOn_101 rfl rfl rfl ?_
      refine V_getR C cf6 rfl 0 rfl (by decide) w321 rfl dX6_goOn_102 rfl ?_
      refine V_aload_n C 0 dX6_goOn_105 rfl rfl rfl ?_
      refine V_getI C cf6 rfl 4 rfl (by decide) w326 rfl dX6_goOn_106 rfl ?_
      obtain ⟨g5, hf⟩ := gd hf
      refine V_ildJ C rfl g5 rfl dX6_goOn_109 rfl ?_
      refine V_cSi C (As := [.int (x90 105 (x90 104 4).toNatClampNeg)]) (st := []) M_X6_sortOf w870 ⟨by decide, by decide⟩ rfl rfl (Nat.le_of_ble_eq_true rfl) dX6_goOn_110 rfl (kX6_sortOf rfl) ?_
      refine V_aload_n C 0 dX6_goOn_113 rfl rfl rfl ?_
      refine V_getI C cf6 rfl 2 rfl (by decide) w324 rfl dX6_goOn_114 rfl ?_
      refine V_icmp_ne C dX6_goOn_117 (tgt := 177) rfl rfl (fun c10 => ?_) (fun c10 => ?_)
      · replace hf := ineg c10 hf
        obtain rfl := Option.some.inj hf
        exact hx90_1 rfl
      · replace hf := ipos c10 hf
        refine V_aload_n C 0 dX6_goOn_120 rfl rfl rfl ?_
        refine V_aload_n C 0 dX6_goOn_121 rfl rfl rfl ?_
        refine V_getI C cf6 rfl 5 rfl (by decide) w327 rfl dX6_goOn_122 rfl ?_
        refine V_bipush C dX6_goOn_125 rfl (v := 10) rfl ?_
        refine V_imul C dX6_goOn_127 rfl ?_
        refine V_aload_n C 0 dX6_goOn_128 rfl rfl rfl ?_
        refine V_getR C cf6 rfl 0 rfl (by decide) w321 rfl dX6_goOn_129 rfl ?_
        refine V_aload_n C 0 dX6_goOn_132 rfl rfl rfl ?_
        refine V_getI C cf6 rfl 4 rfl (by decide) w326 rfl dX6_goOn_133 rfl ?_
        obtain ⟨g6, hf⟩ := gd hf
        refine V_ildJ C rfl g6 rfl dX6_goOn_136 rfl ?_
        refine V_iadd C dX6_goOn_137 rfl ?_
        refine V_bipush C dX6_goOn_138 rfl (v := 48) rfl ?_
        refine V_isub C dX6_goOn_140 rfl ?_
        refine V_sipush C dX6_goOn_141 rfl (v := 10000) rfl ?_
        refine V_mmin C w873 ⟨by decide, by decide⟩ (Nat.le_of_ble_eq_true rfl) dX6_goOn_144 rfl ?_
        refine V_put C cf6 rfl 5 rfl (by decide) w327 rfl rfl rfl rfl dX6_goOn_147 rfl ?_
        refine V_aload_n C 0 dX6_goOn_150 rfl rfl rfl ?_
        refine V_dup C dX6_goOn_151 rfl rfl ?_
        refine V_getI C cf6 rfl 4 rfl (by decide) w326 rfl dX6_goOn_152 rfl ?_
        refine V_iconst C dX6_goOn_155 rfl (v := 1) rfl ?_
        refine V_iadd C dX6_goOn_156 rfl ?_
        refine V_put C cf6 rfl 4 rfl (by decide) w326 rfl rfl rfl rfl dX6_goOn_157 rfl ?_
        obtain ⟨w7, ew7, hf⟩ := nmd hf
        rw [← ew7]
        refine V_aload_n C 0 dX6_goOn_160 rfl rfl rfl ?_
        refine V_getI C cf6 rfl 2 rfl (by decide) w324 rfl dX6_goOn_161 rfl ?_
        refine V_iconst C dX6_goOn_164 rfl (v := 3) rfl ?_
        refine V_icmp_eq C dX6_goOn_165 (tgt := 176) rfl rfl (fun c9 => ?_) (fun c9 => ?_)
        · replace hf := ipos c9 hf
          obtain rfl := Option.some.inj hf
          exact hx90_0 rfl
        · replace hf := ineg c9 hf
          refine V_aload_n C 0 dX6_goOn_168 rfl rfl rfl ?_
          refine V_getI C cf6 rfl 2 rfl (by decide) w324 rfl dX6_goOn_169 rfl ?_
          refine V_iconst C dX6_goOn_172 rfl (v := 4) rfl ?_
          refine V_icmp_ne C dX6_goOn_173 (tgt := 90) rfl rfl (fun c8 => ?_) (fun c8 => ?_)
          · replace hf := ineg c8 hf
            exact ih90 w7 hf
          · replace hf := ipos c8 hf
            obtain rfl := Option.some.inj hf
            exact hx90_0 rfl
  have JX6_goOn_87 : ∀ (s1 : Int32) (w : Mem), JX6_goOn_87 s1 w = some q → V shs ad G X 87 [(0, .ref (ad 104))] [.int s1, .ref (ad 104)] w := by
    intro s1 w hf
    unfold JX6_goOn_87 at hf
    refine V_put C cf6 rfl 2 rfl (by decide) w324 rfl rfl rfl rfl dX6_goOn_87 rfl ?_
    obtain ⟨q90_12, hq90_12, hf⟩ := obd hf
    refine Lp90  (mst w 104 2 s1) q90_12 hq90_12 ?_ ?_
    · intro hk
      replace hf := ipos hk hf
      obtain rfl := Option.some.inj hf
      exact K _ _ dX6_goOn_176 rfl
    · intro hk
      replace hf := ineg (by rw [hk]; decide) hf
      obtain rfl := Option.some.inj hf
      exact K _ _ dX6_goOn_177 rfl
  have JX6_goOn_46 : ∀ (w : Mem), JX6_goOn_46 w = some q → V shs ad G X 46 [(0, .ref (ad 104))] [] w := by
    intro w hf
    unfold JX6_goOn_46 at hf
    refine V_aload_n C 0 dX6_goOn_46 rfl rfl rfl ?_
    refine V_aload_n C 0 dX6_goOn_47 rfl rfl rfl ?_
    refine V_getI C cf6 rfl 3 rfl (by decide) w325 rfl dX6_goOn_48 rfl ?_
    refine V_put C cf6 rfl 4 rfl (by decide) w326 rfl rfl rfl rfl dX6_goOn_51 rfl ?_
    refine V_aload_n C 0 dX6_goOn_54 rfl rfl rfl ?_
    refine V_iconst C dX6_goOn_55 rfl (v := 0) rfl ?_
    refine V_put C cf6 rfl 5 rfl (by decide) w327 rfl rfl rfl rfl dX6_goOn_56 rfl ?_
    refine V_aload_n C 0 dX6_goOn_59 rfl rfl rfl ?_
    refine V_aload_n C 0 dX6_goOn_60 rfl rfl rfl ?_
    refine V_getI C cf6 rfl 3 rfl (by decide) w325 rfl dX6_goOn_61 rfl ?_
    refine V_aload_n C 0 dX6_goOn_64 rfl rfl rfl ?_
    refine V_getI C cf6 rfl 1 rfl (by decide) w322 rfl dX6_goOn_65 rfl ?_
    refine V_icmp_ge C dX6_goOn_68 (tgt := 86) rfl rfl (fun c14 => ?_) (fun c14 => ?_)
    · replace hf := ipos c14 hf
      refine V_iconst C dX6_goOn_86 rfl (v := 0) rfl ?_
      exact JX6_goOn_87 0 (mst (mst w 104 4 (w 104 3)) 104 5 0) hf
    · replace hf := ineg c14 hf
      refine V_aload_n C 0 dX6_goOn_71 rfl rfl rfl ?_
      refine V_getR C cf6 rfl 0 rfl (by decide) w321 rfl dX6_goOn_72 rfl ?_
      refine V_aload_n C 0 dX6_goOn_75 rfl rfl rfl ?_
      refine V_getI C cf6 rfl 3 rfl (by decide) w325 rfl dX6_goOn_76 rfl ?_
      obtain ⟨g13, hf⟩ := gd hf
      refine V_ildJ C rfl g13 rfl dX6_goOn_79 rfl ?_
      refine V_cSi C (As := [.int ((mst (mst w 104 4 (w 104 3)) 104 5 0) 105 ((mst (mst w 104 4 (w 104 3)) 104 5 0) 104 3).toNatClampNeg)]) (st := [.ref (ad 104)]) M_X6_sortOf w870 ⟨by decide, by decide⟩ rfl rfl (Nat.le_of_ble_eq_true rfl) dX6_goOn_80 rfl (kX6_sortOf rfl) ?_
      refine V_goto C dX6_goOn_83 (tgt := 87) rfl ?_
      exact JX6_goOn_87 (FX6_sortOf ((mst (mst w 104 4 (w 104 3)) 104 5 0) 105 ((mst (mst w 104 4 (w 104 3)) 104 5 0) 104 3).toNatClampNeg)) (mst (mst w 104 4 (w 104 3)) 104 5 0) hf
  refine V_aload_n C 0 dX6_goOn_0 rfl rfl rfl ?_
  refine V_aload_n C 0 dX6_goOn_1 rfl rfl rfl ?_
  refine V_getI C cf6 rfl 4 rfl (by decide) w326 rfl dX6_goOn_2 rfl ?_
  refine V_put C cf6 rfl 3 rfl (by decide) w325 rfl rfl rfl rfl dX6_goOn_5 rfl ?_
  obtain ⟨q8_4, hq8_4, hf⟩ := obd hf
  refine Lp8  (mst u 104 3 (u 104 4)) q8_4 hq8_4 ?_
  exact JX6_goOn_46 q8_4 hf
set_option maxHeartbeats 4000000 in
set_option maxRecDepth 100000 in
theorem kX6_isWord {ad : Nat → Nat} {G : Gh} {p1 : Nat} (h1 : p1 < 16) {u : Mem} {q : Int32} (hf : FX6_isWord p1 u = some q) : Ct shs ad G yX6_isWord cX6_isWord 3 (some .boolean) 4 85 [.ref (ad 104), .ref (ad (1000 + p1))] u (some (.int q)) u := by
  refine Ct_ofI (by decide) (Nat.le_of_ble_eq_true rfl) (fun X C hnL K => ?_)
  have C : Cx ad G X cX6_isWord "CarryFair$Tape" 4 85 := C
  unfold FX6_isWord at hf
  have Lp28 : ∀ (x0 : (Int32)) (q28 : (Nat × Int32)), lp (BX6_isWord_28 p1 u) FU x0 = some q28 → (q28.1 = 0 → V shs ad G X 55 [(0, .ref (ad 104)), (1, .ref (ad (1000 + p1))), (2, .int q28.2)] [] u) → (q28.1 = 1 → V shs ad G X 63 [(0, .ref (ad 104)), (1, .ref (ad (1000 + p1))), (2, .int q28.2)] [] u) → V shs ad G X 28 [(0, .ref (ad 104)), (1, .ref (ad (1000 + p1))), (2, .int x0)] [] u := by
    intro  x0 q28 hq hx28_0 hx28_1
    refine lp_V (BX6_isWord_28 p1 u) (fun x28 => V shs ad G X 28 [(0, .ref (ad 104)), (1, .ref (ad (1000 + p1))), (2, .int x28)] [] u) q28 (fun rec28 ih28 x28 hf => ?_) FU x0 hq
    unfold BX6_isWord_28 at hf
    refine V_iload_n C 2 dX6_isWord_28 rfl rfl rfl ?_
    refine V_aload_n C 1 dX6_isWord_29 rfl rfl rfl ?_
    refine V_cTi C (b := p1) (As := []) (st := [.int x28]) h1 rfl M_length w887 ⟨by decide, by decide⟩ rfl rfl (Nat.le_of_ble_eq_true rfl) dX6_isWord_30 rfl (c_length h1) ?_
    refine V_icmp_ge C dX6_isWord_33 (tgt := 63) rfl rfl (fun c4 => ?_) (fun c4 => ?_)
    · replace hf := ipos c4 hf
      obtain rfl := Option.some.inj hf
      exact hx28_1 rfl
    · replace hf := ineg c4 hf
      refine V_aload_n C 0 dX6_isWord_36 rfl rfl rfl ?_
      refine V_getR C cf6 rfl 0 rfl (by decide) w321 rfl dX6_isWord_37 rfl ?_
      refine V_aload_n C 0 dX6_isWord_40 rfl rfl rfl ?_
      refine V_getI C cf6 rfl 3 rfl (by decide) w325 rfl dX6_isWord_41 rfl ?_
      refine V_iload_n C 2 dX6_isWord_44 rfl rfl rfl ?_
      refine V_iadd C dX6_isWord_45 rfl ?_
      obtain ⟨g1, hf⟩ := gd hf
      refine V_ildJ C rfl g1 rfl dX6_isWord_46 rfl ?_
      refine V_aload_n C 1 dX6_isWord_47 rfl rfl rfl ?_
      refine V_iload_n C 2 dX6_isWord_48 rfl rfl rfl ?_
      obtain ⟨g2, hf⟩ := gd hf
      refine V_cTi C (b := p1) (As := [.int x28]) (st := [.int (u 105 ((u 104 3) + x28).toNatClampNeg)]) h1 rfl M_charAt w897 ⟨by decide, by decide⟩ rfl rfl (Nat.le_of_ble_eq_true rfl) dX6_isWord_49 rfl (c_charAt h1 g2) ?_
      refine V_icmp_eq C dX6_isWord_52 (tgt := 57) rfl rfl (fun c3 => ?_) (fun c3 => ?_)
      · replace hf := ipos c3 hf
        refine V_iinc C (v := (x28 + 1)) (L' := [(0, .ref (ad 104)), (1, .ref (ad (1000 + p1))), (2, .int (x28 + 1))]) 2 dX6_isWord_57 rfl rfl rfl (by decide) hnL [1, 2, 0] rfl ?_
        refine V_goto C dX6_isWord_60 (tgt := 28) rfl ?_
        exact ih28 (x28 + 1) hf
      · replace hf := ineg c3 hf
        obtain rfl := Option.some.inj hf
        exact hx28_0 rfl
  refine V_aload_n C 0 dX6_isWord_0 rfl rfl rfl ?_
  refine V_getI C cf6 rfl 2 rfl (by decide) w324 rfl dX6_isWord_1 rfl ?_
  refine V_iconst C dX6_isWord_4 rfl (v := 1) rfl ?_
  refine V_icmp_ne C dX6_isWord_5 (tgt := 24) rfl rfl (fun c7 => ?_) (fun c7 => ?_)
  · replace hf := ineg c7 hf
    refine V_iconst C dX6_isWord_24 rfl (v := 0) rfl ?_
    obtain rfl := Option.some.inj hf
    exact K _ _ _ dX6_isWord_25 rfl (by decide)
  · replace hf := ipos c7 hf
    refine V_aload_n C 0 dX6_isWord_8 rfl rfl rfl ?_
    refine V_getI C cf6 rfl 4 rfl (by decide) w326 rfl dX6_isWord_9 rfl ?_
    refine V_aload_n C 0 dX6_isWord_12 rfl rfl rfl ?_
    refine V_getI C cf6 rfl 3 rfl (by decide) w325 rfl dX6_isWord_13 rfl ?_
    refine V_isub C dX6_isWord_16 rfl ?_
    refine V_aload_n C 1 dX6_isWord_17 rfl rfl rfl ?_
    refine V_cTi C (b := p1) (As := []) (st := [.int ((u 104 4) - (u 104 3))]) h1 rfl M_length w887 ⟨by decide, by decide⟩ rfl rfl (Nat.le_of_ble_eq_true rfl) dX6_isWord_18 rfl (c_length h1) ?_
    refine V_icmp_eq C dX6_isWord_21 (tgt := 26) rfl rfl (fun c6 => ?_) (fun c6 => ?_)
    · replace hf := ipos c6 hf
      refine V_iconst C dX6_isWord_26 rfl (v := 0) rfl ?_
      refine V_istore_n C (L' := [(0, .ref (ad 104)), (1, .ref (ad (1000 + p1))), (2, .int 0)]) dX6_isWord_27 rfl rfl (by decide) hnL [1, 2, 0] rfl ?_
      obtain ⟨q28_5, hq28_5, hf⟩ := obd hf
      refine Lp28  0 q28_5 hq28_5 ?_ ?_
      · intro hk
        replace hf := ipos hk hf
        refine V_iconst C dX6_isWord_55 rfl (v := 0) rfl ?_
        obtain rfl := Option.some.inj hf
        exact K _ _ _ dX6_isWord_56 rfl (by decide)
      · intro hk
        replace hf := ineg (by rw [hk]; decide) hf
        refine V_iconst C dX6_isWord_63 rfl (v := 1) rfl ?_
        obtain rfl := Option.some.inj hf
        exact K _ _ _ dX6_isWord_64 rfl (by decide)
    · replace hf := ineg c6 hf
      refine V_iconst C dX6_isWord_24 rfl (v := 0) rfl ?_
      obtain rfl := Option.some.inj hf
      exact K _ _ _ dX6_isWord_25 rfl (by decide)
set_option maxHeartbeats 4000000 in
set_option maxRecDepth 100000 in
theorem kX6_kindTold {ad : Nat → Nat} {G : Gh}  {u : Mem} {q : Int32} (hf : FX6_kindTold u = some q) : Ct shs ad G yX6_kindTold cX6_kindTold 1 (some .int) 5 107 [.ref (ad 104)] u (some (.int q)) u := by
  refine Ct_ofI (by decide) (Nat.le_of_ble_eq_true rfl) (fun X C hnL K => ?_)
  have C : Cx ad G X cX6_kindTold "CarryFair$Tape" 5 107 := C
  unfold FX6_kindTold at hf
  refine V_aload_n C 0 dX6_kindTold_0 rfl rfl rfl ?_
  refine V_ldcS C (i := 0) (tx := "carrier") dX6_kindTold_1 rfl (by decide +kernel) ?_
  obtain ⟨q1, hq1, hf⟩ := obd hf
  refine V_cVi C (b := 104) (As := [.ref (ad (1000 + 0))]) (st := []) cf6 rfl M_X6_isWord w883 ⟨by decide, by decide⟩ rfl rfl (Nat.le_of_ble_eq_true rfl) dX6_kindTold_3 rfl (kX6_isWord (by decide) hq1) ?_
  refine V_if_eq C dX6_kindTold_6 (tgt := 11) rfl rfl (fun c14 => ?_) (fun c14 => ?_)
  · replace hf := ipos c14 hf
    refine V_aload_n C 0 dX6_kindTold_11 rfl rfl rfl ?_
    refine V_ldcS C (i := 1) (tx := "old") dX6_kindTold_12 rfl (by decide +kernel) ?_
    obtain ⟨q2, hq2, hf⟩ := obd hf
    refine V_cVi C (b := 104) (As := [.ref (ad (1000 + 1))]) (st := []) cf6 rfl M_X6_isWord w883 ⟨by decide, by decide⟩ rfl rfl (Nat.le_of_ble_eq_true rfl) dX6_kindTold_14 rfl (kX6_isWord (by decide) hq2) ?_
    refine V_if_eq C dX6_kindTold_17 (tgt := 22) rfl rfl (fun c13 => ?_) (fun c13 => ?_)
    · replace hf := ipos c13 hf
      refine V_aload_n C 0 dX6_kindTold_22 rfl rfl rfl ?_
      refine V_ldcS C (i := 2) (tx := "paired") dX6_kindTold_23 rfl (by decide +kernel) ?_
      obtain ⟨q3, hq3, hf⟩ := obd hf
      refine V_cVi C (b := 104) (As := [.ref (ad (1000 + 2))]) (st := []) cf6 rfl M_X6_isWord w883 ⟨by decide, by decide⟩ rfl rfl (Nat.le_of_ble_eq_true rfl) dX6_kindTold_25 rfl (kX6_isWord (by decide) hq3) ?_
      refine V_if_eq C dX6_kindTold_28 (tgt := 33) rfl rfl (fun c12 => ?_) (fun c12 => ?_)
      · replace hf := ipos c12 hf
        refine V_aload_n C 0 dX6_kindTold_33 rfl rfl rfl ?_
        refine V_ldcS C (i := 3) (tx := "cheating") dX6_kindTold_34 rfl (by decide +kernel) ?_
        obtain ⟨q4, hq4, hf⟩ := obd hf
        refine V_cVi C (b := 104) (As := [.ref (ad (1000 + 3))]) (st := []) cf6 rfl M_X6_isWord w883 ⟨by decide, by decide⟩ rfl rfl (Nat.le_of_ble_eq_true rfl) dX6_kindTold_36 rfl (kX6_isWord (by decide) hq4) ?_
        refine V_if_eq C dX6_kindTold_39 (tgt := 44) rfl rfl (fun c11 => ?_) (fun c11 => ?_)
        · replace hf := ipos c11 hf
          refine V_aload_n C 0 dX6_kindTold_44 rfl rfl rfl ?_
          refine V_ldcS C (i := 4) (tx := "handed") dX6_kindTold_45 rfl (by decide +kernel) ?_
          obtain ⟨q5, hq5, hf⟩ := obd hf
          refine V_cVi C (b := 104) (As := [.ref (ad (1000 + 4))]) (st := []) cf6 rfl M_X6_isWord w883 ⟨by decide, by decide⟩ rfl rfl (Nat.le_of_ble_eq_true rfl) dX6_kindTold_47 rfl (kX6_isWord (by decide) hq5) ?_
          refine V_if_eq C dX6_kindTold_50 (tgt := 55) rfl rfl (fun c10 => ?_) (fun c10 => ?_)
          · replace hf := ipos c10 hf
            refine V_aload_n C 0 dX6_kindTold_55 rfl rfl rfl ?_
            refine V_ldcS C (i := 5) (tx := "watery") dX6_kindTold_56 rfl (by decide +kernel) ?_
            obtain ⟨q6, hq6, hf⟩ := obd hf
            refine V_cVi C (b := 104) (As := [.ref (ad (1000 + 5))]) (st := []) cf6 rfl M_X6_isWord w883 ⟨by decide, by decide⟩ rfl rfl (Nat.le_of_ble_eq_true rfl) dX6_kindTold_58 rfl (kX6_isWord (by decide) hq6) ?_
            refine V_if_eq C dX6_kindTold_61 (tgt := 66) rfl rfl (fun c9 => ?_) (fun c9 => ?_)
            · replace hf := ipos c9 hf
              refine V_aload_n C 0 dX6_kindTold_66 rfl rfl rfl ?_
              refine V_ldcS C (i := 6) (tx := "boated") dX6_kindTold_67 rfl (by decide +kernel) ?_
              obtain ⟨q7, hq7, hf⟩ := obd hf
              refine V_cVi C (b := 104) (As := [.ref (ad (1000 + 6))]) (st := []) cf6 rfl M_X6_isWord w883 ⟨by decide, by decide⟩ rfl rfl (Nat.le_of_ble_eq_true rfl) dX6_kindTold_69 rfl (kX6_isWord (by decide) hq7) ?_
              refine V_if_eq C dX6_kindTold_72 (tgt := 80) rfl rfl (fun c8 => ?_) (fun c8 => ?_)
              · replace hf := ipos c8 hf
                refine V_iconst C dX6_kindTold_80 rfl (v := (-1)) (by decide) ?_
                obtain rfl := Option.some.inj hf
                exact K _ _ _ dX6_kindTold_81 rfl rfl
              · replace hf := ineg c8 hf
                refine V_bipush C dX6_kindTold_75 rfl (v := 6) rfl ?_
                refine V_goto C dX6_kindTold_77 (tgt := 81) rfl ?_
                obtain rfl := Option.some.inj hf
                exact K _ _ _ dX6_kindTold_81 rfl rfl
            · replace hf := ineg c9 hf
              refine V_iconst C dX6_kindTold_64 rfl (v := 5) rfl ?_
              obtain rfl := Option.some.inj hf
              exact K _ _ _ dX6_kindTold_65 rfl rfl
          · replace hf := ineg c10 hf
            refine V_iconst C dX6_kindTold_53 rfl (v := 4) rfl ?_
            obtain rfl := Option.some.inj hf
            exact K _ _ _ dX6_kindTold_54 rfl rfl
        · replace hf := ineg c11 hf
          refine V_iconst C dX6_kindTold_42 rfl (v := 3) rfl ?_
          obtain rfl := Option.some.inj hf
          exact K _ _ _ dX6_kindTold_43 rfl rfl
      · replace hf := ineg c12 hf
        refine V_iconst C dX6_kindTold_31 rfl (v := 2) rfl ?_
        obtain rfl := Option.some.inj hf
        exact K _ _ _ dX6_kindTold_32 rfl rfl
    · replace hf := ineg c13 hf
      refine V_iconst C dX6_kindTold_20 rfl (v := 1) rfl ?_
      obtain rfl := Option.some.inj hf
      exact K _ _ _ dX6_kindTold_21 rfl rfl
  · replace hf := ineg c14 hf
    refine V_iconst C dX6_kindTold_9 rfl (v := 0) rfl ?_
    obtain rfl := Option.some.inj hf
    exact K _ _ _ dX6_kindTold_10 rfl rfl
set_option maxHeartbeats 4000000 in
set_option maxRecDepth 100000 in
theorem kX6_pass {ad : Nat → Nat} {G : Gh} {p1 : Nat} (h1 : p1 < 16) {u : Mem} {q : Int32 × Mem} (hf : FX6_pass p1 u = some q) : Ct shs ad G yX6_pass cX6_pass 3 (some .boolean) 5 107 [.ref (ad 104), .ref (ad (1000 + p1))] u (some (.int q.1)) q.2 := by
  refine Ct_ofI (by decide) (Nat.le_of_ble_eq_true rfl) (fun X C hnL K => ?_)
  have C : Cx ad G X cX6_pass "CarryFair$Tape" 5 107 := C
  unfold FX6_pass at hf
  refine V_aload_n C 0 dX6_pass_0 rfl rfl rfl ?_
  refine V_aload_n C 1 dX6_pass_1 rfl rfl rfl ?_
  obtain ⟨q1, hq1, hf⟩ := obd hf
  refine V_cVi C (b := 104) (As := [.ref (ad (1000 + p1))]) (st := []) cf6 rfl M_X6_isWord w883 ⟨by decide, by decide⟩ rfl rfl (Nat.le_of_ble_eq_true rfl) dX6_pass_2 rfl (kX6_isWord h1 hq1) ?_
  refine V_istore_n C (L' := [(0, .ref (ad 104)), (1, .ref (ad (1000 + p1))), (2, .int q1)]) dX6_pass_5 rfl rfl (by decide) hnL [1, 2, 0] rfl ?_
  refine V_iload_n C 2 dX6_pass_6 rfl rfl rfl ?_
  refine V_if_eq C dX6_pass_7 (tgt := 14) rfl rfl (fun c5 => ?_) (fun c5 => ?_)
  · replace hf := ipos c5 hf
    refine V_iload_n C 2 dX6_pass_14 rfl rfl rfl ?_
    obtain ⟨g2, hf⟩ := gd hf
    obtain rfl := Option.some.inj hf
    exact K _ _ _ dX6_pass_15 rfl (nzb g2)
  · replace hf := ineg c5 hf
    refine V_aload_n C 0 dX6_pass_10 rfl rfl rfl ?_
    obtain ⟨q3, hq3, hf⟩ := obd hf
    refine V_cVv C (b := 104) (As := []) (st := []) cf6 rfl M_X6_goOn w866 ⟨by decide, by decide⟩ rfl rfl (Nat.le_of_ble_eq_true rfl) dX6_pass_11 rfl (kX6_goOn hq3) ?_
    refine V_iload_n C 2 dX6_pass_14 rfl rfl rfl ?_
    obtain ⟨g4, hf⟩ := gd hf
    obtain rfl := Option.some.inj hf
    exact K _ _ _ dX6_pass_15 rfl (nzb g4)
set_option maxHeartbeats 4000000 in
set_option maxRecDepth 100000 in
theorem kX6_passNumber {ad : Nat → Nat} {G : Gh} {p1 : Int32} {p2 : Int32} {u : Mem} {q : Int32 × Mem} (hf : FX6_passNumber p1 p2 u = some q) : Ct shs ad G yX6_passNumber cX6_passNumber 4 (some .int) 2 41 [.ref (ad 104), .int p1, .int p2] u (some (.int q.1)) q.2 := by
  refine Ct_ofI (by decide) (Nat.le_of_ble_eq_true rfl) (fun X C hnL K => ?_)
  have C : Cx ad G X cX6_passNumber "CarryFair$Tape" 2 41 := C
  unfold FX6_passNumber at hf
  refine V_aload_n C 0 dX6_passNumber_0 rfl rfl rfl ?_
  refine V_getI C cf6 rfl 2 rfl (by decide) w324 rfl dX6_passNumber_1 rfl ?_
  refine V_iconst C dX6_passNumber_4 rfl (v := 2) rfl ?_
  refine V_icmp_ne C dX6_passNumber_5 (tgt := 20) rfl rfl (fun c3 => ?_) (fun c3 => ?_)
  · replace hf := ineg c3 hf
    refine V_iconst C dX6_passNumber_20 rfl (v := (-1)) (by decide) ?_
    obtain rfl := Option.some.inj hf
    exact K _ _ _ dX6_passNumber_21 rfl rfl
  · replace hf := ipos c3 hf
    refine V_aload_n C 0 dX6_passNumber_8 rfl rfl rfl ?_
    refine V_getI C cf6 rfl 5 rfl (by decide) w327 rfl dX6_passNumber_9 rfl ?_
    refine V_iload_n C 1 dX6_passNumber_12 rfl rfl rfl ?_
    refine V_iload_n C 2 dX6_passNumber_13 rfl rfl rfl ?_
    refine V_cNi C (As := [.int (u 104 5), .int p1, .int p2]) (st := []) M_X9_within (host := "CarryFair") (by decide +kernel) ⟨by decide, by decide⟩ rfl rfl (Nat.le_of_ble_eq_true rfl) dX6_passNumber_14 rfl (kX9_within rfl) ?_
    refine V_if_ne C dX6_passNumber_17 (tgt := 22) rfl rfl (fun c2 => ?_) (fun c2 => ?_)
    · replace hf := ineg c2 hf
      refine V_aload_n C 0 dX6_passNumber_22 rfl rfl rfl ?_
      refine V_getI C cf6 rfl 5 rfl (by decide) w327 rfl dX6_passNumber_23 rfl ?_
      refine V_istore_n C (L' := [(0, .ref (ad 104)), (1, .int p1), (2, .int p2), (3, .int (u 104 5))]) dX6_passNumber_26 rfl rfl (by decide) hnL [1, 2, 3, 0] rfl ?_
      refine V_aload_n C 0 dX6_passNumber_27 rfl rfl rfl ?_
      obtain ⟨q1, hq1, hf⟩ := obd hf
      refine V_cVv C (b := 104) (As := []) (st := []) cf6 rfl M_X6_goOn w866 ⟨by decide, by decide⟩ rfl rfl (Nat.le_of_ble_eq_true rfl) dX6_passNumber_28 rfl (kX6_goOn hq1) ?_
      refine V_iload_n C 3 dX6_passNumber_31 rfl rfl rfl ?_
      obtain rfl := Option.some.inj hf
      exact K _ _ _ dX6_passNumber_32 rfl rfl
    · replace hf := ipos c2 hf
      refine V_iconst C dX6_passNumber_20 rfl (v := (-1)) (by decide) ?_
      obtain rfl := Option.some.inj hf
      exact K _ _ _ dX6_passNumber_21 rfl rfl
set_option maxHeartbeats 4000000 in
set_option maxRecDepth 100000 in
theorem kX6_readCarrier {ad : Nat → Nat} {G : Gh} {p1 : Nat} (h1 : isF p1) {p2 : Int32} {u : Mem} {q : Int32 × Mem} (hf : FX6_readCarrier p1 p2 u = some q) : Ct shs ad G yX6_readCarrier cX6_readCarrier 5 (some .boolean) 6 129 [.ref (ad 104), .ref (ad p1), .int p2] u (some (.int q.1)) q.2 := by
  refine Ct_ofI (by decide) (Nat.le_of_ble_eq_true rfl) (fun X C hnL K => ?_)
  have C : Cx ad G X cX6_readCarrier "CarryFair$Tape" 6 129 := C
  unfold FX6_readCarrier at hf
  have JX6_readCarrier_34 : ∀ (v3 : Int32) (w : Mem), JX6_readCarrier_34 p1 p2 v3 w = some q → V shs ad G X 34 [(0, .ref (ad 104)), (1, .ref (ad p1)), (2, .int p2), (3, .int v3)] [] w := by
    intro v3 w hf
    unfold JX6_readCarrier_34 at hf
    refine V_iload_n C 3 dX6_readCarrier_34 rfl rfl rfl ?_
    refine V_if_ge C dX6_readCarrier_35 (tgt := 40) rfl rfl (fun c9 => ?_) (fun c9 => ?_)
    · replace hf := ipos c9 hf
      refine V_bipush C dX6_readCarrier_40 rfl (v := 20) rfl ?_
      refine V_istore C (L' := [(0, .ref (ad 104)), (1, .ref (ad p1)), (2, .int p2), (3, .int v3), (4, .int 20)]) dX6_readCarrier_42 rfl (by decide) hnL [1, 2, 3, 4, 0] rfl ?_
      refine V_aload_n C 0 dX6_readCarrier_44 rfl rfl rfl ?_
      refine V_ldcS C (i := 8) (tx := "strong") dX6_readCarrier_45 rfl (by decide +kernel) ?_
      obtain ⟨q3, hq3, hf⟩ := obd hf
      refine V_cVi C (b := 104) (As := [.ref (ad (1000 + 8))]) (st := []) cf6 rfl M_X6_pass w946 ⟨by decide, by decide⟩ rfl rfl (Nat.le_of_ble_eq_true rfl) dX6_readCarrier_47 rfl (kX6_pass (by decide) hq3) ?_
      refine V_if_eq C dX6_readCarrier_50 (tgt := 62) rfl rfl (fun c8 => ?_) (fun c8 => ?_)
      · replace hf := ipos c8 hf
        refine V_iload C 4 dX6_readCarrier_62 rfl rfl ?_
        refine V_if_ge C dX6_readCarrier_64 (tgt := 69) rfl rfl (fun _ => ?_) (fun z => absurd (by decide) z)
        refine V_aload_n C 1 dX6_readCarrier_69 rfl rfl rfl ?_
        refine V_iload_n C 2 dX6_readCarrier_70 rfl rfl rfl ?_
        refine V_iload_n C 3 dX6_readCarrier_71 rfl rfl rfl ?_
        refine V_iload C 4 dX6_readCarrier_72 rfl rfl ?_
        obtain ⟨q4, hq4, hf⟩ := obd hf
        refine V_cVi C (b := p1) (As := [.int p2, .int v3, .int 20]) (st := []) cf2 (sF h1) M_X2_addCarrier w956 ⟨by decide, by decide⟩ rfl rfl (Nat.le_of_ble_eq_true rfl) dX6_readCarrier_74 rfl (kX2_addCarrier h1 hq4) ?_
        refine V_pop C dX6_readCarrier_77 rfl rfl ?_
        refine V_iconst C dX6_readCarrier_78 rfl (v := 1) rfl ?_
        obtain rfl := Option.some.inj hf
        exact K _ _ _ dX6_readCarrier_79 rfl (by decide)
      · replace hf := ineg c8 hf
        refine V_aload_n C 0 dX6_readCarrier_53 rfl rfl rfl ?_
        refine V_iconst C dX6_readCarrier_54 rfl (v := 1) rfl ?_
        refine V_bipush C dX6_readCarrier_55 rfl (v := 99) rfl ?_
        obtain ⟨q5, hq5, hf⟩ := obd hf
        refine V_cVi C (b := 104) (As := [.int 1, .int 99]) (st := []) cf6 rfl M_X6_passNumber w950 ⟨by decide, by decide⟩ rfl rfl (Nat.le_of_ble_eq_true rfl) dX6_readCarrier_57 rfl (kX6_passNumber hq5) ?_
        refine V_istore C (L' := [(0, .ref (ad 104)), (1, .ref (ad p1)), (2, .int p2), (3, .int v3), (4, .int q5.1)]) dX6_readCarrier_60 rfl (by decide) hnL [1, 2, 3, 4, 0] rfl ?_
        refine V_iload C 4 dX6_readCarrier_62 rfl rfl ?_
        refine V_if_ge C dX6_readCarrier_64 (tgt := 69) rfl rfl (fun c7 => ?_) (fun c7 => ?_)
        · replace hf := ipos c7 hf
          refine V_aload_n C 1 dX6_readCarrier_69 rfl rfl rfl ?_
          refine V_iload_n C 2 dX6_readCarrier_70 rfl rfl rfl ?_
          refine V_iload_n C 3 dX6_readCarrier_71 rfl rfl rfl ?_
          refine V_iload C 4 dX6_readCarrier_72 rfl rfl ?_
          obtain ⟨q6, hq6, hf⟩ := obd hf
          refine V_cVi C (b := p1) (As := [.int p2, .int v3, .int q5.1]) (st := []) cf2 (sF h1) M_X2_addCarrier w956 ⟨by decide, by decide⟩ rfl rfl (Nat.le_of_ble_eq_true rfl) dX6_readCarrier_74 rfl (kX2_addCarrier h1 hq6) ?_
          refine V_pop C dX6_readCarrier_77 rfl rfl ?_
          refine V_iconst C dX6_readCarrier_78 rfl (v := 1) rfl ?_
          obtain rfl := Option.some.inj hf
          exact K _ _ _ dX6_readCarrier_79 rfl (by decide)
        · replace hf := ineg c7 hf
          refine V_iconst C dX6_readCarrier_67 rfl (v := 0) rfl ?_
          obtain rfl := Option.some.inj hf
          exact K _ _ _ dX6_readCarrier_68 rfl (by decide)
    · replace hf := ineg c9 hf
      refine V_iconst C dX6_readCarrier_38 rfl (v := 0) rfl ?_
      obtain rfl := Option.some.inj hf
      exact K _ _ _ dX6_readCarrier_39 rfl (by decide)
  refine V_aload_n C 1 dX6_readCarrier_0 rfl rfl rfl ?_
  refine V_getI C cf2 (sF h1) 5 rfl (by decide) w261 rfl dX6_readCarrier_1 rfl ?_
  refine V_bipush C dX6_readCarrier_4 rfl (v := 6) rfl ?_
  refine V_icmp_lt C dX6_readCarrier_6 (tgt := 11) rfl rfl (fun c12 => ?_) (fun c12 => ?_)
  · replace hf := ipos c12 hf
    refine V_aload_n C 0 dX6_readCarrier_11 rfl rfl rfl ?_
    obtain ⟨q1, hq1, hf⟩ := obd hf
    refine V_cVv C (b := 104) (As := []) (st := []) cf6 rfl M_X6_goOn w866 ⟨by decide, by decide⟩ rfl rfl (Nat.le_of_ble_eq_true rfl) dX6_readCarrier_12 rfl (kX6_goOn hq1) ?_
    refine V_iconst C dX6_readCarrier_15 rfl (v := 0) rfl ?_
    refine V_istore_n C (L' := [(0, .ref (ad 104)), (1, .ref (ad p1)), (2, .int p2), (3, .int 0)]) dX6_readCarrier_16 rfl rfl (by decide) hnL [1, 2, 3, 0] rfl ?_
    refine V_aload_n C 0 dX6_readCarrier_17 rfl rfl rfl ?_
    refine V_ldcS C (i := 7) (tx := "at") dX6_readCarrier_18 rfl (by decide +kernel) ?_
    obtain ⟨q2, hq2, hf⟩ := obd hf
    refine V_cVi C (b := 104) (As := [.ref (ad (1000 + 7))]) (st := []) cf6 rfl M_X6_pass w946 ⟨by decide, by decide⟩ rfl rfl (Nat.le_of_ble_eq_true rfl) dX6_readCarrier_20 rfl (kX6_pass (by decide) hq2) ?_
    refine V_if_eq C dX6_readCarrier_23 (tgt := 34) rfl rfl (fun c11 => ?_) (fun c11 => ?_)
    · replace hf := ipos c11 hf
      exact JX6_readCarrier_34 0 q2.2 hf
    · replace hf := ineg c11 hf
      refine V_aload_n C 0 dX6_readCarrier_26 rfl rfl rfl ?_
      refine V_iconst C dX6_readCarrier_27 rfl (v := 0) rfl ?_
      refine V_bipush C dX6_readCarrier_28 rfl (v := 6) rfl ?_
      obtain ⟨q10, hq10, hf⟩ := obd hf
      refine V_cVi C (b := 104) (As := [.int 0, .int 6]) (st := []) cf6 rfl M_X6_passNumber w950 ⟨by decide, by decide⟩ rfl rfl (Nat.le_of_ble_eq_true rfl) dX6_readCarrier_30 rfl (kX6_passNumber hq10) ?_
      refine V_istore_n C (L' := [(0, .ref (ad 104)), (1, .ref (ad p1)), (2, .int p2), (3, .int q10.1)]) dX6_readCarrier_33 rfl rfl (by decide) hnL [1, 2, 3, 0] rfl ?_
      exact JX6_readCarrier_34 q10.1 q10.2 hf
  · replace hf := ineg c12 hf
    refine V_iconst C dX6_readCarrier_9 rfl (v := 0) rfl ?_
    obtain rfl := Option.some.inj hf
    exact K _ _ _ dX6_readCarrier_10 rfl (by decide)
set_option maxHeartbeats 4000000 in
set_option maxRecDepth 100000 in
theorem kX6_passOtherPlace {ad : Nat → Nat} {G : Gh} {p1 : Int32} {u : Mem} {q : Int32 × Mem} (hf : FX6_passOtherPlace p1 u = some q) : Ct shs ad G yX6_passOtherPlace cX6_passOtherPlace 3 (some .int) 2 41 [.ref (ad 104), .int p1] u (some (.int q.1)) q.2 := by
  refine Ct_ofI (by decide) (Nat.le_of_ble_eq_true rfl) (fun X C hnL K => ?_)
  have C : Cx ad G X cX6_passOtherPlace "CarryFair$Tape" 2 41 := C
  unfold FX6_passOtherPlace at hf
  refine V_aload_n C 0 dX6_passOtherPlace_0 rfl rfl rfl ?_
  refine V_getI C cf6 rfl 2 rfl (by decide) w324 rfl dX6_passOtherPlace_1 rfl ?_
  refine V_iconst C dX6_passOtherPlace_4 rfl (v := 2) rfl ?_
  refine V_icmp_ne C dX6_passOtherPlace_5 (tgt := 25) rfl rfl (fun c4 => ?_) (fun c4 => ?_)
  · replace hf := ineg c4 hf
    refine V_iconst C dX6_passOtherPlace_25 rfl (v := (-1)) (by decide) ?_
    obtain rfl := Option.some.inj hf
    exact K _ _ _ dX6_passOtherPlace_26 rfl rfl
  · replace hf := ipos c4 hf
    refine V_aload_n C 0 dX6_passOtherPlace_8 rfl rfl rfl ?_
    refine V_getI C cf6 rfl 5 rfl (by decide) w327 rfl dX6_passOtherPlace_9 rfl ?_
    refine V_iload_n C 1 dX6_passOtherPlace_12 rfl rfl rfl ?_
    refine V_icmp_eq C dX6_passOtherPlace_13 (tgt := 25) rfl rfl (fun c3 => ?_) (fun c3 => ?_)
    · replace hf := ipos c3 hf
      refine V_iconst C dX6_passOtherPlace_25 rfl (v := (-1)) (by decide) ?_
      obtain rfl := Option.some.inj hf
      exact K _ _ _ dX6_passOtherPlace_26 rfl rfl
    · replace hf := ineg c3 hf
      refine V_aload_n C 0 dX6_passOtherPlace_16 rfl rfl rfl ?_
      refine V_getI C cf6 rfl 5 rfl (by decide) w327 rfl dX6_passOtherPlace_17 rfl ?_
      refine V_bipush C dX6_passOtherPlace_20 rfl (v := 7) rfl ?_
      refine V_icmp_lt C dX6_passOtherPlace_22 (tgt := 27) rfl rfl (fun c2 => ?_) (fun c2 => ?_)
      · replace hf := ipos c2 hf
        refine V_aload_n C 0 dX6_passOtherPlace_27 rfl rfl rfl ?_
        refine V_getI C cf6 rfl 5 rfl (by decide) w327 rfl dX6_passOtherPlace_28 rfl ?_
        refine V_istore_n C (L' := [(0, .ref (ad 104)), (1, .int p1), (2, .int (u 104 5))]) dX6_passOtherPlace_31 rfl rfl (by decide) hnL [1, 2, 0] rfl ?_
        refine V_aload_n C 0 dX6_passOtherPlace_32 rfl rfl rfl ?_
        obtain ⟨q1, hq1, hf⟩ := obd hf
        refine V_cVv C (b := 104) (As := []) (st := []) cf6 rfl M_X6_goOn w866 ⟨by decide, by decide⟩ rfl rfl (Nat.le_of_ble_eq_true rfl) dX6_passOtherPlace_33 rfl (kX6_goOn hq1) ?_
        refine V_iload_n C 2 dX6_passOtherPlace_36 rfl rfl rfl ?_
        obtain rfl := Option.some.inj hf
        exact K _ _ _ dX6_passOtherPlace_37 rfl rfl
      · replace hf := ineg c2 hf
        refine V_iconst C dX6_passOtherPlace_25 rfl (v := (-1)) (by decide) ?_
        obtain rfl := Option.some.inj hf
        exact K _ _ _ dX6_passOtherPlace_26 rfl rfl
set_option maxHeartbeats 4000000 in
set_option maxRecDepth 100000 in
theorem kX8_lay {S : List Shp} {ad : Nat → Nat} {G : Gh} {p0 : Nat} (h0 : isW S p0) {p1 : Int32} {p2 : Int32} {p3 : Int32} {p4 : Int32} {u : Mem} {q : Mem} (hf : FX8_lay p0 p1 p2 p3 p4 u = some q) : Ct S ad G yX8_lay cX8_lay 5 none 0 0 [.ref (ad p0), .int p1, .int p2, .int p3, .int p4] u none q := by
  refine Ct_ofV (by decide) (Nat.le_of_ble_eq_true rfl) (fun X C hnL K => ?_)
  have C : Cx ad G X cX8_lay "CarryFair$Ways" 0 0 := C
  unfold FX8_lay at hf
  refine V_aload_n C 0 dX8_lay_0 rfl rfl rfl ?_
  refine V_getR C cf8 (sW h0) 0 rfl (by decide) w153 rfl dX8_lay_1 rfl ?_
  refine V_iload_n C 1 dX8_lay_4 rfl rfl rfl ?_
  refine V_bipush C dX8_lay_5 rfl (v := 7) rfl ?_
  refine V_imul C dX8_lay_7 rfl ?_
  refine V_iload_n C 2 dX8_lay_8 rfl rfl rfl ?_
  refine V_iadd C dX8_lay_9 rfl ?_
  refine V_iload_n C 3 dX8_lay_10 rfl rfl rfl ?_
  obtain ⟨g1, hf⟩ := gd hf
  refine V_istJ C (sWy h0) g1 rfl dX8_lay_11 rfl ?_
  refine V_aload_n C 0 dX8_lay_12 rfl rfl rfl ?_
  refine V_getR C cf8 (sW h0) 0 rfl (by decide) w153 rfl dX8_lay_13 rfl ?_
  refine V_iload_n C 2 dX8_lay_16 rfl rfl rfl ?_
  refine V_bipush C dX8_lay_17 rfl (v := 7) rfl ?_
  refine V_imul C dX8_lay_19 rfl ?_
  refine V_iload_n C 1 dX8_lay_20 rfl rfl rfl ?_
  refine V_iadd C dX8_lay_21 rfl ?_
  refine V_iload_n C 3 dX8_lay_22 rfl rfl rfl ?_
  obtain ⟨g2, hf⟩ := gd hf
  refine V_istJ C (sWy h0) g2 rfl dX8_lay_23 rfl ?_
  refine V_aload_n C 0 dX8_lay_24 rfl rfl rfl ?_
  refine V_getR C cf8 (sW h0) 1 rfl (by decide) w154 rfl dX8_lay_25 rfl ?_
  refine V_iload_n C 1 dX8_lay_28 rfl rfl rfl ?_
  refine V_bipush C dX8_lay_29 rfl (v := 7) rfl ?_
  refine V_imul C dX8_lay_31 rfl ?_
  refine V_iload_n C 2 dX8_lay_32 rfl rfl rfl ?_
  refine V_iadd C dX8_lay_33 rfl ?_
  refine V_iload C 4 dX8_lay_34 rfl rfl ?_
  obtain ⟨g3, hf⟩ := gd hf
  refine V_istJ C (sWr h0) g3 rfl dX8_lay_36 rfl ?_
  obtain ⟨w4, ew4, hf⟩ := nmd hf
  rw [← ew4]
  refine V_aload_n C 0 dX8_lay_37 rfl rfl rfl ?_
  refine V_getR C cf8 (sW h0) 1 rfl (by decide) w154 rfl dX8_lay_38 rfl ?_
  refine V_iload_n C 2 dX8_lay_41 rfl rfl rfl ?_
  refine V_bipush C dX8_lay_42 rfl (v := 7) rfl ?_
  refine V_imul C dX8_lay_44 rfl ?_
  refine V_iload_n C 1 dX8_lay_45 rfl rfl rfl ?_
  refine V_iadd C dX8_lay_46 rfl ?_
  refine V_iload C 4 dX8_lay_47 rfl rfl ?_
  obtain ⟨g5, hf⟩ := gd hf
  refine V_istJ C (sWr h0) g5 rfl dX8_lay_49 rfl ?_
  obtain rfl := Option.some.inj hf
  exact K _ _ dX8_lay_50 rfl
set_option maxHeartbeats 4000000 in
set_option maxRecDepth 100000 in
theorem kX6_readWay {ad : Nat → Nat} {G : Gh} {p1 : Nat} (h1 : isF p1) {u : Mem} {q : Int32 × Mem} (hf : FX6_readWay p1 u = some q) : Ct shs ad G yX6_readWay cX6_readWay 5 (some .boolean) 6 129 [.ref (ad 104), .ref (ad p1)] u (some (.int q.1)) q.2 := by
  refine Ct_ofI (by decide) (Nat.le_of_ble_eq_true rfl) (fun X C hnL K => ?_)
  have C : Cx ad G X cX6_readWay "CarryFair$Tape" 6 129 := C
  unfold FX6_readWay at hf
  refine V_aload_n C 0 dX6_readWay_0 rfl rfl rfl ?_
  obtain ⟨q1, hq1, hf⟩ := obd hf
  refine V_cVv C (b := 104) (As := []) (st := []) cf6 rfl M_X6_goOn w866 ⟨by decide, by decide⟩ rfl rfl (Nat.le_of_ble_eq_true rfl) dX6_readWay_1 rfl (kX6_goOn hq1) ?_
  refine V_aload_n C 0 dX6_readWay_4 rfl rfl rfl ?_
  refine V_iconst C dX6_readWay_5 rfl (v := 0) rfl ?_
  refine V_bipush C dX6_readWay_6 rfl (v := 6) rfl ?_
  obtain ⟨q2, hq2, hf⟩ := obd hf
  refine V_cVi C (b := 104) (As := [.int 0, .int 6]) (st := []) cf6 rfl M_X6_passNumber w950 ⟨by decide, by decide⟩ rfl rfl (Nat.le_of_ble_eq_true rfl) dX6_readWay_8 rfl (kX6_passNumber hq2) ?_
  refine V_istore_n C (L' := [(0, .ref (ad 104)), (1, .ref (ad p1)), (2, .int q2.1)]) dX6_readWay_11 rfl rfl (by decide) hnL [1, 2, 0] rfl ?_
  refine V_iload_n C 2 dX6_readWay_12 rfl rfl rfl ?_
  refine V_if_ge C dX6_readWay_13 (tgt := 18) rfl rfl (fun c13 => ?_) (fun c13 => ?_)
  · replace hf := ipos c13 hf
    refine V_aload_n C 0 dX6_readWay_18 rfl rfl rfl ?_
    refine V_iload_n C 2 dX6_readWay_19 rfl rfl rfl ?_
    obtain ⟨q3, hq3, hf⟩ := obd hf
    refine V_cVi C (b := 104) (As := [.int q2.1]) (st := []) cf6 rfl M_X6_passOtherPlace w962 ⟨by decide, by decide⟩ rfl rfl (Nat.le_of_ble_eq_true rfl) dX6_readWay_20 rfl (kX6_passOtherPlace hq3) ?_
    refine V_istore_n C (L' := [(0, .ref (ad 104)), (1, .ref (ad p1)), (2, .int q2.1), (3, .int q3.1)]) dX6_readWay_23 rfl rfl (by decide) hnL [1, 2, 3, 0] rfl ?_
    refine V_iload_n C 3 dX6_readWay_24 rfl rfl rfl ?_
    refine V_if_lt C dX6_readWay_25 (tgt := 37) rfl rfl (fun c12 => ?_) (fun c12 => ?_)
    · replace hf := ipos c12 hf
      refine V_iconst C dX6_readWay_37 rfl (v := 0) rfl ?_
      obtain rfl := Option.some.inj hf
      exact K _ _ _ dX6_readWay_38 rfl (by decide)
    · replace hf := ineg c12 hf
      refine V_aload_n C 0 dX6_readWay_28 rfl rfl rfl ?_
      refine V_ldcS C (i := 10) (tx := "yards") dX6_readWay_29 rfl (by decide +kernel) ?_
      obtain ⟨q4, hq4, hf⟩ := obd hf
      refine V_cVi C (b := 104) (As := [.ref (ad (1000 + 10))]) (st := []) cf6 rfl M_X6_pass w946 ⟨by decide, by decide⟩ rfl rfl (Nat.le_of_ble_eq_true rfl) dX6_readWay_31 rfl (kX6_pass (by decide) hq4) ?_
      refine V_if_ne C dX6_readWay_34 (tgt := 39) rfl rfl (fun c11 => ?_) (fun c11 => ?_)
      · replace hf := ineg c11 hf
        refine V_aload_n C 0 dX6_readWay_39 rfl rfl rfl ?_
        refine V_iconst C dX6_readWay_40 rfl (v := 0) rfl ?_
        refine V_bipush C dX6_readWay_41 rfl (v := 99) rfl ?_
        obtain ⟨q5, hq5, hf⟩ := obd hf
        refine V_cVi C (b := 104) (As := [.int 0, .int 99]) (st := []) cf6 rfl M_X6_passNumber w950 ⟨by decide, by decide⟩ rfl rfl (Nat.le_of_ble_eq_true rfl) dX6_readWay_43 rfl (kX6_passNumber hq5) ?_
        refine V_istore C (L' := [(0, .ref (ad 104)), (1, .ref (ad p1)), (2, .int q2.1), (3, .int q3.1), (4, .int q5.1)]) dX6_readWay_46 rfl (by decide) hnL [1, 2, 3, 4, 0] rfl ?_
        refine V_iload C 4 dX6_readWay_48 rfl rfl ?_
        refine V_if_ge C dX6_readWay_50 (tgt := 55) rfl rfl (fun c10 => ?_) (fun c10 => ?_)
        · replace hf := ipos c10 hf
          refine V_aload_n C 1 dX6_readWay_55 rfl rfl rfl ?_
          refine V_getR C cf2 (sF h1) 3 rfl (by decide) w255 rfl dX6_readWay_56 rfl ?_
          refine V_iload_n C 2 dX6_readWay_59 rfl rfl rfl ?_
          refine V_iload_n C 3 dX6_readWay_60 rfl rfl rfl ?_
          refine V_iload C 4 dX6_readWay_61 rfl rfl ?_
          refine V_aload_n C 0 dX6_readWay_63 rfl rfl rfl ?_
          refine V_ldcS C (i := 11) (tx := "river") dX6_readWay_64 rfl (by decide +kernel) ?_
          obtain ⟨q6, hq6, hf⟩ := obd hf
          refine V_cVi C (b := 104) (As := [.ref (ad (1000 + 11))]) (st := [.int q5.1, .int q3.1, .int q2.1, .ref (ad (p1 + 4))]) cf6 rfl M_X6_pass w946 ⟨by decide, by decide⟩ rfl rfl (Nat.le_of_ble_eq_true rfl) dX6_readWay_66 rfl (kX6_pass (by decide) hq6) ?_
          refine V_if_eq C dX6_readWay_69 (tgt := 76) rfl rfl (fun c9 => ?_) (fun c9 => ?_)
          · replace hf := ipos c9 hf
            refine V_iconst C dX6_readWay_76 rfl (v := 0) rfl ?_
            obtain ⟨q7, hq7, hf⟩ := obd hf
            refine V_cVv C (b := (p1 + 4)) (As := [.int q2.1, .int q3.1, .int q5.1, .int 0]) (st := []) cf8 (sW (wF h1)) M_X8_lay w968 ⟨by decide, by decide⟩ rfl rfl (Nat.le_of_ble_eq_true rfl) dX6_readWay_77 rfl (kX8_lay (wF h1) hq7) ?_
            refine V_iconst C dX6_readWay_80 rfl (v := 1) rfl ?_
            obtain rfl := Option.some.inj hf
            exact K _ _ _ dX6_readWay_81 rfl (by decide)
          · replace hf := ineg c9 hf
            refine V_iconst C dX6_readWay_72 rfl (v := 1) rfl ?_
            refine V_goto C dX6_readWay_73 (tgt := 77) rfl ?_
            obtain ⟨q8, hq8, hf⟩ := obd hf
            refine V_cVv C (b := (p1 + 4)) (As := [.int q2.1, .int q3.1, .int q5.1, .int 1]) (st := []) cf8 (sW (wF h1)) M_X8_lay w968 ⟨by decide, by decide⟩ rfl rfl (Nat.le_of_ble_eq_true rfl) dX6_readWay_77 rfl (kX8_lay (wF h1) hq8) ?_
            refine V_iconst C dX6_readWay_80 rfl (v := 1) rfl ?_
            obtain rfl := Option.some.inj hf
            exact K _ _ _ dX6_readWay_81 rfl (by decide)
        · replace hf := ineg c10 hf
          refine V_iconst C dX6_readWay_53 rfl (v := 0) rfl ?_
          obtain rfl := Option.some.inj hf
          exact K _ _ _ dX6_readWay_54 rfl (by decide)
      · replace hf := ipos c11 hf
        refine V_iconst C dX6_readWay_37 rfl (v := 0) rfl ?_
        obtain rfl := Option.some.inj hf
        exact K _ _ _ dX6_readWay_38 rfl (by decide)
  · replace hf := ineg c13 hf
    refine V_iconst C dX6_readWay_16 rfl (v := 0) rfl ?_
    obtain rfl := Option.some.inj hf
    exact K _ _ _ dX6_readWay_17 rfl (by decide)
set_option maxHeartbeats 4000000 in
set_option maxRecDepth 100000 in
theorem kX6_readErrand {ad : Nat → Nat} {G : Gh} {p1 : Nat} (h1 : isF p1) {u : Mem} {q : Int32 × Mem} (hf : FX6_readErrand p1 u = some q) : Ct shs ad G yX6_readErrand cX6_readErrand 5 (some .boolean) 6 129 [.ref (ad 104), .ref (ad p1)] u (some (.int q.1)) q.2 := by
  refine Ct_ofI (by decide) (Nat.le_of_ble_eq_true rfl) (fun X C hnL K => ?_)
  have C : Cx ad G X cX6_readErrand "CarryFair$Tape" 6 129 := C
  unfold FX6_readErrand at hf
  refine V_aload_n C 1 dX6_readErrand_0 rfl rfl rfl ?_
  refine V_getI C cf2 (sF h1) 6 rfl (by decide) w264 rfl dX6_readErrand_1 rfl ?_
  refine V_bipush C dX6_readErrand_4 rfl (v := 8) rfl ?_
  refine V_icmp_lt C dX6_readErrand_6 (tgt := 11) rfl rfl (fun c13 => ?_) (fun c13 => ?_)
  · replace hf := ipos c13 hf
    refine V_aload_n C 0 dX6_readErrand_11 rfl rfl rfl ?_
    obtain ⟨q1, hq1, hf⟩ := obd hf
    refine V_cVv C (b := 104) (As := []) (st := []) cf6 rfl M_X6_goOn w866 ⟨by decide, by decide⟩ rfl rfl (Nat.le_of_ble_eq_true rfl) dX6_readErrand_12 rfl (kX6_goOn hq1) ?_
    refine V_aload_n C 0 dX6_readErrand_15 rfl rfl rfl ?_
    refine V_iconst C dX6_readErrand_16 rfl (v := 1) rfl ?_
    refine V_bipush C dX6_readErrand_17 rfl (v := 60) rfl ?_
    obtain ⟨q2, hq2, hf⟩ := obd hf
    refine V_cVi C (b := 104) (As := [.int 1, .int 60]) (st := []) cf6 rfl M_X6_passNumber w950 ⟨by decide, by decide⟩ rfl rfl (Nat.le_of_ble_eq_true rfl) dX6_readErrand_19 rfl (kX6_passNumber hq2) ?_
    refine V_istore_n C (L' := [(0, .ref (ad 104)), (1, .ref (ad p1)), (2, .int q2.1)]) dX6_readErrand_22 rfl rfl (by decide) hnL [1, 2, 0] rfl ?_
    refine V_iload_n C 2 dX6_readErrand_23 rfl rfl rfl ?_
    refine V_if_lt C dX6_readErrand_24 (tgt := 36) rfl rfl (fun c12 => ?_) (fun c12 => ?_)
    · replace hf := ipos c12 hf
      refine V_iconst C dX6_readErrand_36 rfl (v := 0) rfl ?_
      obtain rfl := Option.some.inj hf
      exact K _ _ _ dX6_readErrand_37 rfl (by decide)
    · replace hf := ineg c12 hf
      refine V_aload_n C 0 dX6_readErrand_27 rfl rfl rfl ?_
      refine V_ldcS C (i := 13) (tx := "from") dX6_readErrand_28 rfl (by decide +kernel) ?_
      obtain ⟨q3, hq3, hf⟩ := obd hf
      refine V_cVi C (b := 104) (As := [.ref (ad (1000 + 13))]) (st := []) cf6 rfl M_X6_pass w946 ⟨by decide, by decide⟩ rfl rfl (Nat.le_of_ble_eq_true rfl) dX6_readErrand_30 rfl (kX6_pass (by decide) hq3) ?_
      refine V_if_ne C dX6_readErrand_33 (tgt := 38) rfl rfl (fun c11 => ?_) (fun c11 => ?_)
      · replace hf := ineg c11 hf
        refine V_aload_n C 0 dX6_readErrand_38 rfl rfl rfl ?_
        refine V_iconst C dX6_readErrand_39 rfl (v := 0) rfl ?_
        refine V_bipush C dX6_readErrand_40 rfl (v := 6) rfl ?_
        obtain ⟨q4, hq4, hf⟩ := obd hf
        refine V_cVi C (b := 104) (As := [.int 0, .int 6]) (st := []) cf6 rfl M_X6_passNumber w950 ⟨by decide, by decide⟩ rfl rfl (Nat.le_of_ble_eq_true rfl) dX6_readErrand_42 rfl (kX6_passNumber hq4) ?_
        refine V_istore_n C (L' := [(0, .ref (ad 104)), (1, .ref (ad p1)), (2, .int q2.1), (3, .int q4.1)]) dX6_readErrand_45 rfl rfl (by decide) hnL [1, 2, 3, 0] rfl ?_
        refine V_iload_n C 3 dX6_readErrand_46 rfl rfl rfl ?_
        refine V_if_lt C dX6_readErrand_47 (tgt := 59) rfl rfl (fun c10 => ?_) (fun c10 => ?_)
        · replace hf := ipos c10 hf
          refine V_iconst C dX6_readErrand_59 rfl (v := 0) rfl ?_
          obtain rfl := Option.some.inj hf
          exact K _ _ _ dX6_readErrand_60 rfl (by decide)
        · replace hf := ineg c10 hf
          refine V_aload_n C 0 dX6_readErrand_50 rfl rfl rfl ?_
          refine V_ldcS C (i := 14) (tx := "to") dX6_readErrand_51 rfl (by decide +kernel) ?_
          obtain ⟨q5, hq5, hf⟩ := obd hf
          refine V_cVi C (b := 104) (As := [.ref (ad (1000 + 14))]) (st := []) cf6 rfl M_X6_pass w946 ⟨by decide, by decide⟩ rfl rfl (Nat.le_of_ble_eq_true rfl) dX6_readErrand_53 rfl (kX6_pass (by decide) hq5) ?_
          refine V_if_ne C dX6_readErrand_56 (tgt := 61) rfl rfl (fun c9 => ?_) (fun c9 => ?_)
          · replace hf := ineg c9 hf
            refine V_aload_n C 0 dX6_readErrand_61 rfl rfl rfl ?_
            refine V_iload_n C 3 dX6_readErrand_62 rfl rfl rfl ?_
            obtain ⟨q6, hq6, hf⟩ := obd hf
            refine V_cVi C (b := 104) (As := [.int q4.1]) (st := []) cf6 rfl M_X6_passOtherPlace w962 ⟨by decide, by decide⟩ rfl rfl (Nat.le_of_ble_eq_true rfl) dX6_readErrand_63 rfl (kX6_passOtherPlace hq6) ?_
            refine V_istore C (L' := [(0, .ref (ad 104)), (1, .ref (ad p1)), (2, .int q2.1), (3, .int q4.1), (4, .int q6.1)]) dX6_readErrand_66 rfl (by decide) hnL [1, 2, 3, 4, 0] rfl ?_
            refine V_iload C 4 dX6_readErrand_68 rfl rfl ?_
            refine V_if_ge C dX6_readErrand_70 (tgt := 75) rfl rfl (fun c8 => ?_) (fun c8 => ?_)
            · replace hf := ipos c8 hf
              refine V_aload_n C 1 dX6_readErrand_75 rfl rfl rfl ?_
              refine V_iload_n C 2 dX6_readErrand_76 rfl rfl rfl ?_
              refine V_iload_n C 3 dX6_readErrand_77 rfl rfl rfl ?_
              refine V_iload C 4 dX6_readErrand_78 rfl rfl ?_
              obtain ⟨q7, hq7, hf⟩ := obd hf
              refine V_cVi C (b := p1) (As := [.int q2.1, .int q4.1, .int q6.1]) (st := []) cf2 (sF h1) M_X2_addErrand w976 ⟨by decide, by decide⟩ rfl rfl (Nat.le_of_ble_eq_true rfl) dX6_readErrand_80 rfl (kX2_addErrand h1 hq7) ?_
              refine V_pop C dX6_readErrand_83 rfl rfl ?_
              refine V_iconst C dX6_readErrand_84 rfl (v := 1) rfl ?_
              obtain rfl := Option.some.inj hf
              exact K _ _ _ dX6_readErrand_85 rfl (by decide)
            · replace hf := ineg c8 hf
              refine V_iconst C dX6_readErrand_73 rfl (v := 0) rfl ?_
              obtain rfl := Option.some.inj hf
              exact K _ _ _ dX6_readErrand_74 rfl (by decide)
          · replace hf := ipos c9 hf
            refine V_iconst C dX6_readErrand_59 rfl (v := 0) rfl ?_
            obtain rfl := Option.some.inj hf
            exact K _ _ _ dX6_readErrand_60 rfl (by decide)
      · replace hf := ipos c11 hf
        refine V_iconst C dX6_readErrand_36 rfl (v := 0) rfl ?_
        obtain rfl := Option.some.inj hf
        exact K _ _ _ dX6_readErrand_37 rfl (by decide)
  · replace hf := ineg c13 hf
    refine V_iconst C dX6_readErrand_9 rfl (v := 0) rfl ?_
    obtain rfl := Option.some.inj hf
    exact K _ _ _ dX6_readErrand_10 rfl (by decide)
set_option maxHeartbeats 4000000 in
set_option maxRecDepth 100000 in
theorem kX6_readWare {ad : Nat → Nat} {G : Gh} {p1 : Nat} (h1 : isF p1) {u : Mem} {q : Int32 × Mem} (hf : FX6_readWare p1 u = some q) : Ct shs ad G yX6_readWare cX6_readWare 3 (some .boolean) 3 64 [.ref (ad 104), .ref (ad p1)] u (some (.int q.1)) q.2 := by
  refine Ct_ofI (by decide) (Nat.le_of_ble_eq_true rfl) (fun X C hnL K => ?_)
  have C : Cx ad G X cX6_readWare "CarryFair$Tape" 3 64 := C
  unfold FX6_readWare at hf
  refine V_aload_n C 1 dX6_readWare_0 rfl rfl rfl ?_
  refine V_getI C cf2 (sF h1) 7 rfl (by decide) w267 rfl dX6_readWare_1 rfl ?_
  refine V_bipush C dX6_readWare_4 rfl (v := 6) rfl ?_
  refine V_icmp_lt C dX6_readWare_6 (tgt := 11) rfl rfl (fun c5 => ?_) (fun c5 => ?_)
  · replace hf := ipos c5 hf
    refine V_aload_n C 0 dX6_readWare_11 rfl rfl rfl ?_
    obtain ⟨q1, hq1, hf⟩ := obd hf
    refine V_cVv C (b := 104) (As := []) (st := []) cf6 rfl M_X6_goOn w866 ⟨by decide, by decide⟩ rfl rfl (Nat.le_of_ble_eq_true rfl) dX6_readWare_12 rfl (kX6_goOn hq1) ?_
    refine V_aload_n C 0 dX6_readWare_15 rfl rfl rfl ?_
    refine V_iconst C dX6_readWare_16 rfl (v := 1) rfl ?_
    refine V_sipush C dX6_readWare_17 rfl (v := 9999) rfl ?_
    obtain ⟨q2, hq2, hf⟩ := obd hf
    refine V_cVi C (b := 104) (As := [.int 1, .int 9999]) (st := []) cf6 rfl M_X6_passNumber w950 ⟨by decide, by decide⟩ rfl rfl (Nat.le_of_ble_eq_true rfl) dX6_readWare_20 rfl (kX6_passNumber hq2) ?_
    refine V_istore_n C (L' := [(0, .ref (ad 104)), (1, .ref (ad p1)), (2, .int q2.1)]) dX6_readWare_23 rfl rfl (by decide) hnL [1, 2, 0] rfl ?_
    refine V_iload_n C 2 dX6_readWare_24 rfl rfl rfl ?_
    refine V_if_ge C dX6_readWare_25 (tgt := 30) rfl rfl (fun c4 => ?_) (fun c4 => ?_)
    · replace hf := ipos c4 hf
      refine V_aload_n C 1 dX6_readWare_30 rfl rfl rfl ?_
      refine V_iload_n C 2 dX6_readWare_31 rfl rfl rfl ?_
      obtain ⟨q3, hq3, hf⟩ := obd hf
      refine V_cVi C (b := p1) (As := [.int q2.1]) (st := []) cf2 (sF h1) M_X2_addWare w982 ⟨by decide, by decide⟩ rfl rfl (Nat.le_of_ble_eq_true rfl) dX6_readWare_32 rfl (kX2_addWare h1 hq3) ?_
      refine V_pop C dX6_readWare_35 rfl rfl ?_
      refine V_iconst C dX6_readWare_36 rfl (v := 1) rfl ?_
      obtain rfl := Option.some.inj hf
      exact K _ _ _ dX6_readWare_37 rfl (by decide)
    · replace hf := ineg c4 hf
      refine V_iconst C dX6_readWare_28 rfl (v := 0) rfl ?_
      obtain rfl := Option.some.inj hf
      exact K _ _ _ dX6_readWare_29 rfl (by decide)
  · replace hf := ineg c5 hf
    refine V_iconst C dX6_readWare_9 rfl (v := 0) rfl ?_
    obtain rfl := Option.some.inj hf
    exact K _ _ _ dX6_readWare_10 rfl (by decide)
set_option maxHeartbeats 4000000 in
set_option maxRecDepth 100000 in
theorem kX6_readItem {ad : Nat → Nat} {G : Gh} {p1 : Nat} (h1 : isF p1) {u : Mem} {q : Int32 × Mem} (hf : FX6_readItem p1 u = some q) : Ct shs ad G yX6_readItem cX6_readItem 3 (some .boolean) 7 153 [.ref (ad 104), .ref (ad p1)] u (some (.int q.1)) q.2 := by
  refine Ct_ofI (by decide) (Nat.le_of_ble_eq_true rfl) (fun X C hnL K => ?_)
  have C : Cx ad G X cX6_readItem "CarryFair$Tape" 7 153 := C
  unfold FX6_readItem at hf
  refine V_aload_n C 0 dX6_readItem_0 rfl rfl rfl ?_
  obtain ⟨q1, hq1, hf⟩ := obd hf
  refine V_cVi C (b := 104) (As := []) (st := []) cf6 rfl M_X6_kindTold w878 ⟨by decide, by decide⟩ rfl rfl (Nat.le_of_ble_eq_true rfl) dX6_readItem_1 rfl (kX6_kindTold hq1) ?_
  refine V_istore_n C (L' := [(0, .ref (ad 104)), (1, .ref (ad p1)), (2, .int q1)]) dX6_readItem_4 rfl rfl (by decide) hnL [1, 2, 0] rfl ?_
  refine V_iload_n C 2 dX6_readItem_5 rfl rfl rfl ?_
  refine V_if_lt C dX6_readItem_6 (tgt := 16) rfl rfl (fun c16 => ?_) (fun c16 => ?_)
  · replace hf := ipos c16 hf
    refine V_aload_n C 0 dX6_readItem_16 rfl rfl rfl ?_
    refine V_ldcS C (i := 9) (tx := "way") dX6_readItem_17 rfl (by decide +kernel) ?_
    obtain ⟨q2, hq2, hf⟩ := obd hf
    refine V_cVi C (b := 104) (As := [.ref (ad (1000 + 9))]) (st := []) cf6 rfl M_X6_isWord w883 ⟨by decide, by decide⟩ rfl rfl (Nat.le_of_ble_eq_true rfl) dX6_readItem_19 rfl (kX6_isWord (by decide) hq2) ?_
    refine V_if_eq C dX6_readItem_22 (tgt := 31) rfl rfl (fun c13 => ?_) (fun c13 => ?_)
    · replace hf := ipos c13 hf
      refine V_aload_n C 0 dX6_readItem_31 rfl rfl rfl ?_
      refine V_ldcS C (i := 12) (tx := "errand") dX6_readItem_32 rfl (by decide +kernel) ?_
      obtain ⟨q3, hq3, hf⟩ := obd hf
      refine V_cVi C (b := 104) (As := [.ref (ad (1000 + 12))]) (st := []) cf6 rfl M_X6_isWord w883 ⟨by decide, by decide⟩ rfl rfl (Nat.le_of_ble_eq_true rfl) dX6_readItem_34 rfl (kX6_isWord (by decide) hq3) ?_
      refine V_if_eq C dX6_readItem_37 (tgt := 46) rfl rfl (fun c10 => ?_) (fun c10 => ?_)
      · replace hf := ipos c10 hf
        refine V_aload_n C 0 dX6_readItem_46 rfl rfl rfl ?_
        refine V_ldcS C (i := 15) (tx := "ware") dX6_readItem_47 rfl (by decide +kernel) ?_
        obtain ⟨q4, hq4, hf⟩ := obd hf
        refine V_cVi C (b := 104) (As := [.ref (ad (1000 + 15))]) (st := []) cf6 rfl M_X6_isWord w883 ⟨by decide, by decide⟩ rfl rfl (Nat.le_of_ble_eq_true rfl) dX6_readItem_49 rfl (kX6_isWord (by decide) hq4) ?_
        refine V_if_eq C dX6_readItem_52 (tgt := 67) rfl rfl (fun c7 => ?_) (fun c7 => ?_)
        · replace hf := ipos c7 hf
          refine V_iconst C dX6_readItem_67 rfl (v := 0) rfl ?_
          obtain rfl := Option.some.inj hf
          exact K _ _ _ dX6_readItem_68 rfl (by decide)
        · replace hf := ineg c7 hf
          refine V_aload_n C 0 dX6_readItem_55 rfl rfl rfl ?_
          refine V_aload_n C 1 dX6_readItem_56 rfl rfl rfl ?_
          obtain ⟨q5, hq5, hf⟩ := obd hf
          refine V_cVi C (b := 104) (As := [.ref (ad p1)]) (st := []) cf6 rfl M_X6_readWare w978 ⟨by decide, by decide⟩ rfl rfl (Nat.le_of_ble_eq_true rfl) dX6_readItem_57 rfl (kX6_readWare h1 hq5) ?_
          refine V_if_eq C dX6_readItem_60 (tgt := 67) rfl rfl (fun c6 => ?_) (fun c6 => ?_)
          · replace hf := ipos c6 hf
            refine V_iconst C dX6_readItem_67 rfl (v := 0) rfl ?_
            obtain rfl := Option.some.inj hf
            exact K _ _ _ dX6_readItem_68 rfl (by decide)
          · replace hf := ineg c6 hf
            refine V_iconst C dX6_readItem_63 rfl (v := 1) rfl ?_
            refine V_goto C dX6_readItem_64 (tgt := 68) rfl ?_
            obtain rfl := Option.some.inj hf
            exact K _ _ _ dX6_readItem_68 rfl (by decide)
      · replace hf := ineg c10 hf
        refine V_aload_n C 0 dX6_readItem_40 rfl rfl rfl ?_
        refine V_aload_n C 1 dX6_readItem_41 rfl rfl rfl ?_
        obtain ⟨q8, hq8, hf⟩ := obd hf
        refine V_cVi C (b := 104) (As := [.ref (ad p1)]) (st := []) cf6 rfl M_X6_readErrand w970 ⟨by decide, by decide⟩ rfl rfl (Nat.le_of_ble_eq_true rfl) dX6_readItem_42 rfl (kX6_readErrand h1 hq8) ?_
        obtain ⟨g9, hf⟩ := gd hf
        obtain rfl := Option.some.inj hf
        exact K _ _ _ dX6_readItem_45 rfl (nzb g9)
    · replace hf := ineg c13 hf
      refine V_aload_n C 0 dX6_readItem_25 rfl rfl rfl ?_
      refine V_aload_n C 1 dX6_readItem_26 rfl rfl rfl ?_
      obtain ⟨q11, hq11, hf⟩ := obd hf
      refine V_cVi C (b := 104) (As := [.ref (ad p1)]) (st := []) cf6 rfl M_X6_readWay w958 ⟨by decide, by decide⟩ rfl rfl (Nat.le_of_ble_eq_true rfl) dX6_readItem_27 rfl (kX6_readWay h1 hq11) ?_
      obtain ⟨g12, hf⟩ := gd hf
      obtain rfl := Option.some.inj hf
      exact K _ _ _ dX6_readItem_30 rfl (nzb g12)
  · replace hf := ineg c16 hf
    refine V_aload_n C 0 dX6_readItem_9 rfl rfl rfl ?_
    refine V_aload_n C 1 dX6_readItem_10 rfl rfl rfl ?_
    refine V_iload_n C 2 dX6_readItem_11 rfl rfl rfl ?_
    obtain ⟨q14, hq14, hf⟩ := obd hf
    refine V_cVi C (b := 104) (As := [.ref (ad p1), .int q1]) (st := []) cf6 rfl M_X6_readCarrier w941 ⟨by decide, by decide⟩ rfl rfl (Nat.le_of_ble_eq_true rfl) dX6_readItem_12 rfl (kX6_readCarrier h1 hq14) ?_
    obtain ⟨g15, hf⟩ := gd hf
    obtain rfl := Option.some.inj hf
    exact K _ _ _ dX6_readItem_15 rfl (nzb g15)
set_option maxHeartbeats 4000000 in
set_option maxRecDepth 100000 in
theorem kX8_stepAt {S : List Shp} {ad : Nat → Nat} {G : Gh} {p0 : Nat} (h0 : isW S p0) {p1 : Int32} {p2 : Int32} {u : Mem} {q : Int32} (hf : FX8_stepAt p0 p1 p2 u = some q) : Ct S ad G yX8_stepAt cX8_stepAt 3 (some .int) 2 43 [.ref (ad p0), .int p1, .int p2] u (some (.int q)) u := by
  refine Ct_ofI (by decide) (Nat.le_of_ble_eq_true rfl) (fun X C hnL K => ?_)
  have C : Cx ad G X cX8_stepAt "CarryFair$Ways" 2 43 := C
  unfold FX8_stepAt at hf
  refine V_aload_n C 0 dX8_stepAt_0 rfl rfl rfl ?_
  refine V_getR C cf8 (sW h0) 0 rfl (by decide) w153 rfl dX8_stepAt_1 rfl ?_
  refine V_iload_n C 2 dX8_stepAt_4 rfl rfl rfl ?_
  obtain ⟨g1, hf⟩ := gd hf
  refine V_ildJ C (sWy h0) g1 rfl dX8_stepAt_5 rfl ?_
  refine V_if_ne C dX8_stepAt_6 (tgt := 14) rfl rfl (fun c4 => ?_) (fun c4 => ?_)
  · replace hf := ineg c4 hf
    refine V_iload_n C 1 dX8_stepAt_14 rfl rfl rfl ?_
    refine V_aload_n C 0 dX8_stepAt_15 rfl rfl rfl ?_
    refine V_getR C cf8 (sW h0) 0 rfl (by decide) w153 rfl dX8_stepAt_16 rfl ?_
    refine V_iload_n C 2 dX8_stepAt_19 rfl rfl rfl ?_
    obtain ⟨g2, hf⟩ := gd hf
    refine V_ildJ C (sWy h0) g2 rfl dX8_stepAt_20 rfl ?_
    refine V_aload_n C 0 dX8_stepAt_21 rfl rfl rfl ?_
    refine V_getR C cf8 (sW h0) 1 rfl (by decide) w154 rfl dX8_stepAt_22 rfl ?_
    refine V_iload_n C 2 dX8_stepAt_25 rfl rfl rfl ?_
    obtain ⟨g3, hf⟩ := gd hf
    refine V_ildJ C (sWr h0) g3 rfl dX8_stepAt_26 rfl ?_
    refine V_cSi C (As := [.int p1, .int (u (p0 + 1) (p2).toNatClampNeg), .int (u (p0 + 2) (p2).toNatClampNeg)]) (st := []) M_X3_yardsAt w147 ⟨by decide, by decide⟩ rfl rfl (Nat.le_of_ble_eq_true rfl) dX8_stepAt_27 rfl (kX3_yardsAt rfl) ?_
    obtain rfl := Option.some.inj hf
    exact K _ _ _ dX8_stepAt_30 rfl rfl
  · replace hf := ipos c4 hf
    refine V_ldc C dX8_stepAt_9 rfl w146 ?_
    refine V_goto C dX8_stepAt_11 (tgt := 30) rfl ?_
    obtain rfl := Option.some.inj hf
    exact K _ _ _ dX8_stepAt_30 rfl rfl
set_option maxHeartbeats 4000000 in
set_option maxRecDepth 100000 in
theorem kX8_measureFor {S : List Shp} {ad : Nat → Nat} {G : Gh} {p0 : Nat} (h0 : isW S p0) {p1 : Int32} {u : Mem} {q : Mem} (hf : FX8_measureFor p0 p1 u = some q) : Ct S ad G yX8_measureFor cX8_measureFor 8 none 3 65 [.ref (ad p0), .int p1] u none q := by
  refine Ct_ofV (by decide) (Nat.le_of_ble_eq_true rfl) (fun X C hnL K => ?_)
  have C : Cx ad G X cX8_measureFor "CarryFair$Ways" 3 65 := C
  unfold FX8_measureFor at hf
  have Lp9 : ∀ (v2 : Nat) (hv2 : S[v2]? = some (.inr ((0, 49), none))) (x0 : (Int32 × Mem)) (q9 : (Int32 × Mem)), lp (BX8_measureFor_9 p0 p1 v2) FU x0 = some q9 → V S ad G X 45 [(0, .ref (ad p0)), (1, .int p1), (2, .ref (ad v2)), (3, .int q9.1)] [] q9.2 → V S ad G X 9 [(0, .ref (ad p0)), (1, .int p1), (2, .ref (ad v2)), (3, .int x0.1)] [] x0.2 := by
    intro v2 hv2 x0 q9 hq hx9_0
    refine lp_V (BX8_measureFor_9 p0 p1 v2) (fun x9 => V S ad G X 9 [(0, .ref (ad p0)), (1, .int p1), (2, .ref (ad v2)), (3, .int x9.1)] [] x9.2) q9 (fun rec9 ih9 x9 hf => ?_) FU x0 hq
    unfold BX8_measureFor_9 at hf
    refine V_iload_n C 3 dX8_measureFor_9 rfl rfl rfl ?_
    refine V_bipush C dX8_measureFor_10 rfl (v := 49) rfl ?_
    refine V_icmp_ge C dX8_measureFor_12 (tgt := 45) rfl rfl (fun c6 => ?_) (fun c6 => ?_)
    · replace hf := ipos c6 hf
      obtain rfl := Option.some.inj hf
      exact hx9_0
    · replace hf := ineg c6 hf
      refine V_aload_n C 2 dX8_measureFor_15 rfl rfl rfl ?_
      refine V_iload_n C 3 dX8_measureFor_16 rfl rfl rfl ?_
      refine V_iload_n C 3 dX8_measureFor_17 rfl rfl rfl ?_
      refine V_bipush C dX8_measureFor_18 rfl (v := 7) rfl ?_
      refine V_idiv C dX8_measureFor_20 rfl (by decide) ?_
      refine V_iload_n C 3 dX8_measureFor_21 rfl rfl rfl ?_
      refine V_bipush C dX8_measureFor_22 rfl (v := 7) rfl ?_
      refine V_jrem C dX8_measureFor_24 rfl (by decide) ?_
      refine V_icmp_ne C dX8_measureFor_25 (tgt := 32) rfl rfl (fun c5 => ?_) (fun c5 => ?_)
      · replace hf := ineg c5 hf
        refine V_aload_n C 0 dX8_measureFor_32 rfl rfl rfl ?_
        refine V_iload_n C 1 dX8_measureFor_33 rfl rfl rfl ?_
        refine V_iload_n C 3 dX8_measureFor_34 rfl rfl rfl ?_
        obtain ⟨q2, hq2, hf⟩ := obd hf
        refine V_cVi C (b := p0) (As := [.int p1, .int x9.1]) (st := [.int x9.1, .ref (ad v2)]) cf8 (sW h0) M_X8_stepAt w142 ⟨by decide, by decide⟩ rfl rfl (Nat.le_of_ble_eq_true rfl) dX8_measureFor_35 rfl (kX8_stepAt h0 hq2) ?_
        obtain ⟨g3, hf⟩ := gd hf
        refine V_istJ C hv2 g3 rfl dX8_measureFor_38 rfl ?_
        refine V_iinc C (v := (x9.1 + 1)) (L' := [(0, .ref (ad p0)), (1, .int p1), (2, .ref (ad v2)), (3, .int (x9.1 + 1))]) 3 dX8_measureFor_39 rfl rfl rfl (by decide) hnL [1, 2, 3, 0] rfl ?_
        refine V_goto C dX8_measureFor_42 (tgt := 9) rfl ?_
        exact ih9 ((x9.1 + 1), (mst x9.2 v2 (x9.1).toNatClampNeg q2)) hf
      · replace hf := ipos c5 hf
        refine V_iconst C dX8_measureFor_28 rfl (v := 0) rfl ?_
        refine V_goto C dX8_measureFor_29 (tgt := 38) rfl ?_
        obtain ⟨g4, hf⟩ := gd hf
        refine V_istJ C hv2 g4 rfl dX8_measureFor_38 rfl ?_
        refine V_iinc C (v := (x9.1 + 1)) (L' := [(0, .ref (ad p0)), (1, .int p1), (2, .ref (ad v2)), (3, .int (x9.1 + 1))]) 3 dX8_measureFor_39 rfl rfl rfl (by decide) hnL [1, 2, 3, 0] rfl ?_
        refine V_goto C dX8_measureFor_42 (tgt := 9) rfl ?_
        exact ih9 ((x9.1 + 1), (mst x9.2 v2 (x9.1).toNatClampNeg 0)) hf
  have Lp77 : ∀ (v2 : Nat) (v3 : Int32) (v4 : Int32) (v5 : Int32) (hv2 : S[v2]? = some (.inr ((0, 49), none))) (x0 : (Int32 × Mem)) (q77 : (Int32 × Mem)), lp (BX8_measureFor_77 p0 p1 v2 v3 v4 v5) FU x0 = some q77 → V S ad G X 138 [(0, .ref (ad p0)), (1, .int p1), (2, .ref (ad v2)), (3, .int v3), (4, .int v4), (5, .int v5), (6, .int q77.1)] [] q77.2 → V S ad G X 77 [(0, .ref (ad p0)), (1, .int p1), (2, .ref (ad v2)), (3, .int v3), (4, .int v4), (5, .int v5), (6, .int x0.1)] [] x0.2 := by
    intro v2 v3 v4 v5 hv2 x0 q77 hq hx77_0
    refine lp_V (BX8_measureFor_77 p0 p1 v2 v3 v4 v5) (fun x77 => V S ad G X 77 [(0, .ref (ad p0)), (1, .int p1), (2, .ref (ad v2)), (3, .int v3), (4, .int v4), (5, .int v5), (6, .int x77.1)] [] x77.2) q77 (fun rec77 ih77 x77 hf => ?_) FU x0 hq
    unfold BX8_measureFor_77 at hf
    refine V_iload C 6 dX8_measureFor_77 rfl rfl ?_
    refine V_bipush C dX8_measureFor_79 rfl (v := 7) rfl ?_
    refine V_icmp_ge C dX8_measureFor_81 (tgt := 138) rfl rfl (fun c14 => ?_) (fun c14 => ?_)
    · replace hf := ipos c14 hf
      obtain rfl := Option.some.inj hf
      exact hx77_0
    · replace hf := ineg c14 hf
      refine V_iload C 5 dX8_measureFor_84 rfl rfl ?_
      refine V_ldc C dX8_measureFor_86 rfl w146 ?_
      refine V_icmp_ge C dX8_measureFor_88 (tgt := 138) rfl rfl (fun c13 => ?_) (fun c13 => ?_)
      · replace hf := ipos c13 hf
        obtain rfl := Option.some.inj hf
        exact hx77_0
      · replace hf := ineg c13 hf
        refine V_iload C 5 dX8_measureFor_91 rfl rfl ?_
        refine V_aload_n C 2 dX8_measureFor_93 rfl rfl rfl ?_
        refine V_iload_n C 3 dX8_measureFor_94 rfl rfl rfl ?_
        refine V_bipush C dX8_measureFor_95 rfl (v := 7) rfl ?_
        refine V_imul C dX8_measureFor_97 rfl ?_
        refine V_iload C 6 dX8_measureFor_98 rfl rfl ?_
        refine V_iadd C dX8_measureFor_100 rfl ?_
        obtain ⟨g9, hf⟩ := gd hf
        refine V_ildJ C hv2 g9 rfl dX8_measureFor_101 rfl ?_
        refine V_iadd C dX8_measureFor_102 rfl ?_
        refine V_istore C (L' := [(0, .ref (ad p0)), (1, .int p1), (2, .ref (ad v2)), (3, .int v3), (4, .int v4), (5, .int v5), (6, .int x77.1), (7, .int (v5 + (x77.2 v2 ((v3 * 7) + x77.1).toNatClampNeg)))]) dX8_measureFor_103 rfl (by decide) hnL [1, 2, 3, 4, 5, 6, 7, 0] rfl ?_
        refine V_iload C 7 dX8_measureFor_105 rfl rfl ?_
        refine V_aload_n C 2 dX8_measureFor_107 rfl rfl rfl ?_
        refine V_iload C 4 dX8_measureFor_108 rfl rfl ?_
        refine V_bipush C dX8_measureFor_110 rfl (v := 7) rfl ?_
        refine V_imul C dX8_measureFor_112 rfl ?_
        refine V_iload C 6 dX8_measureFor_113 rfl rfl ?_
        refine V_iadd C dX8_measureFor_115 rfl ?_
        obtain ⟨g10, hf⟩ := gd hf
        refine V_ildJ C hv2 g10 rfl dX8_measureFor_116 rfl ?_
        refine V_icmp_ge C dX8_measureFor_117 (tgt := 132) rfl rfl (fun c12 => ?_) (fun c12 => ?_)
        · replace hf := ipos c12 hf
          refine V_iinc C (v := (x77.1 + 1)) (L' := [(0, .ref (ad p0)), (1, .int p1), (2, .ref (ad v2)), (3, .int v3), (4, .int v4), (5, .int v5), (6, .int (x77.1 + 1)), (7, .int (v5 + (x77.2 v2 ((v3 * 7) + x77.1).toNatClampNeg)))]) 6 dX8_measureFor_132 rfl rfl rfl (by decide) hnL [1, 2, 3, 4, 5, 6, 0, 7] rfl ?_
          refine V_goto C dX8_measureFor_135 (tgt := 77) rfl ?_
          refine V_sub (L' := [(0, .ref (ad p0)), (1, .int p1), (2, .ref (ad v2)), (3, .int v3), (4, .int v4), (5, .int v5), (6, .int (x77.1 + 1))]) [0, 1, 2, 3, 4, 5, 6] rfl ?_
          exact ih77 ((x77.1 + 1), x77.2) hf
        · replace hf := ineg c12 hf
          refine V_aload_n C 2 dX8_measureFor_120 rfl rfl rfl ?_
          refine V_iload C 4 dX8_measureFor_121 rfl rfl ?_
          refine V_bipush C dX8_measureFor_123 rfl (v := 7) rfl ?_
          refine V_imul C dX8_measureFor_125 rfl ?_
          refine V_iload C 6 dX8_measureFor_126 rfl rfl ?_
          refine V_iadd C dX8_measureFor_128 rfl ?_
          refine V_iload C 7 dX8_measureFor_129 rfl rfl ?_
          obtain ⟨g11, hf⟩ := gd hf
          refine V_istJ C hv2 g11 rfl dX8_measureFor_131 rfl ?_
          refine V_iinc C (v := (x77.1 + 1)) (L' := [(0, .ref (ad p0)), (1, .int p1), (2, .ref (ad v2)), (3, .int v3), (4, .int v4), (5, .int v5), (6, .int (x77.1 + 1)), (7, .int (v5 + (x77.2 v2 ((v3 * 7) + x77.1).toNatClampNeg)))]) 6 dX8_measureFor_132 rfl rfl rfl (by decide) hnL [1, 2, 3, 4, 5, 6, 0, 7] rfl ?_
          refine V_goto C dX8_measureFor_135 (tgt := 77) rfl ?_
          refine V_sub (L' := [(0, .ref (ad p0)), (1, .int p1), (2, .ref (ad v2)), (3, .int v3), (4, .int v4), (5, .int v5), (6, .int (x77.1 + 1))]) [0, 1, 2, 3, 4, 5, 6] rfl ?_
          exact ih77 ((x77.1 + 1), (mst x77.2 v2 (((v4 * 7) + x77.1).toNatClampNeg) (v5 + (x77.2 v2 ((v3 * 7) + x77.1).toNatClampNeg)))) hf
  have Lp56 : ∀ (v2 : Nat) (v3 : Int32) (hv2 : S[v2]? = some (.inr ((0, 49), none))) (x0 : (Int32 × Mem)) (q56 : (Int32 × Mem)), lp (BX8_measureFor_56 p0 p1 v2 v3) FU x0 = some q56 → V S ad G X 144 [(0, .ref (ad p0)), (1, .int p1), (2, .ref (ad v2)), (3, .int v3), (4, .int q56.1)] [] q56.2 → V S ad G X 56 [(0, .ref (ad p0)), (1, .int p1), (2, .ref (ad v2)), (3, .int v3), (4, .int x0.1)] [] x0.2 := by
    intro v2 v3 hv2 x0 q56 hq hx56_0
    refine lp_V (BX8_measureFor_56 p0 p1 v2 v3) (fun x56 => V S ad G X 56 [(0, .ref (ad p0)), (1, .int p1), (2, .ref (ad v2)), (3, .int v3), (4, .int x56.1)] [] x56.2) q56 (fun rec56 ih56 x56 hf => ?_) FU x0 hq
    unfold BX8_measureFor_56 at hf
    refine V_iload C 4 dX8_measureFor_56 rfl rfl ?_
    refine V_bipush C dX8_measureFor_58 rfl (v := 7) rfl ?_
    refine V_icmp_ge C dX8_measureFor_60 (tgt := 144) rfl rfl (fun c16 => ?_) (fun c16 => ?_)
    · replace hf := ipos c16 hf
      obtain rfl := Option.some.inj hf
      exact hx56_0
    · replace hf := ineg c16 hf
      refine V_aload_n C 2 dX8_measureFor_63 rfl rfl rfl ?_
      refine V_iload C 4 dX8_measureFor_64 rfl rfl ?_
      refine V_bipush C dX8_measureFor_66 rfl (v := 7) rfl ?_
      refine V_imul C dX8_measureFor_68 rfl ?_
      refine V_iload_n C 3 dX8_measureFor_69 rfl rfl rfl ?_
      refine V_iadd C dX8_measureFor_70 rfl ?_
      obtain ⟨g8, hf⟩ := gd hf
      refine V_ildJ C hv2 g8 rfl dX8_measureFor_71 rfl ?_
      refine V_istore C (L' := [(0, .ref (ad p0)), (1, .int p1), (2, .ref (ad v2)), (3, .int v3), (4, .int x56.1), (5, .int (x56.2 v2 ((x56.1 * 7) + v3).toNatClampNeg))]) dX8_measureFor_72 rfl (by decide) hnL [1, 2, 3, 4, 5, 0] rfl ?_
      refine V_iconst C dX8_measureFor_74 rfl (v := 0) rfl ?_
      refine V_istore C (L' := [(0, .ref (ad p0)), (1, .int p1), (2, .ref (ad v2)), (3, .int v3), (4, .int x56.1), (5, .int (x56.2 v2 ((x56.1 * 7) + v3).toNatClampNeg)), (6, .int 0)]) dX8_measureFor_75 rfl (by decide) hnL [1, 2, 3, 4, 5, 6, 0] rfl ?_
      obtain ⟨q77_15, hq77_15, hf⟩ := obd hf
      refine Lp77 v2 v3 x56.1 (x56.2 v2 ((x56.1 * 7) + v3).toNatClampNeg) hv2 (0, x56.2) q77_15 hq77_15 ?_
      refine V_iinc C (v := (x56.1 + 1)) (L' := [(0, .ref (ad p0)), (1, .int p1), (2, .ref (ad v2)), (3, .int v3), (4, .int (x56.1 + 1)), (5, .int (x56.2 v2 ((x56.1 * 7) + v3).toNatClampNeg)), (6, .int q77_15.1)]) 4 dX8_measureFor_138 rfl rfl rfl (by decide) hnL [1, 2, 3, 4, 0, 5, 6] rfl ?_
      refine V_goto C dX8_measureFor_141 (tgt := 56) rfl ?_
      refine V_sub (L' := [(0, .ref (ad p0)), (1, .int p1), (2, .ref (ad v2)), (3, .int v3), (4, .int (x56.1 + 1))]) [0, 1, 2, 3, 4] rfl ?_
      exact ih56 ((x56.1 + 1), q77_15.2) hf
  have Lp47 : ∀ (v2 : Nat) (hv2 : S[v2]? = some (.inr ((0, 49), none))) (x0 : (Int32 × Mem)) (q47 : (Int32 × Mem)), lp (BX8_measureFor_47 p0 p1 v2) FU x0 = some q47 → V S ad G X 150 [(0, .ref (ad p0)), (1, .int p1), (2, .ref (ad v2)), (3, .int q47.1)] [] q47.2 → V S ad G X 47 [(0, .ref (ad p0)), (1, .int p1), (2, .ref (ad v2)), (3, .int x0.1)] [] x0.2 := by
    intro v2 hv2 x0 q47 hq hx47_0
    refine lp_V (BX8_measureFor_47 p0 p1 v2) (fun x47 => V S ad G X 47 [(0, .ref (ad p0)), (1, .int p1), (2, .ref (ad v2)), (3, .int x47.1)] [] x47.2) q47 (fun rec47 ih47 x47 hf => ?_) FU x0 hq
    unfold BX8_measureFor_47 at hf
    refine V_iload_n C 3 dX8_measureFor_47 rfl rfl rfl ?_
    refine V_bipush C dX8_measureFor_48 rfl (v := 7) rfl ?_
    refine V_icmp_ge C dX8_measureFor_50 (tgt := 150) rfl rfl (fun c18 => ?_) (fun c18 => ?_)
    · replace hf := ipos c18 hf
      obtain rfl := Option.some.inj hf
      exact hx47_0
    · replace hf := ineg c18 hf
      refine V_iconst C dX8_measureFor_53 rfl (v := 0) rfl ?_
      refine V_istore C (L' := [(0, .ref (ad p0)), (1, .int p1), (2, .ref (ad v2)), (3, .int x47.1), (4, .int 0)]) dX8_measureFor_54 rfl (by decide) hnL [1, 2, 3, 4, 0] rfl ?_
      obtain ⟨q56_17, hq56_17, hf⟩ := obd hf
      refine Lp56 v2 x47.1 hv2 (0, x47.2) q56_17 hq56_17 ?_
      refine V_iinc C (v := (x47.1 + 1)) (L' := [(0, .ref (ad p0)), (1, .int p1), (2, .ref (ad v2)), (3, .int (x47.1 + 1)), (4, .int q56_17.1)]) 3 dX8_measureFor_144 rfl rfl rfl (by decide) hnL [1, 2, 3, 0, 4] rfl ?_
      refine V_goto C dX8_measureFor_147 (tgt := 47) rfl ?_
      refine V_sub (L' := [(0, .ref (ad p0)), (1, .int p1), (2, .ref (ad v2)), (3, .int (x47.1 + 1))]) [0, 1, 2, 3] rfl ?_
      exact ih47 ((x47.1 + 1), q56_17.2) hf
  refine V_aload_n C 0 dX8_measureFor_0 rfl rfl rfl ?_
  refine V_getR C cf8 (sW h0) 2 rfl (by decide) w155 rfl dX8_measureFor_1 rfl ?_
  refine V_iload_n C 1 dX8_measureFor_4 rfl rfl rfl ?_
  obtain ⟨g1, hf⟩ := gd hf
  refine V_aaldA C (sWt h0) (fun _ => rfl) g1 (sTag g1) dX8_measureFor_5 rfl ?_
  refine V_astore_n C (L' := [(0, .ref (ad p0)), (1, .int p1), (2, .ref (ad (p0 + 4 + (p1).toNatClampNeg)))]) dX8_measureFor_6 rfl rfl (by decide) hnL [1, 2, 0] rfl ?_
  refine V_iconst C dX8_measureFor_7 rfl (v := 0) rfl ?_
  refine V_istore_n C (L' := [(0, .ref (ad p0)), (1, .int p1), (2, .ref (ad (p0 + 4 + (p1).toNatClampNeg))), (3, .int 0)]) dX8_measureFor_8 rfl rfl (by decide) hnL [1, 2, 3, 0] rfl ?_
  obtain ⟨q9_7, hq9_7, hf⟩ := obd hf
  refine Lp9 (p0 + 4 + (p1).toNatClampNeg) (sTa h0 g1) (0, u) q9_7 hq9_7 ?_
  refine V_iconst C dX8_measureFor_45 rfl (v := 0) rfl ?_
  refine V_istore_n C (L' := [(0, .ref (ad p0)), (1, .int p1), (2, .ref (ad (p0 + 4 + (p1).toNatClampNeg))), (3, .int 0)]) dX8_measureFor_46 rfl rfl (by decide) hnL [1, 2, 3, 0] rfl ?_
  obtain ⟨q47_19, hq47_19, hf⟩ := obd hf
  refine Lp47 (p0 + 4 + (p1).toNatClampNeg) (sTa h0 g1) (0, q9_7.2) q47_19 hq47_19 ?_
  obtain rfl := Option.some.inj hf
  exact K _ _ dX8_measureFor_150 rfl
set_option maxHeartbeats 4000000 in
set_option maxRecDepth 100000 in
theorem kX8_measure {S : List Shp} {ad : Nat → Nat} {G : Gh} {p0 : Nat} (h0 : isW S p0) {u : Mem} {q : Mem} (hf : FX8_measure p0 u = some q) : Ct S ad G yX8_measure cX8_measure 2 none 4 92 [.ref (ad p0)] u none q := by
  refine Ct_ofV (by decide) (Nat.le_of_ble_eq_true rfl) (fun X C hnL K => ?_)
  have C : Cx ad G X cX8_measure "CarryFair$Ways" 4 92 := C
  unfold FX8_measure at hf
  have Lp2 : ∀ (x0 : (Int32 × Mem)) (q2 : (Int32 × Mem)), lp (BX8_measure_2 p0) FU x0 = some q2 → V S ad G X 18 [(0, .ref (ad p0)), (1, .int q2.1)] [] q2.2 → V S ad G X 2 [(0, .ref (ad p0)), (1, .int x0.1)] [] x0.2 := by
    intro  x0 q2 hq hx2_0
    refine lp_V (BX8_measure_2 p0) (fun x2 => V S ad G X 2 [(0, .ref (ad p0)), (1, .int x2.1)] [] x2.2) q2 (fun rec2 ih2 x2 hf => ?_) FU x0 hq
    unfold BX8_measure_2 at hf
    refine V_iload_n C 1 dX8_measure_2 rfl rfl rfl ?_
    refine V_iconst C dX8_measure_3 rfl (v := 3) rfl ?_
    refine V_icmp_ge C dX8_measure_4 (tgt := 18) rfl rfl (fun c2 => ?_) (fun c2 => ?_)
    · replace hf := ipos c2 hf
      obtain rfl := Option.some.inj hf
      exact hx2_0
    · replace hf := ineg c2 hf
      refine V_aload_n C 0 dX8_measure_7 rfl rfl rfl ?_
      refine V_iload_n C 1 dX8_measure_8 rfl rfl rfl ?_
      obtain ⟨q1, hq1, hf⟩ := obd hf
      refine V_cVv C (b := p0) (As := [.int x2.1]) (st := []) cf8 (sW h0) M_X8_measureFor w138 ⟨by decide, by decide⟩ rfl rfl (Nat.le_of_ble_eq_true rfl) dX8_measure_9 rfl (kX8_measureFor h0 hq1) ?_
      refine V_iinc C (v := (x2.1 + 1)) (L' := [(0, .ref (ad p0)), (1, .int (x2.1 + 1))]) 1 dX8_measure_12 rfl rfl rfl (by decide) hnL [1, 0] rfl ?_
      refine V_goto C dX8_measure_15 (tgt := 2) rfl ?_
      exact ih2 ((x2.1 + 1), q1) hf
  refine V_iconst C dX8_measure_0 rfl (v := 0) rfl ?_
  refine V_istore_n C (L' := [(0, .ref (ad p0)), (1, .int 0)]) dX8_measure_1 rfl rfl (by decide) hnL [1, 0] rfl ?_
  obtain ⟨q2_3, hq2_3, hf⟩ := obd hf
  refine Lp2  (0, u) q2_3 hq2_3 ?_
  obtain rfl := Option.some.inj hf
  exact K _ _ dX8_measure_18 rfl
set_option maxHeartbeats 4000000 in
set_option maxRecDepth 100000 in
theorem kX6_tellTo {ad : Nat → Nat} {G : Gh} {p1 : Nat} (h1 : isF p1) {u : Mem} {q : Int32 × Mem} (hf : FX6_tellTo p1 u = some q) : Ct shs ad G yX6_tellTo cX6_tellTo 3 (some .int) 8 175 [.ref (ad 104), .ref (ad p1)] u (some (.int q.1)) q.2 := by
  refine Ct_ofI (by decide) (Nat.le_of_ble_eq_true rfl) (fun X C hnL K => ?_)
  have C : Cx ad G X cX6_tellTo "CarryFair$Tape" 8 175 := C
  unfold FX6_tellTo at hf
  have Lp11 : ∀ (x0 : (Int32 × Mem)) (q11 : (Nat × Int32 × Mem)), lp (BX6_tellTo_11 p1) FU x0 = some q11 → (q11.1 = 0 → V shs ad G X 35 [(0, .ref (ad 104)), (1, .ref (ad p1)), (2, .int q11.2.1)] [] q11.2.2) → (q11.1 = 1 → V shs ad G X 52 [(0, .ref (ad 104)), (1, .ref (ad p1)), (2, .int q11.2.1)] [] q11.2.2) → (q11.1 = 2 → V shs ad G X 66 [(0, .ref (ad 104)), (1, .ref (ad p1)), (2, .int q11.2.1)] [] q11.2.2) → V shs ad G X 11 [(0, .ref (ad 104)), (1, .ref (ad p1)), (2, .int x0.1)] [] x0.2 := by
    intro  x0 q11 hq hx11_0 hx11_1 hx11_2
    refine lp_V (BX6_tellTo_11 p1) (fun x11 => V shs ad G X 11 [(0, .ref (ad 104)), (1, .ref (ad p1)), (2, .int x11.1)] [] x11.2) q11 (fun rec11 ih11 x11 hf => ?_) FU x0 hq
    unfold BX6_tellTo_11 at hf
    refine V_iload_n C 2 dX6_tellTo_11 rfl rfl rfl ?_
    refine V_bipush C dX6_tellTo_12 rfl (v := 120) rfl ?_
    refine V_icmp_gt C dX6_tellTo_14 (tgt := 66) rfl rfl (fun c7 => ?_) (fun c7 => ?_)
    · replace hf := ipos c7 hf
      obtain rfl := Option.some.inj hf
      exact hx11_2 rfl
    · replace hf := ineg c7 hf
      refine V_aload_n C 0 dX6_tellTo_17 rfl rfl rfl ?_
      refine V_aload_n C 1 dX6_tellTo_18 rfl rfl rfl ?_
      obtain ⟨q2, hq2, hf⟩ := obd hf
      refine V_cVi C (b := 104) (As := [.ref (ad p1)]) (st := []) cf6 rfl M_X6_readItem w874 ⟨by decide, by decide⟩ rfl rfl (Nat.le_of_ble_eq_true rfl) dX6_tellTo_19 rfl (kX6_readItem h1 hq2) ?_
      refine V_if_eq C dX6_tellTo_22 (tgt := 66) rfl rfl (fun c6 => ?_) (fun c6 => ?_)
      · replace hf := ipos c6 hf
        obtain rfl := Option.some.inj hf
        exact hx11_2 rfl
      · replace hf := ineg c6 hf
        refine V_iinc C (v := (x11.1 + 1)) (L' := [(0, .ref (ad 104)), (1, .ref (ad p1)), (2, .int (x11.1 + 1))]) 2 dX6_tellTo_25 rfl rfl rfl (by decide) hnL [1, 2, 0] rfl ?_
        refine V_aload_n C 0 dX6_tellTo_28 rfl rfl rfl ?_
        refine V_getI C cf6 rfl 2 rfl (by decide) w324 rfl dX6_tellTo_29 rfl ?_
        refine V_if_ne C dX6_tellTo_32 (tgt := 44) rfl rfl (fun c5 => ?_) (fun c5 => ?_)
        · replace hf := ineg c5 hf
          refine V_aload_n C 0 dX6_tellTo_44 rfl rfl rfl ?_
          refine V_getI C cf6 rfl 2 rfl (by decide) w324 rfl dX6_tellTo_45 rfl ?_
          refine V_iconst C dX6_tellTo_48 rfl (v := 3) rfl ?_
          refine V_icmp_eq C dX6_tellTo_49 (tgt := 59) rfl rfl (fun c4 => ?_) (fun c4 => ?_)
          · replace hf := ipos c4 hf
            refine V_aload_n C 0 dX6_tellTo_59 rfl rfl rfl ?_
            obtain ⟨q3, hq3, hf⟩ := obd hf
            refine V_cVv C (b := 104) (As := []) (st := []) cf6 rfl M_X6_goOn w866 ⟨by decide, by decide⟩ rfl rfl (Nat.le_of_ble_eq_true rfl) dX6_tellTo_60 rfl (kX6_goOn hq3) ?_
            refine V_goto C dX6_tellTo_63 (tgt := 11) rfl ?_
            exact ih11 ((x11.1 + 1), q3) hf
          · replace hf := ineg c4 hf
            obtain rfl := Option.some.inj hf
            exact hx11_1 rfl
        · replace hf := ipos c5 hf
          obtain rfl := Option.some.inj hf
          exact hx11_0 rfl
  refine V_aload_n C 0 dX6_tellTo_0 rfl rfl rfl ?_
  refine V_iconst C dX6_tellTo_1 rfl (v := 0) rfl ?_
  refine V_put C cf6 rfl 4 rfl (by decide) w326 rfl rfl rfl rfl dX6_tellTo_2 rfl ?_
  refine V_aload_n C 0 dX6_tellTo_5 rfl rfl rfl ?_
  obtain ⟨q1, hq1, hf⟩ := obd hf
  refine V_cVv C (b := 104) (As := []) (st := []) cf6 rfl M_X6_goOn w866 ⟨by decide, by decide⟩ rfl rfl (Nat.le_of_ble_eq_true rfl) dX6_tellTo_6 rfl (kX6_goOn hq1) ?_
  refine V_iconst C dX6_tellTo_9 rfl (v := 0) rfl ?_
  refine V_istore_n C (L' := [(0, .ref (ad 104)), (1, .ref (ad p1)), (2, .int 0)]) dX6_tellTo_10 rfl rfl (by decide) hnL [1, 2, 0] rfl ?_
  obtain ⟨q11_8, hq11_8, hf⟩ := obd hf
  refine Lp11  (0, q1) q11_8 hq11_8 ?_ ?_ ?_
  · intro hk
    replace hf := ipos hk hf
    refine V_aload_n C 1 dX6_tellTo_35 rfl rfl rfl ?_
    refine V_getR C cf2 (sF h1) 3 rfl (by decide) w255 rfl dX6_tellTo_36 rfl ?_
    obtain ⟨q9, hq9, hf⟩ := obd hf
    refine V_cVv C (b := (p1 + 4)) (As := []) (st := []) cf8 (sW (wF h1)) M_X8_measure w983 ⟨by decide, by decide⟩ rfl rfl (Nat.le_of_ble_eq_true rfl) dX6_tellTo_39 rfl (kX8_measure (wF h1) hq9) ?_
    refine V_iload_n C 2 dX6_tellTo_42 rfl rfl rfl ?_
    obtain rfl := Option.some.inj hf
    exact K _ _ _ dX6_tellTo_43 rfl rfl
  · intro hk
    replace hf := ineg (by rw [hk]; decide) hf
    replace hf := ipos hk hf
    refine V_iconst C dX6_tellTo_52 rfl (v := (-1)) (by decide) ?_
    refine V_aload_n C 0 dX6_tellTo_53 rfl rfl rfl ?_
    refine V_getI C cf6 rfl 3 rfl (by decide) w325 rfl dX6_tellTo_54 rfl ?_
    refine V_isub C dX6_tellTo_57 rfl ?_
    obtain rfl := Option.some.inj hf
    exact K _ _ _ dX6_tellTo_58 rfl rfl
  · intro hk
    replace hf := ineg (by rw [hk]; decide) hf
    replace hf := ineg (by rw [hk]; decide) hf
    refine V_iconst C dX6_tellTo_66 rfl (v := (-1)) (by decide) ?_
    refine V_aload_n C 0 dX6_tellTo_67 rfl rfl rfl ?_
    refine V_getI C cf6 rfl 3 rfl (by decide) w325 rfl dX6_tellTo_68 rfl ?_
    refine V_isub C dX6_tellTo_71 rfl ?_
    obtain rfl := Option.some.inj hf
    exact K _ _ _ dX6_tellTo_72 rfl rfl
set_option maxHeartbeats 4000000 in
set_option maxRecDepth 100000 in
theorem kX8_yardsOf {S : List Shp} {ad : Nat → Nat} {G : Gh} {p0 : Nat} (h0 : isW S p0) {p1 : Int32} {p2 : Int32} {u : Mem} {q : Int32} (hf : FX8_yardsOf p0 p1 p2 u = some q) : Ct S ad G yX8_yardsOf cX8_yardsOf 3 (some .int) 0 0 [.ref (ad p0), .int p1, .int p2] u (some (.int q)) u := by
  refine Ct_ofI (by decide) (Nat.le_of_ble_eq_true rfl) (fun X C hnL K => ?_)
  have C : Cx ad G X cX8_yardsOf "CarryFair$Ways" 0 0 := C
  unfold FX8_yardsOf at hf
  refine V_aload_n C 0 dX8_yardsOf_0 rfl rfl rfl ?_
  refine V_getR C cf8 (sW h0) 0 rfl (by decide) w153 rfl dX8_yardsOf_1 rfl ?_
  refine V_iload_n C 1 dX8_yardsOf_4 rfl rfl rfl ?_
  refine V_bipush C dX8_yardsOf_5 rfl (v := 7) rfl ?_
  refine V_imul C dX8_yardsOf_7 rfl ?_
  refine V_iload_n C 2 dX8_yardsOf_8 rfl rfl rfl ?_
  refine V_iadd C dX8_yardsOf_9 rfl ?_
  obtain ⟨g1, hf⟩ := gd hf
  refine V_ildJ C (sWy h0) g1 rfl dX8_yardsOf_10 rfl ?_
  obtain rfl := Option.some.inj hf
  exact K _ _ _ dX8_yardsOf_11 rfl rfl
set_option maxHeartbeats 4000000 in
set_option maxRecDepth 100000 in
theorem kX8_riverOf {S : List Shp} {ad : Nat → Nat} {G : Gh} {p0 : Nat} (h0 : isW S p0) {p1 : Int32} {p2 : Int32} {u : Mem} {q : Int32} (hf : FX8_riverOf p0 p1 p2 u = some q) : Ct S ad G yX8_riverOf cX8_riverOf 3 (some .int) 0 0 [.ref (ad p0), .int p1, .int p2] u (some (.int q)) u := by
  refine Ct_ofI (by decide) (Nat.le_of_ble_eq_true rfl) (fun X C hnL K => ?_)
  have C : Cx ad G X cX8_riverOf "CarryFair$Ways" 0 0 := C
  unfold FX8_riverOf at hf
  refine V_aload_n C 0 dX8_riverOf_0 rfl rfl rfl ?_
  refine V_getR C cf8 (sW h0) 1 rfl (by decide) w154 rfl dX8_riverOf_1 rfl ?_
  refine V_iload_n C 1 dX8_riverOf_4 rfl rfl rfl ?_
  refine V_bipush C dX8_riverOf_5 rfl (v := 7) rfl ?_
  refine V_imul C dX8_riverOf_7 rfl ?_
  refine V_iload_n C 2 dX8_riverOf_8 rfl rfl rfl ?_
  refine V_iadd C dX8_riverOf_9 rfl ?_
  obtain ⟨g1, hf⟩ := gd hf
  refine V_ildJ C (sWr h0) g1 rfl dX8_riverOf_10 rfl ?_
  obtain rfl := Option.some.inj hf
  exact K _ _ _ dX8_riverOf_11 rfl rfl
set_option maxHeartbeats 4000000 in
set_option maxRecDepth 100000 in
theorem kX8_hasAny {S : List Shp} {ad : Nat → Nat} {G : Gh} {p0 : Nat} (h0 : isW S p0) {p1 : Int32} {u : Mem} {q : Int32} (hf : FX8_hasAny p0 p1 u = some q) : Ct S ad G yX8_hasAny cX8_hasAny 3 (some .boolean) 1 22 [.ref (ad p0), .int p1] u (some (.int q)) u := by
  refine Ct_ofI (by decide) (Nat.le_of_ble_eq_true rfl) (fun X C hnL K => ?_)
  have C : Cx ad G X cX8_hasAny "CarryFair$Ways" 1 22 := C
  unfold FX8_hasAny at hf
  have Lp2 : ∀ (x0 : (Int32)) (q2 : (Nat × Int32)), lp (BX8_hasAny_2 p0 p1 u) FU x0 = some q2 → (q2.1 = 0 → V S ad G X 17 [(0, .ref (ad p0)), (1, .int p1), (2, .int q2.2)] [] u) → (q2.1 = 1 → V S ad G X 25 [(0, .ref (ad p0)), (1, .int p1), (2, .int q2.2)] [] u) → V S ad G X 2 [(0, .ref (ad p0)), (1, .int p1), (2, .int x0)] [] u := by
    intro  x0 q2 hq hx2_0 hx2_1
    refine lp_V (BX8_hasAny_2 p0 p1 u) (fun x2 => V S ad G X 2 [(0, .ref (ad p0)), (1, .int p1), (2, .int x2)] [] u) q2 (fun rec2 ih2 x2 hf => ?_) FU x0 hq
    unfold BX8_hasAny_2 at hf
    refine V_iload_n C 2 dX8_hasAny_2 rfl rfl rfl ?_
    refine V_bipush C dX8_hasAny_3 rfl (v := 7) rfl ?_
    refine V_icmp_ge C dX8_hasAny_5 (tgt := 25) rfl rfl (fun c3 => ?_) (fun c3 => ?_)
    · replace hf := ipos c3 hf
      obtain rfl := Option.some.inj hf
      exact hx2_1 rfl
    · replace hf := ineg c3 hf
      refine V_aload_n C 0 dX8_hasAny_8 rfl rfl rfl ?_
      refine V_iload_n C 1 dX8_hasAny_9 rfl rfl rfl ?_
      refine V_iload_n C 2 dX8_hasAny_10 rfl rfl rfl ?_
      obtain ⟨q1, hq1, hf⟩ := obd hf
      refine V_cVi C (b := p0) (As := [.int p1, .int x2]) (st := []) cf8 (sW h0) M_X8_yardsOf w797 ⟨by decide, by decide⟩ rfl rfl (Nat.le_of_ble_eq_true rfl) dX8_hasAny_11 rfl (kX8_yardsOf h0 hq1) ?_
      refine V_if_le C dX8_hasAny_14 (tgt := 19) rfl rfl (fun c2 => ?_) (fun c2 => ?_)
      · replace hf := ipos c2 hf
        refine V_iinc C (v := (x2 + 1)) (L' := [(0, .ref (ad p0)), (1, .int p1), (2, .int (x2 + 1))]) 2 dX8_hasAny_19 rfl rfl rfl (by decide) hnL [1, 2, 0] rfl ?_
        refine V_goto C dX8_hasAny_22 (tgt := 2) rfl ?_
        exact ih2 (x2 + 1) hf
      · replace hf := ineg c2 hf
        obtain rfl := Option.some.inj hf
        exact hx2_0 rfl
  refine V_iconst C dX8_hasAny_0 rfl (v := 0) rfl ?_
  refine V_istore_n C (L' := [(0, .ref (ad p0)), (1, .int p1), (2, .int 0)]) dX8_hasAny_1 rfl rfl (by decide) hnL [1, 2, 0] rfl ?_
  obtain ⟨q2_4, hq2_4, hf⟩ := obd hf
  refine Lp2  0 q2_4 hq2_4 ?_ ?_
  · intro hk
    replace hf := ipos hk hf
    refine V_iconst C dX8_hasAny_17 rfl (v := 1) rfl ?_
    obtain rfl := Option.some.inj hf
    exact K _ _ _ dX8_hasAny_18 rfl (by decide)
  · intro hk
    replace hf := ineg (by rw [hk]; decide) hf
    refine V_iconst C dX8_hasAny_25 rfl (v := 0) rfl ?_
    obtain rfl := Option.some.inj hf
    exact K _ _ _ dX8_hasAny_26 rfl (by decide)
set_option maxHeartbeats 4000000 in
set_option maxRecDepth 100000 in
theorem kX8_farthest {S : List Shp} {ad : Nat → Nat} {G : Gh} {p0 : Nat} (h0 : isW S p0) {p1 : Int32} {p2 : Int32} {u : Mem} {q : Int32} (hf : FX8_farthest p0 p1 p2 u = some q) : Ct S ad G yX8_farthest cX8_farthest 5 (some .int) 2 44 [.ref (ad p0), .int p1, .int p2] u (some (.int q)) u := by
  refine Ct_ofI (by decide) (Nat.le_of_ble_eq_true rfl) (fun X C hnL K => ?_)
  have C : Cx ad G X cX8_farthest "CarryFair$Ways" 2 44 := C
  unfold FX8_farthest at hf
  have Lp5 : ∀ (x0 : (Int32 × Int32)) (q5 : (Int32 × Int32)), lp (BX8_farthest_5 p0 p1 p2 u) FU x0 = some q5 → V S ad G X 40 [(0, .ref (ad p0)), (1, .int p1), (2, .int p2), (3, .int q5.1), (4, .int q5.2)] [] u → V S ad G X 5 [(0, .ref (ad p0)), (1, .int p1), (2, .int p2), (3, .int x0.1), (4, .int x0.2)] [] u := by
    intro  x0 q5 hq hx5_0
    refine lp_V (BX8_farthest_5 p0 p1 p2 u) (fun x5 => V S ad G X 5 [(0, .ref (ad p0)), (1, .int p1), (2, .int p2), (3, .int x5.1), (4, .int x5.2)] [] u) q5 (fun rec5 ih5 x5 hf => ?_) FU x0 hq
    unfold BX8_farthest_5 at hf
    refine V_iload C 4 dX8_farthest_5 rfl rfl ?_
    refine V_bipush C dX8_farthest_7 rfl (v := 7) rfl ?_
    refine V_icmp_ge C dX8_farthest_9 (tgt := 40) rfl rfl (fun c4 => ?_) (fun c4 => ?_)
    · replace hf := ipos c4 hf
      obtain rfl := Option.some.inj hf
      exact hx5_0
    · replace hf := ineg c4 hf
      refine V_aload_n C 0 dX8_farthest_12 rfl rfl rfl ?_
      refine V_iload C 4 dX8_farthest_13 rfl rfl ?_
      obtain ⟨q1, hq1, hf⟩ := obd hf
      refine V_cVi C (b := p0) (As := [.int x5.2]) (st := []) cf8 (sW h0) M_X8_hasAny w802 ⟨by decide, by decide⟩ rfl rfl (Nat.le_of_ble_eq_true rfl) dX8_farthest_15 rfl (kX8_hasAny h0 hq1) ?_
      refine V_if_eq C dX8_farthest_18 (tgt := 34) rfl rfl (fun c3 => ?_) (fun c3 => ?_)
      · replace hf := ipos c3 hf
        refine V_iinc C (v := (x5.2 + 1)) (L' := [(0, .ref (ad p0)), (1, .int p1), (2, .int p2), (3, .int x5.1), (4, .int (x5.2 + 1))]) 4 dX8_farthest_34 rfl rfl rfl (by decide) hnL [1, 2, 3, 4, 0] rfl ?_
        refine V_goto C dX8_farthest_37 (tgt := 5) rfl ?_
        exact ih5 (x5.1, (x5.2 + 1)) hf
      · replace hf := ineg c3 hf
        refine V_iload_n C 3 dX8_farthest_21 rfl rfl rfl ?_
        refine V_aload_n C 0 dX8_farthest_22 rfl rfl rfl ?_
        refine V_iload_n C 1 dX8_farthest_23 rfl rfl rfl ?_
        refine V_iload_n C 2 dX8_farthest_24 rfl rfl rfl ?_
        refine V_iload C 4 dX8_farthest_25 rfl rfl ?_
        obtain ⟨q2, hq2, hf⟩ := obd hf
        refine V_cVi C (b := p0) (As := [.int p1, .int p2, .int x5.2]) (st := [.int x5.1]) cf8 (sW h0) M_X8_yardsFor w530 ⟨by decide, by decide⟩ rfl rfl (Nat.le_of_ble_eq_true rfl) dX8_farthest_27 rfl (kX8_yardsFor h0 hq2) ?_
        refine V_mmax C w803 ⟨by decide, by decide⟩ (Nat.le_of_ble_eq_true rfl) dX8_farthest_30 rfl ?_
        refine V_istore_n C (L' := [(0, .ref (ad p0)), (1, .int p1), (2, .int p2), (3, .int (jmax x5.1 q2)), (4, .int x5.2)]) dX8_farthest_33 rfl rfl (by decide) hnL [1, 2, 3, 0, 4] rfl ?_
        refine V_iinc C (v := (x5.2 + 1)) (L' := [(0, .ref (ad p0)), (1, .int p1), (2, .int p2), (3, .int (jmax x5.1 q2)), (4, .int (x5.2 + 1))]) 4 dX8_farthest_34 rfl rfl rfl (by decide) hnL [1, 2, 3, 4, 0] rfl ?_
        refine V_goto C dX8_farthest_37 (tgt := 5) rfl ?_
        exact ih5 ((jmax x5.1 q2), (x5.2 + 1)) hf
  refine V_iconst C dX8_farthest_0 rfl (v := 0) rfl ?_
  refine V_istore_n C (L' := [(0, .ref (ad p0)), (1, .int p1), (2, .int p2), (3, .int 0)]) dX8_farthest_1 rfl rfl (by decide) hnL [1, 2, 3, 0] rfl ?_
  refine V_iconst C dX8_farthest_2 rfl (v := 0) rfl ?_
  refine V_istore C (L' := [(0, .ref (ad p0)), (1, .int p1), (2, .int p2), (3, .int 0), (4, .int 0)]) dX8_farthest_3 rfl (by decide) hnL [1, 2, 3, 4, 0] rfl ?_
  obtain ⟨q5_5, hq5_5, hf⟩ := obd hf
  refine Lp5  (0, 0) q5_5 hq5_5 ?_
  refine V_iload_n C 3 dX8_farthest_40 rfl rfl rfl ?_
  obtain rfl := Option.some.inj hf
  exact K _ _ _ dX8_farthest_41 rfl rfl
