set_option maxHeartbeats 4000000 in
set_option maxRecDepth 100000 in
theorem kX9_count {ad : Nat → Nat} {G : Gh} {p1 : Int32} {u : Mem} {q : Int32 × Mem} (hf : FX9_count p1 u = some q) : Ct shs ad G yX9_count cX9_count 2 (some .int) 2 44 [.ref (ad 0), .int p1] u (some (.int q.1)) q.2 := by
  refine Ct_ofI (by decide) (Nat.le_of_ble_eq_true rfl) (fun X C hnL K => ?_)
  have C : Cx ad G X cX9_count "CarryFair" 2 44 := C
  unfold FX9_count at hf
  refine V_iload_n C 1 dX9_count_0 rfl rfl rfl ?_
  by_cases c1 : p1 = 0
  · replace hf := ipos c1 hf
    refine V_tin C dX9_count_1 0 c1 (by decide) (by decide) rfl (tgt := 48) rfl ?_
    refine V_aload_n C 0 dX9_count_48 rfl rfl rfl ?_
    refine V_getR C cf9 rfl 0 rfl (by decide) w361 rfl dX9_count_49 rfl ?_
    refine V_getI C cf2 (sF isF1) 5 rfl (by decide) w260 rfl dX9_count_52 rfl ?_
    obtain rfl := Option.some.inj hf
    exact K _ _ _ dX9_count_55 rfl rfl
  replace hf := ineg c1 hf
  by_cases c2 : p1 = 1
  · replace hf := ipos c2 hf
    refine V_tin C dX9_count_1 1 c2 (by decide) (by decide) rfl (tgt := 56) rfl ?_
    refine V_aload_n C 0 dX9_count_56 rfl rfl rfl ?_
    refine V_getR C cf9 rfl 0 rfl (by decide) w361 rfl dX9_count_57 rfl ?_
    refine V_getI C cf2 (sF isF1) 6 rfl (by decide) w265 rfl dX9_count_60 rfl ?_
    obtain rfl := Option.some.inj hf
    exact K _ _ _ dX9_count_63 rfl rfl
  replace hf := ineg c2 hf
  by_cases c3 : p1 = 2
  · replace hf := ipos c3 hf
    refine V_tin C dX9_count_1 2 c3 (by decide) (by decide) rfl (tgt := 64) rfl ?_
    refine V_aload_n C 0 dX9_count_64 rfl rfl rfl ?_
    refine V_getR C cf9 rfl 0 rfl (by decide) w361 rfl dX9_count_65 rfl ?_
    refine V_getI C cf2 (sF isF1) 7 rfl (by decide) w268 rfl dX9_count_68 rfl ?_
    obtain rfl := Option.some.inj hf
    exact K _ _ _ dX9_count_71 rfl rfl
  replace hf := ineg c3 hf
  by_cases c4 : p1 = 3
  · replace hf := ipos c4 hf
    refine V_tin C dX9_count_1 3 c4 (by decide) (by decide) rfl (tgt := 72) rfl ?_
    refine V_aload_n C 0 dX9_count_72 rfl rfl rfl ?_
    refine V_getR C cf9 rfl 0 rfl (by decide) w361 rfl dX9_count_73 rfl ?_
    obtain ⟨q5, hq5, hf⟩ := obd hf
    refine V_cVi C (b := 1) (As := []) (st := []) cf2 (sF isF1) M_X2_earnedByAll w592 ⟨by decide, by decide⟩ rfl rfl (Nat.le_of_ble_eq_true rfl) dX9_count_76 rfl (kX2_earnedByAll isF1 hq5) ?_
    obtain rfl := Option.some.inj hf
    exact K _ _ _ dX9_count_79 rfl rfl
  replace hf := ineg c4 hf
  by_cases c6 : p1 = 4
  · replace hf := ipos c6 hf
    refine V_tin C dX9_count_1 4 c6 (by decide) (by decide) rfl (tgt := 80) rfl ?_
    refine V_aload_n C 0 dX9_count_80 rfl rfl rfl ?_
    refine V_getR C cf9 rfl 0 rfl (by decide) w361 rfl dX9_count_81 rfl ?_
    obtain ⟨q7, hq7, hf⟩ := obd hf
    refine V_cVi C (b := 1) (As := []) (st := []) cf2 (sF isF1) M_X2_walkedByAll w596 ⟨by decide, by decide⟩ rfl rfl (Nat.le_of_ble_eq_true rfl) dX9_count_84 rfl (kX2_walkedByAll isF1 hq7) ?_
    obtain rfl := Option.some.inj hf
    exact K _ _ _ dX9_count_87 rfl rfl
  replace hf := ineg c6 hf
  by_cases c8 : p1 = 5
  · replace hf := ipos c8 hf
    refine V_tin C dX9_count_1 5 c8 (by decide) (by decide) rfl (tgt := 88) rfl ?_
    refine V_aload_n C 0 dX9_count_88 rfl rfl rfl ?_
    refine V_getR C cf9 rfl 5 rfl (by decide) w366 rfl dX9_count_89 rfl ?_
    refine V_getI C cf6 rfl 1 rfl (by decide) w323 rfl dX9_count_92 rfl ?_
    obtain rfl := Option.some.inj hf
    exact K _ _ _ dX9_count_95 rfl rfl
  replace hf := ineg c8 hf
  by_cases c9 : p1 = 6
  · replace hf := ipos c9 hf
    refine V_tin C dX9_count_1 6 c9 (by decide) (by decide) rfl (tgt := 96) rfl ?_
    refine V_aload_n C 0 dX9_count_96 rfl rfl rfl ?_
    refine V_getR C cf9 rfl 0 rfl (by decide) w361 rfl dX9_count_97 rfl ?_
    refine V_getI C cf2 (sF isF1) 8 rfl (by decide) w270 rfl dX9_count_100 rfl ?_
    obtain rfl := Option.some.inj hf
    exact K _ _ _ dX9_count_103 rfl rfl
  replace hf := ineg c9 hf
  by_cases c10 : p1 = 7
  · replace hf := ipos c10 hf
    refine V_tin C dX9_count_1 7 c10 (by decide) (by decide) rfl (tgt := 104) rfl ?_
    refine V_aload_n C 0 dX9_count_104 rfl rfl rfl ?_
    refine V_getR C cf9 rfl 0 rfl (by decide) w361 rfl dX9_count_105 rfl ?_
    obtain ⟨q11, hq11, hf⟩ := obd hf
    refine V_cVi C (b := 1) (As := []) (st := []) cf2 (sF isF1) M_X2_heldSpots w1059 ⟨by decide, by decide⟩ rfl rfl (Nat.le_of_ble_eq_true rfl) dX9_count_108 rfl (kX2_heldSpots isF1 hq11) ?_
    obtain rfl := Option.some.inj hf
    exact K _ _ _ dX9_count_111 rfl rfl
  replace hf := ineg c10 hf
  refine V_tout C dX9_count_1 (by have nc1 := lv_neT (a := 0) c1 (by decide); have nc2 := lv_neT (a := 1) c2 (by decide); have nc3 := lv_neT (a := 2) c3 (by decide); have nc4 := lv_neT (a := 3) c4 (by decide); have nc6 := lv_neT (a := 4) c6 (by decide); have nc8 := lv_neT (a := 5) c8 (by decide); have nc9 := lv_neT (a := 6) c9 (by decide); have nc10 := lv_neT (a := 7) c10 (by decide); omega) (tgt := 112) rfl ?_
  refine V_aload_n C 0 dX9_count_112 rfl rfl rfl ?_
  refine V_ldc C dX9_count_113 rfl w396 ?_
  obtain ⟨q12, hq12, hf⟩ := obd hf
  refine V_cVi C (b := 0) (As := [.int (-1000001)]) (st := []) cf9 rfl M_X9_finding w397 ⟨by decide, by decide⟩ rfl rfl (Nat.le_of_ble_eq_true rfl) dX9_count_115 rfl (kX9_finding hq12) ?_
  obtain rfl := Option.some.inj hf
  exact K _ _ _ dX9_count_118 rfl rfl
set_option maxHeartbeats 4000000 in
set_option maxRecDepth 100000 in
theorem kX9_status {ad : Nat → Nat} {G : Gh} {p1 : Int32} {u : Mem} {q : Int32 × Mem} (hf : FX9_status p1 u = some q) : Ct shs ad G yX9_status cX9_status 4 (some .int) 2 44 [.ref (ad 0), .int p1] u (some (.int q.1)) q.2 := by
  refine Ct_ofI (by decide) (Nat.le_of_ble_eq_true rfl) (fun X C hnL K => ?_)
  have C : Cx ad G X cX9_status "CarryFair" 2 44 := C
  unfold FX9_status at hf
  have Lp32 : ∀ (w : Mem) (x0 : (Int32 × Int32)) (q32 : (Int32 × Int32)), lp (BX9_status_32 p1 w) FU x0 = some q32 → V shs ad G X 53 [(0, .ref (ad 0)), (1, .int p1), (2, .int q32.1), (3, .int q32.2)] [] w → V shs ad G X 32 [(0, .ref (ad 0)), (1, .int p1), (2, .int x0.1), (3, .int x0.2)] [] w := by
    intro w x0 q32 hq hx32_0
    refine lp_V (BX9_status_32 p1 w) (fun x32 => V shs ad G X 32 [(0, .ref (ad 0)), (1, .int p1), (2, .int x32.1), (3, .int x32.2)] [] w) q32 (fun rec32 ih32 x32 hf => ?_) FU x0 hq
    unfold BX9_status_32 at hf
    refine V_iload_n C 3 dX9_status_32 rfl rfl rfl ?_
    refine V_bipush C dX9_status_33 rfl (v := 7) rfl ?_
    refine V_icmp_ge C dX9_status_35 (tgt := 53) rfl rfl (fun c2 => ?_) (fun c2 => ?_)
    · replace hf := ipos c2 hf
      obtain rfl := Option.some.inj hf
      exact hx32_0
    · replace hf := ineg c2 hf
      refine V_iload_n C 2 dX9_status_38 rfl rfl rfl ?_
      refine V_aload_n C 0 dX9_status_39 rfl rfl rfl ?_
      refine V_getR C cf9 rfl 7 rfl (by decide) w368 rfl dX9_status_40 rfl ?_
      refine V_iload_n C 3 dX9_status_43 rfl rfl rfl ?_
      obtain ⟨g1, hf⟩ := gd hf
      refine V_ildJ C rfl g1 rfl dX9_status_44 rfl ?_
      refine V_iadd C dX9_status_45 rfl ?_
      refine V_istore_n C (L' := [(0, .ref (ad 0)), (1, .int p1), (2, .int (x32.1 + (w 107 (x32.2).toNatClampNeg))), (3, .int x32.2)]) dX9_status_46 rfl rfl (by decide) hnL [1, 2, 0, 3] rfl ?_
      refine V_iinc C (v := (x32.2 + 1)) (L' := [(0, .ref (ad 0)), (1, .int p1), (2, .int (x32.1 + (w 107 (x32.2).toNatClampNeg))), (3, .int (x32.2 + 1))]) 3 dX9_status_47 rfl rfl rfl (by decide) hnL [1, 2, 3, 0] rfl ?_
      refine V_goto C dX9_status_50 (tgt := 32) rfl ?_
      exact ih32 ((x32.1 + (w 107 (x32.2).toNatClampNeg)), (x32.2 + 1)) hf
  refine V_iload_n C 1 dX9_status_0 rfl rfl rfl ?_
  refine V_iconst C dX9_status_1 rfl (v := (-1)) (by decide) ?_
  refine V_bipush C dX9_status_2 rfl (v := 6) rfl ?_
  refine V_cSi C (As := [.int p1, .int (-1), .int 6]) (st := []) M_X9_within w393 ⟨by decide, by decide⟩ rfl rfl (Nat.le_of_ble_eq_true rfl) dX9_status_4 rfl (kX9_within rfl) ?_
  refine V_if_ne C dX9_status_7 (tgt := 17) rfl rfl (fun c7 => ?_) (fun c7 => ?_)
  · replace hf := ineg c7 hf
    refine V_iload_n C 1 dX9_status_17 rfl rfl rfl ?_
    refine V_if_lt C dX9_status_18 (tgt := 28) rfl rfl (fun c5 => ?_) (fun c5 => ?_)
    · replace hf := ipos c5 hf
      refine V_iconst C dX9_status_28 rfl (v := 0) rfl ?_
      refine V_istore_n C (L' := [(0, .ref (ad 0)), (1, .int p1), (2, .int 0)]) dX9_status_29 rfl rfl (by decide) hnL [1, 2, 0] rfl ?_
      refine V_iconst C dX9_status_30 rfl (v := 0) rfl ?_
      refine V_istore_n C (L' := [(0, .ref (ad 0)), (1, .int p1), (2, .int 0), (3, .int 0)]) dX9_status_31 rfl rfl (by decide) hnL [1, 2, 3, 0] rfl ?_
      obtain ⟨q32_3, hq32_3, hf⟩ := obd hf
      refine Lp32 u (0, 0) q32_3 hq32_3 ?_
      refine V_iload_n C 2 dX9_status_53 rfl rfl rfl ?_
      obtain rfl := Option.some.inj hf
      exact K _ _ _ dX9_status_54 rfl rfl
    · replace hf := ineg c5 hf
      refine V_aload_n C 0 dX9_status_21 rfl rfl rfl ?_
      refine V_getR C cf9 rfl 7 rfl (by decide) w368 rfl dX9_status_22 rfl ?_
      refine V_iload_n C 1 dX9_status_25 rfl rfl rfl ?_
      obtain ⟨g4, hf⟩ := gd hf
      refine V_ildJ C rfl g4 rfl dX9_status_26 rfl ?_
      obtain rfl := Option.some.inj hf
      exact K _ _ _ dX9_status_27 rfl rfl
  · replace hf := ipos c7 hf
    refine V_aload_n C 0 dX9_status_10 rfl rfl rfl ?_
    refine V_ldc C dX9_status_11 rfl w396 ?_
    obtain ⟨q6, hq6, hf⟩ := obd hf
    refine V_cVi C (b := 0) (As := [.int (-1000001)]) (st := []) cf9 rfl M_X9_finding w397 ⟨by decide, by decide⟩ rfl rfl (Nat.le_of_ble_eq_true rfl) dX9_status_13 rfl (kX9_finding hq6) ?_
    obtain rfl := Option.some.inj hf
    exact K _ _ _ dX9_status_16 rfl rfl
set_option maxHeartbeats 4000000 in
set_option maxRecDepth 100000 in
theorem kX10_finding {ad : Nat → Nat} {G : Gh} {p1 : Int32} {u : Mem} {q : Int32 × Mem} (hf : FX10_finding p1 u = some q) : Ct shs ad G yX10_finding cX10_finding 2 (some .int) 0 0 [.ref (ad 116), .int p1] u (some (.int q.1)) q.2 := by
  refine Ct_ofI (by decide) (Nat.le_of_ble_eq_true rfl) (fun X C hnL K => ?_)
  have C : Cx ad G X cX10_finding "CarryFairModel" 0 0 := C
  unfold FX10_finding at hf
  refine V_aload_n C 0 dX10_finding_0 rfl rfl rfl ?_
  refine V_getR C cf10 rfl 4 rfl (by decide) w1086 rfl dX10_finding_1 rfl ?_
  refine V_ldc C dX10_finding_4 rfl w1183 ?_
  refine V_iload_n C 1 dX10_finding_6 rfl rfl rfl ?_
  refine V_isub C dX10_finding_7 rfl ?_
  refine V_iconst C dX10_finding_8 rfl (v := 1) rfl ?_
  refine V_iadd C dX10_finding_9 rfl ?_
  refine V_dup2 C dX10_finding_10 rfl rfl rfl ?_
  obtain ⟨g1, hf⟩ := gd hf
  refine V_ildJ C rfl g1 rfl dX10_finding_11 rfl ?_
  refine V_iconst C dX10_finding_12 rfl (v := 1) rfl ?_
  refine V_iadd C dX10_finding_13 rfl ?_
  obtain ⟨g2, hf⟩ := gd hf
  refine V_istJ C rfl g2 rfl dX10_finding_14 rfl ?_
  refine V_aload_n C 0 dX10_finding_15 rfl rfl rfl ?_
  refine V_getR C cf10 rfl 4 rfl (by decide) w1086 rfl dX10_finding_16 rfl ?_
  refine V_iconst C dX10_finding_19 rfl (v := 0) rfl ?_
  refine V_dup2 C dX10_finding_20 rfl rfl rfl ?_
  refine V_ildJ C rfl (by decide) (j := 0) (by decide) dX10_finding_21 rfl ?_
  refine V_iconst C dX10_finding_22 rfl (v := 1) rfl ?_
  refine V_iadd C dX10_finding_23 rfl ?_
  refine V_istJ C rfl (by decide) (j := 0) (by decide) dX10_finding_24 rfl ?_
  obtain ⟨w3, ew3, hf⟩ := nmd hf
  rw [← ew3]
  refine V_iload_n C 1 dX10_finding_25 rfl rfl rfl ?_
  obtain rfl := Option.some.inj hf
  exact K _ _ _ dX10_finding_26 rfl rfl
set_option maxHeartbeats 4000000 in
set_option maxRecDepth 100000 in
theorem kX10_within {ad : Nat → Nat} {G : Gh} {p0 : Int32} {p1 : Int32} {p2 : Int32} {u : Mem} {q : Int32} (hf : FX10_within p0 p1 p2 = q) : Ct shs ad G yX10_within cX10_within 3 (some .boolean) 0 0 [.int p0, .int p1, .int p2] u (some (.int q)) u := by
  refine Ct_ofI (by decide) (Nat.le_of_ble_eq_true rfl) (fun X C hnL K => ?_)
  have C : Cx ad G X cX10_within "CarryFairModel" 0 0 := C
  unfold FX10_within at hf
  refine V_iload_n C 0 dX10_within_0 rfl rfl rfl ?_
  refine V_iload_n C 1 dX10_within_1 rfl rfl rfl ?_
  refine V_icmp_lt C dX10_within_2 (tgt := 14) rfl rfl (fun c2 => ?_) (fun c2 => ?_)
  · replace hf := ipos c2 hf
    refine V_iconst C dX10_within_14 rfl (v := 0) rfl ?_
    subst hf
    exact K _ _ _ dX10_within_15 rfl (by decide)
  · replace hf := ineg c2 hf
    refine V_iload_n C 0 dX10_within_5 rfl rfl rfl ?_
    refine V_iload_n C 2 dX10_within_6 rfl rfl rfl ?_
    refine V_icmp_gt C dX10_within_7 (tgt := 14) rfl rfl (fun c1 => ?_) (fun c1 => ?_)
    · replace hf := ipos c1 hf
      refine V_iconst C dX10_within_14 rfl (v := 0) rfl ?_
      subst hf
      exact K _ _ _ dX10_within_15 rfl (by decide)
    · replace hf := ineg c1 hf
      refine V_iconst C dX10_within_10 rfl (v := 1) rfl ?_
      refine V_goto C dX10_within_11 (tgt := 15) rfl ?_
      subst hf
      exact K _ _ _ dX10_within_15 rfl (by decide)
set_option maxHeartbeats 4000000 in
set_option maxRecDepth 100000 in
theorem kX10_become {ad : Nat → Nat} {G : Gh} {p1 : Int32} {p2 : Int32} {u : Mem} {q : Int32 × Mem} (hf : FX10_become p1 p2 u = some q) : Ct shs ad G yX10_become cX10_become 4 (some .int) 0 0 [.ref (ad 116), .int p1, .int p2] u (some (.int q.1)) q.2 := by
  refine Ct_ofI (by decide) (Nat.le_of_ble_eq_true rfl) (fun X C hnL K => ?_)
  have C : Cx ad G X cX10_become "CarryFairModel" 0 0 := C
  unfold FX10_become at hf
  refine V_aload_n C 0 dX10_become_0 rfl rfl rfl ?_
  refine V_getR C cf10 rfl 0 rfl (by decide) w1082 rfl dX10_become_1 rfl ?_
  refine V_iload_n C 1 dX10_become_4 rfl rfl rfl ?_
  obtain ⟨g1, hf⟩ := gd hf
  refine V_ildJ C rfl g1 rfl dX10_become_5 rfl ?_
  refine V_istore_n C (L' := [(0, .ref (ad 116)), (1, .int p1), (2, .int p2), (3, .int (u 117 (p1).toNatClampNeg))]) dX10_become_6 rfl rfl (by decide) hnL [1, 2, 3, 0] rfl ?_
  refine V_aload_n C 0 dX10_become_7 rfl rfl rfl ?_
  refine V_getR C cf10 rfl 0 rfl (by decide) w1082 rfl dX10_become_8 rfl ?_
  refine V_iload_n C 1 dX10_become_11 rfl rfl rfl ?_
  refine V_iload_n C 2 dX10_become_12 rfl rfl rfl ?_
  obtain ⟨g2, hf⟩ := gd hf
  refine V_istJ C rfl g2 rfl dX10_become_13 rfl ?_
  refine V_iload_n C 3 dX10_become_14 rfl rfl rfl ?_
  obtain rfl := Option.some.inj hf
  exact K _ _ _ dX10_become_15 rfl rfl
set_option maxHeartbeats 4000000 in
set_option maxRecDepth 100000 in
theorem kX10_copyRow {ad : Nat → Nat} {G : Gh} {p0 : Nat} (h0 : shs[p0]? = some (.inr ((0, 138), none))) {p1 : Nat} (h1 : shs[p1]? = some (.inr ((0, 138), none))) {u : Mem} {q : Mem} (hf : FX10_copyRow p0 p1 u = some q) : Ct shs ad G yX10_copyRow cX10_copyRow 3 none 0 0 [.ref (ad p0), .ref (ad p1)] u none q := by
  refine Ct_ofV (by decide) (Nat.le_of_ble_eq_true rfl) (fun X C hnL K => ?_)
  have C : Cx ad G X cX10_copyRow "CarryFairModel" 0 0 := C
  unfold FX10_copyRow at hf
  have Lp2 : ∀ (x0 : (Int32 × Mem)) (q2 : (Int32 × Mem)), lp (BX10_copyRow_2 p0 p1) FU x0 = some q2 → V shs ad G X 21 [(0, .ref (ad p0)), (1, .ref (ad p1)), (2, .int q2.1)] [] q2.2 → V shs ad G X 2 [(0, .ref (ad p0)), (1, .ref (ad p1)), (2, .int x0.1)] [] x0.2 := by
    intro  x0 q2 hq hx2_0
    refine lp_V (BX10_copyRow_2 p0 p1) (fun x2 => V shs ad G X 2 [(0, .ref (ad p0)), (1, .ref (ad p1)), (2, .int x2.1)] [] x2.2) q2 (fun rec2 ih2 x2 hf => ?_) FU x0 hq
    unfold BX10_copyRow_2 at hf
    refine V_iload_n C 2 dX10_copyRow_2 rfl rfl rfl ?_
    refine V_sipush C dX10_copyRow_3 rfl (v := 138) rfl ?_
    refine V_icmp_ge C dX10_copyRow_6 (tgt := 21) rfl rfl (fun c3 => ?_) (fun c3 => ?_)
    · replace hf := ipos c3 hf
      obtain rfl := Option.some.inj hf
      exact hx2_0
    · replace hf := ineg c3 hf
      refine V_aload_n C 1 dX10_copyRow_9 rfl rfl rfl ?_
      refine V_iload_n C 2 dX10_copyRow_10 rfl rfl rfl ?_
      refine V_aload_n C 0 dX10_copyRow_11 rfl rfl rfl ?_
      refine V_iload_n C 2 dX10_copyRow_12 rfl rfl rfl ?_
      obtain ⟨g1, hf⟩ := gd hf
      refine V_ildJ C h0 g1 rfl dX10_copyRow_13 rfl ?_
      obtain ⟨g2, hf⟩ := gd hf
      refine V_istJ C h1 g2 rfl dX10_copyRow_14 rfl ?_
      refine V_iinc C (v := (x2.1 + 1)) (L' := [(0, .ref (ad p0)), (1, .ref (ad p1)), (2, .int (x2.1 + 1))]) 2 dX10_copyRow_15 rfl rfl rfl (by decide) hnL [1, 2, 0] rfl ?_
      refine V_goto C dX10_copyRow_18 (tgt := 2) rfl ?_
      exact ih2 ((x2.1 + 1), (mst x2.2 p1 (x2.1).toNatClampNeg (x2.2 p0 (x2.1).toNatClampNeg))) hf
  refine V_iconst C dX10_copyRow_0 rfl (v := 0) rfl ?_
  refine V_istore_n C (L' := [(0, .ref (ad p0)), (1, .ref (ad p1)), (2, .int 0)]) dX10_copyRow_1 rfl rfl (by decide) hnL [1, 2, 0] rfl ?_
  obtain ⟨q2_4, hq2_4, hf⟩ := obd hf
  refine Lp2  (0, u) q2_4 hq2_4 ?_
  obtain rfl := Option.some.inj hf
  exact K _ _ dX10_copyRow_21 rfl
set_option maxHeartbeats 4000000 in
set_option maxRecDepth 100000 in
theorem kX10_putBack {ad : Nat → Nat} {G : Gh} {p1 : Int32} {u : Mem} {q : Int32 × Mem} (hf : FX10_putBack p1 u = some q) : Ct shs ad G yX10_putBack cX10_putBack 2 (some .int) 1 22 [.ref (ad 116), .int p1] u (some (.int q.1)) q.2 := by
  refine Ct_ofI (by decide) (Nat.le_of_ble_eq_true rfl) (fun X C hnL K => ?_)
  have C : Cx ad G X cX10_putBack "CarryFairModel" 1 22 := C
  unfold FX10_putBack at hf
  refine V_aload_n C 0 dX10_putBack_0 rfl rfl rfl ?_
  refine V_getR C cf10 rfl 2 rfl (by decide) w1084 rfl dX10_putBack_1 rfl ?_
  refine V_aload_n C 0 dX10_putBack_4 rfl rfl rfl ?_
  refine V_getR C cf10 rfl 0 rfl (by decide) w1082 rfl dX10_putBack_5 rfl ?_
  obtain ⟨q1, hq1, hf⟩ := obd hf
  refine V_cSv C (As := [.ref (ad 119), .ref (ad 117)]) (st := []) M_X10_copyRow w1515 ⟨by decide, by decide⟩ rfl rfl (Nat.le_of_ble_eq_true rfl) dX10_putBack_8 rfl (kX10_copyRow rfl rfl hq1) ?_
  refine V_iload_n C 1 dX10_putBack_11 rfl rfl rfl ?_
  obtain rfl := Option.some.inj hf
  exact K _ _ _ dX10_putBack_12 rfl rfl
set_option maxHeartbeats 4000000 in
set_option maxRecDepth 100000 in
theorem kX10_has {ad : Nat → Nat} {G : Gh} {p0 : Int32} {p1 : Int32} {u : Mem} {q : Int32} (hf : FX10_has p0 p1 = q) : Ct shs ad G yX10_has cX10_has 2 (some .boolean) 0 0 [.int p0, .int p1] u (some (.int q)) u := by
  refine Ct_ofI (by decide) (Nat.le_of_ble_eq_true rfl) (fun X C hnL K => ?_)
  have C : Cx ad G X cX10_has "CarryFairModel" 0 0 := C
  unfold FX10_has at hf
  refine V_iload_n C 0 dX10_has_0 rfl rfl rfl ?_
  refine V_iload_n C 1 dX10_has_1 rfl rfl rfl ?_
  refine V_jshr C dX10_has_2 rfl ?_
  refine V_iconst C dX10_has_3 rfl (v := 1) rfl ?_
  refine V_iand C dX10_has_4 rfl ?_
  refine V_iconst C dX10_has_5 rfl (v := 1) rfl ?_
  refine V_icmp_ne C dX10_has_6 (tgt := 13) rfl rfl (fun c1 => ?_) (fun c1 => ?_)
  · replace hf := ineg c1 hf
    refine V_iconst C dX10_has_13 rfl (v := 0) rfl ?_
    subst hf
    exact K _ _ _ dX10_has_14 rfl (by decide)
  · replace hf := ipos c1 hf
    refine V_iconst C dX10_has_9 rfl (v := 1) rfl ?_
    refine V_goto C dX10_has_10 (tgt := 14) rfl ?_
    subst hf
    exact K _ _ _ dX10_has_14 rfl (by decide)
set_option maxHeartbeats 4000000 in
set_option maxRecDepth 100000 in
theorem kX10_bits {ad : Nat → Nat} {G : Gh} {p0 : Int32} {u : Mem} {q : Int32} (hf : FX10_bits p0 = some q) : Ct shs ad G yX10_bits cX10_bits 3 (some .int) 0 0 [.int p0] u (some (.int q)) u := by
  refine Ct_ofI (by decide) (Nat.le_of_ble_eq_true rfl) (fun X C hnL K => ?_)
  have C : Cx ad G X cX10_bits "CarryFairModel" 0 0 := C
  unfold FX10_bits at hf
  have Lp4 : ∀ (x0 : (Int32 × Int32)) (q4 : (Int32 × Int32)), lp (BX10_bits_4 p0) FU x0 = some q4 → V shs ad G X 20 [(0, .int p0), (1, .int q4.1), (2, .int q4.2)] [] u → V shs ad G X 4 [(0, .int p0), (1, .int x0.1), (2, .int x0.2)] [] u := by
    intro  x0 q4 hq hx4_0
    refine lp_V (BX10_bits_4 p0) (fun x4 => V shs ad G X 4 [(0, .int p0), (1, .int x4.1), (2, .int x4.2)] [] u) q4 (fun rec4 ih4 x4 hf => ?_) FU x0 hq
    unfold BX10_bits_4 at hf
    refine V_iload_n C 2 dX10_bits_4 rfl rfl rfl ?_
    refine V_if_eq C dX10_bits_5 (tgt := 20) rfl rfl (fun c1 => ?_) (fun c1 => ?_)
    · replace hf := ipos c1 hf
      obtain rfl := Option.some.inj hf
      exact hx4_0
    · replace hf := ineg c1 hf
      refine V_iinc C (v := (x4.1 + 1)) (L' := [(0, .int p0), (1, .int (x4.1 + 1)), (2, .int x4.2)]) 1 dX10_bits_8 rfl rfl rfl (by decide) hnL [1, 0, 2] rfl ?_
      refine V_iload_n C 2 dX10_bits_11 rfl rfl rfl ?_
      refine V_iload_n C 2 dX10_bits_12 rfl rfl rfl ?_
      refine V_iconst C dX10_bits_13 rfl (v := 1) rfl ?_
      refine V_isub C dX10_bits_14 rfl ?_
      refine V_iand C dX10_bits_15 rfl ?_
      refine V_istore_n C (L' := [(0, .int p0), (1, .int (x4.1 + 1)), (2, .int (x4.2 &&& (x4.2 - 1)))]) dX10_bits_16 rfl rfl (by decide) hnL [1, 2, 0] rfl ?_
      refine V_goto C dX10_bits_17 (tgt := 4) rfl ?_
      exact ih4 ((x4.1 + 1), (x4.2 &&& (x4.2 - 1))) hf
  refine V_iconst C dX10_bits_0 rfl (v := 0) rfl ?_
  refine V_istore_n C (L' := [(0, .int p0), (1, .int 0)]) dX10_bits_1 rfl rfl (by decide) hnL [1, 0] rfl ?_
  refine V_iload_n C 0 dX10_bits_2 rfl rfl rfl ?_
  refine V_istore_n C (L' := [(0, .int p0), (1, .int 0), (2, .int p0)]) dX10_bits_3 rfl rfl (by decide) hnL [1, 2, 0] rfl ?_
  obtain ⟨q4_2, hq4_2, hf⟩ := obd hf
  refine Lp4  (0, p0) q4_2 hq4_2 ?_
  refine V_iload_n C 1 dX10_bits_20 rfl rfl rfl ?_
  obtain rfl := Option.some.inj hf
  exact K _ _ _ dX10_bits_21 rfl rfl
set_option maxHeartbeats 4000000 in
set_option maxRecDepth 100000 in
theorem kX10_isPlace {ad : Nat → Nat} {G : Gh} {p0 : Int32} {u : Mem} {q : Int32} (hf : FX10_isPlace p0 = q) : Ct shs ad G yX10_isPlace cX10_isPlace 1 (some .boolean) 1 22 [.int p0] u (some (.int q)) u := by
  refine Ct_ofI (by decide) (Nat.le_of_ble_eq_true rfl) (fun X C hnL K => ?_)
  have C : Cx ad G X cX10_isPlace "CarryFairModel" 1 22 := C
  unfold FX10_isPlace at hf
  refine V_iload_n C 0 dX10_isPlace_0 rfl rfl rfl ?_
  refine V_iconst C dX10_isPlace_1 rfl (v := 0) rfl ?_
  refine V_bipush C dX10_isPlace_2 rfl (v := 6) rfl ?_
  refine V_cSi C (As := [.int p0, .int 0, .int 6]) (st := []) M_X10_within w1180 ⟨by decide, by decide⟩ rfl rfl (Nat.le_of_ble_eq_true rfl) dX10_isPlace_4 rfl (kX10_within rfl) ?_
  subst hf
  exact K _ _ _ dX10_isPlace_7 rfl (nzb (bX10_within))
set_option maxHeartbeats 4000000 in
set_option maxRecDepth 100000 in
theorem kX10_isCarrier {ad : Nat → Nat} {G : Gh} {p1 : Int32} {u : Mem} {q : Int32} (hf : FX10_isCarrier p1 u = q) : Ct shs ad G yX10_isCarrier cX10_isCarrier 2 (some .boolean) 1 22 [.ref (ad 116), .int p1] u (some (.int q)) u := by
  refine Ct_ofI (by decide) (Nat.le_of_ble_eq_true rfl) (fun X C hnL K => ?_)
  have C : Cx ad G X cX10_isCarrier "CarryFairModel" 1 22 := C
  unfold FX10_isCarrier at hf
  refine V_iload_n C 1 dX10_isCarrier_0 rfl rfl rfl ?_
  refine V_iconst C dX10_isCarrier_1 rfl (v := 0) rfl ?_
  refine V_aload_n C 0 dX10_isCarrier_2 rfl rfl rfl ?_
  refine V_getR C cf10 rfl 0 rfl (by decide) w1082 rfl dX10_isCarrier_3 rfl ?_
  refine V_bipush C dX10_isCarrier_6 rfl (v := 42) rfl ?_
  refine V_ildJ C rfl (by decide) (j := 42) (by decide) dX10_isCarrier_8 rfl ?_
  refine V_iconst C dX10_isCarrier_9 rfl (v := 1) rfl ?_
  refine V_isub C dX10_isCarrier_10 rfl ?_
  refine V_cSi C (As := [.int p1, .int 0, .int ((u 117 42) - 1)]) (st := []) M_X10_within w1180 ⟨by decide, by decide⟩ rfl rfl (Nat.le_of_ble_eq_true rfl) dX10_isCarrier_11 rfl (kX10_within rfl) ?_
  subst hf
  exact K _ _ _ dX10_isCarrier_14 rfl (nzb (bX10_within))
set_option maxHeartbeats 4000000 in
set_option maxRecDepth 100000 in
theorem kX10_isErrand {ad : Nat → Nat} {G : Gh} {p1 : Int32} {u : Mem} {q : Int32} (hf : FX10_isErrand p1 u = q) : Ct shs ad G yX10_isErrand cX10_isErrand 2 (some .boolean) 1 22 [.ref (ad 116), .int p1] u (some (.int q)) u := by
  refine Ct_ofI (by decide) (Nat.le_of_ble_eq_true rfl) (fun X C hnL K => ?_)
  have C : Cx ad G X cX10_isErrand "CarryFairModel" 1 22 := C
  unfold FX10_isErrand at hf
  refine V_iload_n C 1 dX10_isErrand_0 rfl rfl rfl ?_
  refine V_iconst C dX10_isErrand_1 rfl (v := 0) rfl ?_
  refine V_aload_n C 0 dX10_isErrand_2 rfl rfl rfl ?_
  refine V_getR C cf10 rfl 0 rfl (by decide) w1082 rfl dX10_isErrand_3 rfl ?_
  refine V_bipush C dX10_isErrand_6 rfl (v := 43) rfl ?_
  refine V_ildJ C rfl (by decide) (j := 43) (by decide) dX10_isErrand_8 rfl ?_
  refine V_iconst C dX10_isErrand_9 rfl (v := 1) rfl ?_
  refine V_isub C dX10_isErrand_10 rfl ?_
  refine V_cSi C (As := [.int p1, .int 0, .int ((u 117 43) - 1)]) (st := []) M_X10_within w1180 ⟨by decide, by decide⟩ rfl rfl (Nat.le_of_ble_eq_true rfl) dX10_isErrand_11 rfl (kX10_within rfl) ?_
  subst hf
  exact K _ _ _ dX10_isErrand_14 rfl (nzb (bX10_within))
set_option maxHeartbeats 4000000 in
set_option maxRecDepth 100000 in
theorem kX10_isWare {ad : Nat → Nat} {G : Gh} {p1 : Int32} {u : Mem} {q : Int32} (hf : FX10_isWare p1 u = q) : Ct shs ad G yX10_isWare cX10_isWare 2 (some .boolean) 1 22 [.ref (ad 116), .int p1] u (some (.int q)) u := by
  refine Ct_ofI (by decide) (Nat.le_of_ble_eq_true rfl) (fun X C hnL K => ?_)
  have C : Cx ad G X cX10_isWare "CarryFairModel" 1 22 := C
  unfold FX10_isWare at hf
  refine V_iload_n C 1 dX10_isWare_0 rfl rfl rfl ?_
  refine V_iconst C dX10_isWare_1 rfl (v := 0) rfl ?_
  refine V_aload_n C 0 dX10_isWare_2 rfl rfl rfl ?_
  refine V_getR C cf10 rfl 0 rfl (by decide) w1082 rfl dX10_isWare_3 rfl ?_
  refine V_bipush C dX10_isWare_6 rfl (v := 44) rfl ?_
  refine V_ildJ C rfl (by decide) (j := 44) (by decide) dX10_isWare_8 rfl ?_
  refine V_iconst C dX10_isWare_9 rfl (v := 1) rfl ?_
  refine V_isub C dX10_isWare_10 rfl ?_
  refine V_cSi C (As := [.int p1, .int 0, .int ((u 117 44) - 1)]) (st := []) M_X10_within w1180 ⟨by decide, by decide⟩ rfl rfl (Nat.le_of_ble_eq_true rfl) dX10_isWare_11 rfl (kX10_within rfl) ?_
  subst hf
  exact K _ _ _ dX10_isWare_14 rfl (nzb (bX10_within))
set_option maxHeartbeats 4000000 in
set_option maxRecDepth 100000 in
theorem kX10_isKind {ad : Nat → Nat} {G : Gh} {p0 : Int32} {u : Mem} {q : Int32} (hf : FX10_isKind p0 = q) : Ct shs ad G yX10_isKind cX10_isKind 1 (some .boolean) 1 22 [.int p0] u (some (.int q)) u := by
  refine Ct_ofI (by decide) (Nat.le_of_ble_eq_true rfl) (fun X C hnL K => ?_)
  have C : Cx ad G X cX10_isKind "CarryFairModel" 1 22 := C
  unfold FX10_isKind at hf
  refine V_iload_n C 0 dX10_isKind_0 rfl rfl rfl ?_
  refine V_iconst C dX10_isKind_1 rfl (v := 0) rfl ?_
  refine V_bipush C dX10_isKind_2 rfl (v := 6) rfl ?_
  refine V_cSi C (As := [.int p0, .int 0, .int 6]) (st := []) M_X10_within w1180 ⟨by decide, by decide⟩ rfl rfl (Nat.le_of_ble_eq_true rfl) dX10_isKind_4 rfl (kX10_within rfl) ?_
  subst hf
  exact K _ _ _ dX10_isKind_7 rfl (nzb (bX10_within))
set_option maxHeartbeats 4000000 in
set_option maxRecDepth 100000 in
theorem kX10_cAt {ad : Nat → Nat} {G : Gh} {p0 : Int32} {p1 : Int32} {u : Mem} {q : Int32} (hf : FX10_cAt p0 p1 = q) : Ct shs ad G yX10_cAt cX10_cAt 2 (some .int) 0 0 [.int p0, .int p1] u (some (.int q)) u := by
  refine Ct_ofI (by decide) (Nat.le_of_ble_eq_true rfl) (fun X C hnL K => ?_)
  have C : Cx ad G X cX10_cAt "CarryFairModel" 0 0 := C
  unfold FX10_cAt at hf
  refine V_bipush C dX10_cAt_0 rfl (v := 56) rfl ?_
  refine V_iconst C dX10_cAt_2 rfl (v := 5) rfl ?_
  refine V_iload_n C 0 dX10_cAt_3 rfl rfl rfl ?_
  refine V_imul C dX10_cAt_4 rfl ?_
  refine V_iadd C dX10_cAt_5 rfl ?_
  refine V_iload_n C 1 dX10_cAt_6 rfl rfl rfl ?_
  refine V_iadd C dX10_cAt_7 rfl ?_
  subst hf
  exact K _ _ _ dX10_cAt_8 rfl rfl
set_option maxHeartbeats 4000000 in
set_option maxRecDepth 100000 in
theorem kX10_cIs {ad : Nat → Nat} {G : Gh} {p1 : Int32} {p2 : Int32} {u : Mem} {q : Int32} (hf : FX10_cIs p1 p2 u = some q) : Ct shs ad G yX10_cIs cX10_cIs 3 (some .int) 1 21 [.ref (ad 116), .int p1, .int p2] u (some (.int q)) u := by
  refine Ct_ofI (by decide) (Nat.le_of_ble_eq_true rfl) (fun X C hnL K => ?_)
  have C : Cx ad G X cX10_cIs "CarryFairModel" 1 21 := C
  unfold FX10_cIs at hf
  refine V_aload_n C 0 dX10_cIs_0 rfl rfl rfl ?_
  refine V_getR C cf10 rfl 0 rfl (by decide) w1082 rfl dX10_cIs_1 rfl ?_
  refine V_iload_n C 1 dX10_cIs_4 rfl rfl rfl ?_
  refine V_iload_n C 2 dX10_cIs_5 rfl rfl rfl ?_
  refine V_cSi C (As := [.int p1, .int p2]) (st := [.ref (ad 117)]) M_X10_cAt w1193 ⟨by decide, by decide⟩ rfl rfl (Nat.le_of_ble_eq_true rfl) dX10_cIs_6 rfl (kX10_cAt rfl) ?_
  obtain ⟨g1, hf⟩ := gd hf
  refine V_ildJ C rfl g1 rfl dX10_cIs_9 rfl ?_
  obtain rfl := Option.some.inj hf
  exact K _ _ _ dX10_cIs_10 rfl rfl
set_option maxHeartbeats 4000000 in
set_option maxRecDepth 100000 in
theorem kX10_eAt {ad : Nat → Nat} {G : Gh} {p0 : Int32} {p1 : Int32} {u : Mem} {q : Int32} (hf : FX10_eAt p0 p1 = q) : Ct shs ad G yX10_eAt cX10_eAt 2 (some .int) 0 0 [.int p0, .int p1] u (some (.int q)) u := by
  refine Ct_ofI (by decide) (Nat.le_of_ble_eq_true rfl) (fun X C hnL K => ?_)
  have C : Cx ad G X cX10_eAt "CarryFairModel" 0 0 := C
  unfold FX10_eAt at hf
  refine V_bipush C dX10_eAt_0 rfl (v := 86) rfl ?_
  refine V_iconst C dX10_eAt_2 rfl (v := 5) rfl ?_
  refine V_iload_n C 0 dX10_eAt_3 rfl rfl rfl ?_
  refine V_imul C dX10_eAt_4 rfl ?_
  refine V_iadd C dX10_eAt_5 rfl ?_
  refine V_iload_n C 1 dX10_eAt_6 rfl rfl rfl ?_
  refine V_iadd C dX10_eAt_7 rfl ?_
  subst hf
  exact K _ _ _ dX10_eAt_8 rfl rfl
set_option maxHeartbeats 4000000 in
set_option maxRecDepth 100000 in
theorem kX10_eIs {ad : Nat → Nat} {G : Gh} {p1 : Int32} {p2 : Int32} {u : Mem} {q : Int32} (hf : FX10_eIs p1 p2 u = some q) : Ct shs ad G yX10_eIs cX10_eIs 3 (some .int) 1 21 [.ref (ad 116), .int p1, .int p2] u (some (.int q)) u := by
  refine Ct_ofI (by decide) (Nat.le_of_ble_eq_true rfl) (fun X C hnL K => ?_)
  have C : Cx ad G X cX10_eIs "CarryFairModel" 1 21 := C
  unfold FX10_eIs at hf
  refine V_aload_n C 0 dX10_eIs_0 rfl rfl rfl ?_
  refine V_getR C cf10 rfl 0 rfl (by decide) w1082 rfl dX10_eIs_1 rfl ?_
  refine V_iload_n C 1 dX10_eIs_4 rfl rfl rfl ?_
  refine V_iload_n C 2 dX10_eIs_5 rfl rfl rfl ?_
  refine V_cSi C (As := [.int p1, .int p2]) (st := [.ref (ad 117)]) M_X10_eAt w1226 ⟨by decide, by decide⟩ rfl rfl (Nat.le_of_ble_eq_true rfl) dX10_eIs_6 rfl (kX10_eAt rfl) ?_
  obtain ⟨g1, hf⟩ := gd hf
  refine V_ildJ C rfl g1 rfl dX10_eIs_9 rfl ?_
  obtain rfl := Option.some.inj hf
  exact K _ _ _ dX10_eIs_10 rfl rfl
set_option maxHeartbeats 4000000 in
set_option maxRecDepth 100000 in
theorem kX10_wAt {ad : Nat → Nat} {G : Gh} {p0 : Int32} {p1 : Int32} {u : Mem} {q : Int32} (hf : FX10_wAt p0 p1 = q) : Ct shs ad G yX10_wAt cX10_wAt 2 (some .int) 0 0 [.int p0, .int p1] u (some (.int q)) u := by
  refine Ct_ofI (by decide) (Nat.le_of_ble_eq_true rfl) (fun X C hnL K => ?_)
  have C : Cx ad G X cX10_wAt "CarryFairModel" 0 0 := C
  unfold FX10_wAt at hf
  refine V_bipush C dX10_wAt_0 rfl (v := 126) rfl ?_
  refine V_iconst C dX10_wAt_2 rfl (v := 2) rfl ?_
  refine V_iload_n C 0 dX10_wAt_3 rfl rfl rfl ?_
  refine V_imul C dX10_wAt_4 rfl ?_
  refine V_iadd C dX10_wAt_5 rfl ?_
  refine V_iload_n C 1 dX10_wAt_6 rfl rfl rfl ?_
  refine V_iadd C dX10_wAt_7 rfl ?_
  subst hf
  exact K _ _ _ dX10_wAt_8 rfl rfl
set_option maxHeartbeats 4000000 in
set_option maxRecDepth 100000 in
theorem kX10_newCarrier {ad : Nat → Nat} {G : Gh} {p1 : Int32} {p2 : Int32} {p3 : Int32} {u : Mem} {q : Int32 × Mem} (hf : FX10_newCarrier p1 p2 p3 u = some q) : Ct shs ad G yX10_newCarrier cX10_newCarrier 5 (some .int) 1 21 [.ref (ad 116), .int p1, .int p2, .int p3] u (some (.int q.1)) q.2 := by
  refine Ct_ofI (by decide) (Nat.le_of_ble_eq_true rfl) (fun X C hnL K => ?_)
  have C : Cx ad G X cX10_newCarrier "CarryFairModel" 1 21 := C
  unfold FX10_newCarrier at hf
  refine V_aload_n C 0 dX10_newCarrier_0 rfl rfl rfl ?_
  refine V_getR C cf10 rfl 0 rfl (by decide) w1082 rfl dX10_newCarrier_1 rfl ?_
  refine V_bipush C dX10_newCarrier_4 rfl (v := 42) rfl ?_
  refine V_ildJ C rfl (by decide) (j := 42) (by decide) dX10_newCarrier_6 rfl ?_
  refine V_istore C (L' := [(0, .ref (ad 116)), (1, .int p1), (2, .int p2), (3, .int p3), (4, .int (u 117 42))]) dX10_newCarrier_7 rfl (by decide) hnL [1, 2, 3, 4, 0] rfl ?_
  refine V_aload_n C 0 dX10_newCarrier_9 rfl rfl rfl ?_
  refine V_getR C cf10 rfl 0 rfl (by decide) w1082 rfl dX10_newCarrier_10 rfl ?_
  refine V_iload C 4 dX10_newCarrier_13 rfl rfl ?_
  refine V_iconst C dX10_newCarrier_15 rfl (v := 0) rfl ?_
  refine V_cSi C (As := [.int (u 117 42), .int 0]) (st := [.ref (ad 117)]) M_X10_cAt w1193 ⟨by decide, by decide⟩ rfl rfl (Nat.le_of_ble_eq_true rfl) dX10_newCarrier_16 rfl (kX10_cAt rfl) ?_
  refine V_iload_n C 1 dX10_newCarrier_19 rfl rfl rfl ?_
  obtain ⟨g1, hf⟩ := gd hf
  refine V_istJ C rfl g1 rfl dX10_newCarrier_20 rfl ?_
  refine V_aload_n C 0 dX10_newCarrier_21 rfl rfl rfl ?_
  refine V_getR C cf10 rfl 0 rfl (by decide) w1082 rfl dX10_newCarrier_22 rfl ?_
  refine V_iload C 4 dX10_newCarrier_25 rfl rfl ?_
  refine V_iconst C dX10_newCarrier_27 rfl (v := 1) rfl ?_
  refine V_cSi C (As := [.int (u 117 42), .int 1]) (st := [.ref (ad 117)]) M_X10_cAt w1193 ⟨by decide, by decide⟩ rfl rfl (Nat.le_of_ble_eq_true rfl) dX10_newCarrier_28 rfl (kX10_cAt rfl) ?_
  refine V_iload_n C 2 dX10_newCarrier_31 rfl rfl rfl ?_
  obtain ⟨g2, hf⟩ := gd hf
  refine V_istJ C rfl g2 rfl dX10_newCarrier_32 rfl ?_
  refine V_aload_n C 0 dX10_newCarrier_33 rfl rfl rfl ?_
  refine V_getR C cf10 rfl 0 rfl (by decide) w1082 rfl dX10_newCarrier_34 rfl ?_
  refine V_iload C 4 dX10_newCarrier_37 rfl rfl ?_
  refine V_iconst C dX10_newCarrier_39 rfl (v := 2) rfl ?_
  refine V_cSi C (As := [.int (u 117 42), .int 2]) (st := [.ref (ad 117)]) M_X10_cAt w1193 ⟨by decide, by decide⟩ rfl rfl (Nat.le_of_ble_eq_true rfl) dX10_newCarrier_40 rfl (kX10_cAt rfl) ?_
  refine V_iload_n C 3 dX10_newCarrier_43 rfl rfl rfl ?_
  obtain ⟨g3, hf⟩ := gd hf
  refine V_istJ C rfl g3 rfl dX10_newCarrier_44 rfl ?_
  obtain ⟨w4, ew4, hf⟩ := nmd hf
  rw [← ew4]
  refine V_aload_n C 0 dX10_newCarrier_45 rfl rfl rfl ?_
  refine V_getR C cf10 rfl 0 rfl (by decide) w1082 rfl dX10_newCarrier_46 rfl ?_
  refine V_iload C 4 dX10_newCarrier_49 rfl rfl ?_
  refine V_iconst C dX10_newCarrier_51 rfl (v := 3) rfl ?_
  refine V_cSi C (As := [.int (u 117 42), .int 3]) (st := [.ref (ad 117)]) M_X10_cAt w1193 ⟨by decide, by decide⟩ rfl rfl (Nat.le_of_ble_eq_true rfl) dX10_newCarrier_52 rfl (kX10_cAt rfl) ?_
  refine V_iconst C dX10_newCarrier_55 rfl (v := 0) rfl ?_
  obtain ⟨g5, hf⟩ := gd hf
  refine V_istJ C rfl g5 rfl dX10_newCarrier_56 rfl ?_
  refine V_aload_n C 0 dX10_newCarrier_57 rfl rfl rfl ?_
  refine V_getR C cf10 rfl 0 rfl (by decide) w1082 rfl dX10_newCarrier_58 rfl ?_
  refine V_iload C 4 dX10_newCarrier_61 rfl rfl ?_
  refine V_iconst C dX10_newCarrier_63 rfl (v := 4) rfl ?_
  refine V_cSi C (As := [.int (u 117 42), .int 4]) (st := [.ref (ad 117)]) M_X10_cAt w1193 ⟨by decide, by decide⟩ rfl rfl (Nat.le_of_ble_eq_true rfl) dX10_newCarrier_64 rfl (kX10_cAt rfl) ?_
  refine V_iconst C dX10_newCarrier_67 rfl (v := 0) rfl ?_
  obtain ⟨g6, hf⟩ := gd hf
  refine V_istJ C rfl g6 rfl dX10_newCarrier_68 rfl ?_
  refine V_aload_n C 0 dX10_newCarrier_69 rfl rfl rfl ?_
  refine V_getR C cf10 rfl 0 rfl (by decide) w1082 rfl dX10_newCarrier_70 rfl ?_
  refine V_bipush C dX10_newCarrier_73 rfl (v := 42) rfl ?_
  refine V_dup2 C dX10_newCarrier_75 rfl rfl rfl ?_
  refine V_ildJ C rfl (by decide) (j := 42) (by decide) dX10_newCarrier_76 rfl ?_
  refine V_iconst C dX10_newCarrier_77 rfl (v := 1) rfl ?_
  refine V_iadd C dX10_newCarrier_78 rfl ?_
  refine V_istJ C rfl (by decide) (j := 42) (by decide) dX10_newCarrier_79 rfl ?_
  obtain ⟨w7, ew7, hf⟩ := nmd hf
  rw [← ew7]
  refine V_iload C 4 dX10_newCarrier_80 rfl rfl ?_
  obtain rfl := Option.some.inj hf
  exact K _ _ _ dX10_newCarrier_82 rfl rfl
set_option maxHeartbeats 4000000 in
set_option maxRecDepth 100000 in
theorem kX10_carrier {ad : Nat → Nat} {G : Gh} {p1 : Int32} {u : Mem} {q : Int32 × Mem} (hf : FX10_carrier p1 u = some q) : Ct shs ad G yX10_carrier cX10_carrier 2 (some .int) 2 45 [.ref (ad 116), .int p1] u (some (.int q.1)) q.2 := by
  refine Ct_ofI (by decide) (Nat.le_of_ble_eq_true rfl) (fun X C hnL K => ?_)
  have C : Cx ad G X cX10_carrier "CarryFairModel" 2 45 := C
  unfold FX10_carrier at hf
  refine V_iload_n C 1 dX10_carrier_0 rfl rfl rfl ?_
  refine V_cSi C (As := [.int p1]) (st := []) M_X10_isKind w1177 ⟨by decide, by decide⟩ rfl rfl (Nat.le_of_ble_eq_true rfl) dX10_carrier_1 rfl (kX10_isKind rfl) ?_
  refine V_if_ne C dX10_carrier_4 (tgt := 14) rfl rfl (fun c5 => ?_) (fun c5 => ?_)
  · replace hf := ineg c5 hf
    refine V_aload_n C 0 dX10_carrier_14 rfl rfl rfl ?_
    refine V_getR C cf10 rfl 0 rfl (by decide) w1082 rfl dX10_carrier_15 rfl ?_
    refine V_bipush C dX10_carrier_18 rfl (v := 42) rfl ?_
    refine V_ildJ C rfl (by decide) (j := 42) (by decide) dX10_carrier_20 rfl ?_
    refine V_bipush C dX10_carrier_21 rfl (v := 6) rfl ?_
    refine V_icmp_ne C dX10_carrier_23 (tgt := 35) rfl rfl (fun c3 => ?_) (fun c3 => ?_)
    · replace hf := ineg c3 hf
      refine V_aload_n C 0 dX10_carrier_35 rfl rfl rfl ?_
      refine V_iload_n C 1 dX10_carrier_36 rfl rfl rfl ?_
      refine V_iconst C dX10_carrier_37 rfl (v := 0) rfl ?_
      refine V_bipush C dX10_carrier_38 rfl (v := 20) rfl ?_
      obtain ⟨q1, hq1, hf⟩ := obd hf
      refine V_cVi C (b := 116) (As := [.int p1, .int 0, .int 20]) (st := []) cf10 rfl M_X10_newCarrier w1189 ⟨by decide, by decide⟩ rfl rfl (Nat.le_of_ble_eq_true rfl) dX10_carrier_40 rfl (kX10_newCarrier hq1) ?_
      obtain rfl := Option.some.inj hf
      exact K _ _ _ dX10_carrier_43 rfl rfl
    · replace hf := ipos c3 hf
      refine V_aload_n C 0 dX10_carrier_26 rfl rfl rfl ?_
      refine V_ldc C dX10_carrier_27 rfl w1188 ?_
      obtain ⟨q2, hq2, hf⟩ := obd hf
      refine V_cVi C (b := 116) (As := [.int (-1000002)]) (st := []) cf10 rfl M_X10_finding w1184 ⟨by decide, by decide⟩ rfl rfl (Nat.le_of_ble_eq_true rfl) dX10_carrier_29 rfl (kX10_finding hq2) ?_
      refine V_goto C dX10_carrier_32 (tgt := 43) rfl ?_
      obtain rfl := Option.some.inj hf
      exact K _ _ _ dX10_carrier_43 rfl rfl
  · replace hf := ipos c5 hf
    refine V_aload_n C 0 dX10_carrier_7 rfl rfl rfl ?_
    refine V_ldc C dX10_carrier_8 rfl w1183 ?_
    obtain ⟨q4, hq4, hf⟩ := obd hf
    refine V_cVi C (b := 116) (As := [.int (-1000001)]) (st := []) cf10 rfl M_X10_finding w1184 ⟨by decide, by decide⟩ rfl rfl (Nat.le_of_ble_eq_true rfl) dX10_carrier_10 rfl (kX10_finding hq4) ?_
    obtain rfl := Option.some.inj hf
    exact K _ _ _ dX10_carrier_13 rfl rfl
set_option maxHeartbeats 4000000 in
set_option maxRecDepth 100000 in
theorem kX10_above {ad : Nat → Nat} {G : Gh} {p0 : Int32} {u : Mem} {q : Int32} (hf : FX10_above p0 = q) : Ct shs ad G yX10_above cX10_above 1 (some .int) 0 0 [.int p0] u (some (.int q)) u := by
  refine Ct_ofI (by decide) (Nat.le_of_ble_eq_true rfl) (fun X C hnL K => ?_)
  have C : Cx ad G X cX10_above "CarryFairModel" 0 0 := C
  unfold FX10_above at hf
  refine V_iload_n C 0 dX10_above_0 rfl rfl rfl ?_
  refine V_if_ne C dX10_above_1 (tgt := 8) rfl rfl (fun c4 => ?_) (fun c4 => ?_)
  · replace hf := ineg c4 hf
    refine V_iload_n C 0 dX10_above_8 rfl rfl rfl ?_
    refine V_iconst C dX10_above_9 rfl (v := 3) rfl ?_
    refine V_icmp_ne C dX10_above_10 (tgt := 17) rfl rfl (fun c3 => ?_) (fun c3 => ?_)
    · replace hf := ineg c3 hf
      refine V_iload_n C 0 dX10_above_17 rfl rfl rfl ?_
      refine V_iconst C dX10_above_18 rfl (v := 4) rfl ?_
      refine V_icmp_ne C dX10_above_19 (tgt := 26) rfl rfl (fun c2 => ?_) (fun c2 => ?_)
      · replace hf := ineg c2 hf
        refine V_iload_n C 0 dX10_above_26 rfl rfl rfl ?_
        refine V_bipush C dX10_above_27 rfl (v := 6) rfl ?_
        refine V_icmp_ne C dX10_above_29 (tgt := 36) rfl rfl (fun c1 => ?_) (fun c1 => ?_)
        · replace hf := ineg c1 hf
          refine V_iconst C dX10_above_36 rfl (v := 0) rfl ?_
          subst hf
          exact K _ _ _ dX10_above_37 rfl rfl
        · replace hf := ipos c1 hf
          refine V_iconst C dX10_above_32 rfl (v := 5) rfl ?_
          refine V_goto C dX10_above_33 (tgt := 37) rfl ?_
          subst hf
          exact K _ _ _ dX10_above_37 rfl rfl
      · replace hf := ipos c2 hf
        refine V_iconst C dX10_above_22 rfl (v := 2) rfl ?_
        refine V_goto C dX10_above_23 (tgt := 37) rfl ?_
        subst hf
        exact K _ _ _ dX10_above_37 rfl rfl
    · replace hf := ipos c3 hf
      refine V_iconst C dX10_above_13 rfl (v := 1) rfl ?_
      refine V_goto C dX10_above_14 (tgt := 37) rfl ?_
      subst hf
      exact K _ _ _ dX10_above_37 rfl rfl
  · replace hf := ipos c4 hf
    refine V_iconst C dX10_above_4 rfl (v := (-1)) (by decide) ?_
    refine V_goto C dX10_above_5 (tgt := 37) rfl ?_
    subst hf
    exact K _ _ _ dX10_above_37 rfl rfl
set_option maxHeartbeats 4000000 in
set_option maxRecDepth 100000 in
theorem kX10_isUnder {ad : Nat → Nat} {G : Gh} {p0 : Int32} {p1 : Int32} {u : Mem} {q : Int32} (hf : FX10_isUnder p0 p1 = some q) : Ct shs ad G yX10_isUnder cX10_isUnder 3 (some .boolean) 1 20 [.int p0, .int p1] u (some (.int q)) u := by
  refine Ct_ofI (by decide) (Nat.le_of_ble_eq_true rfl) (fun X C hnL K => ?_)
  have C : Cx ad G X cX10_isUnder "CarryFairModel" 1 20 := C
  unfold FX10_isUnder at hf
  have Lp2 : ∀ (x0 : (Int32)) (q2 : (Int32)), lp (BX10_isUnder_2 p0 p1) FU x0 = some q2 → V shs ad G X 19 [(0, .int p0), (1, .int p1), (2, .int q2)] [] u → V shs ad G X 2 [(0, .int p0), (1, .int p1), (2, .int x0)] [] u := by
    intro  x0 q2 hq hx2_0
    refine lp_V (BX10_isUnder_2 p0 p1) (fun x2 => V shs ad G X 2 [(0, .int p0), (1, .int p1), (2, .int x2)] [] u) q2 (fun rec2 ih2 x2 hf => ?_) FU x0 hq
    unfold BX10_isUnder_2 at hf
    refine V_iload_n C 2 dX10_isUnder_2 rfl rfl rfl ?_
    refine V_if_lt C dX10_isUnder_3 (tgt := 19) rfl rfl (fun c2 => ?_) (fun c2 => ?_)
    · replace hf := ipos c2 hf
      obtain rfl := Option.some.inj hf
      exact hx2_0
    · replace hf := ineg c2 hf
      refine V_iload_n C 2 dX10_isUnder_6 rfl rfl rfl ?_
      refine V_iload_n C 1 dX10_isUnder_7 rfl rfl rfl ?_
      refine V_icmp_eq C dX10_isUnder_8 (tgt := 19) rfl rfl (fun c1 => ?_) (fun c1 => ?_)
      · replace hf := ipos c1 hf
        obtain rfl := Option.some.inj hf
        exact hx2_0
      · replace hf := ineg c1 hf
        refine V_iload_n C 2 dX10_isUnder_11 rfl rfl rfl ?_
        refine V_cSi C (As := [.int x2]) (st := []) M_X10_above w1215 ⟨by decide, by decide⟩ rfl rfl (Nat.le_of_ble_eq_true rfl) dX10_isUnder_12 rfl (kX10_above rfl) ?_
        refine V_istore_n C (L' := [(0, .int p0), (1, .int p1), (2, .int (FX10_above x2))]) dX10_isUnder_15 rfl rfl (by decide) hnL [1, 2, 0] rfl ?_
        refine V_goto C dX10_isUnder_16 (tgt := 2) rfl ?_
        exact ih2 (FX10_above x2) hf
  refine V_iload_n C 0 dX10_isUnder_0 rfl rfl rfl ?_
  refine V_istore_n C (L' := [(0, .int p0), (1, .int p1), (2, .int p0)]) dX10_isUnder_1 rfl rfl (by decide) hnL [1, 2, 0] rfl ?_
  obtain ⟨q2_3, hq2_3, hf⟩ := obd hf
  refine Lp2  p0 q2_3 hq2_3 ?_
  refine V_iload_n C 2 dX10_isUnder_19 rfl rfl rfl ?_
  refine V_if_lt C dX10_isUnder_20 (tgt := 27) rfl rfl (fun c4 => ?_) (fun c4 => ?_)
  · replace hf := ipos c4 hf
    refine V_iconst C dX10_isUnder_27 rfl (v := 0) rfl ?_
    obtain rfl := Option.some.inj hf
    exact K _ _ _ dX10_isUnder_28 rfl (by decide)
  · replace hf := ineg c4 hf
    refine V_iconst C dX10_isUnder_23 rfl (v := 1) rfl ?_
    refine V_goto C dX10_isUnder_24 (tgt := 28) rfl ?_
    obtain rfl := Option.some.inj hf
    exact K _ _ _ dX10_isUnder_28 rfl (by decide)
set_option maxHeartbeats 4000000 in
set_option maxRecDepth 100000 in
theorem kX10_bears {ad : Nat → Nat} {G : Gh} {p1 : Int32} {u : Mem} {q : Int32} (hf : FX10_bears p1 u = some q) : Ct shs ad G yX10_bears cX10_bears 4 (some .int) 2 43 [.ref (ad 116), .int p1] u (some (.int q)) u := by
  refine Ct_ofI (by decide) (Nat.le_of_ble_eq_true rfl) (fun X C hnL K => ?_)
  have C : Cx ad G X cX10_bears "CarryFairModel" 2 43 := C
  unfold FX10_bears at hf
  refine V_aload_n C 0 dX10_bears_0 rfl rfl rfl ?_
  refine V_iload_n C 1 dX10_bears_1 rfl rfl rfl ?_
  refine V_iconst C dX10_bears_2 rfl (v := 0) rfl ?_
  obtain ⟨q1, hq1, hf⟩ := obd hf
  refine V_cVi C (b := 116) (As := [.int p1, .int 0]) (st := []) cf10 rfl M_X10_cIs w1208 ⟨by decide, by decide⟩ rfl rfl (Nat.le_of_ble_eq_true rfl) dX10_bears_3 rfl (kX10_cIs hq1) ?_
  refine V_istore_n C (L' := [(0, .ref (ad 116)), (1, .int p1), (2, .int q1)]) dX10_bears_6 rfl rfl (by decide) hnL [1, 2, 0] rfl ?_
  refine V_aload_n C 0 dX10_bears_7 rfl rfl rfl ?_
  refine V_iload_n C 1 dX10_bears_8 rfl rfl rfl ?_
  refine V_iconst C dX10_bears_9 rfl (v := 2) rfl ?_
  obtain ⟨q2, hq2, hf⟩ := obd hf
  refine V_cVi C (b := 116) (As := [.int p1, .int 2]) (st := []) cf10 rfl M_X10_cIs w1208 ⟨by decide, by decide⟩ rfl rfl (Nat.le_of_ble_eq_true rfl) dX10_bears_10 rfl (kX10_cIs hq2) ?_
  refine V_istore_n C (L' := [(0, .ref (ad 116)), (1, .int p1), (2, .int q1), (3, .int q2)]) dX10_bears_13 rfl rfl (by decide) hnL [1, 2, 3, 0] rfl ?_
  refine V_iload_n C 2 dX10_bears_14 rfl rfl rfl ?_
  refine V_iconst C dX10_bears_15 rfl (v := 1) rfl ?_
  obtain ⟨q3, hq3, hf⟩ := obd hf
  refine V_cSi C (As := [.int q1, .int 1]) (st := []) M_X10_isUnder w1212 ⟨by decide, by decide⟩ rfl rfl (Nat.le_of_ble_eq_true rfl) dX10_bears_16 rfl (kX10_isUnder hq3) ?_
  refine V_if_eq C dX10_bears_19 (tgt := 28) rfl rfl (fun c6 => ?_) (fun c6 => ?_)
  · replace hf := ipos c6 hf
    refine V_iload_n C 2 dX10_bears_28 rfl rfl rfl ?_
    refine V_iconst C dX10_bears_29 rfl (v := 2) rfl ?_
    obtain ⟨q4, hq4, hf⟩ := obd hf
    refine V_cSi C (As := [.int q1, .int 2]) (st := []) M_X10_isUnder w1212 ⟨by decide, by decide⟩ rfl rfl (Nat.le_of_ble_eq_true rfl) dX10_bears_30 rfl (kX10_isUnder hq4) ?_
    refine V_if_eq C dX10_bears_33 (tgt := 42) rfl rfl (fun c5 => ?_) (fun c5 => ?_)
    · replace hf := ipos c5 hf
      refine V_iload_n C 3 dX10_bears_42 rfl rfl rfl ?_
      obtain rfl := Option.some.inj hf
      exact K _ _ _ dX10_bears_43 rfl rfl
    · replace hf := ineg c5 hf
      refine V_iconst C dX10_bears_36 rfl (v := 2) rfl ?_
      refine V_iload_n C 3 dX10_bears_37 rfl rfl rfl ?_
      refine V_imul C dX10_bears_38 rfl ?_
      refine V_goto C dX10_bears_39 (tgt := 43) rfl ?_
      obtain rfl := Option.some.inj hf
      exact K _ _ _ dX10_bears_43 rfl rfl
  · replace hf := ineg c6 hf
    refine V_iload_n C 3 dX10_bears_22 rfl rfl rfl ?_
    refine V_iconst C dX10_bears_23 rfl (v := 2) rfl ?_
    refine V_idiv C dX10_bears_24 rfl (by decide) ?_
    refine V_goto C dX10_bears_25 (tgt := 43) rfl ?_
    obtain rfl := Option.some.inj hf
    exact K _ _ _ dX10_bears_43 rfl rfl
set_option maxHeartbeats 4000000 in
set_option maxRecDepth 100000 in
theorem kX10_getsFor {ad : Nat → Nat} {G : Gh} {p1 : Int32} {p2 : Int32} {u : Mem} {q : Int32} (hf : FX10_getsFor p1 p2 u = some q) : Ct shs ad G yX10_getsFor cX10_getsFor 3 (some .int) 2 43 [.ref (ad 116), .int p1, .int p2] u (some (.int q)) u := by
  refine Ct_ofI (by decide) (Nat.le_of_ble_eq_true rfl) (fun X C hnL K => ?_)
  have C : Cx ad G X cX10_getsFor "CarryFairModel" 2 43 := C
  unfold FX10_getsFor at hf
  refine V_aload_n C 0 dX10_getsFor_0 rfl rfl rfl ?_
  refine V_iload_n C 1 dX10_getsFor_1 rfl rfl rfl ?_
  refine V_iconst C dX10_getsFor_2 rfl (v := 0) rfl ?_
  obtain ⟨q1, hq1, hf⟩ := obd hf
  refine V_cVi C (b := 116) (As := [.int p1, .int 0]) (st := []) cf10 rfl M_X10_cIs w1208 ⟨by decide, by decide⟩ rfl rfl (Nat.le_of_ble_eq_true rfl) dX10_getsFor_3 rfl (kX10_cIs hq1) ?_
  by_cases c2 : q1 = 2
  · replace hf := ipos c2 hf
    refine V_tin C dX10_getsFor_6 2 c2 (by decide) (by decide) rfl (tgt := 32) rfl ?_
    refine V_iload_n C 2 dX10_getsFor_32 rfl rfl rfl ?_
    refine V_iconst C dX10_getsFor_33 rfl (v := 2) rfl ?_
    refine V_idiv C dX10_getsFor_34 rfl (by decide) ?_
    obtain rfl := Option.some.inj hf
    exact K _ _ _ dX10_getsFor_35 rfl rfl
  replace hf := ineg c2 hf
  by_cases c3 : q1 = 3
  · replace hf := ipos c3 hf
    refine V_tin C dX10_getsFor_6 3 c3 (by decide) (by decide) rfl (tgt := 42) rfl ?_
    refine V_iload_n C 2 dX10_getsFor_42 rfl rfl rfl ?_
    refine V_iload_n C 2 dX10_getsFor_43 rfl rfl rfl ?_
    refine V_bipush C dX10_getsFor_44 rfl (v := 10) rfl ?_
    refine V_idiv C dX10_getsFor_46 rfl (by decide) ?_
    refine V_iadd C dX10_getsFor_47 rfl ?_
    obtain rfl := Option.some.inj hf
    exact K _ _ _ dX10_getsFor_48 rfl rfl
  replace hf := ineg c3 hf
  by_cases c4 : q1 = 4
  · replace hf := ipos c4 hf
    refine V_tin C dX10_getsFor_6 4 c4 (by decide) (by decide) rfl (tgt := 36) rfl ?_
    refine V_iload_n C 2 dX10_getsFor_36 rfl rfl rfl ?_
    refine V_iconst C dX10_getsFor_37 rfl (v := 2) rfl ?_
    refine V_idiv C dX10_getsFor_38 rfl (by decide) ?_
    refine V_iconst C dX10_getsFor_39 rfl (v := 1) rfl ?_
    refine V_iadd C dX10_getsFor_40 rfl ?_
    obtain rfl := Option.some.inj hf
    exact K _ _ _ dX10_getsFor_41 rfl rfl
  replace hf := ineg c4 hf
  refine V_tout C dX10_getsFor_6 (by have nc2 := lv_neT (a := 2) c2 (by decide); have nc3 := lv_neT (a := 3) c3 (by decide); have nc4 := lv_neT (a := 4) c4 (by decide); omega) (tgt := 49) rfl ?_
  refine V_iload_n C 2 dX10_getsFor_49 rfl rfl rfl ?_
  obtain rfl := Option.some.inj hf
  exact K _ _ _ dX10_getsFor_50 rfl rfl
set_option maxHeartbeats 4000000 in
set_option maxRecDepth 100000 in
theorem kX10_carries {ad : Nat → Nat} {G : Gh} {p1 : Int32} {u : Mem} {q : Int32} (hf : FX10_carries p1 u = some q) : Ct shs ad G yX10_carries cX10_carries 4 (some .int) 2 43 [.ref (ad 116), .int p1] u (some (.int q)) u := by
  refine Ct_ofI (by decide) (Nat.le_of_ble_eq_true rfl) (fun X C hnL K => ?_)
  have C : Cx ad G X cX10_carries "CarryFairModel" 2 43 := C
  unfold FX10_carries at hf
  have Lp4 : ∀ (x0 : (Int32 × Int32)) (q4 : (Int32 × Int32)), lp (BX10_carries_4 p1 u) FU x0 = some q4 → V shs ad G X 51 [(0, .ref (ad 116)), (1, .int p1), (2, .int q4.1), (3, .int q4.2)] [] u → V shs ad G X 4 [(0, .ref (ad 116)), (1, .int p1), (2, .int x0.1), (3, .int x0.2)] [] u := by
    intro  x0 q4 hq hx4_0
    refine lp_V (BX10_carries_4 p1 u) (fun x4 => V shs ad G X 4 [(0, .ref (ad 116)), (1, .int p1), (2, .int x4.1), (3, .int x4.2)] [] u) q4 (fun rec4 ih4 x4 hf => ?_) FU x0 hq
    unfold BX10_carries_4 at hf
    refine V_iload_n C 3 dX10_carries_4 rfl rfl rfl ?_
    refine V_aload_n C 0 dX10_carries_5 rfl rfl rfl ?_
    refine V_getR C cf10 rfl 0 rfl (by decide) w1082 rfl dX10_carries_6 rfl ?_
    refine V_bipush C dX10_carries_9 rfl (v := 43) rfl ?_
    refine V_ildJ C rfl (by decide) (j := 43) (by decide) dX10_carries_11 rfl ?_
    refine V_icmp_ge C dX10_carries_12 (tgt := 51) rfl rfl (fun c5 => ?_) (fun c5 => ?_)
    · replace hf := ipos c5 hf
      obtain rfl := Option.some.inj hf
      exact hx4_0
    · replace hf := ineg c5 hf
      refine V_iload_n C 2 dX10_carries_15 rfl rfl rfl ?_
      refine V_aload_n C 0 dX10_carries_16 rfl rfl rfl ?_
      refine V_iload_n C 3 dX10_carries_17 rfl rfl rfl ?_
      refine V_iconst C dX10_carries_18 rfl (v := 3) rfl ?_
      obtain ⟨q1, hq1, hf⟩ := obd hf
      refine V_cVi C (b := 116) (As := [.int x4.2, .int 3]) (st := [.int x4.1]) cf10 rfl M_X10_eIs w1222 ⟨by decide, by decide⟩ rfl rfl (Nat.le_of_ble_eq_true rfl) dX10_carries_19 rfl (kX10_eIs hq1) ?_
      refine V_iconst C dX10_carries_22 rfl (v := 1) rfl ?_
      refine V_icmp_ne C dX10_carries_23 (tgt := 42) rfl rfl (fun c4 => ?_) (fun c4 => ?_)
      · replace hf := ineg c4 hf
        refine V_iconst C dX10_carries_42 rfl (v := 0) rfl ?_
        refine V_ior C dX10_carries_43 rfl ?_
        refine V_istore_n C (L' := [(0, .ref (ad 116)), (1, .int p1), (2, .int (x4.1 ||| 0)), (3, .int x4.2)]) dX10_carries_44 rfl rfl (by decide) hnL [1, 2, 0, 3] rfl ?_
        refine V_iinc C (v := (x4.2 + 1)) (L' := [(0, .ref (ad 116)), (1, .int p1), (2, .int (x4.1 ||| 0)), (3, .int (x4.2 + 1))]) 3 dX10_carries_45 rfl rfl rfl (by decide) hnL [1, 2, 3, 0] rfl ?_
        refine V_goto C dX10_carries_48 (tgt := 4) rfl ?_
        exact ih4 ((x4.1 ||| 0), (x4.2 + 1)) hf
      · replace hf := ipos c4 hf
        refine V_aload_n C 0 dX10_carries_26 rfl rfl rfl ?_
        refine V_iload_n C 3 dX10_carries_27 rfl rfl rfl ?_
        refine V_iconst C dX10_carries_28 rfl (v := 4) rfl ?_
        obtain ⟨q2, hq2, hf⟩ := obd hf
        refine V_cVi C (b := 116) (As := [.int x4.2, .int 4]) (st := [.int x4.1]) cf10 rfl M_X10_eIs w1222 ⟨by decide, by decide⟩ rfl rfl (Nat.le_of_ble_eq_true rfl) dX10_carries_29 rfl (kX10_eIs hq2) ?_
        refine V_iload_n C 1 dX10_carries_32 rfl rfl rfl ?_
        refine V_icmp_ne C dX10_carries_33 (tgt := 42) rfl rfl (fun c3 => ?_) (fun c3 => ?_)
        · replace hf := ineg c3 hf
          refine V_iconst C dX10_carries_42 rfl (v := 0) rfl ?_
          refine V_ior C dX10_carries_43 rfl ?_
          refine V_istore_n C (L' := [(0, .ref (ad 116)), (1, .int p1), (2, .int (x4.1 ||| 0)), (3, .int x4.2)]) dX10_carries_44 rfl rfl (by decide) hnL [1, 2, 0, 3] rfl ?_
          refine V_iinc C (v := (x4.2 + 1)) (L' := [(0, .ref (ad 116)), (1, .int p1), (2, .int (x4.1 ||| 0)), (3, .int (x4.2 + 1))]) 3 dX10_carries_45 rfl rfl rfl (by decide) hnL [1, 2, 3, 0] rfl ?_
          refine V_goto C dX10_carries_48 (tgt := 4) rfl ?_
          exact ih4 ((x4.1 ||| 0), (x4.2 + 1)) hf
        · replace hf := ipos c3 hf
          refine V_iconst C dX10_carries_36 rfl (v := 1) rfl ?_
          refine V_iload_n C 3 dX10_carries_37 rfl rfl rfl ?_
          refine V_jshl C dX10_carries_38 rfl ?_
          refine V_goto C dX10_carries_39 (tgt := 43) rfl ?_
          refine V_ior C dX10_carries_43 rfl ?_
          refine V_istore_n C (L' := [(0, .ref (ad 116)), (1, .int p1), (2, .int (x4.1 ||| (jshl 1 x4.2))), (3, .int x4.2)]) dX10_carries_44 rfl rfl (by decide) hnL [1, 2, 0, 3] rfl ?_
          refine V_iinc C (v := (x4.2 + 1)) (L' := [(0, .ref (ad 116)), (1, .int p1), (2, .int (x4.1 ||| (jshl 1 x4.2))), (3, .int (x4.2 + 1))]) 3 dX10_carries_45 rfl rfl rfl (by decide) hnL [1, 2, 3, 0] rfl ?_
          refine V_goto C dX10_carries_48 (tgt := 4) rfl ?_
          exact ih4 ((x4.1 ||| (jshl 1 x4.2)), (x4.2 + 1)) hf
  refine V_iconst C dX10_carries_0 rfl (v := 0) rfl ?_
  refine V_istore_n C (L' := [(0, .ref (ad 116)), (1, .int p1), (2, .int 0)]) dX10_carries_1 rfl rfl (by decide) hnL [1, 2, 0] rfl ?_
  refine V_iconst C dX10_carries_2 rfl (v := 0) rfl ?_
  refine V_istore_n C (L' := [(0, .ref (ad 116)), (1, .int p1), (2, .int 0), (3, .int 0)]) dX10_carries_3 rfl rfl (by decide) hnL [1, 2, 3, 0] rfl ?_
  obtain ⟨q4_6, hq4_6, hf⟩ := obd hf
  refine Lp4  (0, 0) q4_6 hq4_6 ?_
  refine V_iload_n C 2 dX10_carries_51 rfl rfl rfl ?_
  obtain rfl := Option.some.inj hf
  exact K _ _ _ dX10_carries_52 rfl rfl
set_option maxHeartbeats 4000000 in
set_option maxRecDepth 100000 in
theorem kX10_weighs {ad : Nat → Nat} {G : Gh} {p1 : Int32} {u : Mem} {q : Int32} (hf : FX10_weighs p1 u = some q) : Ct shs ad G yX10_weighs cX10_weighs 4 (some .int) 2 43 [.ref (ad 116), .int p1] u (some (.int q)) u := by
  refine Ct_ofI (by decide) (Nat.le_of_ble_eq_true rfl) (fun X C hnL K => ?_)
  have C : Cx ad G X cX10_weighs "CarryFairModel" 2 43 := C
  unfold FX10_weighs at hf
  have Lp4 : ∀ (x0 : (Int32 × Int32)) (q4 : (Int32 × Int32)), lp (BX10_weighs_4 p1 u) FU x0 = some q4 → V shs ad G X 42 [(0, .ref (ad 116)), (1, .int p1), (2, .int q4.1), (3, .int q4.2)] [] u → V shs ad G X 4 [(0, .ref (ad 116)), (1, .int p1), (2, .int x0.1), (3, .int x0.2)] [] u := by
    intro  x0 q4 hq hx4_0
    refine lp_V (BX10_weighs_4 p1 u) (fun x4 => V shs ad G X 4 [(0, .ref (ad 116)), (1, .int p1), (2, .int x4.1), (3, .int x4.2)] [] u) q4 (fun rec4 ih4 x4 hf => ?_) FU x0 hq
    unfold BX10_weighs_4 at hf
    refine V_iload_n C 3 dX10_weighs_4 rfl rfl rfl ?_
    refine V_aload_n C 0 dX10_weighs_5 rfl rfl rfl ?_
    refine V_getR C cf10 rfl 0 rfl (by decide) w1082 rfl dX10_weighs_6 rfl ?_
    refine V_bipush C dX10_weighs_9 rfl (v := 43) rfl ?_
    refine V_ildJ C rfl (by decide) (j := 43) (by decide) dX10_weighs_11 rfl ?_
    refine V_icmp_ge C dX10_weighs_12 (tgt := 42) rfl rfl (fun c3 => ?_) (fun c3 => ?_)
    · replace hf := ipos c3 hf
      obtain rfl := Option.some.inj hf
      exact hx4_0
    · replace hf := ineg c3 hf
      refine V_iload_n C 2 dX10_weighs_15 rfl rfl rfl ?_
      refine V_iload_n C 1 dX10_weighs_16 rfl rfl rfl ?_
      refine V_iload_n C 3 dX10_weighs_17 rfl rfl rfl ?_
      refine V_cSi C (As := [.int p1, .int x4.2]) (st := [.int x4.1]) M_X10_has w1233 ⟨by decide, by decide⟩ rfl rfl (Nat.le_of_ble_eq_true rfl) dX10_weighs_18 rfl (kX10_has rfl) ?_
      refine V_if_eq C dX10_weighs_21 (tgt := 33) rfl rfl (fun c2 => ?_) (fun c2 => ?_)
      · replace hf := ipos c2 hf
        refine V_iconst C dX10_weighs_33 rfl (v := 0) rfl ?_
        refine V_iadd C dX10_weighs_34 rfl ?_
        refine V_istore_n C (L' := [(0, .ref (ad 116)), (1, .int p1), (2, .int (x4.1 + 0)), (3, .int x4.2)]) dX10_weighs_35 rfl rfl (by decide) hnL [1, 2, 0, 3] rfl ?_
        refine V_iinc C (v := (x4.2 + 1)) (L' := [(0, .ref (ad 116)), (1, .int p1), (2, .int (x4.1 + 0)), (3, .int (x4.2 + 1))]) 3 dX10_weighs_36 rfl rfl rfl (by decide) hnL [1, 2, 3, 0] rfl ?_
        refine V_goto C dX10_weighs_39 (tgt := 4) rfl ?_
        exact ih4 ((x4.1 + 0), (x4.2 + 1)) hf
      · replace hf := ineg c2 hf
        refine V_aload_n C 0 dX10_weighs_24 rfl rfl rfl ?_
        refine V_iload_n C 3 dX10_weighs_25 rfl rfl rfl ?_
        refine V_iconst C dX10_weighs_26 rfl (v := 0) rfl ?_
        obtain ⟨q1, hq1, hf⟩ := obd hf
        refine V_cVi C (b := 116) (As := [.int x4.2, .int 0]) (st := [.int x4.1]) cf10 rfl M_X10_eIs w1222 ⟨by decide, by decide⟩ rfl rfl (Nat.le_of_ble_eq_true rfl) dX10_weighs_27 rfl (kX10_eIs hq1) ?_
        refine V_goto C dX10_weighs_30 (tgt := 34) rfl ?_
        refine V_iadd C dX10_weighs_34 rfl ?_
        refine V_istore_n C (L' := [(0, .ref (ad 116)), (1, .int p1), (2, .int (x4.1 + q1)), (3, .int x4.2)]) dX10_weighs_35 rfl rfl (by decide) hnL [1, 2, 0, 3] rfl ?_
        refine V_iinc C (v := (x4.2 + 1)) (L' := [(0, .ref (ad 116)), (1, .int p1), (2, .int (x4.1 + q1)), (3, .int (x4.2 + 1))]) 3 dX10_weighs_36 rfl rfl rfl (by decide) hnL [1, 2, 3, 0] rfl ?_
        refine V_goto C dX10_weighs_39 (tgt := 4) rfl ?_
        exact ih4 ((x4.1 + q1), (x4.2 + 1)) hf
  refine V_iconst C dX10_weighs_0 rfl (v := 0) rfl ?_
  refine V_istore_n C (L' := [(0, .ref (ad 116)), (1, .int p1), (2, .int 0)]) dX10_weighs_1 rfl rfl (by decide) hnL [1, 2, 0] rfl ?_
  refine V_iconst C dX10_weighs_2 rfl (v := 0) rfl ?_
  refine V_istore_n C (L' := [(0, .ref (ad 116)), (1, .int p1), (2, .int 0), (3, .int 0)]) dX10_weighs_3 rfl rfl (by decide) hnL [1, 2, 3, 0] rfl ?_
  obtain ⟨q4_4, hq4_4, hf⟩ := obd hf
  refine Lp4  (0, 0) q4_4 hq4_4 ?_
  refine V_iload_n C 2 dX10_weighs_42 rfl rfl rfl ?_
  obtain rfl := Option.some.inj hf
  exact K _ _ _ dX10_weighs_43 rfl rfl
set_option maxHeartbeats 4000000 in
set_option maxRecDepth 100000 in
theorem kX10_of {ad : Nat → Nat} {G : Gh} {p1 : Int32} {p2 : Int32} {u : Mem} {q : Int32 × Mem} (hf : FX10_of p1 p2 u = some q) : Ct shs ad G yX10_of cX10_of 3 (some .int) 3 66 [.ref (ad 116), .int p1, .int p2] u (some (.int q.1)) q.2 := by
  refine Ct_ofI (by decide) (Nat.le_of_ble_eq_true rfl) (fun X C hnL K => ?_)
  have C : Cx ad G X cX10_of "CarryFairModel" 3 66 := C
  unfold FX10_of at hf
  refine V_aload_n C 0 dX10_of_0 rfl rfl rfl ?_
  refine V_iload_n C 1 dX10_of_1 rfl rfl rfl ?_
  refine V_cVi C (b := 116) (As := [.int p1]) (st := []) cf10 rfl M_X10_isCarrier w1200 ⟨by decide, by decide⟩ rfl rfl (Nat.le_of_ble_eq_true rfl) dX10_of_2 rfl (kX10_isCarrier rfl) ?_
  refine V_if_eq C dX10_of_5 (tgt := 18) rfl rfl (fun c12 => ?_) (fun c12 => ?_)
  · replace hf := ipos c12 hf
    refine V_aload_n C 0 dX10_of_18 rfl rfl rfl ?_
    refine V_ldc C dX10_of_19 rfl w1183 ?_
    obtain ⟨q1, hq1, hf⟩ := obd hf
    refine V_cVi C (b := 116) (As := [.int (-1000001)]) (st := []) cf10 rfl M_X10_finding w1184 ⟨by decide, by decide⟩ rfl rfl (Nat.le_of_ble_eq_true rfl) dX10_of_21 rfl (kX10_finding hq1) ?_
    obtain rfl := Option.some.inj hf
    exact K _ _ _ dX10_of_24 rfl rfl
  · replace hf := ineg c12 hf
    refine V_iload_n C 2 dX10_of_8 rfl rfl rfl ?_
    refine V_iconst C dX10_of_9 rfl (v := 0) rfl ?_
    refine V_bipush C dX10_of_10 rfl (v := 7) rfl ?_
    refine V_cSi C (As := [.int p2, .int 0, .int 7]) (st := []) M_X10_within w1180 ⟨by decide, by decide⟩ rfl rfl (Nat.le_of_ble_eq_true rfl) dX10_of_12 rfl (kX10_within rfl) ?_
    refine V_if_ne C dX10_of_15 (tgt := 25) rfl rfl (fun c11 => ?_) (fun c11 => ?_)
    · replace hf := ineg c11 hf
      refine V_iload_n C 2 dX10_of_25 rfl rfl rfl ?_
      by_cases c2 : p2 = 5
      · replace hf := ipos c2 hf
        refine V_tin C dX10_of_26 5 c2 (by decide) (by decide) rfl (tgt := 52) rfl ?_
        refine V_aload_n C 0 dX10_of_52 rfl rfl rfl ?_
        refine V_iload_n C 1 dX10_of_53 rfl rfl rfl ?_
        obtain ⟨q3, hq3, hf⟩ := obd hf
        refine V_cVi C (b := 116) (As := [.int p1]) (st := []) cf10 rfl M_X10_bears w1204 ⟨by decide, by decide⟩ rfl rfl (Nat.le_of_ble_eq_true rfl) dX10_of_54 rfl (kX10_bears hq3) ?_
        obtain rfl := Option.some.inj hf
        exact K _ _ _ dX10_of_57 rfl rfl
      replace hf := ineg c2 hf
      by_cases c4 : p2 = 6
      · replace hf := ipos c4 hf
        refine V_tin C dX10_of_26 6 c4 (by decide) (by decide) rfl (tgt := 58) rfl ?_
        refine V_aload_n C 0 dX10_of_58 rfl rfl rfl ?_
        refine V_iload_n C 1 dX10_of_59 rfl rfl rfl ?_
        obtain ⟨q5, hq5, hf⟩ := obd hf
        refine V_cVi C (b := 116) (As := [.int p1]) (st := []) cf10 rfl M_X10_carries w1218 ⟨by decide, by decide⟩ rfl rfl (Nat.le_of_ble_eq_true rfl) dX10_of_60 rfl (kX10_carries hq5) ?_
        obtain rfl := Option.some.inj hf
        exact K _ _ _ dX10_of_63 rfl rfl
      replace hf := ineg c4 hf
      by_cases c6 : p2 = 7
      · replace hf := ipos c6 hf
        refine V_tin C dX10_of_26 7 c6 (by decide) (by decide) rfl (tgt := 64) rfl ?_
        refine V_aload_n C 0 dX10_of_64 rfl rfl rfl ?_
        refine V_aload_n C 0 dX10_of_65 rfl rfl rfl ?_
        refine V_iload_n C 1 dX10_of_66 rfl rfl rfl ?_
        obtain ⟨q7, hq7, hf⟩ := obd hf
        refine V_cVi C (b := 116) (As := [.int p1]) (st := [.ref (ad 116)]) cf10 rfl M_X10_carries w1218 ⟨by decide, by decide⟩ rfl rfl (Nat.le_of_ble_eq_true rfl) dX10_of_67 rfl (kX10_carries hq7) ?_
        obtain ⟨q8, hq8, hf⟩ := obd hf
        refine V_cVi C (b := 116) (As := [.int q7]) (st := []) cf10 rfl M_X10_weighs w1229 ⟨by decide, by decide⟩ rfl rfl (Nat.le_of_ble_eq_true rfl) dX10_of_70 rfl (kX10_weighs hq8) ?_
        obtain rfl := Option.some.inj hf
        exact K _ _ _ dX10_of_73 rfl rfl
      replace hf := ineg c6 hf
      refine V_tout C dX10_of_26 (by have nc2 := lv_neT (a := 5) c2 (by decide); have nc4 := lv_neT (a := 6) c4 (by decide); have nc6 := lv_neT (a := 7) c6 (by decide); omega) (tgt := 74) rfl ?_
      refine V_aload_n C 0 dX10_of_74 rfl rfl rfl ?_
      refine V_iload_n C 1 dX10_of_75 rfl rfl rfl ?_
      refine V_iload_n C 2 dX10_of_76 rfl rfl rfl ?_
      obtain ⟨q9, hq9, hf⟩ := obd hf
      refine V_cVi C (b := 116) (As := [.int p1, .int p2]) (st := []) cf10 rfl M_X10_cIs w1208 ⟨by decide, by decide⟩ rfl rfl (Nat.le_of_ble_eq_true rfl) dX10_of_77 rfl (kX10_cIs hq9) ?_
      obtain rfl := Option.some.inj hf
      exact K _ _ _ dX10_of_80 rfl rfl
    · replace hf := ipos c11 hf
      refine V_aload_n C 0 dX10_of_18 rfl rfl rfl ?_
      refine V_ldc C dX10_of_19 rfl w1183 ?_
      obtain ⟨q10, hq10, hf⟩ := obd hf
      refine V_cVi C (b := 116) (As := [.int (-1000001)]) (st := []) cf10 rfl M_X10_finding w1184 ⟨by decide, by decide⟩ rfl rfl (Nat.le_of_ble_eq_true rfl) dX10_of_21 rfl (kX10_finding hq10) ?_
      obtain rfl := Option.some.inj hf
      exact K _ _ _ dX10_of_24 rfl rfl
set_option maxHeartbeats 4000000 in
set_option maxRecDepth 100000 in
theorem kX10_change {ad : Nat → Nat} {G : Gh} {p1 : Int32} {p2 : Int32} {p3 : Int32} {u : Mem} {q : Int32 × Mem} (hf : FX10_change p1 p2 p3 u = some q) : Ct shs ad G yX10_change cX10_change 5 (some .int) 2 43 [.ref (ad 116), .int p1, .int p2, .int p3] u (some (.int q.1)) q.2 := by
  refine Ct_ofI (by decide) (Nat.le_of_ble_eq_true rfl) (fun X C hnL K => ?_)
  have C : Cx ad G X cX10_change "CarryFairModel" 2 43 := C
  unfold FX10_change at hf
  have JX10_change_38 : ∀ (w : Mem), JX10_change_38 p1 p2 p3 w = some q → V shs ad G X 38 [(0, .ref (ad 116)), (1, .int p1), (2, .int p2), (3, .int p3)] [] w := by
    intro w hf
    unfold JX10_change_38 at hf
    refine V_iload_n C 2 dX10_change_38 rfl rfl rfl ?_
    refine V_iconst C dX10_change_39 rfl (v := 3) rfl ?_
    refine V_icmp_ne C dX10_change_40 (tgt := 57) rfl rfl (fun c11 => ?_) (fun c11 => ?_)
    · replace hf := ineg c11 hf
      refine V_iconst C dX10_change_57 rfl (v := 0) rfl ?_
      refine V_istore C (L' := [(0, .ref (ad 116)), (1, .int p1), (2, .int p2), (3, .int p3), (4, .int 0)]) dX10_change_58 rfl (by decide) hnL [1, 2, 3, 4, 0] rfl ?_
      refine V_aload_n C 0 dX10_change_60 rfl rfl rfl ?_
      refine V_iload_n C 1 dX10_change_61 rfl rfl rfl ?_
      refine V_cVi C (b := 116) (As := [.int p1]) (st := []) cf10 rfl M_X10_isCarrier w1200 ⟨by decide, by decide⟩ rfl rfl (Nat.le_of_ble_eq_true rfl) dX10_change_62 rfl (kX10_isCarrier rfl) ?_
      refine V_if_eq C dX10_change_65 (tgt := 86) rfl rfl (fun c3 => ?_) (fun c3 => ?_)
      · replace hf := ipos c3 hf
        refine V_aload_n C 0 dX10_change_86 rfl rfl rfl ?_
        refine V_ldc C dX10_change_87 rfl w1183 ?_
        obtain ⟨q1, hq1, hf⟩ := obd hf
        refine V_cVi C (b := 116) (As := [.int (-1000001)]) (st := []) cf10 rfl M_X10_finding w1184 ⟨by decide, by decide⟩ rfl rfl (Nat.le_of_ble_eq_true rfl) dX10_change_89 rfl (kX10_finding hq1) ?_
        obtain rfl := Option.some.inj hf
        exact K _ _ _ dX10_change_92 rfl rfl
      · replace hf := ineg c3 hf
        refine V_iload C 4 dX10_change_68 rfl rfl ?_
        refine V_if_eq C dX10_change_70 (tgt := 86) rfl rfl (fun _ => ?_) (fun z => absurd (by decide) z)
        refine V_aload_n C 0 dX10_change_86 rfl rfl rfl ?_
        refine V_ldc C dX10_change_87 rfl w1183 ?_
        obtain ⟨q2, hq2, hf⟩ := obd hf
        refine V_cVi C (b := 116) (As := [.int (-1000001)]) (st := []) cf10 rfl M_X10_finding w1184 ⟨by decide, by decide⟩ rfl rfl (Nat.le_of_ble_eq_true rfl) dX10_change_89 rfl (kX10_finding hq2) ?_
        obtain rfl := Option.some.inj hf
        exact K _ _ _ dX10_change_92 rfl rfl
    · replace hf := ipos c11 hf
      refine V_iload_n C 3 dX10_change_43 rfl rfl rfl ?_
      refine V_iconst C dX10_change_44 rfl (v := 0) rfl ?_
      refine V_ldc C dX10_change_45 rfl w1243 ?_
      refine V_cSi C (As := [.int p3, .int 0, .int 999999]) (st := []) M_X10_within w1180 ⟨by decide, by decide⟩ rfl rfl (Nat.le_of_ble_eq_true rfl) dX10_change_47 rfl (kX10_within rfl) ?_
      refine V_if_eq C dX10_change_50 (tgt := 57) rfl rfl (fun c10 => ?_) (fun c10 => ?_)
      · replace hf := ipos c10 hf
        refine V_iconst C dX10_change_57 rfl (v := 0) rfl ?_
        refine V_istore C (L' := [(0, .ref (ad 116)), (1, .int p1), (2, .int p2), (3, .int p3), (4, .int 0)]) dX10_change_58 rfl (by decide) hnL [1, 2, 3, 4, 0] rfl ?_
        refine V_aload_n C 0 dX10_change_60 rfl rfl rfl ?_
        refine V_iload_n C 1 dX10_change_61 rfl rfl rfl ?_
        refine V_cVi C (b := 116) (As := [.int p1]) (st := []) cf10 rfl M_X10_isCarrier w1200 ⟨by decide, by decide⟩ rfl rfl (Nat.le_of_ble_eq_true rfl) dX10_change_62 rfl (kX10_isCarrier rfl) ?_
        refine V_if_eq C dX10_change_65 (tgt := 86) rfl rfl (fun c6 => ?_) (fun c6 => ?_)
        · replace hf := ipos c6 hf
          refine V_aload_n C 0 dX10_change_86 rfl rfl rfl ?_
          refine V_ldc C dX10_change_87 rfl w1183 ?_
          obtain ⟨q4, hq4, hf⟩ := obd hf
          refine V_cVi C (b := 116) (As := [.int (-1000001)]) (st := []) cf10 rfl M_X10_finding w1184 ⟨by decide, by decide⟩ rfl rfl (Nat.le_of_ble_eq_true rfl) dX10_change_89 rfl (kX10_finding hq4) ?_
          obtain rfl := Option.some.inj hf
          exact K _ _ _ dX10_change_92 rfl rfl
        · replace hf := ineg c6 hf
          refine V_iload C 4 dX10_change_68 rfl rfl ?_
          refine V_if_eq C dX10_change_70 (tgt := 86) rfl rfl (fun _ => ?_) (fun z => absurd (by decide) z)
          refine V_aload_n C 0 dX10_change_86 rfl rfl rfl ?_
          refine V_ldc C dX10_change_87 rfl w1183 ?_
          obtain ⟨q5, hq5, hf⟩ := obd hf
          refine V_cVi C (b := 116) (As := [.int (-1000001)]) (st := []) cf10 rfl M_X10_finding w1184 ⟨by decide, by decide⟩ rfl rfl (Nat.le_of_ble_eq_true rfl) dX10_change_89 rfl (kX10_finding hq5) ?_
          obtain rfl := Option.some.inj hf
          exact K _ _ _ dX10_change_92 rfl rfl
      · replace hf := ineg c10 hf
        refine V_iconst C dX10_change_53 rfl (v := 1) rfl ?_
        refine V_goto C dX10_change_54 (tgt := 58) rfl ?_
        refine V_istore C (L' := [(0, .ref (ad 116)), (1, .int p1), (2, .int p2), (3, .int p3), (4, .int 1)]) dX10_change_58 rfl (by decide) hnL [1, 2, 3, 4, 0] rfl ?_
        refine V_aload_n C 0 dX10_change_60 rfl rfl rfl ?_
        refine V_iload_n C 1 dX10_change_61 rfl rfl rfl ?_
        refine V_cVi C (b := 116) (As := [.int p1]) (st := []) cf10 rfl M_X10_isCarrier w1200 ⟨by decide, by decide⟩ rfl rfl (Nat.le_of_ble_eq_true rfl) dX10_change_62 rfl (kX10_isCarrier rfl) ?_
        refine V_if_eq C dX10_change_65 (tgt := 86) rfl rfl (fun c9 => ?_) (fun c9 => ?_)
        · replace hf := ipos c9 hf
          refine V_aload_n C 0 dX10_change_86 rfl rfl rfl ?_
          refine V_ldc C dX10_change_87 rfl w1183 ?_
          obtain ⟨q7, hq7, hf⟩ := obd hf
          refine V_cVi C (b := 116) (As := [.int (-1000001)]) (st := []) cf10 rfl M_X10_finding w1184 ⟨by decide, by decide⟩ rfl rfl (Nat.le_of_ble_eq_true rfl) dX10_change_89 rfl (kX10_finding hq7) ?_
          obtain rfl := Option.some.inj hf
          exact K _ _ _ dX10_change_92 rfl rfl
        · replace hf := ineg c9 hf
          refine V_iload C 4 dX10_change_68 rfl rfl ?_
          refine V_if_eq C dX10_change_70 (tgt := 86) rfl rfl (fun z => absurd z (by decide)) (fun _ => ?_)
          refine V_aload_n C 0 dX10_change_73 rfl rfl rfl ?_
          refine V_iload_n C 1 dX10_change_74 rfl rfl rfl ?_
          refine V_iload_n C 2 dX10_change_75 rfl rfl rfl ?_
          refine V_cSi C (As := [.int p1, .int p2]) (st := [.ref (ad 116)]) M_X10_cAt w1193 ⟨by decide, by decide⟩ rfl rfl (Nat.le_of_ble_eq_true rfl) dX10_change_76 rfl (kX10_cAt rfl) ?_
          refine V_iload_n C 3 dX10_change_79 rfl rfl rfl ?_
          obtain ⟨q8, hq8, hf⟩ := obd hf
          refine V_cVi C (b := 116) (As := [.int (FX10_cAt p1 p2), .int p3]) (st := []) cf10 rfl M_X10_become w1244 ⟨by decide, by decide⟩ rfl rfl (Nat.le_of_ble_eq_true rfl) dX10_change_80 rfl (kX10_become hq8) ?_
          refine V_goto C dX10_change_83 (tgt := 92) rfl ?_
          obtain rfl := Option.some.inj hf
          exact K _ _ _ dX10_change_92 rfl rfl
  have JX10_change_23 : ∀ (w : Mem), JX10_change_23 p1 p2 p3 w = some q → V shs ad G X 23 [(0, .ref (ad 116)), (1, .int p1), (2, .int p2), (3, .int p3)] [] w := by
    intro w hf
    unfold JX10_change_23 at hf
    refine V_iload_n C 2 dX10_change_23 rfl rfl rfl ?_
    refine V_iconst C dX10_change_24 rfl (v := 2) rfl ?_
    refine V_icmp_ne C dX10_change_25 (tgt := 38) rfl rfl (fun c16 => ?_) (fun c16 => ?_)
    · replace hf := ineg c16 hf
      exact JX10_change_38 w hf
    · replace hf := ipos c16 hf
      refine V_iload_n C 3 dX10_change_28 rfl rfl rfl ?_
      refine V_iconst C dX10_change_29 rfl (v := 1) rfl ?_
      refine V_bipush C dX10_change_30 rfl (v := 99) rfl ?_
      refine V_cSi C (As := [.int p3, .int 1, .int 99]) (st := []) M_X10_within w1180 ⟨by decide, by decide⟩ rfl rfl (Nat.le_of_ble_eq_true rfl) dX10_change_32 rfl (kX10_within rfl) ?_
      refine V_if_ne C dX10_change_35 (tgt := 53) rfl rfl (fun c15 => ?_) (fun c15 => ?_)
      · replace hf := ineg c15 hf
        refine V_iconst C dX10_change_53 rfl (v := 1) rfl ?_
        refine V_goto C dX10_change_54 (tgt := 58) rfl ?_
        refine V_istore C (L' := [(0, .ref (ad 116)), (1, .int p1), (2, .int p2), (3, .int p3), (4, .int 1)]) dX10_change_58 rfl (by decide) hnL [1, 2, 3, 4, 0] rfl ?_
        refine V_aload_n C 0 dX10_change_60 rfl rfl rfl ?_
        refine V_iload_n C 1 dX10_change_61 rfl rfl rfl ?_
        refine V_cVi C (b := 116) (As := [.int p1]) (st := []) cf10 rfl M_X10_isCarrier w1200 ⟨by decide, by decide⟩ rfl rfl (Nat.le_of_ble_eq_true rfl) dX10_change_62 rfl (kX10_isCarrier rfl) ?_
        refine V_if_eq C dX10_change_65 (tgt := 86) rfl rfl (fun c14 => ?_) (fun c14 => ?_)
        · replace hf := ipos c14 hf
          refine V_aload_n C 0 dX10_change_86 rfl rfl rfl ?_
          refine V_ldc C dX10_change_87 rfl w1183 ?_
          obtain ⟨q12, hq12, hf⟩ := obd hf
          refine V_cVi C (b := 116) (As := [.int (-1000001)]) (st := []) cf10 rfl M_X10_finding w1184 ⟨by decide, by decide⟩ rfl rfl (Nat.le_of_ble_eq_true rfl) dX10_change_89 rfl (kX10_finding hq12) ?_
          obtain rfl := Option.some.inj hf
          exact K _ _ _ dX10_change_92 rfl rfl
        · replace hf := ineg c14 hf
          refine V_iload C 4 dX10_change_68 rfl rfl ?_
          refine V_if_eq C dX10_change_70 (tgt := 86) rfl rfl (fun z => absurd z (by decide)) (fun _ => ?_)
          refine V_aload_n C 0 dX10_change_73 rfl rfl rfl ?_
          refine V_iload_n C 1 dX10_change_74 rfl rfl rfl ?_
          refine V_iload_n C 2 dX10_change_75 rfl rfl rfl ?_
          refine V_cSi C (As := [.int p1, .int p2]) (st := [.ref (ad 116)]) M_X10_cAt w1193 ⟨by decide, by decide⟩ rfl rfl (Nat.le_of_ble_eq_true rfl) dX10_change_76 rfl (kX10_cAt rfl) ?_
          refine V_iload_n C 3 dX10_change_79 rfl rfl rfl ?_
          obtain ⟨q13, hq13, hf⟩ := obd hf
          refine V_cVi C (b := 116) (As := [.int (FX10_cAt p1 p2), .int p3]) (st := []) cf10 rfl M_X10_become w1244 ⟨by decide, by decide⟩ rfl rfl (Nat.le_of_ble_eq_true rfl) dX10_change_80 rfl (kX10_become hq13) ?_
          refine V_goto C dX10_change_83 (tgt := 92) rfl ?_
          obtain rfl := Option.some.inj hf
          exact K _ _ _ dX10_change_92 rfl rfl
      · replace hf := ipos c15 hf
        exact JX10_change_38 w hf
  have JX10_change_11 : ∀ (w : Mem), JX10_change_11 p1 p2 p3 w = some q → V shs ad G X 11 [(0, .ref (ad 116)), (1, .int p1), (2, .int p2), (3, .int p3)] [] w := by
    intro w hf
    unfold JX10_change_11 at hf
    refine V_iload_n C 2 dX10_change_11 rfl rfl rfl ?_
    refine V_iconst C dX10_change_12 rfl (v := 1) rfl ?_
    refine V_icmp_ne C dX10_change_13 (tgt := 23) rfl rfl (fun c21 => ?_) (fun c21 => ?_)
    · replace hf := ineg c21 hf
      exact JX10_change_23 w hf
    · replace hf := ipos c21 hf
      refine V_iload_n C 3 dX10_change_16 rfl rfl rfl ?_
      refine V_cSi C (As := [.int p3]) (st := []) M_X10_isPlace w1240 ⟨by decide, by decide⟩ rfl rfl (Nat.le_of_ble_eq_true rfl) dX10_change_17 rfl (kX10_isPlace rfl) ?_
      refine V_if_ne C dX10_change_20 (tgt := 53) rfl rfl (fun c20 => ?_) (fun c20 => ?_)
      · replace hf := ineg c20 hf
        refine V_iconst C dX10_change_53 rfl (v := 1) rfl ?_
        refine V_goto C dX10_change_54 (tgt := 58) rfl ?_
        refine V_istore C (L' := [(0, .ref (ad 116)), (1, .int p1), (2, .int p2), (3, .int p3), (4, .int 1)]) dX10_change_58 rfl (by decide) hnL [1, 2, 3, 4, 0] rfl ?_
        refine V_aload_n C 0 dX10_change_60 rfl rfl rfl ?_
        refine V_iload_n C 1 dX10_change_61 rfl rfl rfl ?_
        refine V_cVi C (b := 116) (As := [.int p1]) (st := []) cf10 rfl M_X10_isCarrier w1200 ⟨by decide, by decide⟩ rfl rfl (Nat.le_of_ble_eq_true rfl) dX10_change_62 rfl (kX10_isCarrier rfl) ?_
        refine V_if_eq C dX10_change_65 (tgt := 86) rfl rfl (fun c19 => ?_) (fun c19 => ?_)
        · replace hf := ipos c19 hf
          refine V_aload_n C 0 dX10_change_86 rfl rfl rfl ?_
          refine V_ldc C dX10_change_87 rfl w1183 ?_
          obtain ⟨q17, hq17, hf⟩ := obd hf
          refine V_cVi C (b := 116) (As := [.int (-1000001)]) (st := []) cf10 rfl M_X10_finding w1184 ⟨by decide, by decide⟩ rfl rfl (Nat.le_of_ble_eq_true rfl) dX10_change_89 rfl (kX10_finding hq17) ?_
          obtain rfl := Option.some.inj hf
          exact K _ _ _ dX10_change_92 rfl rfl
        · replace hf := ineg c19 hf
          refine V_iload C 4 dX10_change_68 rfl rfl ?_
          refine V_if_eq C dX10_change_70 (tgt := 86) rfl rfl (fun z => absurd z (by decide)) (fun _ => ?_)
          refine V_aload_n C 0 dX10_change_73 rfl rfl rfl ?_
          refine V_iload_n C 1 dX10_change_74 rfl rfl rfl ?_
          refine V_iload_n C 2 dX10_change_75 rfl rfl rfl ?_
          refine V_cSi C (As := [.int p1, .int p2]) (st := [.ref (ad 116)]) M_X10_cAt w1193 ⟨by decide, by decide⟩ rfl rfl (Nat.le_of_ble_eq_true rfl) dX10_change_76 rfl (kX10_cAt rfl) ?_
          refine V_iload_n C 3 dX10_change_79 rfl rfl rfl ?_
          obtain ⟨q18, hq18, hf⟩ := obd hf
          refine V_cVi C (b := 116) (As := [.int (FX10_cAt p1 p2), .int p3]) (st := []) cf10 rfl M_X10_become w1244 ⟨by decide, by decide⟩ rfl rfl (Nat.le_of_ble_eq_true rfl) dX10_change_80 rfl (kX10_become hq18) ?_
          refine V_goto C dX10_change_83 (tgt := 92) rfl ?_
          obtain rfl := Option.some.inj hf
          exact K _ _ _ dX10_change_92 rfl rfl
      · replace hf := ipos c20 hf
        exact JX10_change_23 w hf
  refine V_iload_n C 2 dX10_change_0 rfl rfl rfl ?_
  refine V_if_ne C dX10_change_1 (tgt := 11) rfl rfl (fun c26 => ?_) (fun c26 => ?_)
  · replace hf := ineg c26 hf
    exact JX10_change_11 u hf
  · replace hf := ipos c26 hf
    refine V_iload_n C 3 dX10_change_4 rfl rfl rfl ?_
    refine V_cSi C (As := [.int p3]) (st := []) M_X10_isKind w1177 ⟨by decide, by decide⟩ rfl rfl (Nat.le_of_ble_eq_true rfl) dX10_change_5 rfl (kX10_isKind rfl) ?_
    refine V_if_ne C dX10_change_8 (tgt := 53) rfl rfl (fun c25 => ?_) (fun c25 => ?_)
    · replace hf := ineg c25 hf
      refine V_iconst C dX10_change_53 rfl (v := 1) rfl ?_
      refine V_goto C dX10_change_54 (tgt := 58) rfl ?_
      refine V_istore C (L' := [(0, .ref (ad 116)), (1, .int p1), (2, .int p2), (3, .int p3), (4, .int 1)]) dX10_change_58 rfl (by decide) hnL [1, 2, 3, 4, 0] rfl ?_
      refine V_aload_n C 0 dX10_change_60 rfl rfl rfl ?_
      refine V_iload_n C 1 dX10_change_61 rfl rfl rfl ?_
      refine V_cVi C (b := 116) (As := [.int p1]) (st := []) cf10 rfl M_X10_isCarrier w1200 ⟨by decide, by decide⟩ rfl rfl (Nat.le_of_ble_eq_true rfl) dX10_change_62 rfl (kX10_isCarrier rfl) ?_
      refine V_if_eq C dX10_change_65 (tgt := 86) rfl rfl (fun c24 => ?_) (fun c24 => ?_)
      · replace hf := ipos c24 hf
        refine V_aload_n C 0 dX10_change_86 rfl rfl rfl ?_
        refine V_ldc C dX10_change_87 rfl w1183 ?_
        obtain ⟨q22, hq22, hf⟩ := obd hf
        refine V_cVi C (b := 116) (As := [.int (-1000001)]) (st := []) cf10 rfl M_X10_finding w1184 ⟨by decide, by decide⟩ rfl rfl (Nat.le_of_ble_eq_true rfl) dX10_change_89 rfl (kX10_finding hq22) ?_
        obtain rfl := Option.some.inj hf
        exact K _ _ _ dX10_change_92 rfl rfl
      · replace hf := ineg c24 hf
        refine V_iload C 4 dX10_change_68 rfl rfl ?_
        refine V_if_eq C dX10_change_70 (tgt := 86) rfl rfl (fun z => absurd z (by decide)) (fun _ => ?_)
        refine V_aload_n C 0 dX10_change_73 rfl rfl rfl ?_
        refine V_iload_n C 1 dX10_change_74 rfl rfl rfl ?_
        refine V_iload_n C 2 dX10_change_75 rfl rfl rfl ?_
        refine V_cSi C (As := [.int p1, .int p2]) (st := [.ref (ad 116)]) M_X10_cAt w1193 ⟨by decide, by decide⟩ rfl rfl (Nat.le_of_ble_eq_true rfl) dX10_change_76 rfl (kX10_cAt rfl) ?_
        refine V_iload_n C 3 dX10_change_79 rfl rfl rfl ?_
        obtain ⟨q23, hq23, hf⟩ := obd hf
        refine V_cVi C (b := 116) (As := [.int (FX10_cAt p1 p2), .int p3]) (st := []) cf10 rfl M_X10_become w1244 ⟨by decide, by decide⟩ rfl rfl (Nat.le_of_ble_eq_true rfl) dX10_change_80 rfl (kX10_become hq23) ?_
        refine V_goto C dX10_change_83 (tgt := 92) rfl ?_
        obtain rfl := Option.some.inj hf
        exact K _ _ _ dX10_change_92 rfl rfl
    · replace hf := ipos c25 hf
      exact JX10_change_11 u hf
set_option maxHeartbeats 4000000 in
set_option maxRecDepth 100000 in
theorem kX10_wayAt {ad : Nat → Nat} {G : Gh} {p0 : Int32} {p1 : Int32} {u : Mem} {q : Int32} (hf : FX10_wayAt p0 p1 = q) : Ct shs ad G yX10_wayAt cX10_wayAt 4 (some .int) 1 21 [.int p0, .int p1] u (some (.int q)) u := by
  refine Ct_ofI (by decide) (Nat.le_of_ble_eq_true rfl) (fun X C hnL K => ?_)
  have C : Cx ad G X cX10_wayAt "CarryFairModel" 1 21 := C
  unfold FX10_wayAt at hf
  refine V_iload_n C 0 dX10_wayAt_0 rfl rfl rfl ?_
  refine V_iload_n C 1 dX10_wayAt_1 rfl rfl rfl ?_
  refine V_mmin C w1259 ⟨by decide, by decide⟩ (Nat.le_of_ble_eq_true rfl) dX10_wayAt_2 rfl ?_
  refine V_istore_n C (L' := [(0, .int p0), (1, .int p1), (2, .int (jmin p0 p1))]) dX10_wayAt_5 rfl rfl (by decide) hnL [1, 2, 0] rfl ?_
  refine V_iload_n C 0 dX10_wayAt_6 rfl rfl rfl ?_
  refine V_iload_n C 1 dX10_wayAt_7 rfl rfl rfl ?_
  refine V_mmax C w1260 ⟨by decide, by decide⟩ (Nat.le_of_ble_eq_true rfl) dX10_wayAt_8 rfl ?_
  refine V_istore_n C (L' := [(0, .int p0), (1, .int p1), (2, .int (jmin p0 p1)), (3, .int (jmax p0 p1))]) dX10_wayAt_11 rfl rfl (by decide) hnL [1, 2, 3, 0] rfl ?_
  refine V_iconst C dX10_wayAt_12 rfl (v := 0) rfl ?_
  refine V_iconst C dX10_wayAt_13 rfl (v := 2) rfl ?_
  refine V_iload_n C 2 dX10_wayAt_14 rfl rfl rfl ?_
  refine V_bipush C dX10_wayAt_15 rfl (v := 13) rfl ?_
  refine V_iload_n C 2 dX10_wayAt_17 rfl rfl rfl ?_
  refine V_isub C dX10_wayAt_18 rfl ?_
  refine V_imul C dX10_wayAt_19 rfl ?_
  refine V_iconst C dX10_wayAt_20 rfl (v := 2) rfl ?_
  refine V_idiv C dX10_wayAt_21 rfl (by decide) ?_
  refine V_iload_n C 3 dX10_wayAt_22 rfl rfl rfl ?_
  refine V_iadd C dX10_wayAt_23 rfl ?_
  refine V_iload_n C 2 dX10_wayAt_24 rfl rfl rfl ?_
  refine V_isub C dX10_wayAt_25 rfl ?_
  refine V_iconst C dX10_wayAt_26 rfl (v := 1) rfl ?_
  refine V_isub C dX10_wayAt_27 rfl ?_
  refine V_imul C dX10_wayAt_28 rfl ?_
  refine V_iadd C dX10_wayAt_29 rfl ?_
  subst hf
  exact K _ _ _ dX10_wayAt_30 rfl rfl
set_option maxHeartbeats 4000000 in
set_option maxRecDepth 100000 in
theorem kX10_wayIs {ad : Nat → Nat} {G : Gh} {p1 : Int32} {p2 : Int32} {p3 : Int32} {p4 : Int32} {u : Mem} {q : Int32 × Mem} (hf : FX10_wayIs p1 p2 p3 p4 u = some q) : Ct shs ad G yX10_wayIs cX10_wayIs 5 (some .int) 2 44 [.ref (ad 116), .int p1, .int p2, .int p3, .int p4] u (some (.int q.1)) q.2 := by
  refine Ct_ofI (by decide) (Nat.le_of_ble_eq_true rfl) (fun X C hnL K => ?_)
  have C : Cx ad G X cX10_wayIs "CarryFairModel" 2 44 := C
  unfold FX10_wayIs at hf
  refine V_aload_n C 0 dX10_wayIs_0 rfl rfl rfl ?_
  refine V_getR C cf10 rfl 0 rfl (by decide) w1082 rfl dX10_wayIs_1 rfl ?_
  refine V_iload_n C 1 dX10_wayIs_4 rfl rfl rfl ?_
  refine V_iload_n C 2 dX10_wayIs_5 rfl rfl rfl ?_
  refine V_cSi C (As := [.int p1, .int p2]) (st := [.ref (ad 117)]) M_X10_wayAt w1256 ⟨by decide, by decide⟩ rfl rfl (Nat.le_of_ble_eq_true rfl) dX10_wayIs_6 rfl (kX10_wayAt rfl) ?_
  refine V_iconst C dX10_wayIs_9 rfl (v := 1) rfl ?_
  refine V_iadd C dX10_wayIs_10 rfl ?_
  refine V_iload C 4 dX10_wayIs_11 rfl rfl ?_
  obtain ⟨g1, hf⟩ := gd hf
  refine V_istJ C rfl g1 rfl dX10_wayIs_13 rfl ?_
  refine V_aload_n C 0 dX10_wayIs_14 rfl rfl rfl ?_
  refine V_iload_n C 1 dX10_wayIs_15 rfl rfl rfl ?_
  refine V_iload_n C 2 dX10_wayIs_16 rfl rfl rfl ?_
  refine V_cSi C (As := [.int p1, .int p2]) (st := [.ref (ad 116)]) M_X10_wayAt w1256 ⟨by decide, by decide⟩ rfl rfl (Nat.le_of_ble_eq_true rfl) dX10_wayIs_17 rfl (kX10_wayAt rfl) ?_
  refine V_iload_n C 3 dX10_wayIs_20 rfl rfl rfl ?_
  obtain ⟨q2, hq2, hf⟩ := obd hf
  refine V_cVi C (b := 116) (As := [.int (FX10_wayAt p1 p2), .int p3]) (st := []) cf10 rfl M_X10_become w1244 ⟨by decide, by decide⟩ rfl rfl (Nat.le_of_ble_eq_true rfl) dX10_wayIs_21 rfl (kX10_become hq2) ?_
  obtain rfl := Option.some.inj hf
  exact K _ _ _ dX10_wayIs_24 rfl rfl
set_option maxHeartbeats 4000000 in
set_option maxRecDepth 100000 in
theorem kX10_way {ad : Nat → Nat} {G : Gh} {p1 : Int32} {p2 : Int32} {p3 : Int32} {p4 : Int32} {u : Mem} {q : Int32 × Mem} (hf : FX10_way p1 p2 p3 p4 u = some q) : Ct shs ad G yX10_way cX10_way 6 (some .int) 3 68 [.ref (ad 116), .int p1, .int p2, .int p3, .int p4] u (some (.int q.1)) q.2 := by
  refine Ct_ofI (by decide) (Nat.le_of_ble_eq_true rfl) (fun X C hnL K => ?_)
  have C : Cx ad G X cX10_way "CarryFairModel" 3 68 := C
  unfold FX10_way at hf
  refine V_iload_n C 1 dX10_way_0 rfl rfl rfl ?_
  refine V_cSi C (As := [.int p1]) (st := []) M_X10_isPlace w1240 ⟨by decide, by decide⟩ rfl rfl (Nat.le_of_ble_eq_true rfl) dX10_way_1 rfl (kX10_isPlace rfl) ?_
  refine V_if_eq C dX10_way_4 (tgt := 43) rfl rfl (fun c11 => ?_) (fun c11 => ?_)
  · replace hf := ipos c11 hf
    refine V_iconst C dX10_way_43 rfl (v := 0) rfl ?_
    refine V_istore C (L' := [(0, .ref (ad 116)), (1, .int p1), (2, .int p2), (3, .int p3), (4, .int p4), (5, .int 0)]) dX10_way_44 rfl (by decide) hnL [1, 2, 3, 4, 5, 0] rfl ?_
    refine V_iload C 5 dX10_way_46 rfl rfl ?_
    refine V_if_eq C dX10_way_48 (tgt := 63) rfl rfl (fun _ => ?_) (fun z => absurd (by decide) z)
    refine V_aload_n C 0 dX10_way_63 rfl rfl rfl ?_
    refine V_ldc C dX10_way_64 rfl w1183 ?_
    obtain ⟨q1, hq1, hf⟩ := obd hf
    refine V_cVi C (b := 116) (As := [.int (-1000001)]) (st := []) cf10 rfl M_X10_finding w1184 ⟨by decide, by decide⟩ rfl rfl (Nat.le_of_ble_eq_true rfl) dX10_way_66 rfl (kX10_finding hq1) ?_
    obtain rfl := Option.some.inj hf
    exact K _ _ _ dX10_way_69 rfl rfl
  · replace hf := ineg c11 hf
    refine V_iload_n C 2 dX10_way_7 rfl rfl rfl ?_
    refine V_cSi C (As := [.int p2]) (st := []) M_X10_isPlace w1240 ⟨by decide, by decide⟩ rfl rfl (Nat.le_of_ble_eq_true rfl) dX10_way_8 rfl (kX10_isPlace rfl) ?_
    refine V_if_eq C dX10_way_11 (tgt := 43) rfl rfl (fun c10 => ?_) (fun c10 => ?_)
    · replace hf := ipos c10 hf
      refine V_iconst C dX10_way_43 rfl (v := 0) rfl ?_
      refine V_istore C (L' := [(0, .ref (ad 116)), (1, .int p1), (2, .int p2), (3, .int p3), (4, .int p4), (5, .int 0)]) dX10_way_44 rfl (by decide) hnL [1, 2, 3, 4, 5, 0] rfl ?_
      refine V_iload C 5 dX10_way_46 rfl rfl ?_
      refine V_if_eq C dX10_way_48 (tgt := 63) rfl rfl (fun _ => ?_) (fun z => absurd (by decide) z)
      refine V_aload_n C 0 dX10_way_63 rfl rfl rfl ?_
      refine V_ldc C dX10_way_64 rfl w1183 ?_
      obtain ⟨q2, hq2, hf⟩ := obd hf
      refine V_cVi C (b := 116) (As := [.int (-1000001)]) (st := []) cf10 rfl M_X10_finding w1184 ⟨by decide, by decide⟩ rfl rfl (Nat.le_of_ble_eq_true rfl) dX10_way_66 rfl (kX10_finding hq2) ?_
      obtain rfl := Option.some.inj hf
      exact K _ _ _ dX10_way_69 rfl rfl
    · replace hf := ineg c10 hf
      refine V_iload_n C 1 dX10_way_14 rfl rfl rfl ?_
      refine V_iload_n C 2 dX10_way_15 rfl rfl rfl ?_
      refine V_icmp_eq C dX10_way_16 (tgt := 43) rfl rfl (fun c9 => ?_) (fun c9 => ?_)
      · replace hf := ipos c9 hf
        refine V_iconst C dX10_way_43 rfl (v := 0) rfl ?_
        refine V_istore C (L' := [(0, .ref (ad 116)), (1, .int p1), (2, .int p2), (3, .int p3), (4, .int p4), (5, .int 0)]) dX10_way_44 rfl (by decide) hnL [1, 2, 3, 4, 5, 0] rfl ?_
        refine V_iload C 5 dX10_way_46 rfl rfl ?_
        refine V_if_eq C dX10_way_48 (tgt := 63) rfl rfl (fun _ => ?_) (fun z => absurd (by decide) z)
        refine V_aload_n C 0 dX10_way_63 rfl rfl rfl ?_
        refine V_ldc C dX10_way_64 rfl w1183 ?_
        obtain ⟨q3, hq3, hf⟩ := obd hf
        refine V_cVi C (b := 116) (As := [.int (-1000001)]) (st := []) cf10 rfl M_X10_finding w1184 ⟨by decide, by decide⟩ rfl rfl (Nat.le_of_ble_eq_true rfl) dX10_way_66 rfl (kX10_finding hq3) ?_
        obtain rfl := Option.some.inj hf
        exact K _ _ _ dX10_way_69 rfl rfl
      · replace hf := ineg c9 hf
        refine V_iload_n C 3 dX10_way_19 rfl rfl rfl ?_
        refine V_iconst C dX10_way_20 rfl (v := 0) rfl ?_
        refine V_bipush C dX10_way_21 rfl (v := 99) rfl ?_
        refine V_cSi C (As := [.int p3, .int 0, .int 99]) (st := []) M_X10_within w1180 ⟨by decide, by decide⟩ rfl rfl (Nat.le_of_ble_eq_true rfl) dX10_way_23 rfl (kX10_within rfl) ?_
        refine V_if_eq C dX10_way_26 (tgt := 43) rfl rfl (fun c8 => ?_) (fun c8 => ?_)
        · replace hf := ipos c8 hf
          refine V_iconst C dX10_way_43 rfl (v := 0) rfl ?_
          refine V_istore C (L' := [(0, .ref (ad 116)), (1, .int p1), (2, .int p2), (3, .int p3), (4, .int p4), (5, .int 0)]) dX10_way_44 rfl (by decide) hnL [1, 2, 3, 4, 5, 0] rfl ?_
          refine V_iload C 5 dX10_way_46 rfl rfl ?_
          refine V_if_eq C dX10_way_48 (tgt := 63) rfl rfl (fun _ => ?_) (fun z => absurd (by decide) z)
          refine V_aload_n C 0 dX10_way_63 rfl rfl rfl ?_
          refine V_ldc C dX10_way_64 rfl w1183 ?_
          obtain ⟨q4, hq4, hf⟩ := obd hf
          refine V_cVi C (b := 116) (As := [.int (-1000001)]) (st := []) cf10 rfl M_X10_finding w1184 ⟨by decide, by decide⟩ rfl rfl (Nat.le_of_ble_eq_true rfl) dX10_way_66 rfl (kX10_finding hq4) ?_
          obtain rfl := Option.some.inj hf
          exact K _ _ _ dX10_way_69 rfl rfl
        · replace hf := ineg c8 hf
          refine V_iload C 4 dX10_way_29 rfl rfl ?_
          refine V_iconst C dX10_way_31 rfl (v := 0) rfl ?_
          refine V_iconst C dX10_way_32 rfl (v := 1) rfl ?_
          refine V_cSi C (As := [.int p4, .int 0, .int 1]) (st := []) M_X10_within w1180 ⟨by decide, by decide⟩ rfl rfl (Nat.le_of_ble_eq_true rfl) dX10_way_33 rfl (kX10_within rfl) ?_
          refine V_if_eq C dX10_way_36 (tgt := 43) rfl rfl (fun c7 => ?_) (fun c7 => ?_)
          · replace hf := ipos c7 hf
            refine V_iconst C dX10_way_43 rfl (v := 0) rfl ?_
            refine V_istore C (L' := [(0, .ref (ad 116)), (1, .int p1), (2, .int p2), (3, .int p3), (4, .int p4), (5, .int 0)]) dX10_way_44 rfl (by decide) hnL [1, 2, 3, 4, 5, 0] rfl ?_
            refine V_iload C 5 dX10_way_46 rfl rfl ?_
            refine V_if_eq C dX10_way_48 (tgt := 63) rfl rfl (fun _ => ?_) (fun z => absurd (by decide) z)
            refine V_aload_n C 0 dX10_way_63 rfl rfl rfl ?_
            refine V_ldc C dX10_way_64 rfl w1183 ?_
            obtain ⟨q5, hq5, hf⟩ := obd hf
            refine V_cVi C (b := 116) (As := [.int (-1000001)]) (st := []) cf10 rfl M_X10_finding w1184 ⟨by decide, by decide⟩ rfl rfl (Nat.le_of_ble_eq_true rfl) dX10_way_66 rfl (kX10_finding hq5) ?_
            obtain rfl := Option.some.inj hf
            exact K _ _ _ dX10_way_69 rfl rfl
          · replace hf := ineg c7 hf
            refine V_iconst C dX10_way_39 rfl (v := 1) rfl ?_
            refine V_goto C dX10_way_40 (tgt := 44) rfl ?_
            refine V_istore C (L' := [(0, .ref (ad 116)), (1, .int p1), (2, .int p2), (3, .int p3), (4, .int p4), (5, .int 1)]) dX10_way_44 rfl (by decide) hnL [1, 2, 3, 4, 5, 0] rfl ?_
            refine V_iload C 5 dX10_way_46 rfl rfl ?_
            refine V_if_eq C dX10_way_48 (tgt := 63) rfl rfl (fun z => absurd z (by decide)) (fun _ => ?_)
            refine V_aload_n C 0 dX10_way_51 rfl rfl rfl ?_
            refine V_iload_n C 1 dX10_way_52 rfl rfl rfl ?_
            refine V_iload_n C 2 dX10_way_53 rfl rfl rfl ?_
            refine V_iload_n C 3 dX10_way_54 rfl rfl rfl ?_
            refine V_iload C 4 dX10_way_55 rfl rfl ?_
            obtain ⟨q6, hq6, hf⟩ := obd hf
            refine V_cVi C (b := 116) (As := [.int p1, .int p2, .int p3, .int p4]) (st := []) cf10 rfl M_X10_wayIs w1252 ⟨by decide, by decide⟩ rfl rfl (Nat.le_of_ble_eq_true rfl) dX10_way_57 rfl (kX10_wayIs hq6) ?_
            refine V_goto C dX10_way_60 (tgt := 69) rfl ?_
            obtain rfl := Option.some.inj hf
            exact K _ _ _ dX10_way_69 rfl rfl
