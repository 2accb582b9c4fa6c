set_option maxHeartbeats 4000000 in
set_option maxRecDepth 100000 in
theorem kX8_nextPlace {S : List Shp} {ad : Nat → Nat} {G : Gh} {p0 : Nat} (h0 : isW S p0) {p1 : Int32} {p2 : Int32} {p3 : Int32} {u : Mem} {q : Int32} (hf : FX8_nextPlace p0 p1 p2 p3 u = some q) : Ct S ad G yX8_nextPlace cX8_nextPlace 7 (some .int) 3 65 [.ref (ad p0), .int p1, .int p2, .int p3] u (some (.int q)) u := by
  refine Ct_ofI (by decide) (Nat.le_of_ble_eq_true rfl) (fun X C hnL K => ?_)
  have C : Cx ad G X cX8_nextPlace "CarryFair$Ways" 3 65 := C
  unfold FX8_nextPlace at hf
  have Lp12 : ∀ (v4 : Int32) (x0 : (Int32)) (q12 : (Nat × Int32)), lp (BX8_nextPlace_12 p0 p1 p2 p3 u v4) FU x0 = some q12 → (q12.1 = 0 → V S ad G X 65 [(0, .ref (ad p0)), (1, .int p1), (2, .int p2), (3, .int p3), (4, .int v4), (5, .int q12.2)] [] u) → (q12.1 = 1 → V S ad G X 74 [(0, .ref (ad p0)), (1, .int p1), (2, .int p2), (3, .int p3), (4, .int v4), (5, .int q12.2)] [] u) → V S ad G X 12 [(0, .ref (ad p0)), (1, .int p1), (2, .int p2), (3, .int p3), (4, .int v4), (5, .int x0)] [] u := by
    intro v4 x0 q12 hq hx12_0 hx12_1
    refine lp_V (BX8_nextPlace_12 p0 p1 p2 p3 u v4) (fun x12 => V S ad G X 12 [(0, .ref (ad p0)), (1, .int p1), (2, .int p2), (3, .int p3), (4, .int v4), (5, .int x12)] [] u) q12 (fun rec12 ih12 x12 hf => ?_) FU x0 hq
    unfold BX8_nextPlace_12 at hf
    refine V_iload C 5 dX8_nextPlace_12 rfl rfl ?_
    refine V_bipush C dX8_nextPlace_14 rfl (v := 7) rfl ?_
    refine V_icmp_ge C dX8_nextPlace_16 (tgt := 74) rfl rfl (fun c8 => ?_) (fun c8 => ?_)
    · replace hf := ipos c8 hf
      obtain rfl := Option.some.inj hf
      exact hx12_1 rfl
    · replace hf := ineg c8 hf
      refine V_iload_n C 2 dX8_nextPlace_19 rfl rfl rfl ?_
      refine V_iload_n C 3 dX8_nextPlace_20 rfl rfl rfl ?_
      refine V_icmp_eq C dX8_nextPlace_21 (tgt := 74) rfl rfl (fun c7 => ?_) (fun c7 => ?_)
      · replace hf := ipos c7 hf
        obtain rfl := Option.some.inj hf
        exact hx12_1 rfl
      · replace hf := ineg c7 hf
        refine V_aload_n C 0 dX8_nextPlace_24 rfl rfl rfl ?_
        refine V_gait C w492 dX8_nextPlace_25 rfl ?_
        refine V_iload_n C 1 dX8_nextPlace_28 rfl rfl rfl ?_
        obtain ⟨g2, hf⟩ := gd hf
        refine V_gait_ld C g2 dX8_nextPlace_29 rfl ?_
        refine V_iload_n C 2 dX8_nextPlace_30 rfl rfl rfl ?_
        refine V_bipush C dX8_nextPlace_31 rfl (v := 7) rfl ?_
        refine V_imul C dX8_nextPlace_33 rfl ?_
        refine V_iload C 5 dX8_nextPlace_34 rfl rfl ?_
        refine V_iadd C dX8_nextPlace_36 rfl ?_
        obtain ⟨q3, hq3, hf⟩ := obd hf
        refine V_cVi C (b := p0) (As := [.int (tGait (p1).toNatClampNeg), .int ((p2 * 7) + x12)]) (st := []) cf8 (sW h0) M_X8_stepAt w142 ⟨by decide, by decide⟩ rfl rfl (Nat.le_of_ble_eq_true rfl) dX8_nextPlace_37 rfl (kX8_stepAt h0 hq3) ?_
        refine V_istore C (L' := [(0, .ref (ad p0)), (1, .int p1), (2, .int p2), (3, .int p3), (4, .int v4), (5, .int x12), (6, .int q3)]) dX8_nextPlace_40 rfl (by decide) hnL [1, 2, 3, 4, 5, 6, 0] rfl ?_
        refine V_iload C 6 dX8_nextPlace_42 rfl rfl ?_
        refine V_ldc C dX8_nextPlace_44 rfl w146 ?_
        refine V_icmp_ge C dX8_nextPlace_46 (tgt := 68) rfl rfl (fun c6 => ?_) (fun c6 => ?_)
        · replace hf := ipos c6 hf
          refine V_iinc C (v := (x12 + 1)) (L' := [(0, .ref (ad p0)), (1, .int p1), (2, .int p2), (3, .int p3), (4, .int v4), (5, .int (x12 + 1)), (6, .int q3)]) 5 dX8_nextPlace_68 rfl rfl rfl (by decide) hnL [1, 2, 3, 4, 5, 0, 6] rfl ?_
          refine V_goto C dX8_nextPlace_71 (tgt := 12) rfl ?_
          refine V_sub (L' := [(0, .ref (ad p0)), (1, .int p1), (2, .int p2), (3, .int p3), (4, .int v4), (5, .int (x12 + 1))]) [0, 1, 2, 3, 4, 5] rfl ?_
          exact ih12 (x12 + 1) hf
        · replace hf := ineg c6 hf
          refine V_iload C 6 dX8_nextPlace_49 rfl rfl ?_
          refine V_aload_n C 0 dX8_nextPlace_51 rfl rfl rfl ?_
          refine V_iload_n C 1 dX8_nextPlace_52 rfl rfl rfl ?_
          refine V_iload C 5 dX8_nextPlace_53 rfl rfl ?_
          refine V_iload_n C 3 dX8_nextPlace_55 rfl rfl rfl ?_
          obtain ⟨q4, hq4, hf⟩ := obd hf
          refine V_cVi C (b := p0) (As := [.int p1, .int x12, .int p3]) (st := [.int q3]) cf8 (sW h0) M_X8_yardsFor w530 ⟨by decide, by decide⟩ rfl rfl (Nat.le_of_ble_eq_true rfl) dX8_nextPlace_56 rfl (kX8_yardsFor h0 hq4) ?_
          refine V_iadd C dX8_nextPlace_59 rfl ?_
          refine V_iload C 4 dX8_nextPlace_60 rfl rfl ?_
          refine V_icmp_ne C dX8_nextPlace_62 (tgt := 68) rfl rfl (fun c5 => ?_) (fun c5 => ?_)
          · replace hf := ineg c5 hf
            refine V_iinc C (v := (x12 + 1)) (L' := [(0, .ref (ad p0)), (1, .int p1), (2, .int p2), (3, .int p3), (4, .int v4), (5, .int (x12 + 1)), (6, .int q3)]) 5 dX8_nextPlace_68 rfl rfl rfl (by decide) hnL [1, 2, 3, 4, 5, 0, 6] rfl ?_
            refine V_goto C dX8_nextPlace_71 (tgt := 12) rfl ?_
            refine V_sub (L' := [(0, .ref (ad p0)), (1, .int p1), (2, .int p2), (3, .int p3), (4, .int v4), (5, .int (x12 + 1))]) [0, 1, 2, 3, 4, 5] rfl ?_
            exact ih12 (x12 + 1) hf
          · replace hf := ipos c5 hf
            refine V_sub (L' := [(0, .ref (ad p0)), (1, .int p1), (2, .int p2), (3, .int p3), (4, .int v4), (5, .int x12)]) [0, 1, 2, 3, 4, 5] rfl ?_
            obtain rfl := Option.some.inj hf
            exact hx12_0 rfl
  refine V_aload_n C 0 dX8_nextPlace_0 rfl rfl rfl ?_
  refine V_iload_n C 1 dX8_nextPlace_1 rfl rfl rfl ?_
  refine V_iload_n C 2 dX8_nextPlace_2 rfl rfl rfl ?_
  refine V_iload_n C 3 dX8_nextPlace_3 rfl rfl rfl ?_
  obtain ⟨q1, hq1, hf⟩ := obd hf
  refine V_cVi C (b := p0) (As := [.int p1, .int p2, .int p3]) (st := []) cf8 (sW h0) M_X8_yardsFor w530 ⟨by decide, by decide⟩ rfl rfl (Nat.le_of_ble_eq_true rfl) dX8_nextPlace_4 rfl (kX8_yardsFor h0 hq1) ?_
  refine V_istore C (L' := [(0, .ref (ad p0)), (1, .int p1), (2, .int p2), (3, .int p3), (4, .int q1)]) dX8_nextPlace_7 rfl (by decide) hnL [1, 2, 3, 4, 0] rfl ?_
  refine V_iconst C dX8_nextPlace_9 rfl (v := 0) rfl ?_
  refine V_istore C (L' := [(0, .ref (ad p0)), (1, .int p1), (2, .int p2), (3, .int p3), (4, .int q1), (5, .int 0)]) dX8_nextPlace_10 rfl (by decide) hnL [1, 2, 3, 4, 5, 0] rfl ?_
  obtain ⟨q12_9, hq12_9, hf⟩ := obd hf
  refine Lp12 q1 0 q12_9 hq12_9 ?_ ?_
  · intro hk
    replace hf := ipos hk hf
    refine V_iload C 5 dX8_nextPlace_65 rfl rfl ?_
    obtain rfl := Option.some.inj hf
    exact K _ _ _ dX8_nextPlace_67 rfl rfl
  · intro hk
    replace hf := ineg (by rw [hk]; decide) hf
    refine V_iload_n C 2 dX8_nextPlace_74 rfl rfl rfl ?_
    obtain rfl := Option.some.inj hf
    exact K _ _ _ dX8_nextPlace_75 rfl rfl
set_option maxHeartbeats 4000000 in
set_option maxRecDepth 100000 in
theorem kX9_finding {ad : Nat → Nat} {G : Gh} {p1 : Int32} {u : Mem} {q : Int32 × Mem} (hf : FX9_finding p1 u = some q) : Ct shs ad G yX9_finding cX9_finding 3 (some .int) 1 22 [.ref (ad 0), .int p1] u (some (.int q.1)) q.2 := by
  refine Ct_ofI (by decide) (Nat.le_of_ble_eq_true rfl) (fun X C hnL K => ?_)
  have C : Cx ad G X cX9_finding "CarryFair" 1 22 := C
  unfold FX9_finding at hf
  refine V_ldc C dX9_finding_0 rfl w396 ?_
  refine V_iload_n C 1 dX9_finding_2 rfl rfl rfl ?_
  refine V_isub C dX9_finding_3 rfl ?_
  refine V_istore_n C (L' := [(0, .ref (ad 0)), (1, .int p1), (2, .int ((-1000001) - p1))]) dX9_finding_4 rfl rfl (by decide) hnL [1, 2, 0] rfl ?_
  refine V_iload_n C 2 dX9_finding_5 rfl rfl rfl ?_
  refine V_iconst C dX9_finding_6 rfl (v := 0) rfl ?_
  refine V_bipush C dX9_finding_7 rfl (v := 6) rfl ?_
  refine V_cSi C (As := [.int ((-1000001) - p1), .int 0, .int 6]) (st := []) M_X9_within w393 ⟨by decide, by decide⟩ rfl rfl (Nat.le_of_ble_eq_true rfl) dX9_finding_9 rfl (kX9_within rfl) ?_
  refine V_if_eq C dX9_finding_12 (tgt := 25) rfl rfl (fun c3 => ?_) (fun c3 => ?_)
  · replace hf := ipos c3 hf
    refine V_iload_n C 1 dX9_finding_25 rfl rfl rfl ?_
    obtain rfl := Option.some.inj hf
    exact K _ _ _ dX9_finding_26 rfl rfl
  · replace hf := ineg c3 hf
    refine V_aload_n C 0 dX9_finding_15 rfl rfl rfl ?_
    refine V_getR C cf9 rfl 7 rfl (by decide) w368 rfl dX9_finding_16 rfl ?_
    refine V_iload_n C 2 dX9_finding_19 rfl rfl rfl ?_
    refine V_dup2 C dX9_finding_20 rfl rfl rfl ?_
    obtain ⟨g1, hf⟩ := gd hf
    refine V_ildJ C rfl g1 rfl dX9_finding_21 rfl ?_
    refine V_iconst C dX9_finding_22 rfl (v := 1) rfl ?_
    refine V_iadd C dX9_finding_23 rfl ?_
    obtain ⟨g2, hf⟩ := gd hf
    refine V_istJ C rfl g2 rfl dX9_finding_24 rfl ?_
    refine V_iload_n C 1 dX9_finding_25 rfl rfl rfl ?_
    obtain rfl := Option.some.inj hf
    exact K _ _ _ dX9_finding_26 rfl rfl
set_option maxHeartbeats 4000000 in
set_option maxRecDepth 100000 in
theorem kX9_carrier {ad : Nat → Nat} {G : Gh} {p1 : Int32} {u : Mem} {q : Int32 × Mem} (hf : FX9_carrier p1 u = some q) : Ct shs ad G yX9_carrier cX9_carrier 2 (some .int) 2 44 [.ref (ad 0), .int p1] u (some (.int q.1)) q.2 := by
  refine Ct_ofI (by decide) (Nat.le_of_ble_eq_true rfl) (fun X C hnL K => ?_)
  have C : Cx ad G X cX9_carrier "CarryFair" 2 44 := C
  unfold FX9_carrier at hf
  refine V_iload_n C 1 dX9_carrier_0 rfl rfl rfl ?_
  refine V_iconst C dX9_carrier_1 rfl (v := 0) rfl ?_
  refine V_bipush C dX9_carrier_2 rfl (v := 6) rfl ?_
  refine V_cSi C (As := [.int p1, .int 0, .int 6]) (st := []) M_X9_within w393 ⟨by decide, by decide⟩ rfl rfl (Nat.le_of_ble_eq_true rfl) dX9_carrier_4 rfl (kX9_within rfl) ?_
  refine V_if_ne C dX9_carrier_7 (tgt := 17) rfl rfl (fun c5 => ?_) (fun c5 => ?_)
  · replace hf := ineg c5 hf
    refine V_aload_n C 0 dX9_carrier_17 rfl rfl rfl ?_
    refine V_getR C cf9 rfl 0 rfl (by decide) w361 rfl dX9_carrier_18 rfl ?_
    refine V_getI C cf2 (sF isF1) 5 rfl (by decide) w260 rfl dX9_carrier_21 rfl ?_
    refine V_bipush C dX9_carrier_24 rfl (v := 6) rfl ?_
    refine V_icmp_lt C dX9_carrier_26 (tgt := 36) rfl rfl (fun c3 => ?_) (fun c3 => ?_)
    · replace hf := ipos c3 hf
      refine V_aload_n C 0 dX9_carrier_36 rfl rfl rfl ?_
      refine V_getR C cf9 rfl 0 rfl (by decide) w361 rfl dX9_carrier_37 rfl ?_
      refine V_iload_n C 1 dX9_carrier_40 rfl rfl rfl ?_
      refine V_iconst C dX9_carrier_41 rfl (v := 0) rfl ?_
      refine V_bipush C dX9_carrier_42 rfl (v := 20) rfl ?_
      obtain ⟨q1, hq1, hf⟩ := obd hf
      refine V_cVi C (b := 1) (As := [.int p1, .int 0, .int 20]) (st := []) cf2 (sF isF1) M_X2_addCarrier w402 ⟨by decide, by decide⟩ rfl rfl (Nat.le_of_ble_eq_true rfl) dX9_carrier_44 rfl (kX2_addCarrier isF1 hq1) ?_
      obtain rfl := Option.some.inj hf
      exact K _ _ _ dX9_carrier_47 rfl rfl
    · replace hf := ineg c3 hf
      refine V_aload_n C 0 dX9_carrier_29 rfl rfl rfl ?_
      refine V_ldc C dX9_carrier_30 rfl w401 ?_
      obtain ⟨q2, hq2, hf⟩ := obd hf
      refine V_cVi C (b := 0) (As := [.int (-1000002)]) (st := []) cf9 rfl M_X9_finding w397 ⟨by decide, by decide⟩ rfl rfl (Nat.le_of_ble_eq_true rfl) dX9_carrier_32 rfl (kX9_finding hq2) ?_
      obtain rfl := Option.some.inj hf
      exact K _ _ _ dX9_carrier_35 rfl rfl
  · replace hf := ipos c5 hf
    refine V_aload_n C 0 dX9_carrier_10 rfl rfl rfl ?_
    refine V_ldc C dX9_carrier_11 rfl w396 ?_
    obtain ⟨q4, hq4, hf⟩ := obd hf
    refine V_cVi C (b := 0) (As := [.int (-1000001)]) (st := []) cf9 rfl M_X9_finding w397 ⟨by decide, by decide⟩ rfl rfl (Nat.le_of_ble_eq_true rfl) dX9_carrier_13 rfl (kX9_finding hq4) ?_
    obtain rfl := Option.some.inj hf
    exact K _ _ _ dX9_carrier_16 rfl rfl
set_option maxHeartbeats 4000000 in
set_option maxRecDepth 100000 in
theorem kX9_of {ad : Nat → Nat} {G : Gh} {p1 : Int32} {p2 : Int32} {u : Mem} {q : Int32 × Mem} (hf : FX9_of p1 p2 u = some q) : Ct shs ad G yX9_of cX9_of 4 (some .int) 2 44 [.ref (ad 0), .int p1, .int p2] u (some (.int q.1)) q.2 := by
  refine Ct_ofI (by decide) (Nat.le_of_ble_eq_true rfl) (fun X C hnL K => ?_)
  have C : Cx ad G X cX9_of "CarryFair" 2 44 := C
  unfold FX9_of at hf
  refine V_aload_n C 0 dX9_of_0 rfl rfl rfl ?_
  refine V_getR C cf9 rfl 0 rfl (by decide) w361 rfl dX9_of_1 rfl ?_
  refine V_iload_n C 1 dX9_of_4 rfl rfl rfl ?_
  refine V_cVi C (b := 1) (As := [.int p1]) (st := []) cf2 (sF isF1) M_X2_hasCarrier w410 ⟨by decide, by decide⟩ rfl rfl (Nat.le_of_ble_eq_true rfl) dX9_of_5 rfl (kX2_hasCarrier isF1 rfl) ?_
  refine V_if_ne C dX9_of_8 (tgt := 18) rfl rfl (fun c15 => ?_) (fun c15 => ?_)
  · replace hf := ineg c15 hf
    refine V_aload_n C 0 dX9_of_18 rfl rfl rfl ?_
    refine V_getR C cf9 rfl 0 rfl (by decide) w361 rfl dX9_of_19 rfl ?_
    refine V_getR C cf2 (sF isF1) 0 rfl (by decide) w247 rfl dX9_of_22 rfl ?_
    refine V_iload_n C 1 dX9_of_25 rfl rfl rfl ?_
    obtain ⟨g1, hf⟩ := gd hf
    refine V_aald C (sFc isF1) (fun _ => rfl) g1 (sCag g1) dX9_of_26 rfl ?_
    refine V_astore_n C (L' := [(0, .ref (ad 0)), (1, .int p1), (2, .int p2), (3, .ref (ad (1 + 12 + (p1).toNatClampNeg)))]) dX9_of_27 rfl rfl (by decide) hnL [1, 2, 3, 0] rfl ?_
    refine V_iload_n C 2 dX9_of_28 rfl rfl rfl ?_
    by_cases c2 : p2 = 0
    · replace hf := ipos c2 hf
      refine V_tin C dX9_of_29 0 c2 (by decide) (by decide) rfl (tgt := 76) rfl ?_
      refine V_aload_n C 3 dX9_of_76 rfl rfl rfl ?_
      refine V_getI C cf0 (sCa isF1 g1) 0 rfl (by decide) w170 rfl dX9_of_77 rfl ?_
      obtain rfl := Option.some.inj hf
      exact K _ _ _ dX9_of_80 rfl rfl
    replace hf := ineg c2 hf
    by_cases c3 : p2 = 1
    · replace hf := ipos c3 hf
      refine V_tin C dX9_of_29 1 c3 (by decide) (by decide) rfl (tgt := 81) rfl ?_
      refine V_aload_n C 3 dX9_of_81 rfl rfl rfl ?_
      refine V_getI C cf0 (sCa isF1 g1) 1 rfl (by decide) w174 rfl dX9_of_82 rfl ?_
      obtain rfl := Option.some.inj hf
      exact K _ _ _ dX9_of_85 rfl rfl
    replace hf := ineg c3 hf
    by_cases c4 : p2 = 2
    · replace hf := ipos c4 hf
      refine V_tin C dX9_of_29 2 c4 (by decide) (by decide) rfl (tgt := 86) rfl ?_
      refine V_aload_n C 3 dX9_of_86 rfl rfl rfl ?_
      refine V_getI C cf0 (sCa isF1 g1) 2 rfl (by decide) w178 rfl dX9_of_87 rfl ?_
      obtain rfl := Option.some.inj hf
      exact K _ _ _ dX9_of_90 rfl rfl
    replace hf := ineg c4 hf
    by_cases c5 : p2 = 3
    · replace hf := ipos c5 hf
      refine V_tin C dX9_of_29 3 c5 (by decide) (by decide) rfl (tgt := 91) rfl ?_
      refine V_aload_n C 3 dX9_of_91 rfl rfl rfl ?_
      refine V_getI C cf0 (sCa isF1 g1) 3 rfl (by decide) w181 rfl dX9_of_92 rfl ?_
      obtain rfl := Option.some.inj hf
      exact K _ _ _ dX9_of_95 rfl rfl
    replace hf := ineg c5 hf
    by_cases c6 : p2 = 4
    · replace hf := ipos c6 hf
      refine V_tin C dX9_of_29 4 c6 (by decide) (by decide) rfl (tgt := 96) rfl ?_
      refine V_aload_n C 3 dX9_of_96 rfl rfl rfl ?_
      refine V_getI C cf0 (sCa isF1 g1) 4 rfl (by decide) w184 rfl dX9_of_97 rfl ?_
      obtain rfl := Option.some.inj hf
      exact K _ _ _ dX9_of_100 rfl rfl
    replace hf := ineg c6 hf
    by_cases c7 : p2 = 5
    · replace hf := ipos c7 hf
      refine V_tin C dX9_of_29 5 c7 (by decide) (by decide) rfl (tgt := 101) rfl ?_
      refine V_aload_n C 3 dX9_of_101 rfl rfl rfl ?_
      refine V_cVi C (b := (1 + 12 + (p1).toNatClampNeg)) (As := []) (st := []) cf0 (sCa isF1 g1) M_X0_canBear w415 ⟨by decide, by decide⟩ rfl rfl (Nat.le_of_ble_eq_true rfl) dX9_of_102 rfl (kX0_canBear (sCa isF1 g1) rfl) ?_
      obtain rfl := Option.some.inj hf
      exact K _ _ _ dX9_of_105 rfl rfl
    replace hf := ineg c7 hf
    by_cases c8 : p2 = 6
    · replace hf := ipos c8 hf
      refine V_tin C dX9_of_29 6 c8 (by decide) (by decide) rfl (tgt := 106) rfl ?_
      refine V_aload_n C 0 dX9_of_106 rfl rfl rfl ?_
      refine V_getR C cf9 rfl 0 rfl (by decide) w361 rfl dX9_of_107 rfl ?_
      refine V_iload_n C 1 dX9_of_110 rfl rfl rfl ?_
      obtain ⟨q9, hq9, hf⟩ := obd hf
      refine V_cVi C (b := 1) (As := [.int p1]) (st := []) cf2 (sF isF1) M_X2_carriedBy w422 ⟨by decide, by decide⟩ rfl rfl (Nat.le_of_ble_eq_true rfl) dX9_of_111 rfl (kX2_carriedBy isF1 hq9) ?_
      obtain rfl := Option.some.inj hf
      exact K _ _ _ dX9_of_114 rfl rfl
    replace hf := ineg c8 hf
    by_cases c10 : p2 = 7
    · replace hf := ipos c10 hf
      refine V_tin C dX9_of_29 7 c10 (by decide) (by decide) rfl (tgt := 115) rfl ?_
      refine V_aload_n C 0 dX9_of_115 rfl rfl rfl ?_
      refine V_getR C cf9 rfl 0 rfl (by decide) w361 rfl dX9_of_116 rfl ?_
      refine V_aload_n C 0 dX9_of_119 rfl rfl rfl ?_
      refine V_getR C cf9 rfl 0 rfl (by decide) w361 rfl dX9_of_120 rfl ?_
      refine V_iload_n C 1 dX9_of_123 rfl rfl rfl ?_
      obtain ⟨q11, hq11, hf⟩ := obd hf
      refine V_cVi C (b := 1) (As := [.int p1]) (st := [.ref (ad 1)]) cf2 (sF isF1) M_X2_carriedBy w422 ⟨by decide, by decide⟩ rfl rfl (Nat.le_of_ble_eq_true rfl) dX9_of_124 rfl (kX2_carriedBy isF1 hq11) ?_
      obtain ⟨q12, hq12, hf⟩ := obd hf
      refine V_cVi C (b := 1) (As := [.int q11]) (st := []) cf2 (sF isF1) M_X2_weightOf w426 ⟨by decide, by decide⟩ rfl rfl (Nat.le_of_ble_eq_true rfl) dX9_of_127 rfl (kX2_weightOf isF1 hq12) ?_
      obtain rfl := Option.some.inj hf
      exact K _ _ _ dX9_of_130 rfl rfl
    replace hf := ineg c10 hf
    refine V_tout C dX9_of_29 (by have nc2 := lv_neT (a := 0) c2 (by decide); have nc3 := lv_neT (a := 1) c3 (by decide); have nc4 := lv_neT (a := 2) c4 (by decide); have nc5 := lv_neT (a := 3) c5 (by decide); have nc6 := lv_neT (a := 4) c6 (by decide); have nc7 := lv_neT (a := 5) c7 (by decide); have nc8 := lv_neT (a := 6) c8 (by decide); have nc10 := lv_neT (a := 7) c10 (by decide); omega) (tgt := 131) rfl ?_
    refine V_aload_n C 0 dX9_of_131 rfl rfl rfl ?_
    refine V_ldc C dX9_of_132 rfl w396 ?_
    obtain ⟨q13, hq13, hf⟩ := obd hf
    refine V_cVi C (b := 0) (As := [.int (-1000001)]) (st := []) cf9 rfl M_X9_finding w397 ⟨by decide, by decide⟩ rfl rfl (Nat.le_of_ble_eq_true rfl) dX9_of_134 rfl (kX9_finding hq13) ?_
    obtain rfl := Option.some.inj hf
    exact K _ _ _ dX9_of_137 rfl rfl
  · replace hf := ipos c15 hf
    refine V_aload_n C 0 dX9_of_11 rfl rfl rfl ?_
    refine V_ldc C dX9_of_12 rfl w396 ?_
    obtain ⟨q14, hq14, hf⟩ := obd hf
    refine V_cVi C (b := 0) (As := [.int (-1000001)]) (st := []) cf9 rfl M_X9_finding w397 ⟨by decide, by decide⟩ rfl rfl (Nat.le_of_ble_eq_true rfl) dX9_of_14 rfl (kX9_finding hq14) ?_
    obtain rfl := Option.some.inj hf
    exact K _ _ _ dX9_of_17 rfl rfl
set_option maxHeartbeats 4000000 in
set_option maxRecDepth 100000 in
theorem kX9_isPlace {ad : Nat → Nat} {G : Gh} {p0 : Int32} {u : Mem} {q : Int32} (hf : FX9_isPlace p0 = q) : Ct shs ad G yX9_isPlace cX9_isPlace 1 (some .boolean) 1 22 [.int p0] u (some (.int q)) u := by
  refine Ct_ofI (by decide) (Nat.le_of_ble_eq_true rfl) (fun X C hnL K => ?_)
  have C : Cx ad G X cX9_isPlace "CarryFair" 1 22 := C
  unfold FX9_isPlace at hf
  refine V_iload_n C 0 dX9_isPlace_0 rfl rfl rfl ?_
  refine V_iconst C dX9_isPlace_1 rfl (v := 0) rfl ?_
  refine V_bipush C dX9_isPlace_2 rfl (v := 6) rfl ?_
  refine V_cSi C (As := [.int p0, .int 0, .int 6]) (st := []) M_X9_within w393 ⟨by decide, by decide⟩ rfl rfl (Nat.le_of_ble_eq_true rfl) dX9_isPlace_4 rfl (kX9_within rfl) ?_
  subst hf
  exact K _ _ _ dX9_isPlace_7 rfl (nzb (bX9_within))
set_option maxHeartbeats 4000000 in
set_option maxRecDepth 100000 in
theorem kX9_isChange {ad : Nat → Nat} {G : Gh} {p0 : Int32} {p1 : Int32} {u : Mem} {q : Int32} (hf : FX9_isChange p0 p1 = q) : Ct shs ad G yX9_isChange cX9_isChange 2 (some .boolean) 2 42 [.int p0, .int p1] u (some (.int q)) u := by
  refine Ct_ofI (by decide) (Nat.le_of_ble_eq_true rfl) (fun X C hnL K => ?_)
  have C : Cx ad G X cX9_isChange "CarryFair" 2 42 := C
  unfold FX9_isChange at hf
  refine V_iload_n C 0 dX9_isChange_0 rfl rfl rfl ?_
  by_cases c1 : p0 = 0
  · replace hf := ipos c1 hf
    refine V_tin C dX9_isChange_1 0 c1 (by decide) (by decide) rfl (tgt := 32) rfl ?_
    refine V_iload_n C 1 dX9_isChange_32 rfl rfl rfl ?_
    refine V_iconst C dX9_isChange_33 rfl (v := 0) rfl ?_
    refine V_bipush C dX9_isChange_34 rfl (v := 6) rfl ?_
    refine V_cSi C (As := [.int p1, .int 0, .int 6]) (st := []) M_X9_within w393 ⟨by decide, by decide⟩ rfl rfl (Nat.le_of_ble_eq_true rfl) dX9_isChange_36 rfl (kX9_within rfl) ?_
    subst hf
    exact K _ _ _ dX9_isChange_39 rfl (nzb (bX9_within))
  replace hf := ineg c1 hf
  by_cases c2 : p0 = 1
  · replace hf := ipos c2 hf
    refine V_tin C dX9_isChange_1 1 c2 (by decide) (by decide) rfl (tgt := 40) rfl ?_
    refine V_iload_n C 1 dX9_isChange_40 rfl rfl rfl ?_
    refine V_cSi C (As := [.int p1]) (st := []) M_X9_isPlace w440 ⟨by decide, by decide⟩ rfl rfl (Nat.le_of_ble_eq_true rfl) dX9_isChange_41 rfl (kX9_isPlace rfl) ?_
    subst hf
    exact K _ _ _ dX9_isChange_44 rfl (nzb (bX9_isPlace))
  replace hf := ineg c2 hf
  by_cases c3 : p0 = 2
  · replace hf := ipos c3 hf
    refine V_tin C dX9_isChange_1 2 c3 (by decide) (by decide) rfl (tgt := 45) rfl ?_
    refine V_iload_n C 1 dX9_isChange_45 rfl rfl rfl ?_
    refine V_iconst C dX9_isChange_46 rfl (v := 1) rfl ?_
    refine V_bipush C dX9_isChange_47 rfl (v := 99) rfl ?_
    refine V_cSi C (As := [.int p1, .int 1, .int 99]) (st := []) M_X9_within w393 ⟨by decide, by decide⟩ rfl rfl (Nat.le_of_ble_eq_true rfl) dX9_isChange_49 rfl (kX9_within rfl) ?_
    subst hf
    exact K _ _ _ dX9_isChange_52 rfl (nzb (bX9_within))
  replace hf := ineg c3 hf
  by_cases c4 : p0 = 3
  · replace hf := ipos c4 hf
    refine V_tin C dX9_isChange_1 3 c4 (by decide) (by decide) rfl (tgt := 53) rfl ?_
    refine V_iload_n C 1 dX9_isChange_53 rfl rfl rfl ?_
    refine V_iconst C dX9_isChange_54 rfl (v := 0) rfl ?_
    refine V_ldcw C dX9_isChange_55 rfl w443 ?_
    refine V_cSi C (As := [.int p1, .int 0, .int 999999]) (st := []) M_X9_within w393 ⟨by decide, by decide⟩ rfl rfl (Nat.le_of_ble_eq_true rfl) dX9_isChange_58 rfl (kX9_within rfl) ?_
    subst hf
    exact K _ _ _ dX9_isChange_61 rfl (nzb (bX9_within))
  replace hf := ineg c4 hf
  refine V_tout C dX9_isChange_1 (by have nc1 := lv_neT (a := 0) c1 (by decide); have nc2 := lv_neT (a := 1) c2 (by decide); have nc3 := lv_neT (a := 2) c3 (by decide); have nc4 := lv_neT (a := 3) c4 (by decide); omega) (tgt := 62) rfl ?_
  refine V_iconst C dX9_isChange_62 rfl (v := 0) rfl ?_
  subst hf
  exact K _ _ _ dX9_isChange_63 rfl (by decide)
set_option maxHeartbeats 4000000 in
set_option maxRecDepth 100000 in
theorem kX9_change {ad : Nat → Nat} {G : Gh} {p1 : Int32} {p2 : Int32} {p3 : Int32} {u : Mem} {q : Int32 × Mem} (hf : FX9_change p1 p2 p3 u = some q) : Ct shs ad G yX9_change cX9_change 6 (some .int) 3 63 [.ref (ad 0), .int p1, .int p2, .int p3] u (some (.int q.1)) q.2 := by
  refine Ct_ofI (by decide) (Nat.le_of_ble_eq_true rfl) (fun X C hnL K => ?_)
  have C : Cx ad G X cX9_change "CarryFair" 3 63 := C
  unfold FX9_change at hf
  refine V_aload_n C 0 dX9_change_0 rfl rfl rfl ?_
  refine V_getR C cf9 rfl 0 rfl (by decide) w361 rfl dX9_change_1 rfl ?_
  refine V_iload_n C 1 dX9_change_4 rfl rfl rfl ?_
  refine V_cVi C (b := 1) (As := [.int p1]) (st := []) cf2 (sF isF1) M_X2_hasCarrier w410 ⟨by decide, by decide⟩ rfl rfl (Nat.le_of_ble_eq_true rfl) dX9_change_5 rfl (kX2_hasCarrier isF1 rfl) ?_
  refine V_if_eq C dX9_change_8 (tgt := 19) rfl rfl (fun c8 => ?_) (fun c8 => ?_)
  · replace hf := ipos c8 hf
    refine V_aload_n C 0 dX9_change_19 rfl rfl rfl ?_
    refine V_ldc C dX9_change_20 rfl w396 ?_
    obtain ⟨q1, hq1, hf⟩ := obd hf
    refine V_cVi C (b := 0) (As := [.int (-1000001)]) (st := []) cf9 rfl M_X9_finding w397 ⟨by decide, by decide⟩ rfl rfl (Nat.le_of_ble_eq_true rfl) dX9_change_22 rfl (kX9_finding hq1) ?_
    obtain rfl := Option.some.inj hf
    exact K _ _ _ dX9_change_25 rfl rfl
  · replace hf := ineg c8 hf
    refine V_iload_n C 2 dX9_change_11 rfl rfl rfl ?_
    refine V_iload_n C 3 dX9_change_12 rfl rfl rfl ?_
    refine V_cSi C (As := [.int p2, .int p3]) (st := []) M_X9_isChange w437 ⟨by decide, by decide⟩ rfl rfl (Nat.le_of_ble_eq_true rfl) dX9_change_13 rfl (kX9_isChange rfl) ?_
    refine V_if_ne C dX9_change_16 (tgt := 26) rfl rfl (fun c7 => ?_) (fun c7 => ?_)
    · replace hf := ineg c7 hf
      refine V_aload_n C 0 dX9_change_26 rfl rfl rfl ?_
      refine V_getR C cf9 rfl 0 rfl (by decide) w361 rfl dX9_change_27 rfl ?_
      refine V_getR C cf2 (sF isF1) 0 rfl (by decide) w247 rfl dX9_change_30 rfl ?_
      refine V_iload_n C 1 dX9_change_33 rfl rfl rfl ?_
      obtain ⟨g2, hf⟩ := gd hf
      refine V_aald C (sFc isF1) (fun _ => rfl) g2 (sCag g2) dX9_change_34 rfl ?_
      refine V_astore C (L' := [(0, .ref (ad 0)), (1, .int p1), (2, .int p2), (3, .int p3), (4, .ref (ad (1 + 12 + (p1).toNatClampNeg)))]) dX9_change_35 rfl (by decide) hnL [1, 2, 3, 4, 0] rfl ?_
      refine V_iload_n C 2 dX9_change_37 rfl rfl rfl ?_
      refine V_if_ne C dX9_change_38 (tgt := 57) rfl rfl (fun c5 => ?_) (fun c5 => ?_)
      · replace hf := ineg c5 hf
        refine V_iload_n C 2 dX9_change_57 rfl rfl rfl ?_
        refine V_iconst C dX9_change_58 rfl (v := 1) rfl ?_
        refine V_icmp_ne C dX9_change_59 (tgt := 78) rfl rfl (fun c4 => ?_) (fun c4 => ?_)
        · replace hf := ineg c4 hf
          refine V_iload_n C 2 dX9_change_78 rfl rfl rfl ?_
          refine V_iconst C dX9_change_79 rfl (v := 2) rfl ?_
          refine V_icmp_ne C dX9_change_80 (tgt := 99) rfl rfl (fun c3 => ?_) (fun c3 => ?_)
          · replace hf := ineg c3 hf
            refine V_aload C 4 dX9_change_99 rfl rfl ?_
            refine V_getI C cf0 (sCa isF1 g2) 3 rfl (by decide) w181 rfl dX9_change_101 rfl ?_
            refine V_istore C (L' := [(0, .ref (ad 0)), (1, .int p1), (2, .int p2), (3, .int p3), (4, .ref (ad (1 + 12 + (p1).toNatClampNeg))), (5, .int (u (1 + 12 + (p1).toNatClampNeg) 3))]) dX9_change_104 rfl (by decide) hnL [1, 2, 3, 4, 5, 0] rfl ?_
            refine V_aload C 4 dX9_change_106 rfl rfl ?_
            refine V_iload_n C 3 dX9_change_108 rfl rfl rfl ?_
            refine V_put C cf0 (sCa isF1 g2) 3 rfl (by decide) w181 rfl rfl rfl rfl dX9_change_109 rfl ?_
            refine V_iload C 5 dX9_change_112 rfl rfl ?_
            obtain rfl := Option.some.inj hf
            exact K _ _ _ dX9_change_114 rfl rfl
          · replace hf := ipos c3 hf
            refine V_aload C 4 dX9_change_83 rfl rfl ?_
            refine V_getI C cf0 (sCa isF1 g2) 2 rfl (by decide) w178 rfl dX9_change_85 rfl ?_
            refine V_istore C (L' := [(0, .ref (ad 0)), (1, .int p1), (2, .int p2), (3, .int p3), (4, .ref (ad (1 + 12 + (p1).toNatClampNeg))), (5, .int (u (1 + 12 + (p1).toNatClampNeg) 2))]) dX9_change_88 rfl (by decide) hnL [1, 2, 3, 4, 5, 0] rfl ?_
            refine V_aload C 4 dX9_change_90 rfl rfl ?_
            refine V_iload_n C 3 dX9_change_92 rfl rfl rfl ?_
            refine V_put C cf0 (sCa isF1 g2) 2 rfl (by decide) w178 rfl rfl rfl rfl dX9_change_93 rfl ?_
            refine V_goto C dX9_change_96 (tgt := 112) rfl ?_
            refine V_iload C 5 dX9_change_112 rfl rfl ?_
            obtain rfl := Option.some.inj hf
            exact K _ _ _ dX9_change_114 rfl rfl
        · replace hf := ipos c4 hf
          refine V_aload C 4 dX9_change_62 rfl rfl ?_
          refine V_getI C cf0 (sCa isF1 g2) 1 rfl (by decide) w174 rfl dX9_change_64 rfl ?_
          refine V_istore C (L' := [(0, .ref (ad 0)), (1, .int p1), (2, .int p2), (3, .int p3), (4, .ref (ad (1 + 12 + (p1).toNatClampNeg))), (5, .int (u (1 + 12 + (p1).toNatClampNeg) 1))]) dX9_change_67 rfl (by decide) hnL [1, 2, 3, 4, 5, 0] rfl ?_
          refine V_aload C 4 dX9_change_69 rfl rfl ?_
          refine V_iload_n C 3 dX9_change_71 rfl rfl rfl ?_
          refine V_put C cf0 (sCa isF1 g2) 1 rfl (by decide) w174 rfl rfl rfl rfl dX9_change_72 rfl ?_
          refine V_goto C dX9_change_75 (tgt := 112) rfl ?_
          refine V_iload C 5 dX9_change_112 rfl rfl ?_
          obtain rfl := Option.some.inj hf
          exact K _ _ _ dX9_change_114 rfl rfl
      · replace hf := ipos c5 hf
        refine V_aload C 4 dX9_change_41 rfl rfl ?_
        refine V_getI C cf0 (sCa isF1 g2) 0 rfl (by decide) w170 rfl dX9_change_43 rfl ?_
        refine V_istore C (L' := [(0, .ref (ad 0)), (1, .int p1), (2, .int p2), (3, .int p3), (4, .ref (ad (1 + 12 + (p1).toNatClampNeg))), (5, .int (u (1 + 12 + (p1).toNatClampNeg) 0))]) dX9_change_46 rfl (by decide) hnL [1, 2, 3, 4, 5, 0] rfl ?_
        refine V_aload C 4 dX9_change_48 rfl rfl ?_
        refine V_iload_n C 3 dX9_change_50 rfl rfl rfl ?_
        refine V_put C cf0 (sCa isF1 g2) 0 rfl (by decide) w170 rfl rfl rfl rfl dX9_change_51 rfl ?_
        refine V_goto C dX9_change_54 (tgt := 112) rfl ?_
        refine V_iload C 5 dX9_change_112 rfl rfl ?_
        obtain rfl := Option.some.inj hf
        exact K _ _ _ dX9_change_114 rfl rfl
    · replace hf := ipos c7 hf
      refine V_aload_n C 0 dX9_change_19 rfl rfl rfl ?_
      refine V_ldc C dX9_change_20 rfl w396 ?_
      obtain ⟨q6, hq6, hf⟩ := obd hf
      refine V_cVi C (b := 0) (As := [.int (-1000001)]) (st := []) cf9 rfl M_X9_finding w397 ⟨by decide, by decide⟩ rfl rfl (Nat.le_of_ble_eq_true rfl) dX9_change_22 rfl (kX9_finding hq6) ?_
      obtain rfl := Option.some.inj hf
      exact K _ _ _ dX9_change_25 rfl rfl
set_option maxHeartbeats 4000000 in
set_option maxRecDepth 100000 in
theorem kX9_areUnlikePlaces {ad : Nat → Nat} {G : Gh} {p0 : Int32} {p1 : Int32} {u : Mem} {q : Int32} (hf : FX9_areUnlikePlaces p0 p1 = q) : Ct shs ad G yX9_areUnlikePlaces cX9_areUnlikePlaces 2 (some .boolean) 2 42 [.int p0, .int p1] u (some (.int q)) u := by
  refine Ct_ofI (by decide) (Nat.le_of_ble_eq_true rfl) (fun X C hnL K => ?_)
  have C : Cx ad G X cX9_areUnlikePlaces "CarryFair" 2 42 := C
  unfold FX9_areUnlikePlaces at hf
  refine V_iload_n C 0 dX9_areUnlikePlaces_0 rfl rfl rfl ?_
  refine V_cSi C (As := [.int p0]) (st := []) M_X9_isPlace w440 ⟨by decide, by decide⟩ rfl rfl (Nat.le_of_ble_eq_true rfl) dX9_areUnlikePlaces_1 rfl (kX9_isPlace rfl) ?_
  refine V_if_eq C dX9_areUnlikePlaces_4 (tgt := 23) rfl rfl (fun c3 => ?_) (fun c3 => ?_)
  · replace hf := ipos c3 hf
    refine V_iconst C dX9_areUnlikePlaces_23 rfl (v := 0) rfl ?_
    subst hf
    exact K _ _ _ dX9_areUnlikePlaces_24 rfl (by decide)
  · replace hf := ineg c3 hf
    refine V_iload_n C 1 dX9_areUnlikePlaces_7 rfl rfl rfl ?_
    refine V_cSi C (As := [.int p1]) (st := []) M_X9_isPlace w440 ⟨by decide, by decide⟩ rfl rfl (Nat.le_of_ble_eq_true rfl) dX9_areUnlikePlaces_8 rfl (kX9_isPlace rfl) ?_
    refine V_if_eq C dX9_areUnlikePlaces_11 (tgt := 23) rfl rfl (fun c2 => ?_) (fun c2 => ?_)
    · replace hf := ipos c2 hf
      refine V_iconst C dX9_areUnlikePlaces_23 rfl (v := 0) rfl ?_
      subst hf
      exact K _ _ _ dX9_areUnlikePlaces_24 rfl (by decide)
    · replace hf := ineg c2 hf
      refine V_iload_n C 0 dX9_areUnlikePlaces_14 rfl rfl rfl ?_
      refine V_iload_n C 1 dX9_areUnlikePlaces_15 rfl rfl rfl ?_
      refine V_icmp_eq C dX9_areUnlikePlaces_16 (tgt := 23) rfl rfl (fun c1 => ?_) (fun c1 => ?_)
      · replace hf := ipos c1 hf
        refine V_iconst C dX9_areUnlikePlaces_23 rfl (v := 0) rfl ?_
        subst hf
        exact K _ _ _ dX9_areUnlikePlaces_24 rfl (by decide)
      · replace hf := ineg c1 hf
        refine V_iconst C dX9_areUnlikePlaces_19 rfl (v := 1) rfl ?_
        refine V_goto C dX9_areUnlikePlaces_20 (tgt := 24) rfl ?_
        subst hf
        exact K _ _ _ dX9_areUnlikePlaces_24 rfl (by decide)
set_option maxHeartbeats 4000000 in
set_option maxRecDepth 100000 in
theorem kX9_way {ad : Nat → Nat} {G : Gh} {p1 : Int32} {p2 : Int32} {p3 : Int32} {p4 : Int32} {u : Mem} {q : Int32 × Mem} (hf : FX9_way p1 p2 p3 p4 u = some q) : Ct shs ad G yX9_way cX9_way 6 (some .int) 5 113 [.ref (ad 0), .int p1, .int p2, .int p3, .int p4] u (some (.int q.1)) q.2 := by
  refine Ct_ofI (by decide) (Nat.le_of_ble_eq_true rfl) (fun X C hnL K => ?_)
  have C : Cx ad G X cX9_way "CarryFair" 5 113 := C
  unfold FX9_way at hf
  refine V_iload_n C 1 dX9_way_0 rfl rfl rfl ?_
  refine V_iload_n C 2 dX9_way_1 rfl rfl rfl ?_
  refine V_cSi C (As := [.int p1, .int p2]) (st := []) M_X9_areUnlikePlaces w448 ⟨by decide, by decide⟩ rfl rfl (Nat.le_of_ble_eq_true rfl) dX9_way_2 rfl (kX9_areUnlikePlaces rfl) ?_
  refine V_if_eq C dX9_way_5 (tgt := 28) rfl rfl (fun c9 => ?_) (fun c9 => ?_)
  · replace hf := ipos c9 hf
    refine V_aload_n C 0 dX9_way_28 rfl rfl rfl ?_
    refine V_ldc C dX9_way_29 rfl w396 ?_
    obtain ⟨q1, hq1, hf⟩ := obd hf
    refine V_cVi C (b := 0) (As := [.int (-1000001)]) (st := []) cf9 rfl M_X9_finding w397 ⟨by decide, by decide⟩ rfl rfl (Nat.le_of_ble_eq_true rfl) dX9_way_31 rfl (kX9_finding hq1) ?_
    obtain rfl := Option.some.inj hf
    exact K _ _ _ dX9_way_34 rfl rfl
  · replace hf := ineg c9 hf
    refine V_iload_n C 3 dX9_way_8 rfl rfl rfl ?_
    refine V_iconst C dX9_way_9 rfl (v := 0) rfl ?_
    refine V_bipush C dX9_way_10 rfl (v := 99) rfl ?_
    refine V_cSi C (As := [.int p3, .int 0, .int 99]) (st := []) M_X9_within w393 ⟨by decide, by decide⟩ rfl rfl (Nat.le_of_ble_eq_true rfl) dX9_way_12 rfl (kX9_within rfl) ?_
    refine V_if_eq C dX9_way_15 (tgt := 28) rfl rfl (fun c8 => ?_) (fun c8 => ?_)
    · replace hf := ipos c8 hf
      refine V_aload_n C 0 dX9_way_28 rfl rfl rfl ?_
      refine V_ldc C dX9_way_29 rfl w396 ?_
      obtain ⟨q2, hq2, hf⟩ := obd hf
      refine V_cVi C (b := 0) (As := [.int (-1000001)]) (st := []) cf9 rfl M_X9_finding w397 ⟨by decide, by decide⟩ rfl rfl (Nat.le_of_ble_eq_true rfl) dX9_way_31 rfl (kX9_finding hq2) ?_
      obtain rfl := Option.some.inj hf
      exact K _ _ _ dX9_way_34 rfl rfl
    · replace hf := ineg c8 hf
      refine V_iload C 4 dX9_way_18 rfl rfl ?_
      refine V_iconst C dX9_way_20 rfl (v := 0) rfl ?_
      refine V_iconst C dX9_way_21 rfl (v := 1) rfl ?_
      refine V_cSi C (As := [.int p4, .int 0, .int 1]) (st := []) M_X9_within w393 ⟨by decide, by decide⟩ rfl rfl (Nat.le_of_ble_eq_true rfl) dX9_way_22 rfl (kX9_within rfl) ?_
      refine V_if_ne C dX9_way_25 (tgt := 35) rfl rfl (fun c7 => ?_) (fun c7 => ?_)
      · replace hf := ineg c7 hf
        refine V_aload_n C 0 dX9_way_35 rfl rfl rfl ?_
        refine V_getR C cf9 rfl 0 rfl (by decide) w361 rfl dX9_way_36 rfl ?_
        refine V_getR C cf2 (sF isF1) 3 rfl (by decide) w256 rfl dX9_way_39 rfl ?_
        refine V_iload_n C 1 dX9_way_42 rfl rfl rfl ?_
        refine V_iload_n C 2 dX9_way_43 rfl rfl rfl ?_
        obtain ⟨q3, hq3, hf⟩ := obd hf
        refine V_cVi C (b := (1 + 4)) (As := [.int p1, .int p2]) (st := []) cf8 (sW (wF isF1)) M_X8_yardsOf w451 ⟨by decide, by decide⟩ rfl rfl (Nat.le_of_ble_eq_true rfl) dX9_way_44 rfl (kX8_yardsOf (wF isF1) hq3) ?_
        refine V_istore C (L' := [(0, .ref (ad 0)), (1, .int p1), (2, .int p2), (3, .int p3), (4, .int p4), (5, .int q3)]) dX9_way_47 rfl (by decide) hnL [1, 2, 3, 4, 5, 0] rfl ?_
        refine V_aload_n C 0 dX9_way_49 rfl rfl rfl ?_
        refine V_getR C cf9 rfl 0 rfl (by decide) w361 rfl dX9_way_50 rfl ?_
        refine V_getR C cf2 (sF isF1) 3 rfl (by decide) w256 rfl dX9_way_53 rfl ?_
        refine V_iload_n C 1 dX9_way_56 rfl rfl rfl ?_
        refine V_iload_n C 2 dX9_way_57 rfl rfl rfl ?_
        refine V_iload_n C 3 dX9_way_58 rfl rfl rfl ?_
        refine V_iload C 4 dX9_way_59 rfl rfl ?_
        obtain ⟨q4, hq4, hf⟩ := obd hf
        refine V_cVv C (b := (1 + 4)) (As := [.int p1, .int p2, .int p3, .int p4]) (st := []) cf8 (sW (wF isF1)) M_X8_lay w455 ⟨by decide, by decide⟩ rfl rfl (Nat.le_of_ble_eq_true rfl) dX9_way_61 rfl (kX8_lay (wF isF1) hq4) ?_
        refine V_aload_n C 0 dX9_way_64 rfl rfl rfl ?_
        refine V_getR C cf9 rfl 0 rfl (by decide) w361 rfl dX9_way_65 rfl ?_
        refine V_getR C cf2 (sF isF1) 3 rfl (by decide) w256 rfl dX9_way_68 rfl ?_
        obtain ⟨q5, hq5, hf⟩ := obd hf
        refine V_cVv C (b := (1 + 4)) (As := []) (st := []) cf8 (sW (wF isF1)) M_X8_measure w459 ⟨by decide, by decide⟩ rfl rfl (Nat.le_of_ble_eq_true rfl) dX9_way_71 rfl (kX8_measure (wF isF1) hq5) ?_
        refine V_iload C 5 dX9_way_74 rfl rfl ?_
        obtain rfl := Option.some.inj hf
        exact K _ _ _ dX9_way_76 rfl rfl
      · replace hf := ipos c7 hf
        refine V_aload_n C 0 dX9_way_28 rfl rfl rfl ?_
        refine V_ldc C dX9_way_29 rfl w396 ?_
        obtain ⟨q6, hq6, hf⟩ := obd hf
        refine V_cVi C (b := 0) (As := [.int (-1000001)]) (st := []) cf9 rfl M_X9_finding w397 ⟨by decide, by decide⟩ rfl rfl (Nat.le_of_ble_eq_true rfl) dX9_way_31 rfl (kX9_finding hq6) ?_
        obtain rfl := Option.some.inj hf
        exact K _ _ _ dX9_way_34 rfl rfl
set_option maxHeartbeats 4000000 in
set_option maxRecDepth 100000 in
theorem kX9_wayOf {ad : Nat → Nat} {G : Gh} {p1 : Int32} {p2 : Int32} {p3 : Int32} {u : Mem} {q : Int32 × Mem} (hf : FX9_wayOf p1 p2 p3 u = some q) : Ct shs ad G yX9_wayOf cX9_wayOf 4 (some .int) 3 63 [.ref (ad 0), .int p1, .int p2, .int p3] u (some (.int q.1)) q.2 := by
  refine Ct_ofI (by decide) (Nat.le_of_ble_eq_true rfl) (fun X C hnL K => ?_)
  have C : Cx ad G X cX9_wayOf "CarryFair" 3 63 := C
  unfold FX9_wayOf at hf
  refine V_iload_n C 1 dX9_wayOf_0 rfl rfl rfl ?_
  refine V_iload_n C 2 dX9_wayOf_1 rfl rfl rfl ?_
  refine V_cSi C (As := [.int p1, .int p2]) (st := []) M_X9_areUnlikePlaces w448 ⟨by decide, by decide⟩ rfl rfl (Nat.le_of_ble_eq_true rfl) dX9_wayOf_2 rfl (kX9_areUnlikePlaces rfl) ?_
  refine V_if_eq C dX9_wayOf_5 (tgt := 17) rfl rfl (fun c7 => ?_) (fun c7 => ?_)
  · replace hf := ipos c7 hf
    refine V_aload_n C 0 dX9_wayOf_17 rfl rfl rfl ?_
    refine V_ldc C dX9_wayOf_18 rfl w396 ?_
    obtain ⟨q1, hq1, hf⟩ := obd hf
    refine V_cVi C (b := 0) (As := [.int (-1000001)]) (st := []) cf9 rfl M_X9_finding w397 ⟨by decide, by decide⟩ rfl rfl (Nat.le_of_ble_eq_true rfl) dX9_wayOf_20 rfl (kX9_finding hq1) ?_
    obtain rfl := Option.some.inj hf
    exact K _ _ _ dX9_wayOf_23 rfl rfl
  · replace hf := ineg c7 hf
    refine V_iload_n C 3 dX9_wayOf_8 rfl rfl rfl ?_
    refine V_iconst C dX9_wayOf_9 rfl (v := 0) rfl ?_
    refine V_iconst C dX9_wayOf_10 rfl (v := 1) rfl ?_
    refine V_cSi C (As := [.int p3, .int 0, .int 1]) (st := []) M_X9_within w393 ⟨by decide, by decide⟩ rfl rfl (Nat.le_of_ble_eq_true rfl) dX9_wayOf_11 rfl (kX9_within rfl) ?_
    refine V_if_ne C dX9_wayOf_14 (tgt := 24) rfl rfl (fun c6 => ?_) (fun c6 => ?_)
    · replace hf := ineg c6 hf
      refine V_iload_n C 3 dX9_wayOf_24 rfl rfl rfl ?_
      refine V_if_ne C dX9_wayOf_25 (tgt := 43) rfl rfl (fun c4 => ?_) (fun c4 => ?_)
      · replace hf := ineg c4 hf
        refine V_aload_n C 0 dX9_wayOf_43 rfl rfl rfl ?_
        refine V_getR C cf9 rfl 0 rfl (by decide) w361 rfl dX9_wayOf_44 rfl ?_
        refine V_getR C cf2 (sF isF1) 3 rfl (by decide) w256 rfl dX9_wayOf_47 rfl ?_
        refine V_iload_n C 1 dX9_wayOf_50 rfl rfl rfl ?_
        refine V_iload_n C 2 dX9_wayOf_51 rfl rfl rfl ?_
        obtain ⟨q2, hq2, hf⟩ := obd hf
        refine V_cVi C (b := (1 + 4)) (As := [.int p1, .int p2]) (st := []) cf8 (sW (wF isF1)) M_X8_riverOf w464 ⟨by decide, by decide⟩ rfl rfl (Nat.le_of_ble_eq_true rfl) dX9_wayOf_52 rfl (kX8_riverOf (wF isF1) hq2) ?_
        obtain rfl := Option.some.inj hf
        exact K _ _ _ dX9_wayOf_55 rfl rfl
      · replace hf := ipos c4 hf
        refine V_aload_n C 0 dX9_wayOf_28 rfl rfl rfl ?_
        refine V_getR C cf9 rfl 0 rfl (by decide) w361 rfl dX9_wayOf_29 rfl ?_
        refine V_getR C cf2 (sF isF1) 3 rfl (by decide) w256 rfl dX9_wayOf_32 rfl ?_
        refine V_iload_n C 1 dX9_wayOf_35 rfl rfl rfl ?_
        refine V_iload_n C 2 dX9_wayOf_36 rfl rfl rfl ?_
        obtain ⟨q3, hq3, hf⟩ := obd hf
        refine V_cVi C (b := (1 + 4)) (As := [.int p1, .int p2]) (st := []) cf8 (sW (wF isF1)) M_X8_yardsOf w451 ⟨by decide, by decide⟩ rfl rfl (Nat.le_of_ble_eq_true rfl) dX9_wayOf_37 rfl (kX8_yardsOf (wF isF1) hq3) ?_
        refine V_goto C dX9_wayOf_40 (tgt := 55) rfl ?_
        obtain rfl := Option.some.inj hf
        exact K _ _ _ dX9_wayOf_55 rfl rfl
    · replace hf := ipos c6 hf
      refine V_aload_n C 0 dX9_wayOf_17 rfl rfl rfl ?_
      refine V_ldc C dX9_wayOf_18 rfl w396 ?_
      obtain ⟨q5, hq5, hf⟩ := obd hf
      refine V_cVi C (b := 0) (As := [.int (-1000001)]) (st := []) cf9 rfl M_X9_finding w397 ⟨by decide, by decide⟩ rfl rfl (Nat.le_of_ble_eq_true rfl) dX9_wayOf_20 rfl (kX9_finding hq5) ?_
      obtain rfl := Option.some.inj hf
      exact K _ _ _ dX9_wayOf_23 rfl rfl
set_option maxHeartbeats 4000000 in
set_option maxRecDepth 100000 in
theorem kX9_errand {ad : Nat → Nat} {G : Gh} {p1 : Int32} {p2 : Int32} {p3 : Int32} {u : Mem} {q : Int32 × Mem} (hf : FX9_errand p1 p2 p3 u = some q) : Ct shs ad G yX9_errand cX9_errand 4 (some .int) 3 63 [.ref (ad 0), .int p1, .int p2, .int p3] u (some (.int q.1)) q.2 := by
  refine Ct_ofI (by decide) (Nat.le_of_ble_eq_true rfl) (fun X C hnL K => ?_)
  have C : Cx ad G X cX9_errand "CarryFair" 3 63 := C
  unfold FX9_errand at hf
  refine V_iload_n C 1 dX9_errand_0 rfl rfl rfl ?_
  refine V_iconst C dX9_errand_1 rfl (v := 1) rfl ?_
  refine V_bipush C dX9_errand_2 rfl (v := 60) rfl ?_
  refine V_cSi C (As := [.int p1, .int 1, .int 60]) (st := []) M_X9_within w393 ⟨by decide, by decide⟩ rfl rfl (Nat.le_of_ble_eq_true rfl) dX9_errand_4 rfl (kX9_within rfl) ?_
  refine V_if_eq C dX9_errand_7 (tgt := 18) rfl rfl (fun c7 => ?_) (fun c7 => ?_)
  · replace hf := ipos c7 hf
    refine V_aload_n C 0 dX9_errand_18 rfl rfl rfl ?_
    refine V_ldc C dX9_errand_19 rfl w396 ?_
    obtain ⟨q1, hq1, hf⟩ := obd hf
    refine V_cVi C (b := 0) (As := [.int (-1000001)]) (st := []) cf9 rfl M_X9_finding w397 ⟨by decide, by decide⟩ rfl rfl (Nat.le_of_ble_eq_true rfl) dX9_errand_21 rfl (kX9_finding hq1) ?_
    obtain rfl := Option.some.inj hf
    exact K _ _ _ dX9_errand_24 rfl rfl
  · replace hf := ineg c7 hf
    refine V_iload_n C 2 dX9_errand_10 rfl rfl rfl ?_
    refine V_iload_n C 3 dX9_errand_11 rfl rfl rfl ?_
    refine V_cSi C (As := [.int p2, .int p3]) (st := []) M_X9_areUnlikePlaces w448 ⟨by decide, by decide⟩ rfl rfl (Nat.le_of_ble_eq_true rfl) dX9_errand_12 rfl (kX9_areUnlikePlaces rfl) ?_
    refine V_if_ne C dX9_errand_15 (tgt := 25) rfl rfl (fun c6 => ?_) (fun c6 => ?_)
    · replace hf := ineg c6 hf
      refine V_aload_n C 0 dX9_errand_25 rfl rfl rfl ?_
      refine V_getR C cf9 rfl 0 rfl (by decide) w361 rfl dX9_errand_26 rfl ?_
      refine V_getI C cf2 (sF isF1) 6 rfl (by decide) w265 rfl dX9_errand_29 rfl ?_
      refine V_bipush C dX9_errand_32 rfl (v := 8) rfl ?_
      refine V_icmp_lt C dX9_errand_34 (tgt := 44) rfl rfl (fun c4 => ?_) (fun c4 => ?_)
      · replace hf := ipos c4 hf
        refine V_aload_n C 0 dX9_errand_44 rfl rfl rfl ?_
        refine V_getR C cf9 rfl 0 rfl (by decide) w361 rfl dX9_errand_45 rfl ?_
        refine V_iload_n C 1 dX9_errand_48 rfl rfl rfl ?_
        refine V_iload_n C 2 dX9_errand_49 rfl rfl rfl ?_
        refine V_iload_n C 3 dX9_errand_50 rfl rfl rfl ?_
        obtain ⟨q2, hq2, hf⟩ := obd hf
        refine V_cVi C (b := 1) (As := [.int p1, .int p2, .int p3]) (st := []) cf2 (sF isF1) M_X2_addErrand w472 ⟨by decide, by decide⟩ rfl rfl (Nat.le_of_ble_eq_true rfl) dX9_errand_51 rfl (kX2_addErrand isF1 hq2) ?_
        obtain rfl := Option.some.inj hf
        exact K _ _ _ dX9_errand_54 rfl rfl
      · replace hf := ineg c4 hf
        refine V_aload_n C 0 dX9_errand_37 rfl rfl rfl ?_
        refine V_ldc C dX9_errand_38 rfl w401 ?_
        obtain ⟨q3, hq3, hf⟩ := obd hf
        refine V_cVi C (b := 0) (As := [.int (-1000002)]) (st := []) cf9 rfl M_X9_finding w397 ⟨by decide, by decide⟩ rfl rfl (Nat.le_of_ble_eq_true rfl) dX9_errand_40 rfl (kX9_finding hq3) ?_
        obtain rfl := Option.some.inj hf
        exact K _ _ _ dX9_errand_43 rfl rfl
    · replace hf := ipos c6 hf
      refine V_aload_n C 0 dX9_errand_18 rfl rfl rfl ?_
      refine V_ldc C dX9_errand_19 rfl w396 ?_
      obtain ⟨q5, hq5, hf⟩ := obd hf
      refine V_cVi C (b := 0) (As := [.int (-1000001)]) (st := []) cf9 rfl M_X9_finding w397 ⟨by decide, by decide⟩ rfl rfl (Nat.le_of_ble_eq_true rfl) dX9_errand_21 rfl (kX9_finding hq5) ?_
      obtain rfl := Option.some.inj hf
      exact K _ _ _ dX9_errand_24 rfl rfl
set_option maxHeartbeats 4000000 in
set_option maxRecDepth 100000 in
theorem kX9_orNone {ad : Nat → Nat} {G : Gh} {p1 : Int32} {u : Mem} {q : Int32 × Mem} (hf : FX9_orNone p1 u = some q) : Ct shs ad G yX9_orNone cX9_orNone 2 (some .int) 2 44 [.ref (ad 0), .int p1] u (some (.int q.1)) q.2 := by
  refine Ct_ofI (by decide) (Nat.le_of_ble_eq_true rfl) (fun X C hnL K => ?_)
  have C : Cx ad G X cX9_orNone "CarryFair" 2 44 := C
  unfold FX9_orNone at hf
  refine V_iload_n C 1 dX9_orNone_0 rfl rfl rfl ?_
  refine V_ldc C dX9_orNone_1 rfl w499 ?_
  refine V_icmp_lt C dX9_orNone_3 (tgt := 15) rfl rfl (fun c2 => ?_) (fun c2 => ?_)
  · replace hf := ipos c2 hf
    refine V_iload_n C 1 dX9_orNone_15 rfl rfl rfl ?_
    obtain rfl := Option.some.inj hf
    exact K _ _ _ dX9_orNone_16 rfl rfl
  · replace hf := ineg c2 hf
    refine V_aload_n C 0 dX9_orNone_6 rfl rfl rfl ?_
    refine V_ldc C dX9_orNone_7 rfl w500 ?_
    obtain ⟨q1, hq1, hf⟩ := obd hf
    refine V_cVi C (b := 0) (As := [.int (-1000004)]) (st := []) cf9 rfl M_X9_finding w397 ⟨by decide, by decide⟩ rfl rfl (Nat.le_of_ble_eq_true rfl) dX9_orNone_9 rfl (kX9_finding hq1) ?_
    refine V_goto C dX9_orNone_12 (tgt := 16) rfl ?_
    obtain rfl := Option.some.inj hf
    exact K _ _ _ dX9_orNone_16 rfl rfl
set_option maxHeartbeats 4000000 in
set_option maxRecDepth 100000 in
theorem kX9_errandOf {ad : Nat → Nat} {G : Gh} {p1 : Int32} {p2 : Int32} {u : Mem} {q : Int32 × Mem} (hf : FX9_errandOf p1 p2 u = some q) : Ct shs ad G yX9_errandOf cX9_errandOf 4 (some .int) 3 65 [.ref (ad 0), .int p1, .int p2] u (some (.int q.1)) q.2 := by
  refine Ct_ofI (by decide) (Nat.le_of_ble_eq_true rfl) (fun X C hnL K => ?_)
  have C : Cx ad G X cX9_errandOf "CarryFair" 3 65 := C
  unfold FX9_errandOf at hf
  refine V_aload_n C 0 dX9_errandOf_0 rfl rfl rfl ?_
  refine V_getR C cf9 rfl 0 rfl (by decide) w361 rfl dX9_errandOf_1 rfl ?_
  refine V_iload_n C 1 dX9_errandOf_4 rfl rfl rfl ?_
  refine V_cVi C (b := 1) (As := [.int p1]) (st := []) cf2 (sF isF1) M_X2_hasErrand w480 ⟨by decide, by decide⟩ rfl rfl (Nat.le_of_ble_eq_true rfl) dX9_errandOf_5 rfl (kX2_hasErrand isF1 rfl) ?_
  refine V_if_ne C dX9_errandOf_8 (tgt := 18) rfl rfl (fun c12 => ?_) (fun c12 => ?_)
  · replace hf := ineg c12 hf
    refine V_aload_n C 0 dX9_errandOf_18 rfl rfl rfl ?_
    refine V_getR C cf9 rfl 0 rfl (by decide) w361 rfl dX9_errandOf_19 rfl ?_
    refine V_getR C cf2 (sF isF1) 1 rfl (by decide) w250 rfl dX9_errandOf_22 rfl ?_
    refine V_iload_n C 1 dX9_errandOf_25 rfl rfl rfl ?_
    obtain ⟨g1, hf⟩ := gd hf
    refine V_aald C (sFe isF1) (fun _ => rfl) g1 (sErg g1) dX9_errandOf_26 rfl ?_
    refine V_astore_n C (L' := [(0, .ref (ad 0)), (1, .int p1), (2, .int p2), (3, .ref (ad (1 + 18 + (p1).toNatClampNeg)))]) dX9_errandOf_27 rfl rfl (by decide) hnL [1, 2, 3, 0] rfl ?_
    refine V_iload_n C 2 dX9_errandOf_28 rfl rfl rfl ?_
    by_cases c2 : p2 = 0
    · replace hf := ipos c2 hf
      refine V_tin C dX9_errandOf_29 0 c2 (by decide) (by decide) rfl (tgt := 68) rfl ?_
      refine V_aload_n C 3 dX9_errandOf_68 rfl rfl rfl ?_
      refine V_getI C cf1 (sEr isF1 g1) 0 rfl (by decide) w205 rfl dX9_errandOf_69 rfl ?_
      obtain rfl := Option.some.inj hf
      exact K _ _ _ dX9_errandOf_72 rfl rfl
    replace hf := ineg c2 hf
    by_cases c3 : p2 = 1
    · replace hf := ipos c3 hf
      refine V_tin C dX9_errandOf_29 1 c3 (by decide) (by decide) rfl (tgt := 73) rfl ?_
      refine V_aload_n C 3 dX9_errandOf_73 rfl rfl rfl ?_
      refine V_getI C cf1 (sEr isF1 g1) 1 rfl (by decide) w209 rfl dX9_errandOf_74 rfl ?_
      obtain rfl := Option.some.inj hf
      exact K _ _ _ dX9_errandOf_77 rfl rfl
    replace hf := ineg c3 hf
    by_cases c4 : p2 = 2
    · replace hf := ipos c4 hf
      refine V_tin C dX9_errandOf_29 2 c4 (by decide) (by decide) rfl (tgt := 78) rfl ?_
      refine V_aload_n C 3 dX9_errandOf_78 rfl rfl rfl ?_
      refine V_getI C cf1 (sEr isF1 g1) 2 rfl (by decide) w213 rfl dX9_errandOf_79 rfl ?_
      obtain rfl := Option.some.inj hf
      exact K _ _ _ dX9_errandOf_82 rfl rfl
    replace hf := ineg c4 hf
    by_cases c5 : p2 = 3
    · replace hf := ipos c5 hf
      refine V_tin C dX9_errandOf_29 3 c5 (by decide) (by decide) rfl (tgt := 83) rfl ?_
      refine V_aload_n C 3 dX9_errandOf_83 rfl rfl rfl ?_
      refine V_getI C cf1 (sEr isF1 g1) 3 rfl (by decide) w216 rfl dX9_errandOf_84 rfl ?_
      obtain rfl := Option.some.inj hf
      exact K _ _ _ dX9_errandOf_87 rfl rfl
    replace hf := ineg c5 hf
    by_cases c6 : p2 = 4
    · replace hf := ipos c6 hf
      refine V_tin C dX9_errandOf_29 4 c6 (by decide) (by decide) rfl (tgt := 88) rfl ?_
      refine V_aload_n C 3 dX9_errandOf_88 rfl rfl rfl ?_
      refine V_getI C cf1 (sEr isF1 g1) 4 rfl (by decide) w219 rfl dX9_errandOf_89 rfl ?_
      obtain rfl := Option.some.inj hf
      exact K _ _ _ dX9_errandOf_92 rfl rfl
    replace hf := ineg c6 hf
    by_cases c7 : p2 = 5
    · replace hf := ipos c7 hf
      refine V_tin C dX9_errandOf_29 5 c7 (by decide) (by decide) rfl (tgt := 93) rfl ?_
      refine V_aload_n C 0 dX9_errandOf_93 rfl rfl rfl ?_
      refine V_aload_n C 0 dX9_errandOf_94 rfl rfl rfl ?_
      refine V_getR C cf9 rfl 0 rfl (by decide) w361 rfl dX9_errandOf_95 rfl ?_
      refine V_iload_n C 1 dX9_errandOf_98 rfl rfl rfl ?_
      obtain ⟨q8, hq8, hf⟩ := obd hf
      refine V_cVi C (b := 1) (As := [.int p1]) (st := [.ref (ad 0)]) cf2 (sF isF1) M_X2_worthOf w484 ⟨by decide, by decide⟩ rfl rfl (Nat.le_of_ble_eq_true rfl) dX9_errandOf_99 rfl (kX2_worthOf isF1 hq8) ?_
      obtain ⟨q9, hq9, hf⟩ := obd hf
      refine V_cVi C (b := 0) (As := [.int q8]) (st := []) cf9 rfl M_X9_orNone w495 ⟨by decide, by decide⟩ rfl rfl (Nat.le_of_ble_eq_true rfl) dX9_errandOf_102 rfl (kX9_orNone hq9) ?_
      obtain rfl := Option.some.inj hf
      exact K _ _ _ dX9_errandOf_105 rfl rfl
    replace hf := ineg c7 hf
    refine V_tout C dX9_errandOf_29 (by have nc2 := lv_neT (a := 0) c2 (by decide); have nc3 := lv_neT (a := 1) c3 (by decide); have nc4 := lv_neT (a := 2) c4 (by decide); have nc5 := lv_neT (a := 3) c5 (by decide); have nc6 := lv_neT (a := 4) c6 (by decide); have nc7 := lv_neT (a := 5) c7 (by decide); omega) (tgt := 106) rfl ?_
    refine V_aload_n C 0 dX9_errandOf_106 rfl rfl rfl ?_
    refine V_ldc C dX9_errandOf_107 rfl w396 ?_
    obtain ⟨q10, hq10, hf⟩ := obd hf
    refine V_cVi C (b := 0) (As := [.int (-1000001)]) (st := []) cf9 rfl M_X9_finding w397 ⟨by decide, by decide⟩ rfl rfl (Nat.le_of_ble_eq_true rfl) dX9_errandOf_109 rfl (kX9_finding hq10) ?_
    obtain rfl := Option.some.inj hf
    exact K _ _ _ dX9_errandOf_112 rfl rfl
  · replace hf := ipos c12 hf
    refine V_aload_n C 0 dX9_errandOf_11 rfl rfl rfl ?_
    refine V_ldc C dX9_errandOf_12 rfl w396 ?_
    obtain ⟨q11, hq11, hf⟩ := obd hf
    refine V_cVi C (b := 0) (As := [.int (-1000001)]) (st := []) cf9 rfl M_X9_finding w397 ⟨by decide, by decide⟩ rfl rfl (Nat.le_of_ble_eq_true rfl) dX9_errandOf_14 rfl (kX9_finding hq11) ?_
    obtain rfl := Option.some.inj hf
    exact K _ _ _ dX9_errandOf_17 rfl rfl
set_option maxHeartbeats 4000000 in
set_option maxRecDepth 100000 in
theorem kX9_ware {ad : Nat → Nat} {G : Gh} {p1 : Int32} {u : Mem} {q : Int32 × Mem} (hf : FX9_ware p1 u = some q) : Ct shs ad G yX9_ware cX9_ware 2 (some .int) 2 44 [.ref (ad 0), .int p1] u (some (.int q.1)) q.2 := by
  refine Ct_ofI (by decide) (Nat.le_of_ble_eq_true rfl) (fun X C hnL K => ?_)
  have C : Cx ad G X cX9_ware "CarryFair" 2 44 := C
  unfold FX9_ware at hf
  refine V_iload_n C 1 dX9_ware_0 rfl rfl rfl ?_
  refine V_iconst C dX9_ware_1 rfl (v := 1) rfl ?_
  refine V_sipush C dX9_ware_2 rfl (v := 9999) rfl ?_
  refine V_cSi C (As := [.int p1, .int 1, .int 9999]) (st := []) M_X9_within w393 ⟨by decide, by decide⟩ rfl rfl (Nat.le_of_ble_eq_true rfl) dX9_ware_5 rfl (kX9_within rfl) ?_
  refine V_if_ne C dX9_ware_8 (tgt := 18) rfl rfl (fun c5 => ?_) (fun c5 => ?_)
  · replace hf := ineg c5 hf
    refine V_aload_n C 0 dX9_ware_18 rfl rfl rfl ?_
    refine V_getR C cf9 rfl 0 rfl (by decide) w361 rfl dX9_ware_19 rfl ?_
    refine V_getI C cf2 (sF isF1) 7 rfl (by decide) w268 rfl dX9_ware_22 rfl ?_
    refine V_bipush C dX9_ware_25 rfl (v := 6) rfl ?_
    refine V_icmp_lt C dX9_ware_27 (tgt := 37) rfl rfl (fun c3 => ?_) (fun c3 => ?_)
    · replace hf := ipos c3 hf
      refine V_aload_n C 0 dX9_ware_37 rfl rfl rfl ?_
      refine V_getR C cf9 rfl 0 rfl (by decide) w361 rfl dX9_ware_38 rfl ?_
      refine V_iload_n C 1 dX9_ware_41 rfl rfl rfl ?_
      obtain ⟨q1, hq1, hf⟩ := obd hf
      refine V_cVi C (b := 1) (As := [.int p1]) (st := []) cf2 (sF isF1) M_X2_addWare w505 ⟨by decide, by decide⟩ rfl rfl (Nat.le_of_ble_eq_true rfl) dX9_ware_42 rfl (kX2_addWare isF1 hq1) ?_
      obtain rfl := Option.some.inj hf
      exact K _ _ _ dX9_ware_45 rfl rfl
    · replace hf := ineg c3 hf
      refine V_aload_n C 0 dX9_ware_30 rfl rfl rfl ?_
      refine V_ldc C dX9_ware_31 rfl w401 ?_
      obtain ⟨q2, hq2, hf⟩ := obd hf
      refine V_cVi C (b := 0) (As := [.int (-1000002)]) (st := []) cf9 rfl M_X9_finding w397 ⟨by decide, by decide⟩ rfl rfl (Nat.le_of_ble_eq_true rfl) dX9_ware_33 rfl (kX9_finding hq2) ?_
      obtain rfl := Option.some.inj hf
      exact K _ _ _ dX9_ware_36 rfl rfl
  · replace hf := ipos c5 hf
    refine V_aload_n C 0 dX9_ware_11 rfl rfl rfl ?_
    refine V_ldc C dX9_ware_12 rfl w396 ?_
    obtain ⟨q4, hq4, hf⟩ := obd hf
    refine V_cVi C (b := 0) (As := [.int (-1000001)]) (st := []) cf9 rfl M_X9_finding w397 ⟨by decide, by decide⟩ rfl rfl (Nat.le_of_ble_eq_true rfl) dX9_ware_14 rfl (kX9_finding hq4) ?_
    obtain rfl := Option.some.inj hf
    exact K _ _ _ dX9_ware_17 rfl rfl
set_option maxHeartbeats 4000000 in
set_option maxRecDepth 100000 in
theorem kX9_wareOf {ad : Nat → Nat} {G : Gh} {p1 : Int32} {p2 : Int32} {u : Mem} {q : Int32 × Mem} (hf : FX9_wareOf p1 p2 u = some q) : Ct shs ad G yX9_wareOf cX9_wareOf 3 (some .int) 2 44 [.ref (ad 0), .int p1, .int p2] u (some (.int q.1)) q.2 := by
  refine Ct_ofI (by decide) (Nat.le_of_ble_eq_true rfl) (fun X C hnL K => ?_)
  have C : Cx ad G X cX9_wareOf "CarryFair" 2 44 := C
  unfold FX9_wareOf at hf
  refine V_aload_n C 0 dX9_wareOf_0 rfl rfl rfl ?_
  refine V_getR C cf9 rfl 0 rfl (by decide) w361 rfl dX9_wareOf_1 rfl ?_
  refine V_iload_n C 1 dX9_wareOf_4 rfl rfl rfl ?_
  refine V_cVi C (b := 1) (As := [.int p1]) (st := []) cf2 (sF isF1) M_X2_hasWare w513 ⟨by decide, by decide⟩ rfl rfl (Nat.le_of_ble_eq_true rfl) dX9_wareOf_5 rfl (kX2_hasWare isF1 rfl) ?_
  refine V_if_eq C dX9_wareOf_8 (tgt := 20) rfl rfl (fun c7 => ?_) (fun c7 => ?_)
  · replace hf := ipos c7 hf
    refine V_aload_n C 0 dX9_wareOf_20 rfl rfl rfl ?_
    refine V_ldc C dX9_wareOf_21 rfl w396 ?_
    obtain ⟨q1, hq1, hf⟩ := obd hf
    refine V_cVi C (b := 0) (As := [.int (-1000001)]) (st := []) cf9 rfl M_X9_finding w397 ⟨by decide, by decide⟩ rfl rfl (Nat.le_of_ble_eq_true rfl) dX9_wareOf_23 rfl (kX9_finding hq1) ?_
    obtain rfl := Option.some.inj hf
    exact K _ _ _ dX9_wareOf_26 rfl rfl
  · replace hf := ineg c7 hf
    refine V_iload_n C 2 dX9_wareOf_11 rfl rfl rfl ?_
    refine V_iconst C dX9_wareOf_12 rfl (v := 0) rfl ?_
    refine V_iconst C dX9_wareOf_13 rfl (v := 1) rfl ?_
    refine V_cSi C (As := [.int p2, .int 0, .int 1]) (st := []) M_X9_within w393 ⟨by decide, by decide⟩ rfl rfl (Nat.le_of_ble_eq_true rfl) dX9_wareOf_14 rfl (kX9_within rfl) ?_
    refine V_if_ne C dX9_wareOf_17 (tgt := 27) rfl rfl (fun c6 => ?_) (fun c6 => ?_)
    · replace hf := ineg c6 hf
      refine V_iload_n C 2 dX9_wareOf_27 rfl rfl rfl ?_
      refine V_if_ne C dX9_wareOf_28 (tgt := 46) rfl rfl (fun c4 => ?_) (fun c4 => ?_)
      · replace hf := ineg c4 hf
        refine V_aload_n C 0 dX9_wareOf_46 rfl rfl rfl ?_
        refine V_getR C cf9 rfl 0 rfl (by decide) w361 rfl dX9_wareOf_47 rfl ?_
        refine V_getR C cf2 (sF isF1) 2 rfl (by decide) w252 rfl dX9_wareOf_50 rfl ?_
        refine V_iload_n C 1 dX9_wareOf_53 rfl rfl rfl ?_
        obtain ⟨g2, hf⟩ := gd hf
        refine V_aald C (sFw isF1) (fun _ => rfl) g2 (sWag g2) dX9_wareOf_54 rfl ?_
        refine V_getI C cf7 (sWa isF1 g2) 1 rfl (by decide) w239 rfl dX9_wareOf_55 rfl ?_
        obtain rfl := Option.some.inj hf
        exact K _ _ _ dX9_wareOf_58 rfl rfl
      · replace hf := ipos c4 hf
        refine V_aload_n C 0 dX9_wareOf_31 rfl rfl rfl ?_
        refine V_getR C cf9 rfl 0 rfl (by decide) w361 rfl dX9_wareOf_32 rfl ?_
        refine V_getR C cf2 (sF isF1) 2 rfl (by decide) w252 rfl dX9_wareOf_35 rfl ?_
        refine V_iload_n C 1 dX9_wareOf_38 rfl rfl rfl ?_
        obtain ⟨g3, hf⟩ := gd hf
        refine V_aald C (sFw isF1) (fun _ => rfl) g3 (sWag g3) dX9_wareOf_39 rfl ?_
        refine V_getI C cf7 (sWa isF1 g3) 0 rfl (by decide) w237 rfl dX9_wareOf_40 rfl ?_
        refine V_goto C dX9_wareOf_43 (tgt := 58) rfl ?_
        obtain rfl := Option.some.inj hf
        exact K _ _ _ dX9_wareOf_58 rfl rfl
    · replace hf := ipos c6 hf
      refine V_aload_n C 0 dX9_wareOf_20 rfl rfl rfl ?_
      refine V_ldc C dX9_wareOf_21 rfl w396 ?_
      obtain ⟨q5, hq5, hf⟩ := obd hf
      refine V_cVi C (b := 0) (As := [.int (-1000001)]) (st := []) cf9 rfl M_X9_finding w397 ⟨by decide, by decide⟩ rfl rfl (Nat.le_of_ble_eq_true rfl) dX9_wareOf_23 rfl (kX9_finding hq5) ?_
      obtain rfl := Option.some.inj hf
      exact K _ _ _ dX9_wareOf_26 rfl rfl
set_option maxHeartbeats 4000000 in
set_option maxRecDepth 100000 in
theorem kX9_far {ad : Nat → Nat} {G : Gh} {p1 : Int32} {p2 : Int32} {p3 : Int32} {u : Mem} {q : Int32 × Mem} (hf : FX9_far p1 p2 p3 u = some q) : Ct shs ad G yX9_far cX9_far 4 (some .int) 3 65 [.ref (ad 0), .int p1, .int p2, .int p3] u (some (.int q.1)) q.2 := by
  refine Ct_ofI (by decide) (Nat.le_of_ble_eq_true rfl) (fun X C hnL K => ?_)
  have C : Cx ad G X cX9_far "CarryFair" 3 65 := C
  unfold FX9_far at hf
  refine V_aload_n C 0 dX9_far_0 rfl rfl rfl ?_
  refine V_getR C cf9 rfl 0 rfl (by decide) w361 rfl dX9_far_1 rfl ?_
  refine V_iload_n C 1 dX9_far_4 rfl rfl rfl ?_
  refine V_cVi C (b := 1) (As := [.int p1]) (st := []) cf2 (sF isF1) M_X2_hasCarrier w410 ⟨by decide, by decide⟩ rfl rfl (Nat.le_of_ble_eq_true rfl) dX9_far_5 rfl (kX2_hasCarrier isF1 rfl) ?_
  refine V_if_eq C dX9_far_8 (tgt := 25) rfl rfl (fun c9 => ?_) (fun c9 => ?_)
  · replace hf := ipos c9 hf
    refine V_aload_n C 0 dX9_far_25 rfl rfl rfl ?_
    refine V_ldc C dX9_far_26 rfl w396 ?_
    obtain ⟨q1, hq1, hf⟩ := obd hf
    refine V_cVi C (b := 0) (As := [.int (-1000001)]) (st := []) cf9 rfl M_X9_finding w397 ⟨by decide, by decide⟩ rfl rfl (Nat.le_of_ble_eq_true rfl) dX9_far_28 rfl (kX9_finding hq1) ?_
    obtain rfl := Option.some.inj hf
    exact K _ _ _ dX9_far_31 rfl rfl
  · replace hf := ineg c9 hf
    refine V_iload_n C 2 dX9_far_11 rfl rfl rfl ?_
    refine V_cSi C (As := [.int p2]) (st := []) M_X9_isPlace w440 ⟨by decide, by decide⟩ rfl rfl (Nat.le_of_ble_eq_true rfl) dX9_far_12 rfl (kX9_isPlace rfl) ?_
    refine V_if_eq C dX9_far_15 (tgt := 25) rfl rfl (fun c8 => ?_) (fun c8 => ?_)
    · replace hf := ipos c8 hf
      refine V_aload_n C 0 dX9_far_25 rfl rfl rfl ?_
      refine V_ldc C dX9_far_26 rfl w396 ?_
      obtain ⟨q2, hq2, hf⟩ := obd hf
      refine V_cVi C (b := 0) (As := [.int (-1000001)]) (st := []) cf9 rfl M_X9_finding w397 ⟨by decide, by decide⟩ rfl rfl (Nat.le_of_ble_eq_true rfl) dX9_far_28 rfl (kX9_finding hq2) ?_
      obtain rfl := Option.some.inj hf
      exact K _ _ _ dX9_far_31 rfl rfl
    · replace hf := ineg c8 hf
      refine V_iload_n C 3 dX9_far_18 rfl rfl rfl ?_
      refine V_cSi C (As := [.int p3]) (st := []) M_X9_isPlace w440 ⟨by decide, by decide⟩ rfl rfl (Nat.le_of_ble_eq_true rfl) dX9_far_19 rfl (kX9_isPlace rfl) ?_
      refine V_if_ne C dX9_far_22 (tgt := 32) rfl rfl (fun c7 => ?_) (fun c7 => ?_)
      · replace hf := ineg c7 hf
        refine V_aload_n C 0 dX9_far_32 rfl rfl rfl ?_
        refine V_aload_n C 0 dX9_far_33 rfl rfl rfl ?_
        refine V_getR C cf9 rfl 0 rfl (by decide) w361 rfl dX9_far_34 rfl ?_
        refine V_getR C cf2 (sF isF1) 3 rfl (by decide) w256 rfl dX9_far_37 rfl ?_
        refine V_aload_n C 0 dX9_far_40 rfl rfl rfl ?_
        refine V_getR C cf9 rfl 0 rfl (by decide) w361 rfl dX9_far_41 rfl ?_
        refine V_getR C cf2 (sF isF1) 0 rfl (by decide) w247 rfl dX9_far_44 rfl ?_
        refine V_iload_n C 1 dX9_far_47 rfl rfl rfl ?_
        obtain ⟨g3, hf⟩ := gd hf
        refine V_aald C (sFc isF1) (fun _ => rfl) g3 (sCag g3) dX9_far_48 rfl ?_
        refine V_getI C cf0 (sCa isF1 g3) 0 rfl (by decide) w170 rfl dX9_far_49 rfl ?_
        refine V_iload_n C 2 dX9_far_52 rfl rfl rfl ?_
        refine V_iload_n C 3 dX9_far_53 rfl rfl rfl ?_
        obtain ⟨q4, hq4, hf⟩ := obd hf
        refine V_cVi C (b := (1 + 4)) (As := [.int (u (1 + 12 + (p1).toNatClampNeg) 0), .int p2, .int p3]) (st := [.ref (ad 0)]) cf8 (sW (wF isF1)) M_X8_yardsFor w521 ⟨by decide, by decide⟩ rfl rfl (Nat.le_of_ble_eq_true rfl) dX9_far_54 rfl (kX8_yardsFor (wF isF1) hq4) ?_
        obtain ⟨q5, hq5, hf⟩ := obd hf
        refine V_cVi C (b := 0) (As := [.int q4]) (st := []) cf9 rfl M_X9_orNone w495 ⟨by decide, by decide⟩ rfl rfl (Nat.le_of_ble_eq_true rfl) dX9_far_57 rfl (kX9_orNone hq5) ?_
        obtain rfl := Option.some.inj hf
        exact K _ _ _ dX9_far_60 rfl rfl
      · replace hf := ipos c7 hf
        refine V_aload_n C 0 dX9_far_25 rfl rfl rfl ?_
        refine V_ldc C dX9_far_26 rfl w396 ?_
        obtain ⟨q6, hq6, hf⟩ := obd hf
        refine V_cVi C (b := 0) (As := [.int (-1000001)]) (st := []) cf9 rfl M_X9_finding w397 ⟨by decide, by decide⟩ rfl rfl (Nat.le_of_ble_eq_true rfl) dX9_far_28 rfl (kX9_finding hq6) ?_
        obtain rfl := Option.some.inj hf
        exact K _ _ _ dX9_far_31 rfl rfl
set_option maxHeartbeats 4000000 in
set_option maxRecDepth 100000 in
theorem kX9_first {ad : Nat → Nat} {G : Gh} {p1 : Int32} {p2 : Int32} {u : Mem} {q : Int32 × Mem} (hf : FX9_first p1 p2 u = some q) : Ct shs ad G yX9_first cX9_first 4 (some .int) 4 91 [.ref (ad 0), .int p1, .int p2] u (some (.int q.1)) q.2 := by
  refine Ct_ofI (by decide) (Nat.le_of_ble_eq_true rfl) (fun X C hnL K => ?_)
  have C : Cx ad G X cX9_first "CarryFair" 4 91 := C
  unfold FX9_first at hf
  refine V_aload_n C 0 dX9_first_0 rfl rfl rfl ?_
  refine V_getR C cf9 rfl 0 rfl (by decide) w361 rfl dX9_first_1 rfl ?_
  refine V_iload_n C 1 dX9_first_4 rfl rfl rfl ?_
  refine V_cVi C (b := 1) (As := [.int p1]) (st := []) cf2 (sF isF1) M_X2_hasCarrier w410 ⟨by decide, by decide⟩ rfl rfl (Nat.le_of_ble_eq_true rfl) dX9_first_5 rfl (kX2_hasCarrier isF1 rfl) ?_
  refine V_if_eq C dX9_first_8 (tgt := 18) rfl rfl (fun c9 => ?_) (fun c9 => ?_)
  · replace hf := ipos c9 hf
    refine V_aload_n C 0 dX9_first_18 rfl rfl rfl ?_
    refine V_ldc C dX9_first_19 rfl w396 ?_
    obtain ⟨q1, hq1, hf⟩ := obd hf
    refine V_cVi C (b := 0) (As := [.int (-1000001)]) (st := []) cf9 rfl M_X9_finding w397 ⟨by decide, by decide⟩ rfl rfl (Nat.le_of_ble_eq_true rfl) dX9_first_21 rfl (kX9_finding hq1) ?_
    obtain rfl := Option.some.inj hf
    exact K _ _ _ dX9_first_24 rfl rfl
  · replace hf := ineg c9 hf
    refine V_iload_n C 2 dX9_first_11 rfl rfl rfl ?_
    refine V_cSi C (As := [.int p2]) (st := []) M_X9_isPlace w440 ⟨by decide, by decide⟩ rfl rfl (Nat.le_of_ble_eq_true rfl) dX9_first_12 rfl (kX9_isPlace rfl) ?_
    refine V_if_ne C dX9_first_15 (tgt := 25) rfl rfl (fun c8 => ?_) (fun c8 => ?_)
    · replace hf := ineg c8 hf
      refine V_aload_n C 0 dX9_first_25 rfl rfl rfl ?_
      refine V_getR C cf9 rfl 0 rfl (by decide) w361 rfl dX9_first_26 rfl ?_
      refine V_getR C cf2 (sF isF1) 0 rfl (by decide) w247 rfl dX9_first_29 rfl ?_
      refine V_iload_n C 1 dX9_first_32 rfl rfl rfl ?_
      obtain ⟨g2, hf⟩ := gd hf
      refine V_aald C (sFc isF1) (fun _ => rfl) g2 (sCag g2) dX9_first_33 rfl ?_
      refine V_astore_n C (L' := [(0, .ref (ad 0)), (1, .int p1), (2, .int p2), (3, .ref (ad (1 + 12 + (p1).toNatClampNeg)))]) dX9_first_34 rfl rfl (by decide) hnL [1, 2, 3, 0] rfl ?_
      refine V_aload_n C 0 dX9_first_35 rfl rfl rfl ?_
      refine V_getR C cf9 rfl 0 rfl (by decide) w361 rfl dX9_first_36 rfl ?_
      refine V_getR C cf2 (sF isF1) 3 rfl (by decide) w256 rfl dX9_first_39 rfl ?_
      refine V_aload_n C 3 dX9_first_42 rfl rfl rfl ?_
      refine V_getI C cf0 (sCa isF1 g2) 0 rfl (by decide) w170 rfl dX9_first_43 rfl ?_
      refine V_aload_n C 3 dX9_first_46 rfl rfl rfl ?_
      refine V_getI C cf0 (sCa isF1 g2) 1 rfl (by decide) w174 rfl dX9_first_47 rfl ?_
      refine V_iload_n C 2 dX9_first_50 rfl rfl rfl ?_
      obtain ⟨q3, hq3, hf⟩ := obd hf
      refine V_cVi C (b := (1 + 4)) (As := [.int (u (1 + 12 + (p1).toNatClampNeg) 0), .int (u (1 + 12 + (p1).toNatClampNeg) 1), .int p2]) (st := []) cf8 (sW (wF isF1)) M_X8_yardsFor w521 ⟨by decide, by decide⟩ rfl rfl (Nat.le_of_ble_eq_true rfl) dX9_first_51 rfl (kX8_yardsFor (wF isF1) hq3) ?_
      refine V_ldc C dX9_first_54 rfl w499 ?_
      refine V_icmp_lt C dX9_first_56 (tgt := 66) rfl rfl (fun c6 => ?_) (fun c6 => ?_)
      · replace hf := ipos c6 hf
        refine V_aload_n C 0 dX9_first_66 rfl rfl rfl ?_
        refine V_getR C cf9 rfl 0 rfl (by decide) w361 rfl dX9_first_67 rfl ?_
        refine V_getR C cf2 (sF isF1) 3 rfl (by decide) w256 rfl dX9_first_70 rfl ?_
        refine V_aload_n C 3 dX9_first_73 rfl rfl rfl ?_
        refine V_getI C cf0 (sCa isF1 g2) 0 rfl (by decide) w170 rfl dX9_first_74 rfl ?_
        refine V_aload_n C 3 dX9_first_77 rfl rfl rfl ?_
        refine V_getI C cf0 (sCa isF1 g2) 1 rfl (by decide) w174 rfl dX9_first_78 rfl ?_
        refine V_iload_n C 2 dX9_first_81 rfl rfl rfl ?_
        obtain ⟨q4, hq4, hf⟩ := obd hf
        refine V_cVi C (b := (1 + 4)) (As := [.int (u (1 + 12 + (p1).toNatClampNeg) 0), .int (u (1 + 12 + (p1).toNatClampNeg) 1), .int p2]) (st := []) cf8 (sW (wF isF1)) M_X8_nextPlace w526 ⟨by decide, by decide⟩ rfl rfl (Nat.le_of_ble_eq_true rfl) dX9_first_82 rfl (kX8_nextPlace (wF isF1) hq4) ?_
        obtain rfl := Option.some.inj hf
        exact K _ _ _ dX9_first_85 rfl rfl
      · replace hf := ineg c6 hf
        refine V_aload_n C 0 dX9_first_59 rfl rfl rfl ?_
        refine V_ldc C dX9_first_60 rfl w500 ?_
        obtain ⟨q5, hq5, hf⟩ := obd hf
        refine V_cVi C (b := 0) (As := [.int (-1000004)]) (st := []) cf9 rfl M_X9_finding w397 ⟨by decide, by decide⟩ rfl rfl (Nat.le_of_ble_eq_true rfl) dX9_first_62 rfl (kX9_finding hq5) ?_
        obtain rfl := Option.some.inj hf
        exact K _ _ _ dX9_first_65 rfl rfl
    · replace hf := ipos c8 hf
      refine V_aload_n C 0 dX9_first_18 rfl rfl rfl ?_
      refine V_ldc C dX9_first_19 rfl w396 ?_
      obtain ⟨q7, hq7, hf⟩ := obd hf
      refine V_cVi C (b := 0) (As := [.int (-1000001)]) (st := []) cf9 rfl M_X9_finding w397 ⟨by decide, by decide⟩ rfl rfl (Nat.le_of_ble_eq_true rfl) dX9_first_21 rfl (kX9_finding hq7) ?_
      obtain rfl := Option.some.inj hf
      exact K _ _ _ dX9_first_24 rfl rfl
set_option maxHeartbeats 4000000 in
set_option maxRecDepth 100000 in
theorem kX9_take {ad : Nat → Nat} {G : Gh} {p1 : Int32} {p2 : Int32} {u : Mem} {q : Int32 × Mem} (hf : FX9_take p1 p2 u = some q) : Ct shs ad G yX9_take cX9_take 3 (some .int) 3 66 [.ref (ad 0), .int p1, .int p2] u (some (.int q.1)) q.2 := by
  refine Ct_ofI (by decide) (Nat.le_of_ble_eq_true rfl) (fun X C hnL K => ?_)
  have C : Cx ad G X cX9_take "CarryFair" 3 66 := C
  unfold FX9_take at hf
  refine V_aload_n C 0 dX9_take_0 rfl rfl rfl ?_
  refine V_getR C cf9 rfl 0 rfl (by decide) w361 rfl dX9_take_1 rfl ?_
  refine V_iload_n C 1 dX9_take_4 rfl rfl rfl ?_
  refine V_cVi C (b := 1) (As := [.int p1]) (st := []) cf2 (sF isF1) M_X2_hasCarrier w410 ⟨by decide, by decide⟩ rfl rfl (Nat.le_of_ble_eq_true rfl) dX9_take_5 rfl (kX2_hasCarrier isF1 rfl) ?_
  refine V_if_eq C dX9_take_8 (tgt := 22) rfl rfl (fun c13 => ?_) (fun c13 => ?_)
  · replace hf := ipos c13 hf
    refine V_aload_n C 0 dX9_take_22 rfl rfl rfl ?_
    refine V_ldc C dX9_take_23 rfl w396 ?_
    obtain ⟨q1, hq1, hf⟩ := obd hf
    refine V_cVi C (b := 0) (As := [.int (-1000001)]) (st := []) cf9 rfl M_X9_finding w397 ⟨by decide, by decide⟩ rfl rfl (Nat.le_of_ble_eq_true rfl) dX9_take_25 rfl (kX9_finding hq1) ?_
    obtain rfl := Option.some.inj hf
    exact K _ _ _ dX9_take_28 rfl rfl
  · replace hf := ineg c13 hf
    refine V_aload_n C 0 dX9_take_11 rfl rfl rfl ?_
    refine V_getR C cf9 rfl 0 rfl (by decide) w361 rfl dX9_take_12 rfl ?_
    refine V_iload_n C 2 dX9_take_15 rfl rfl rfl ?_
    refine V_cVi C (b := 1) (As := [.int p2]) (st := []) cf2 (sF isF1) M_X2_hasErrand w480 ⟨by decide, by decide⟩ rfl rfl (Nat.le_of_ble_eq_true rfl) dX9_take_16 rfl (kX2_hasErrand isF1 rfl) ?_
    refine V_if_ne C dX9_take_19 (tgt := 29) rfl rfl (fun c12 => ?_) (fun c12 => ?_)
    · replace hf := ineg c12 hf
      refine V_aload_n C 0 dX9_take_29 rfl rfl rfl ?_
      refine V_getR C cf9 rfl 0 rfl (by decide) w361 rfl dX9_take_30 rfl ?_
      refine V_iload_n C 2 dX9_take_33 rfl rfl rfl ?_
      refine V_iload_n C 1 dX9_take_34 rfl rfl rfl ?_
      obtain ⟨q2, hq2, hf⟩ := obd hf
      refine V_cVi C (b := 1) (As := [.int p2, .int p1]) (st := []) cf2 (sF isF1) M_X2_liesBy w535 ⟨by decide, by decide⟩ rfl rfl (Nat.le_of_ble_eq_true rfl) dX9_take_35 rfl (kX2_liesBy isF1 hq2) ?_
      refine V_if_ne C dX9_take_38 (tgt := 48) rfl rfl (fun c10 => ?_) (fun c10 => ?_)
      · replace hf := ineg c10 hf
        refine V_aload_n C 0 dX9_take_48 rfl rfl rfl ?_
        refine V_getR C cf9 rfl 0 rfl (by decide) w361 rfl dX9_take_49 rfl ?_
        refine V_iload_n C 1 dX9_take_52 rfl rfl rfl ?_
        refine V_iload_n C 2 dX9_take_53 rfl rfl rfl ?_
        obtain ⟨q3, hq3, hf⟩ := obd hf
        refine V_cVi C (b := 1) (As := [.int p1, .int p2]) (st := []) cf2 (sF isF1) M_X2_couldAdd w540 ⟨by decide, by decide⟩ rfl rfl (Nat.le_of_ble_eq_true rfl) dX9_take_54 rfl (kX2_couldAdd isF1 hq3) ?_
        refine V_if_ne C dX9_take_57 (tgt := 67) rfl rfl (fun c8 => ?_) (fun c8 => ?_)
        · replace hf := ineg c8 hf
          refine V_aload_n C 0 dX9_take_67 rfl rfl rfl ?_
          refine V_getR C cf9 rfl 0 rfl (by decide) w361 rfl dX9_take_68 rfl ?_
          refine V_iload_n C 1 dX9_take_71 rfl rfl rfl ?_
          refine V_iload_n C 2 dX9_take_72 rfl rfl rfl ?_
          obtain ⟨q4, hq4, hf⟩ := obd hf
          refine V_cVv C (b := 1) (As := [.int p1, .int p2]) (st := []) cf2 (sF isF1) M_X2_pickUp w547 ⟨by decide, by decide⟩ rfl rfl (Nat.le_of_ble_eq_true rfl) dX9_take_73 rfl (kX2_pickUp isF1 hq4) ?_
          refine V_aload_n C 0 dX9_take_76 rfl rfl rfl ?_
          refine V_getR C cf9 rfl 0 rfl (by decide) w361 rfl dX9_take_77 rfl ?_
          refine V_aload_n C 0 dX9_take_80 rfl rfl rfl ?_
          refine V_getR C cf9 rfl 0 rfl (by decide) w361 rfl dX9_take_81 rfl ?_
          refine V_iload_n C 1 dX9_take_84 rfl rfl rfl ?_
          obtain ⟨q5, hq5, hf⟩ := obd hf
          refine V_cVi C (b := 1) (As := [.int p1]) (st := [.ref (ad 1)]) cf2 (sF isF1) M_X2_carriedBy w422 ⟨by decide, by decide⟩ rfl rfl (Nat.le_of_ble_eq_true rfl) dX9_take_85 rfl (kX2_carriedBy isF1 hq5) ?_
          obtain ⟨q6, hq6, hf⟩ := obd hf
          refine V_cVi C (b := 1) (As := [.int q5]) (st := []) cf2 (sF isF1) M_X2_weightOf w426 ⟨by decide, by decide⟩ rfl rfl (Nat.le_of_ble_eq_true rfl) dX9_take_88 rfl (kX2_weightOf isF1 hq6) ?_
          obtain rfl := Option.some.inj hf
          exact K _ _ _ dX9_take_91 rfl rfl
        · replace hf := ipos c8 hf
          refine V_aload_n C 0 dX9_take_60 rfl rfl rfl ?_
          refine V_ldc C dX9_take_61 rfl w401 ?_
          obtain ⟨q7, hq7, hf⟩ := obd hf
          refine V_cVi C (b := 0) (As := [.int (-1000002)]) (st := []) cf9 rfl M_X9_finding w397 ⟨by decide, by decide⟩ rfl rfl (Nat.le_of_ble_eq_true rfl) dX9_take_63 rfl (kX9_finding hq7) ?_
          obtain rfl := Option.some.inj hf
          exact K _ _ _ dX9_take_66 rfl rfl
      · replace hf := ipos c10 hf
        refine V_aload_n C 0 dX9_take_41 rfl rfl rfl ?_
        refine V_ldc C dX9_take_42 rfl w539 ?_
        obtain ⟨q9, hq9, hf⟩ := obd hf
        refine V_cVi C (b := 0) (As := [.int (-1000005)]) (st := []) cf9 rfl M_X9_finding w397 ⟨by decide, by decide⟩ rfl rfl (Nat.le_of_ble_eq_true rfl) dX9_take_44 rfl (kX9_finding hq9) ?_
        obtain rfl := Option.some.inj hf
        exact K _ _ _ dX9_take_47 rfl rfl
    · replace hf := ipos c12 hf
      refine V_aload_n C 0 dX9_take_22 rfl rfl rfl ?_
      refine V_ldc C dX9_take_23 rfl w396 ?_
      obtain ⟨q11, hq11, hf⟩ := obd hf
      refine V_cVi C (b := 0) (As := [.int (-1000001)]) (st := []) cf9 rfl M_X9_finding w397 ⟨by decide, by decide⟩ rfl rfl (Nat.le_of_ble_eq_true rfl) dX9_take_25 rfl (kX9_finding hq11) ?_
      obtain rfl := Option.some.inj hf
      exact K _ _ _ dX9_take_28 rfl rfl
set_option maxHeartbeats 4000000 in
set_option maxRecDepth 100000 in
theorem kX9_drop {ad : Nat → Nat} {G : Gh} {p1 : Int32} {p2 : Int32} {u : Mem} {q : Int32 × Mem} (hf : FX9_drop p1 p2 u = some q) : Ct shs ad G yX9_drop cX9_drop 5 (some .int) 2 44 [.ref (ad 0), .int p1, .int p2] u (some (.int q.1)) q.2 := by
  refine Ct_ofI (by decide) (Nat.le_of_ble_eq_true rfl) (fun X C hnL K => ?_)
  have C : Cx ad G X cX9_drop "CarryFair" 2 44 := C
  unfold FX9_drop at hf
  refine V_aload_n C 0 dX9_drop_0 rfl rfl rfl ?_
  refine V_getR C cf9 rfl 0 rfl (by decide) w361 rfl dX9_drop_1 rfl ?_
  refine V_iload_n C 1 dX9_drop_4 rfl rfl rfl ?_
  refine V_cVi C (b := 1) (As := [.int p1]) (st := []) cf2 (sF isF1) M_X2_hasCarrier w410 ⟨by decide, by decide⟩ rfl rfl (Nat.le_of_ble_eq_true rfl) dX9_drop_5 rfl (kX2_hasCarrier isF1 rfl) ?_
  refine V_if_eq C dX9_drop_8 (tgt := 22) rfl rfl (fun c15 => ?_) (fun c15 => ?_)
  · replace hf := ipos c15 hf
    refine V_aload_n C 0 dX9_drop_22 rfl rfl rfl ?_
    refine V_ldc C dX9_drop_23 rfl w396 ?_
    obtain ⟨q1, hq1, hf⟩ := obd hf
    refine V_cVi C (b := 0) (As := [.int (-1000001)]) (st := []) cf9 rfl M_X9_finding w397 ⟨by decide, by decide⟩ rfl rfl (Nat.le_of_ble_eq_true rfl) dX9_drop_25 rfl (kX9_finding hq1) ?_
    obtain rfl := Option.some.inj hf
    exact K _ _ _ dX9_drop_28 rfl rfl
  · replace hf := ineg c15 hf
    refine V_aload_n C 0 dX9_drop_11 rfl rfl rfl ?_
    refine V_getR C cf9 rfl 0 rfl (by decide) w361 rfl dX9_drop_12 rfl ?_
    refine V_iload_n C 2 dX9_drop_15 rfl rfl rfl ?_
    refine V_cVi C (b := 1) (As := [.int p2]) (st := []) cf2 (sF isF1) M_X2_hasErrand w480 ⟨by decide, by decide⟩ rfl rfl (Nat.le_of_ble_eq_true rfl) dX9_drop_16 rfl (kX2_hasErrand isF1 rfl) ?_
    refine V_if_ne C dX9_drop_19 (tgt := 29) rfl rfl (fun c14 => ?_) (fun c14 => ?_)
    · replace hf := ineg c14 hf
      refine V_aload_n C 0 dX9_drop_29 rfl rfl rfl ?_
      refine V_getR C cf9 rfl 0 rfl (by decide) w361 rfl dX9_drop_30 rfl ?_
      refine V_getR C cf2 (sF isF1) 1 rfl (by decide) w250 rfl dX9_drop_33 rfl ?_
      refine V_iload_n C 2 dX9_drop_36 rfl rfl rfl ?_
      obtain ⟨g2, hf⟩ := gd hf
      refine V_aald C (sFe isF1) (fun _ => rfl) g2 (sErg g2) dX9_drop_37 rfl ?_
      refine V_astore_n C (L' := [(0, .ref (ad 0)), (1, .int p1), (2, .int p2), (3, .ref (ad (1 + 18 + (p2).toNatClampNeg)))]) dX9_drop_38 rfl rfl (by decide) hnL [1, 2, 3, 0] rfl ?_
      refine V_aload_n C 0 dX9_drop_39 rfl rfl rfl ?_
      refine V_getR C cf9 rfl 0 rfl (by decide) w361 rfl dX9_drop_40 rfl ?_
      refine V_getR C cf2 (sF isF1) 0 rfl (by decide) w247 rfl dX9_drop_43 rfl ?_
      refine V_iload_n C 1 dX9_drop_46 rfl rfl rfl ?_
      obtain ⟨g3, hf⟩ := gd hf
      refine V_aald C (sFc isF1) (fun _ => rfl) g3 (sCag g3) dX9_drop_47 rfl ?_
      refine V_getI C cf0 (sCa isF1 g3) 1 rfl (by decide) w174 rfl dX9_drop_48 rfl ?_
      refine V_istore C (L' := [(0, .ref (ad 0)), (1, .int p1), (2, .int p2), (3, .ref (ad (1 + 18 + (p2).toNatClampNeg))), (4, .int (u (1 + 12 + (p1).toNatClampNeg) 1))]) dX9_drop_51 rfl (by decide) hnL [1, 2, 3, 4, 0] rfl ?_
      refine V_aload_n C 3 dX9_drop_53 rfl rfl rfl ?_
      refine V_getI C cf1 (sEr isF1 g2) 3 rfl (by decide) w216 rfl dX9_drop_54 rfl ?_
      refine V_iconst C dX9_drop_57 rfl (v := 1) rfl ?_
      refine V_icmp_ne C dX9_drop_58 (tgt := 78) rfl rfl (fun c12 => ?_) (fun c12 => ?_)
      · replace hf := ineg c12 hf
        refine V_aload_n C 0 dX9_drop_78 rfl rfl rfl ?_
        refine V_ldc C dX9_drop_79 rfl w539 ?_
        obtain ⟨q4, hq4, hf⟩ := obd hf
        refine V_cVi C (b := 0) (As := [.int (-1000005)]) (st := []) cf9 rfl M_X9_finding w397 ⟨by decide, by decide⟩ rfl rfl (Nat.le_of_ble_eq_true rfl) dX9_drop_81 rfl (kX9_finding hq4) ?_
        obtain rfl := Option.some.inj hf
        exact K _ _ _ dX9_drop_84 rfl rfl
      · replace hf := ipos c12 hf
        refine V_aload_n C 3 dX9_drop_61 rfl rfl rfl ?_
        refine V_getI C cf1 (sEr isF1 g2) 4 rfl (by decide) w219 rfl dX9_drop_62 rfl ?_
        refine V_iload_n C 1 dX9_drop_65 rfl rfl rfl ?_
        refine V_icmp_ne C dX9_drop_66 (tgt := 78) rfl rfl (fun c11 => ?_) (fun c11 => ?_)
        · replace hf := ineg c11 hf
          refine V_aload_n C 0 dX9_drop_78 rfl rfl rfl ?_
          refine V_ldc C dX9_drop_79 rfl w539 ?_
          obtain ⟨q5, hq5, hf⟩ := obd hf
          refine V_cVi C (b := 0) (As := [.int (-1000005)]) (st := []) cf9 rfl M_X9_finding w397 ⟨by decide, by decide⟩ rfl rfl (Nat.le_of_ble_eq_true rfl) dX9_drop_81 rfl (kX9_finding hq5) ?_
          obtain rfl := Option.some.inj hf
          exact K _ _ _ dX9_drop_84 rfl rfl
        · replace hf := ipos c11 hf
          refine V_aload_n C 3 dX9_drop_69 rfl rfl rfl ?_
          refine V_getI C cf1 (sEr isF1 g2) 2 rfl (by decide) w213 rfl dX9_drop_70 rfl ?_
          refine V_iload C 4 dX9_drop_73 rfl rfl ?_
          refine V_icmp_ne C dX9_drop_75 (tgt := 85) rfl rfl (fun c10 => ?_) (fun c10 => ?_)
          · replace hf := ineg c10 hf
            refine V_aload_n C 3 dX9_drop_85 rfl rfl rfl ?_
            refine V_iconst C dX9_drop_86 rfl (v := 0) rfl ?_
            refine V_put C cf1 (sEr isF1 g2) 3 rfl (by decide) w216 rfl rfl rfl rfl dX9_drop_87 rfl ?_
            refine V_aload_n C 3 dX9_drop_90 rfl rfl rfl ?_
            refine V_iconst C dX9_drop_91 rfl (v := (-1)) (by decide) ?_
            refine V_put C cf1 (sEr isF1 g2) 4 rfl (by decide) w219 rfl rfl rfl rfl dX9_drop_92 rfl ?_
            refine V_aload_n C 3 dX9_drop_95 rfl rfl rfl ?_
            refine V_iload C 4 dX9_drop_96 rfl rfl ?_
            refine V_put C cf1 (sEr isF1 g2) 1 rfl (by decide) w209 rfl rfl rfl rfl dX9_drop_98 rfl ?_
            obtain ⟨w6, ew6, hf⟩ := nmd hf
            rw [← ew6]
            refine V_aload_n C 0 dX9_drop_101 rfl rfl rfl ?_
            refine V_getR C cf9 rfl 0 rfl (by decide) w361 rfl dX9_drop_102 rfl ?_
            refine V_aload_n C 0 dX9_drop_105 rfl rfl rfl ?_
            refine V_getR C cf9 rfl 0 rfl (by decide) w361 rfl dX9_drop_106 rfl ?_
            refine V_iload_n C 1 dX9_drop_109 rfl rfl rfl ?_
            obtain ⟨q7, hq7, hf⟩ := obd hf
            refine V_cVi C (b := 1) (As := [.int p1]) (st := [.ref (ad 1)]) cf2 (sF isF1) M_X2_carriedBy w422 ⟨by decide, by decide⟩ rfl rfl (Nat.le_of_ble_eq_true rfl) dX9_drop_110 rfl (kX2_carriedBy isF1 hq7) ?_
            obtain ⟨q8, hq8, hf⟩ := obd hf
            refine V_cVi C (b := 1) (As := [.int q7]) (st := []) cf2 (sF isF1) M_X2_weightOf w426 ⟨by decide, by decide⟩ rfl rfl (Nat.le_of_ble_eq_true rfl) dX9_drop_113 rfl (kX2_weightOf isF1 hq8) ?_
            obtain rfl := Option.some.inj hf
            exact K _ _ _ dX9_drop_116 rfl rfl
          · replace hf := ipos c10 hf
            refine V_aload_n C 0 dX9_drop_78 rfl rfl rfl ?_
            refine V_ldc C dX9_drop_79 rfl w539 ?_
            obtain ⟨q9, hq9, hf⟩ := obd hf
            refine V_cVi C (b := 0) (As := [.int (-1000005)]) (st := []) cf9 rfl M_X9_finding w397 ⟨by decide, by decide⟩ rfl rfl (Nat.le_of_ble_eq_true rfl) dX9_drop_81 rfl (kX9_finding hq9) ?_
            obtain rfl := Option.some.inj hf
            exact K _ _ _ dX9_drop_84 rfl rfl
    · replace hf := ipos c14 hf
      refine V_aload_n C 0 dX9_drop_22 rfl rfl rfl ?_
      refine V_ldc C dX9_drop_23 rfl w396 ?_
      obtain ⟨q13, hq13, hf⟩ := obd hf
      refine V_cVi C (b := 0) (As := [.int (-1000001)]) (st := []) cf9 rfl M_X9_finding w397 ⟨by decide, by decide⟩ rfl rfl (Nat.le_of_ble_eq_true rfl) dX9_drop_25 rfl (kX9_finding hq13) ?_
      obtain rfl := Option.some.inj hf
      exact K _ _ _ dX9_drop_28 rfl rfl
set_option maxHeartbeats 4000000 in
set_option maxRecDepth 100000 in
theorem kX9_walk {ad : Nat → Nat} {G : Gh} {p1 : Int32} {p2 : Int32} {u : Mem} {q : Int32 × Mem} (hf : FX9_walk p1 p2 u = some q) : Ct shs ad G yX9_walk cX9_walk 3 (some .int) 4 95 [.ref (ad 0), .int p1, .int p2] u (some (.int q.1)) q.2 := by
  refine Ct_ofI (by decide) (Nat.le_of_ble_eq_true rfl) (fun X C hnL K => ?_)
  have C : Cx ad G X cX9_walk "CarryFair" 4 95 := C
  unfold FX9_walk at hf
  refine V_aload_n C 0 dX9_walk_0 rfl rfl rfl ?_
  refine V_getR C cf9 rfl 0 rfl (by decide) w361 rfl dX9_walk_1 rfl ?_
  refine V_iload_n C 1 dX9_walk_4 rfl rfl rfl ?_
  refine V_cVi C (b := 1) (As := [.int p1]) (st := []) cf2 (sF isF1) M_X2_hasCarrier w410 ⟨by decide, by decide⟩ rfl rfl (Nat.le_of_ble_eq_true rfl) dX9_walk_5 rfl (kX2_hasCarrier isF1 rfl) ?_
  refine V_if_eq C dX9_walk_8 (tgt := 18) rfl rfl (fun c8 => ?_) (fun c8 => ?_)
  · replace hf := ipos c8 hf
    refine V_aload_n C 0 dX9_walk_18 rfl rfl rfl ?_
    refine V_ldc C dX9_walk_19 rfl w396 ?_
    obtain ⟨q1, hq1, hf⟩ := obd hf
    refine V_cVi C (b := 0) (As := [.int (-1000001)]) (st := []) cf9 rfl M_X9_finding w397 ⟨by decide, by decide⟩ rfl rfl (Nat.le_of_ble_eq_true rfl) dX9_walk_21 rfl (kX9_finding hq1) ?_
    obtain rfl := Option.some.inj hf
    exact K _ _ _ dX9_walk_24 rfl rfl
  · replace hf := ineg c8 hf
    refine V_iload_n C 2 dX9_walk_11 rfl rfl rfl ?_
    refine V_cSi C (As := [.int p2]) (st := []) M_X9_isPlace w440 ⟨by decide, by decide⟩ rfl rfl (Nat.le_of_ble_eq_true rfl) dX9_walk_12 rfl (kX9_isPlace rfl) ?_
    refine V_if_ne C dX9_walk_15 (tgt := 25) rfl rfl (fun c7 => ?_) (fun c7 => ?_)
    · replace hf := ineg c7 hf
      refine V_aload_n C 0 dX9_walk_25 rfl rfl rfl ?_
      refine V_getR C cf9 rfl 0 rfl (by decide) w361 rfl dX9_walk_26 rfl ?_
      refine V_iload_n C 1 dX9_walk_29 rfl rfl rfl ?_
      refine V_iload_n C 2 dX9_walk_30 rfl rfl rfl ?_
      obtain ⟨q2, hq2, hf⟩ := obd hf
      refine V_cVi C (b := 1) (As := [.int p1, .int p2]) (st := []) cf2 (sF isF1) M_X2_yardsTo w559 ⟨by decide, by decide⟩ rfl rfl (Nat.le_of_ble_eq_true rfl) dX9_walk_31 rfl (kX2_yardsTo isF1 hq2) ?_
      refine V_ldc C dX9_walk_34 rfl w499 ?_
      refine V_icmp_lt C dX9_walk_36 (tgt := 46) rfl rfl (fun c5 => ?_) (fun c5 => ?_)
      · replace hf := ipos c5 hf
        refine V_aload_n C 0 dX9_walk_46 rfl rfl rfl ?_
        refine V_getR C cf9 rfl 0 rfl (by decide) w361 rfl dX9_walk_47 rfl ?_
        refine V_iload_n C 1 dX9_walk_50 rfl rfl rfl ?_
        refine V_iload_n C 2 dX9_walk_51 rfl rfl rfl ?_
        obtain ⟨q3, hq3, hf⟩ := obd hf
        refine V_cVi C (b := 1) (As := [.int p1, .int p2]) (st := []) cf2 (sF isF1) M_X2_go w563 ⟨by decide, by decide⟩ rfl rfl (Nat.le_of_ble_eq_true rfl) dX9_walk_52 rfl (kX2_go isF1 hq3) ?_
        obtain rfl := Option.some.inj hf
        exact K _ _ _ dX9_walk_55 rfl rfl
      · replace hf := ineg c5 hf
        refine V_aload_n C 0 dX9_walk_39 rfl rfl rfl ?_
        refine V_ldc C dX9_walk_40 rfl w500 ?_
        obtain ⟨q4, hq4, hf⟩ := obd hf
        refine V_cVi C (b := 0) (As := [.int (-1000004)]) (st := []) cf9 rfl M_X9_finding w397 ⟨by decide, by decide⟩ rfl rfl (Nat.le_of_ble_eq_true rfl) dX9_walk_42 rfl (kX9_finding hq4) ?_
        obtain rfl := Option.some.inj hf
        exact K _ _ _ dX9_walk_45 rfl rfl
    · replace hf := ipos c7 hf
      refine V_aload_n C 0 dX9_walk_18 rfl rfl rfl ?_
      refine V_ldc C dX9_walk_19 rfl w396 ?_
      obtain ⟨q6, hq6, hf⟩ := obd hf
      refine V_cVi C (b := 0) (As := [.int (-1000001)]) (st := []) cf9 rfl M_X9_finding w397 ⟨by decide, by decide⟩ rfl rfl (Nat.le_of_ble_eq_true rfl) dX9_walk_21 rfl (kX9_finding hq6) ?_
      obtain rfl := Option.some.inj hf
      exact K _ _ _ dX9_walk_24 rfl rfl
set_option maxHeartbeats 4000000 in
set_option maxRecDepth 100000 in
theorem kX9_buy {ad : Nat → Nat} {G : Gh} {p1 : Int32} {p2 : Int32} {u : Mem} {q : Int32 × Mem} (hf : FX9_buy p1 p2 u = some q) : Ct shs ad G yX9_buy cX9_buy 5 (some .int) 2 44 [.ref (ad 0), .int p1, .int p2] u (some (.int q.1)) q.2 := by
  refine Ct_ofI (by decide) (Nat.le_of_ble_eq_true rfl) (fun X C hnL K => ?_)
  have C : Cx ad G X cX9_buy "CarryFair" 2 44 := C
  unfold FX9_buy at hf
  refine V_aload_n C 0 dX9_buy_0 rfl rfl rfl ?_
  refine V_getR C cf9 rfl 0 rfl (by decide) w361 rfl dX9_buy_1 rfl ?_
  refine V_iload_n C 1 dX9_buy_4 rfl rfl rfl ?_
  refine V_cVi C (b := 1) (As := [.int p1]) (st := []) cf2 (sF isF1) M_X2_hasCarrier w410 ⟨by decide, by decide⟩ rfl rfl (Nat.le_of_ble_eq_true rfl) dX9_buy_5 rfl (kX2_hasCarrier isF1 rfl) ?_
  refine V_if_eq C dX9_buy_8 (tgt := 22) rfl rfl (fun c11 => ?_) (fun c11 => ?_)
  · replace hf := ipos c11 hf
    refine V_aload_n C 0 dX9_buy_22 rfl rfl rfl ?_
    refine V_ldc C dX9_buy_23 rfl w396 ?_
    obtain ⟨q1, hq1, hf⟩ := obd hf
    refine V_cVi C (b := 0) (As := [.int (-1000001)]) (st := []) cf9 rfl M_X9_finding w397 ⟨by decide, by decide⟩ rfl rfl (Nat.le_of_ble_eq_true rfl) dX9_buy_25 rfl (kX9_finding hq1) ?_
    obtain rfl := Option.some.inj hf
    exact K _ _ _ dX9_buy_28 rfl rfl
  · replace hf := ineg c11 hf
    refine V_aload_n C 0 dX9_buy_11 rfl rfl rfl ?_
    refine V_getR C cf9 rfl 0 rfl (by decide) w361 rfl dX9_buy_12 rfl ?_
    refine V_iload_n C 2 dX9_buy_15 rfl rfl rfl ?_
    refine V_cVi C (b := 1) (As := [.int p2]) (st := []) cf2 (sF isF1) M_X2_hasWare w513 ⟨by decide, by decide⟩ rfl rfl (Nat.le_of_ble_eq_true rfl) dX9_buy_16 rfl (kX2_hasWare isF1 rfl) ?_
    refine V_if_ne C dX9_buy_19 (tgt := 29) rfl rfl (fun c10 => ?_) (fun c10 => ?_)
    · replace hf := ineg c10 hf
      refine V_aload_n C 0 dX9_buy_29 rfl rfl rfl ?_
      refine V_getR C cf9 rfl 0 rfl (by decide) w361 rfl dX9_buy_30 rfl ?_
      refine V_getR C cf2 (sF isF1) 0 rfl (by decide) w247 rfl dX9_buy_33 rfl ?_
      refine V_iload_n C 1 dX9_buy_36 rfl rfl rfl ?_
      obtain ⟨g2, hf⟩ := gd hf
      refine V_aald C (sFc isF1) (fun _ => rfl) g2 (sCag g2) dX9_buy_37 rfl ?_
      refine V_astore_n C (L' := [(0, .ref (ad 0)), (1, .int p1), (2, .int p2), (3, .ref (ad (1 + 12 + (p1).toNatClampNeg)))]) dX9_buy_38 rfl rfl (by decide) hnL [1, 2, 3, 0] rfl ?_
      refine V_aload_n C 0 dX9_buy_39 rfl rfl rfl ?_
      refine V_getR C cf9 rfl 0 rfl (by decide) w361 rfl dX9_buy_40 rfl ?_
      refine V_getR C cf2 (sF isF1) 2 rfl (by decide) w252 rfl dX9_buy_43 rfl ?_
      refine V_iload_n C 2 dX9_buy_46 rfl rfl rfl ?_
      obtain ⟨g3, hf⟩ := gd hf
      refine V_aald C (sFw isF1) (fun _ => rfl) g3 (sWag g3) dX9_buy_47 rfl ?_
      refine V_astore C (L' := [(0, .ref (ad 0)), (1, .int p1), (2, .int p2), (3, .ref (ad (1 + 12 + (p1).toNatClampNeg))), (4, .ref (ad (1 + 26 + (p2).toNatClampNeg)))]) dX9_buy_48 rfl (by decide) hnL [1, 2, 3, 4, 0] rfl ?_
      refine V_aload C 4 dX9_buy_50 rfl rfl ?_
      refine V_getI C cf7 (sWa isF1 g3) 1 rfl (by decide) w239 rfl dX9_buy_52 rfl ?_
      refine V_iconst C dX9_buy_55 rfl (v := (-1)) (by decide) ?_
      refine V_icmp_ne C dX9_buy_56 (tgt := 71) rfl rfl (fun c8 => ?_) (fun c8 => ?_)
      · replace hf := ineg c8 hf
        refine V_aload_n C 0 dX9_buy_71 rfl rfl rfl ?_
        refine V_ldc C dX9_buy_72 rfl w539 ?_
        obtain ⟨q4, hq4, hf⟩ := obd hf
        refine V_cVi C (b := 0) (As := [.int (-1000005)]) (st := []) cf9 rfl M_X9_finding w397 ⟨by decide, by decide⟩ rfl rfl (Nat.le_of_ble_eq_true rfl) dX9_buy_74 rfl (kX9_finding hq4) ?_
        obtain rfl := Option.some.inj hf
        exact K _ _ _ dX9_buy_77 rfl rfl
      · replace hf := ipos c8 hf
        refine V_aload_n C 3 dX9_buy_59 rfl rfl rfl ?_
        refine V_getI C cf0 (sCa isF1 g2) 3 rfl (by decide) w181 rfl dX9_buy_60 rfl ?_
        refine V_aload C 4 dX9_buy_63 rfl rfl ?_
        refine V_getI C cf7 (sWa isF1 g3) 0 rfl (by decide) w237 rfl dX9_buy_65 rfl ?_
        refine V_icmp_ge C dX9_buy_68 (tgt := 78) rfl rfl (fun c7 => ?_) (fun c7 => ?_)
        · replace hf := ipos c7 hf
          refine V_aload C 4 dX9_buy_78 rfl rfl ?_
          refine V_iload_n C 1 dX9_buy_80 rfl rfl rfl ?_
          refine V_put C cf7 (sWa isF1 g3) 1 rfl (by decide) w239 rfl rfl rfl rfl dX9_buy_81 rfl ?_
          refine V_aload_n C 3 dX9_buy_84 rfl rfl rfl ?_
          refine V_dup C dX9_buy_85 rfl rfl ?_
          refine V_getI C cf0 (sCa isF1 g2) 3 rfl (by decide) w181 rfl dX9_buy_86 rfl ?_
          refine V_aload C 4 dX9_buy_89 rfl rfl ?_
          refine V_getI C cf7 (sWa isF1 g3) 0 rfl (by decide) w237 rfl dX9_buy_91 rfl ?_
          refine V_isub C dX9_buy_94 rfl ?_
          refine V_put C cf0 (sCa isF1 g2) 3 rfl (by decide) w181 rfl rfl rfl rfl dX9_buy_95 rfl ?_
          obtain ⟨w5, ew5, hf⟩ := nmd hf
          rw [← ew5]
          refine V_aload_n C 3 dX9_buy_98 rfl rfl rfl ?_
          refine V_getI C cf0 (sCa isF1 g2) 3 rfl (by decide) w181 rfl dX9_buy_99 rfl ?_
          obtain rfl := Option.some.inj hf
          exact K _ _ _ dX9_buy_102 rfl rfl
        · replace hf := ineg c7 hf
          refine V_aload_n C 0 dX9_buy_71 rfl rfl rfl ?_
          refine V_ldc C dX9_buy_72 rfl w539 ?_
          obtain ⟨q6, hq6, hf⟩ := obd hf
          refine V_cVi C (b := 0) (As := [.int (-1000005)]) (st := []) cf9 rfl M_X9_finding w397 ⟨by decide, by decide⟩ rfl rfl (Nat.le_of_ble_eq_true rfl) dX9_buy_74 rfl (kX9_finding hq6) ?_
          obtain rfl := Option.some.inj hf
          exact K _ _ _ dX9_buy_77 rfl rfl
    · replace hf := ipos c10 hf
      refine V_aload_n C 0 dX9_buy_22 rfl rfl rfl ?_
      refine V_ldc C dX9_buy_23 rfl w396 ?_
      obtain ⟨q9, hq9, hf⟩ := obd hf
      refine V_cVi C (b := 0) (As := [.int (-1000001)]) (st := []) cf9 rfl M_X9_finding w397 ⟨by decide, by decide⟩ rfl rfl (Nat.le_of_ble_eq_true rfl) dX9_buy_25 rfl (kX9_finding hq9) ?_
      obtain rfl := Option.some.inj hf
      exact K _ _ _ dX9_buy_28 rfl rfl
