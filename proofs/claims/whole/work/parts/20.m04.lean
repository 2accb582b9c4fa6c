set_option maxHeartbeats 4000000 in
set_option maxRecDepth 100000 in
theorem kX9_now {ad : Nat → Nat} {G : Gh} {p1 : Int32} {u : Mem} {q : Int32 × Mem} (hf : FX9_now p1 u = some q) : Ct shs ad G yX9_now cX9_now 2 (some .int) 2 44 [.ref (ad 0), .int p1] u (some (.int q.1)) q.2 := by
  refine Ct_ofI (by decide) (Nat.le_of_ble_eq_true rfl) (fun X C hnL K => ?_)
  have C : Cx ad G X cX9_now "CarryFair" 2 44 := C
  unfold FX9_now at hf
  refine V_iload_n C 1 dX9_now_0 rfl rfl rfl ?_
  by_cases c1 : p1 = 0
  · replace hf := ipos c1 hf
    refine V_tin C dX9_now_1 0 c1 (by decide) (by decide) rfl (tgt := 36) rfl ?_
    refine V_aload_n C 0 dX9_now_36 rfl rfl rfl ?_
    refine V_getR C cf9 rfl 0 rfl (by decide) w361 rfl dX9_now_37 rfl ?_
    refine V_iconst C dX9_now_40 rfl (v := 0) rfl ?_
    obtain ⟨q2, hq2, hf⟩ := obd hf
    refine V_cVi C (b := 1) (As := [.int 0]) (st := []) cf2 (sF isF1) M_X2_errandsThat w584 ⟨by decide, by decide⟩ rfl rfl (Nat.le_of_ble_eq_true rfl) dX9_now_41 rfl (kX2_errandsThat isF1 hq2) ?_
    obtain rfl := Option.some.inj hf
    exact K _ _ _ dX9_now_44 rfl rfl
  replace hf := ineg c1 hf
  by_cases c3 : p1 = 1
  · replace hf := ipos c3 hf
    refine V_tin C dX9_now_1 1 c3 (by decide) (by decide) rfl (tgt := 45) rfl ?_
    refine V_aload_n C 0 dX9_now_45 rfl rfl rfl ?_
    refine V_getR C cf9 rfl 0 rfl (by decide) w361 rfl dX9_now_46 rfl ?_
    refine V_iconst C dX9_now_49 rfl (v := 2) rfl ?_
    obtain ⟨q4, hq4, hf⟩ := obd hf
    refine V_cVi C (b := 1) (As := [.int 2]) (st := []) cf2 (sF isF1) M_X2_errandsThat w584 ⟨by decide, by decide⟩ rfl rfl (Nat.le_of_ble_eq_true rfl) dX9_now_50 rfl (kX2_errandsThat isF1 hq4) ?_
    obtain rfl := Option.some.inj hf
    exact K _ _ _ dX9_now_53 rfl rfl
  replace hf := ineg c3 hf
  by_cases c5 : p1 = 2
  · replace hf := ipos c5 hf
    refine V_tin C dX9_now_1 2 c5 (by decide) (by decide) rfl (tgt := 54) rfl ?_
    refine V_aload_n C 0 dX9_now_54 rfl rfl rfl ?_
    refine V_getR C cf9 rfl 0 rfl (by decide) w361 rfl dX9_now_55 rfl ?_
    obtain ⟨q6, hq6, hf⟩ := obd hf
    refine V_cVi C (b := 1) (As := []) (st := []) cf2 (sF isF1) M_X2_soldWares w588 ⟨by decide, by decide⟩ rfl rfl (Nat.le_of_ble_eq_true rfl) dX9_now_58 rfl (kX2_soldWares isF1 hq6) ?_
    obtain rfl := Option.some.inj hf
    exact K _ _ _ dX9_now_61 rfl rfl
  replace hf := ineg c5 hf
  by_cases c7 : p1 = 3
  · replace hf := ipos c7 hf
    refine V_tin C dX9_now_1 3 c7 (by decide) (by decide) rfl (tgt := 62) rfl ?_
    refine V_aload_n C 0 dX9_now_62 rfl rfl rfl ?_
    refine V_getR C cf9 rfl 0 rfl (by decide) w361 rfl dX9_now_63 rfl ?_
    obtain ⟨q8, hq8, hf⟩ := obd hf
    refine V_cVi C (b := 1) (As := []) (st := []) cf2 (sF isF1) M_X2_earnedByAll w592 ⟨by decide, by decide⟩ rfl rfl (Nat.le_of_ble_eq_true rfl) dX9_now_66 rfl (kX2_earnedByAll isF1 hq8) ?_
    obtain rfl := Option.some.inj hf
    exact K _ _ _ dX9_now_69 rfl rfl
  replace hf := ineg c7 hf
  by_cases c9 : p1 = 4
  · replace hf := ipos c9 hf
    refine V_tin C dX9_now_1 4 c9 (by decide) (by decide) rfl (tgt := 70) rfl ?_
    refine V_aload_n C 0 dX9_now_70 rfl rfl rfl ?_
    refine V_getR C cf9 rfl 0 rfl (by decide) w361 rfl dX9_now_71 rfl ?_
    obtain ⟨q10, hq10, hf⟩ := obd hf
    refine V_cVi C (b := 1) (As := []) (st := []) cf2 (sF isF1) M_X2_walkedByAll w596 ⟨by decide, by decide⟩ rfl rfl (Nat.le_of_ble_eq_true rfl) dX9_now_74 rfl (kX2_walkedByAll isF1 hq10) ?_
    obtain rfl := Option.some.inj hf
    exact K _ _ _ dX9_now_77 rfl rfl
  replace hf := ineg c9 hf
  refine V_tout C dX9_now_1 (by have nc1 := lv_neT (a := 0) c1 (by decide); have nc3 := lv_neT (a := 1) c3 (by decide); have nc5 := lv_neT (a := 2) c5 (by decide); have nc7 := lv_neT (a := 3) c7 (by decide); have nc9 := lv_neT (a := 4) c9 (by decide); omega) (tgt := 78) rfl ?_
  refine V_aload_n C 0 dX9_now_78 rfl rfl rfl ?_
  refine V_ldc C dX9_now_79 rfl w396 ?_
  obtain ⟨q11, hq11, hf⟩ := obd hf
  refine V_cVi C (b := 0) (As := [.int (-1000001)]) (st := []) cf9 rfl M_X9_finding w397 ⟨by decide, by decide⟩ rfl rfl (Nat.le_of_ble_eq_true rfl) dX9_now_81 rfl (kX9_finding hq11) ?_
  obtain rfl := Option.some.inj hf
  exact K _ _ _ dX9_now_84 rfl rfl
set_option maxHeartbeats 4000000 in
set_option maxRecDepth 100000 in
theorem kX9_areErrands {ad : Nat → Nat} {G : Gh} {p1 : Int32} {u : Mem} {q : Int32} (hf : FX9_areErrands p1 u = q) : Ct shs ad G yX9_areErrands cX9_areErrands 2 (some .boolean) 1 22 [.ref (ad 0), .int p1] u (some (.int q)) u := by
  refine Ct_ofI (by decide) (Nat.le_of_ble_eq_true rfl) (fun X C hnL K => ?_)
  have C : Cx ad G X cX9_areErrands "CarryFair" 1 22 := C
  unfold FX9_areErrands at hf
  refine V_iload_n C 1 dX9_areErrands_0 rfl rfl rfl ?_
  refine V_iconst C dX9_areErrands_1 rfl (v := 0) rfl ?_
  refine V_iconst C dX9_areErrands_2 rfl (v := 1) rfl ?_
  refine V_aload_n C 0 dX9_areErrands_3 rfl rfl rfl ?_
  refine V_getR C cf9 rfl 0 rfl (by decide) w361 rfl dX9_areErrands_4 rfl ?_
  refine V_getI C cf2 (sF isF1) 6 rfl (by decide) w265 rfl dX9_areErrands_7 rfl ?_
  refine V_jshl C dX9_areErrands_10 rfl ?_
  refine V_iconst C dX9_areErrands_11 rfl (v := 1) rfl ?_
  refine V_isub C dX9_areErrands_12 rfl ?_
  refine V_cSi C (As := [.int p1, .int 0, .int ((jshl 1 (u 1 6)) - 1)]) (st := []) M_X9_within w393 ⟨by decide, by decide⟩ rfl rfl (Nat.le_of_ble_eq_true rfl) dX9_areErrands_13 rfl (kX9_within rfl) ?_
  subst hf
  exact K _ _ _ dX9_areErrands_16 rfl (nzb (bX9_within))
set_option maxHeartbeats 4000000 in
set_option maxRecDepth 100000 in
theorem kX9_isFewErrands {ad : Nat → Nat} {G : Gh} {p1 : Int32} {u : Mem} {q : Int32} (hf : FX9_isFewErrands p1 u = q) : Ct shs ad G yX9_isFewErrands cX9_isFewErrands 2 (some .boolean) 2 43 [.ref (ad 0), .int p1] u (some (.int q)) u := by
  refine Ct_ofI (by decide) (Nat.le_of_ble_eq_true rfl) (fun X C hnL K => ?_)
  have C : Cx ad G X cX9_isFewErrands "CarryFair" 2 43 := C
  unfold FX9_isFewErrands at hf
  refine V_aload_n C 0 dX9_isFewErrands_0 rfl rfl rfl ?_
  refine V_iload_n C 1 dX9_isFewErrands_1 rfl rfl rfl ?_
  refine V_cVi C (b := 0) (As := [.int p1]) (st := []) cf9 rfl M_X9_areErrands w612 ⟨by decide, by decide⟩ rfl rfl (Nat.le_of_ble_eq_true rfl) dX9_isFewErrands_2 rfl (kX9_areErrands rfl) ?_
  refine V_if_eq C dX9_isFewErrands_5 (tgt := 20) rfl rfl (fun c2 => ?_) (fun c2 => ?_)
  · replace hf := ipos c2 hf
    refine V_iconst C dX9_isFewErrands_20 rfl (v := 0) rfl ?_
    subst hf
    exact K _ _ _ dX9_isFewErrands_21 rfl (by decide)
  · replace hf := ineg c2 hf
    refine V_iload_n C 1 dX9_isFewErrands_8 rfl rfl rfl ?_
    refine V_cSi C (As := [.int p1]) (st := []) M_bitCount w616 ⟨by decide, by decide⟩ rfl rfl (Nat.le_of_ble_eq_true rfl) dX9_isFewErrands_9 rfl c_bitCount ?_
    refine V_iconst C dX9_isFewErrands_12 rfl (v := 5) rfl ?_
    refine V_icmp_gt C dX9_isFewErrands_13 (tgt := 20) rfl rfl (fun c1 => ?_) (fun c1 => ?_)
    · replace hf := ipos c1 hf
      refine V_iconst C dX9_isFewErrands_20 rfl (v := 0) rfl ?_
      subst hf
      exact K _ _ _ dX9_isFewErrands_21 rfl (by decide)
    · replace hf := ineg c1 hf
      refine V_iconst C dX9_isFewErrands_16 rfl (v := 1) rfl ?_
      refine V_goto C dX9_isFewErrands_17 (tgt := 21) rfl ?_
      subst hf
      exact K _ _ _ dX9_isFewErrands_21 rfl (by decide)
set_option maxHeartbeats 4000000 in
set_option maxRecDepth 100000 in
theorem kX9_roundLack {ad : Nat → Nat} {G : Gh} {p1 : Int32} {p2 : Int32} {u : Mem} {q : Int32} (hf : FX9_roundLack p1 p2 u = some q) : Ct shs ad G yX9_roundLack cX9_roundLack 3 (some .int) 3 64 [.ref (ad 0), .int p1, .int p2] u (some (.int q)) u := by
  refine Ct_ofI (by decide) (Nat.le_of_ble_eq_true rfl) (fun X C hnL K => ?_)
  have C : Cx ad G X cX9_roundLack "CarryFair" 3 64 := C
  unfold FX9_roundLack at hf
  refine V_aload_n C 0 dX9_roundLack_0 rfl rfl rfl ?_
  refine V_getR C cf9 rfl 0 rfl (by decide) w361 rfl dX9_roundLack_1 rfl ?_
  refine V_iload_n C 1 dX9_roundLack_4 rfl rfl rfl ?_
  refine V_cVi C (b := 1) (As := [.int p1]) (st := []) cf2 (sF isF1) M_X2_hasCarrier w410 ⟨by decide, by decide⟩ rfl rfl (Nat.le_of_ble_eq_true rfl) dX9_roundLack_5 rfl (kX2_hasCarrier isF1 rfl) ?_
  refine V_if_eq C dX9_roundLack_8 (tgt := 19) rfl rfl (fun c6 => ?_) (fun c6 => ?_)
  · replace hf := ipos c6 hf
    refine V_ldc C dX9_roundLack_19 rfl w396 ?_
    obtain rfl := Option.some.inj hf
    exact K _ _ _ dX9_roundLack_21 rfl rfl
  · replace hf := ineg c6 hf
    refine V_aload_n C 0 dX9_roundLack_11 rfl rfl rfl ?_
    refine V_iload_n C 2 dX9_roundLack_12 rfl rfl rfl ?_
    refine V_cVi C (b := 0) (As := [.int p2]) (st := []) cf9 rfl M_X9_isFewErrands w608 ⟨by decide, by decide⟩ rfl rfl (Nat.le_of_ble_eq_true rfl) dX9_roundLack_13 rfl (kX9_isFewErrands rfl) ?_
    refine V_if_ne C dX9_roundLack_16 (tgt := 22) rfl rfl (fun c5 => ?_) (fun c5 => ?_)
    · replace hf := ineg c5 hf
      refine V_aload_n C 0 dX9_roundLack_22 rfl rfl rfl ?_
      refine V_getR C cf9 rfl 0 rfl (by decide) w361 rfl dX9_roundLack_23 rfl ?_
      refine V_iload_n C 2 dX9_roundLack_26 rfl rfl rfl ?_
      obtain ⟨q1, hq1, hf⟩ := obd hf
      refine V_cVi C (b := 1) (As := [.int p2]) (st := []) cf2 (sF isF1) M_X2_allLie w622 ⟨by decide, by decide⟩ rfl rfl (Nat.le_of_ble_eq_true rfl) dX9_roundLack_27 rfl (kX2_allLie isF1 hq1) ?_
      refine V_if_eq C dX9_roundLack_30 (tgt := 48) rfl rfl (fun c4 => ?_) (fun c4 => ?_)
      · replace hf := ipos c4 hf
        refine V_ldc C dX9_roundLack_48 rfl w539 ?_
        obtain rfl := Option.some.inj hf
        exact K _ _ _ dX9_roundLack_50 rfl rfl
      · replace hf := ineg c4 hf
        refine V_aload_n C 0 dX9_roundLack_33 rfl rfl rfl ?_
        refine V_getR C cf9 rfl 0 rfl (by decide) w361 rfl dX9_roundLack_34 rfl ?_
        refine V_iload_n C 1 dX9_roundLack_37 rfl rfl rfl ?_
        obtain ⟨q2, hq2, hf⟩ := obd hf
        refine V_cVi C (b := 1) (As := [.int p1]) (st := []) cf2 (sF isF1) M_X2_carriedBy w422 ⟨by decide, by decide⟩ rfl rfl (Nat.le_of_ble_eq_true rfl) dX9_roundLack_38 rfl (kX2_carriedBy isF1 hq2) ?_
        refine V_if_ne C dX9_roundLack_41 (tgt := 48) rfl rfl (fun c3 => ?_) (fun c3 => ?_)
        · replace hf := ineg c3 hf
          refine V_ldc C dX9_roundLack_48 rfl w539 ?_
          obtain rfl := Option.some.inj hf
          exact K _ _ _ dX9_roundLack_50 rfl rfl
        · replace hf := ipos c3 hf
          refine V_iconst C dX9_roundLack_44 rfl (v := 0) rfl ?_
          refine V_goto C dX9_roundLack_45 (tgt := 50) rfl ?_
          obtain rfl := Option.some.inj hf
          exact K _ _ _ dX9_roundLack_50 rfl rfl
    · replace hf := ipos c5 hf
      refine V_ldc C dX9_roundLack_19 rfl w396 ?_
      obtain rfl := Option.some.inj hf
      exact K _ _ _ dX9_roundLack_21 rfl rfl
set_option maxHeartbeats 4000000 in
set_option maxRecDepth 100000 in
theorem kX9_yardsOfRound {ad : Nat → Nat} {G : Gh} {p1 : Nat} (h1 : isF p1) {p2 : Int32} {p3 : Int32} {u : Mem} {q : Int32 × Mem} (hf : FX9_yardsOfRound p1 p2 p3 u = some q) : Ct shs ad G yX9_yardsOfRound cX9_yardsOfRound 4 (some .int) 4 103 [.ref (ad 0), .ref (ad p1), .int p2, .int p3] u (some (.int q.1)) q.2 := by
  refine Ct_ofI (by decide) (Nat.le_of_ble_eq_true rfl) (fun X C hnL K => ?_)
  have C : Cx ad G X cX9_yardsOfRound "CarryFair" 4 103 := C
  unfold FX9_yardsOfRound at hf
  refine V_aload_n C 0 dX9_yardsOfRound_0 rfl rfl rfl ?_
  refine V_getR C cf9 rfl 3 rfl (by decide) w364 rfl dX9_yardsOfRound_1 rfl ?_
  refine V_aload_n C 1 dX9_yardsOfRound_4 rfl rfl rfl ?_
  refine V_iload_n C 2 dX9_yardsOfRound_5 rfl rfl rfl ?_
  refine V_aload_n C 1 dX9_yardsOfRound_6 rfl rfl rfl ?_
  refine V_getR C cf2 (sF h1) 0 rfl (by decide) w247 rfl dX9_yardsOfRound_7 rfl ?_
  refine V_iload_n C 2 dX9_yardsOfRound_10 rfl rfl rfl ?_
  obtain ⟨g1, hf⟩ := gd hf
  refine V_aald C (sFc h1) (fun _ => rfl) g1 (sCag g1) dX9_yardsOfRound_11 rfl ?_
  refine V_getI C cf0 (sCa h1 g1) 0 rfl (by decide) w170 rfl dX9_yardsOfRound_12 rfl ?_
  refine V_iload_n C 3 dX9_yardsOfRound_15 rfl rfl rfl ?_
  obtain ⟨q2, hq2, hf⟩ := obd hf
  refine V_cVv C (b := 97) (As := [.ref (ad p1), .int p2, .int (u (p1 + 12 + (p2).toNatClampNeg) 0), .int p3]) (st := []) cf4 rfl M_X4_find w631 ⟨by decide, by decide⟩ rfl rfl (Nat.le_of_ble_eq_true rfl) dX9_yardsOfRound_16 rfl (kX4_find h1 hq2) ?_
  refine V_aload_n C 0 dX9_yardsOfRound_19 rfl rfl rfl ?_
  refine V_getR C cf9 rfl 3 rfl (by decide) w364 rfl dX9_yardsOfRound_20 rfl ?_
  refine V_iload_n C 3 dX9_yardsOfRound_23 rfl rfl rfl ?_
  obtain ⟨q3, hq3, hf⟩ := obd hf
  refine V_cVi C (b := 97) (As := [.int p3]) (st := []) cf4 rfl M_X4_yardsOfPart w663 ⟨by decide, by decide⟩ rfl rfl (Nat.le_of_ble_eq_true rfl) dX9_yardsOfRound_24 rfl (kX4_yardsOfPart hq3) ?_
  obtain rfl := Option.some.inj hf
  exact K _ _ _ dX9_yardsOfRound_27 rfl rfl
set_option maxHeartbeats 4000000 in
set_option maxRecDepth 100000 in
theorem kX9_round {ad : Nat → Nat} {G : Gh} {p1 : Int32} {p2 : Int32} {u : Mem} {q : Int32 × Mem} (hf : FX9_round p1 p2 u = some q) : Ct shs ad G yX9_round cX9_round 4 (some .int) 5 126 [.ref (ad 0), .int p1, .int p2] u (some (.int q.1)) q.2 := by
  refine Ct_ofI (by decide) (Nat.le_of_ble_eq_true rfl) (fun X C hnL K => ?_)
  have C : Cx ad G X cX9_round "CarryFair" 5 126 := C
  unfold FX9_round at hf
  refine V_aload_n C 0 dX9_round_0 rfl rfl rfl ?_
  refine V_iload_n C 1 dX9_round_1 rfl rfl rfl ?_
  refine V_iload_n C 2 dX9_round_2 rfl rfl rfl ?_
  obtain ⟨q1, hq1, hf⟩ := obd hf
  refine V_cVi C (b := 0) (As := [.int p1, .int p2]) (st := []) cf9 rfl M_X9_roundLack w604 ⟨by decide, by decide⟩ rfl rfl (Nat.le_of_ble_eq_true rfl) dX9_round_3 rfl (kX9_roundLack hq1) ?_
  refine V_istore_n C (L' := [(0, .ref (ad 0)), (1, .int p1), (2, .int p2), (3, .int q1)]) dX9_round_6 rfl rfl (by decide) hnL [1, 2, 3, 0] rfl ?_
  refine V_iload_n C 3 dX9_round_7 rfl rfl rfl ?_
  refine V_if_eq C dX9_round_8 (tgt := 17) rfl rfl (fun c5 => ?_) (fun c5 => ?_)
  · replace hf := ipos c5 hf
    refine V_aload_n C 0 dX9_round_17 rfl rfl rfl ?_
    refine V_aload_n C 0 dX9_round_18 rfl rfl rfl ?_
    refine V_aload_n C 0 dX9_round_19 rfl rfl rfl ?_
    refine V_getR C cf9 rfl 0 rfl (by decide) w361 rfl dX9_round_20 rfl ?_
    refine V_iload_n C 1 dX9_round_23 rfl rfl rfl ?_
    refine V_iload_n C 2 dX9_round_24 rfl rfl rfl ?_
    obtain ⟨q2, hq2, hf⟩ := obd hf
    refine V_cVi C (b := 0) (As := [.ref (ad 1), .int p1, .int p2]) (st := [.ref (ad 0)]) cf9 rfl M_X9_yardsOfRound w627 ⟨by decide, by decide⟩ rfl rfl (Nat.le_of_ble_eq_true rfl) dX9_round_25 rfl (kX9_yardsOfRound isF1 hq2) ?_
    obtain ⟨q3, hq3, hf⟩ := obd hf
    refine V_cVi C (b := 0) (As := [.int q2.1]) (st := []) cf9 rfl M_X9_orNone w495 ⟨by decide, by decide⟩ rfl rfl (Nat.le_of_ble_eq_true rfl) dX9_round_28 rfl (kX9_orNone hq3) ?_
    obtain rfl := Option.some.inj hf
    exact K _ _ _ dX9_round_31 rfl rfl
  · replace hf := ineg c5 hf
    refine V_aload_n C 0 dX9_round_11 rfl rfl rfl ?_
    refine V_iload_n C 3 dX9_round_12 rfl rfl rfl ?_
    obtain ⟨q4, hq4, hf⟩ := obd hf
    refine V_cVi C (b := 0) (As := [.int q1]) (st := []) cf9 rfl M_X9_finding w397 ⟨by decide, by decide⟩ rfl rfl (Nat.le_of_ble_eq_true rfl) dX9_round_13 rfl (kX9_finding hq4) ?_
    obtain rfl := Option.some.inj hf
    exact K _ _ _ dX9_round_16 rfl rfl
set_option maxHeartbeats 4000000 in
set_option maxRecDepth 100000 in
theorem kX9_gets {ad : Nat → Nat} {G : Gh} {p1 : Int32} {p2 : Int32} {u : Mem} {q : Int32 × Mem} (hf : FX9_gets p1 p2 u = some q) : Ct shs ad G yX9_gets cX9_gets 4 (some .int) 4 93 [.ref (ad 0), .int p1, .int p2] u (some (.int q.1)) q.2 := by
  refine Ct_ofI (by decide) (Nat.le_of_ble_eq_true rfl) (fun X C hnL K => ?_)
  have C : Cx ad G X cX9_gets "CarryFair" 4 93 := C
  unfold FX9_gets at hf
  have Lp28 : ∀ (w : Mem) (x0 : (Int32)) (q28 : (Nat × Int32)), lp (BX9_gets_28 p1 p2 w) FU x0 = some q28 → (q28.1 = 0 → V shs ad G X 60 [(0, .ref (ad 0)), (1, .int p1), (2, .int p2), (3, .int q28.2)] [] w) → (q28.1 = 1 → V shs ad G X 73 [(0, .ref (ad 0)), (1, .int p1), (2, .int p2), (3, .int q28.2)] [] w) → V shs ad G X 28 [(0, .ref (ad 0)), (1, .int p1), (2, .int p2), (3, .int x0)] [] w := by
    intro w x0 q28 hq hx28_0 hx28_1
    refine lp_V (BX9_gets_28 p1 p2 w) (fun x28 => V shs ad G X 28 [(0, .ref (ad 0)), (1, .int p1), (2, .int p2), (3, .int x28)] [] w) q28 (fun rec28 ih28 x28 hf => ?_) FU x0 hq
    unfold BX9_gets_28 at hf
    refine V_iload_n C 3 dX9_gets_28 rfl rfl rfl ?_
    refine V_aload_n C 0 dX9_gets_29 rfl rfl rfl ?_
    refine V_getR C cf9 rfl 0 rfl (by decide) w361 rfl dX9_gets_30 rfl ?_
    refine V_getI C cf2 (sF isF1) 6 rfl (by decide) w265 rfl dX9_gets_33 rfl ?_
    refine V_icmp_ge C dX9_gets_36 (tgt := 73) rfl rfl (fun c5 => ?_) (fun c5 => ?_)
    · replace hf := ipos c5 hf
      obtain rfl := Option.some.inj hf
      exact hx28_1 rfl
    · replace hf := ineg c5 hf
      refine V_iload_n C 2 dX9_gets_39 rfl rfl rfl ?_
      refine V_iload_n C 3 dX9_gets_40 rfl rfl rfl ?_
      refine V_cSi C (As := [.int p2, .int x28]) (st := []) M_X9_has w671 ⟨by decide, by decide⟩ rfl rfl (Nat.le_of_ble_eq_true rfl) dX9_gets_41 rfl (kX9_has rfl) ?_
      refine V_if_eq C dX9_gets_44 (tgt := 67) rfl rfl (fun c4 => ?_) (fun c4 => ?_)
      · replace hf := ipos c4 hf
        refine V_iinc C (v := (x28 + 1)) (L' := [(0, .ref (ad 0)), (1, .int p1), (2, .int p2), (3, .int (x28 + 1))]) 3 dX9_gets_67 rfl rfl rfl (by decide) hnL [1, 2, 3, 0] rfl ?_
        refine V_goto C dX9_gets_70 (tgt := 28) rfl ?_
        exact ih28 (x28 + 1) hf
      · replace hf := ineg c4 hf
        refine V_aload_n C 0 dX9_gets_47 rfl rfl rfl ?_
        refine V_getR C cf9 rfl 0 rfl (by decide) w361 rfl dX9_gets_48 rfl ?_
        refine V_iload_n C 3 dX9_gets_51 rfl rfl rfl ?_
        obtain ⟨q2, hq2, hf⟩ := obd hf
        refine V_cVi C (b := 1) (As := [.int x28]) (st := []) cf2 (sF isF1) M_X2_worthOf w484 ⟨by decide, by decide⟩ rfl rfl (Nat.le_of_ble_eq_true rfl) dX9_gets_52 rfl (kX2_worthOf isF1 hq2) ?_
        refine V_ldc C dX9_gets_55 rfl w499 ?_
        refine V_icmp_lt C dX9_gets_57 (tgt := 67) rfl rfl (fun c3 => ?_) (fun c3 => ?_)
        · replace hf := ipos c3 hf
          refine V_iinc C (v := (x28 + 1)) (L' := [(0, .ref (ad 0)), (1, .int p1), (2, .int p2), (3, .int (x28 + 1))]) 3 dX9_gets_67 rfl rfl rfl (by decide) hnL [1, 2, 3, 0] rfl ?_
          refine V_goto C dX9_gets_70 (tgt := 28) rfl ?_
          exact ih28 (x28 + 1) hf
        · replace hf := ineg c3 hf
          obtain rfl := Option.some.inj hf
          exact hx28_0 rfl
  refine V_aload_n C 0 dX9_gets_0 rfl rfl rfl ?_
  refine V_getR C cf9 rfl 0 rfl (by decide) w361 rfl dX9_gets_1 rfl ?_
  refine V_iload_n C 1 dX9_gets_4 rfl rfl rfl ?_
  refine V_cVi C (b := 1) (As := [.int p1]) (st := []) cf2 (sF isF1) M_X2_hasCarrier w410 ⟨by decide, by decide⟩ rfl rfl (Nat.le_of_ble_eq_true rfl) dX9_gets_5 rfl (kX2_hasCarrier isF1 rfl) ?_
  refine V_if_eq C dX9_gets_8 (tgt := 19) rfl rfl (fun c11 => ?_) (fun c11 => ?_)
  · replace hf := ipos c11 hf
    refine V_aload_n C 0 dX9_gets_19 rfl rfl rfl ?_
    refine V_ldc C dX9_gets_20 rfl w396 ?_
    obtain ⟨q1, hq1, hf⟩ := obd hf
    refine V_cVi C (b := 0) (As := [.int (-1000001)]) (st := []) cf9 rfl M_X9_finding w397 ⟨by decide, by decide⟩ rfl rfl (Nat.le_of_ble_eq_true rfl) dX9_gets_22 rfl (kX9_finding hq1) ?_
    obtain rfl := Option.some.inj hf
    exact K _ _ _ dX9_gets_25 rfl rfl
  · replace hf := ineg c11 hf
    refine V_aload_n C 0 dX9_gets_11 rfl rfl rfl ?_
    refine V_iload_n C 2 dX9_gets_12 rfl rfl rfl ?_
    refine V_cVi C (b := 0) (As := [.int p2]) (st := []) cf9 rfl M_X9_isFewErrands w608 ⟨by decide, by decide⟩ rfl rfl (Nat.le_of_ble_eq_true rfl) dX9_gets_13 rfl (kX9_isFewErrands rfl) ?_
    refine V_if_ne C dX9_gets_16 (tgt := 26) rfl rfl (fun c10 => ?_) (fun c10 => ?_)
    · replace hf := ineg c10 hf
      refine V_iconst C dX9_gets_26 rfl (v := 0) rfl ?_
      refine V_istore_n C (L' := [(0, .ref (ad 0)), (1, .int p1), (2, .int p2), (3, .int 0)]) dX9_gets_27 rfl rfl (by decide) hnL [1, 2, 3, 0] rfl ?_
      obtain ⟨q28_6, hq28_6, hf⟩ := obd hf
      refine Lp28 u 0 q28_6 hq28_6 ?_ ?_
      · intro hk
        replace hf := ipos hk hf
        refine V_aload_n C 0 dX9_gets_60 rfl rfl rfl ?_
        refine V_ldc C dX9_gets_61 rfl w500 ?_
        obtain ⟨q7, hq7, hf⟩ := obd hf
        refine V_cVi C (b := 0) (As := [.int (-1000004)]) (st := []) cf9 rfl M_X9_finding w397 ⟨by decide, by decide⟩ rfl rfl (Nat.le_of_ble_eq_true rfl) dX9_gets_63 rfl (kX9_finding hq7) ?_
        obtain rfl := Option.some.inj hf
        exact K _ _ _ dX9_gets_66 rfl rfl
      · intro hk
        replace hf := ineg (by rw [hk]; decide) hf
        refine V_aload_n C 0 dX9_gets_73 rfl rfl rfl ?_
        refine V_getR C cf9 rfl 0 rfl (by decide) w361 rfl dX9_gets_74 rfl ?_
        refine V_iload_n C 1 dX9_gets_77 rfl rfl rfl ?_
        refine V_iload_n C 2 dX9_gets_78 rfl rfl rfl ?_
        obtain ⟨q8, hq8, hf⟩ := obd hf
        refine V_cVi C (b := 1) (As := [.int p1, .int p2]) (st := []) cf2 (sF isF1) M_X2_payOf w672 ⟨by decide, by decide⟩ rfl rfl (Nat.le_of_ble_eq_true rfl) dX9_gets_79 rfl (kX2_payOf isF1 hq8) ?_
        obtain rfl := Option.some.inj hf
        exact K _ _ _ dX9_gets_82 rfl rfl
    · replace hf := ipos c10 hf
      refine V_aload_n C 0 dX9_gets_19 rfl rfl rfl ?_
      refine V_ldc C dX9_gets_20 rfl w396 ?_
      obtain ⟨q9, hq9, hf⟩ := obd hf
      refine V_cVi C (b := 0) (As := [.int (-1000001)]) (st := []) cf9 rfl M_X9_finding w397 ⟨by decide, by decide⟩ rfl rfl (Nat.le_of_ble_eq_true rfl) dX9_gets_22 rfl (kX9_finding hq9) ?_
      obtain rfl := Option.some.inj hf
      exact K _ _ _ dX9_gets_25 rfl rfl
set_option maxHeartbeats 4000000 in
set_option maxRecDepth 100000 in
theorem kX9_buyingLack {ad : Nat → Nat} {G : Gh} {p1 : Int32} {p2 : Int32} {u : Mem} {q : Int32} (hf : FX9_buyingLack p1 p2 u = some q) : Ct shs ad G yX9_buyingLack cX9_buyingLack 3 (some .int) 2 43 [.ref (ad 0), .int p1, .int p2] u (some (.int q)) u := by
  refine Ct_ofI (by decide) (Nat.le_of_ble_eq_true rfl) (fun X C hnL K => ?_)
  have C : Cx ad G X cX9_buyingLack "CarryFair" 2 43 := C
  unfold FX9_buyingLack at hf
  refine V_aload_n C 0 dX9_buyingLack_0 rfl rfl rfl ?_
  refine V_getR C cf9 rfl 0 rfl (by decide) w361 rfl dX9_buyingLack_1 rfl ?_
  refine V_iload_n C 1 dX9_buyingLack_4 rfl rfl rfl ?_
  refine V_cVi C (b := 1) (As := [.int p1]) (st := []) cf2 (sF isF1) M_X2_hasCarrier w410 ⟨by decide, by decide⟩ rfl rfl (Nat.le_of_ble_eq_true rfl) dX9_buyingLack_5 rfl (kX2_hasCarrier isF1 rfl) ?_
  refine V_if_eq C dX9_buyingLack_8 (tgt := 22) rfl rfl (fun c6 => ?_) (fun c6 => ?_)
  · replace hf := ipos c6 hf
    refine V_ldc C dX9_buyingLack_22 rfl w396 ?_
    obtain rfl := Option.some.inj hf
    exact K _ _ _ dX9_buyingLack_24 rfl rfl
  · replace hf := ineg c6 hf
    refine V_aload_n C 0 dX9_buyingLack_11 rfl rfl rfl ?_
    refine V_getR C cf9 rfl 0 rfl (by decide) w361 rfl dX9_buyingLack_12 rfl ?_
    refine V_iload_n C 2 dX9_buyingLack_15 rfl rfl rfl ?_
    refine V_cVi C (b := 1) (As := [.int p2]) (st := []) cf2 (sF isF1) M_X2_hasWare w513 ⟨by decide, by decide⟩ rfl rfl (Nat.le_of_ble_eq_true rfl) dX9_buyingLack_16 rfl (kX2_hasWare isF1 rfl) ?_
    refine V_if_ne C dX9_buyingLack_19 (tgt := 25) rfl rfl (fun c5 => ?_) (fun c5 => ?_)
    · replace hf := ineg c5 hf
      refine V_aload_n C 0 dX9_buyingLack_25 rfl rfl rfl ?_
      refine V_getR C cf9 rfl 0 rfl (by decide) w361 rfl dX9_buyingLack_26 rfl ?_
      refine V_getR C cf2 (sF isF1) 2 rfl (by decide) w252 rfl dX9_buyingLack_29 rfl ?_
      refine V_iload_n C 2 dX9_buyingLack_32 rfl rfl rfl ?_
      obtain ⟨g1, hf⟩ := gd hf
      refine V_aald C (sFw isF1) (fun _ => rfl) g1 (sWag g1) dX9_buyingLack_33 rfl ?_
      refine V_getI C cf7 (sWa isF1 g1) 1 rfl (by decide) w239 rfl dX9_buyingLack_34 rfl ?_
      refine V_iconst C dX9_buyingLack_37 rfl (v := (-1)) (by decide) ?_
      refine V_icmp_ne C dX9_buyingLack_38 (tgt := 56) rfl rfl (fun c4 => ?_) (fun c4 => ?_)
      · replace hf := ineg c4 hf
        refine V_ldc C dX9_buyingLack_56 rfl w539 ?_
        obtain rfl := Option.some.inj hf
        exact K _ _ _ dX9_buyingLack_58 rfl rfl
      · replace hf := ipos c4 hf
        refine V_aload_n C 0 dX9_buyingLack_41 rfl rfl rfl ?_
        refine V_getR C cf9 rfl 0 rfl (by decide) w361 rfl dX9_buyingLack_42 rfl ?_
        refine V_iload_n C 1 dX9_buyingLack_45 rfl rfl rfl ?_
        obtain ⟨q2, hq2, hf⟩ := obd hf
        refine V_cVi C (b := 1) (As := [.int p1]) (st := []) cf2 (sF isF1) M_X2_carriedBy w422 ⟨by decide, by decide⟩ rfl rfl (Nat.le_of_ble_eq_true rfl) dX9_buyingLack_46 rfl (kX2_carriedBy isF1 hq2) ?_
        refine V_if_ne C dX9_buyingLack_49 (tgt := 56) rfl rfl (fun c3 => ?_) (fun c3 => ?_)
        · replace hf := ineg c3 hf
          refine V_ldc C dX9_buyingLack_56 rfl w539 ?_
          obtain rfl := Option.some.inj hf
          exact K _ _ _ dX9_buyingLack_58 rfl rfl
        · replace hf := ipos c3 hf
          refine V_iconst C dX9_buyingLack_52 rfl (v := 0) rfl ?_
          refine V_goto C dX9_buyingLack_53 (tgt := 58) rfl ?_
          obtain rfl := Option.some.inj hf
          exact K _ _ _ dX9_buyingLack_58 rfl rfl
    · replace hf := ipos c5 hf
      refine V_ldc C dX9_buyingLack_22 rfl w396 ?_
      obtain rfl := Option.some.inj hf
      exact K _ _ _ dX9_buyingLack_24 rfl rfl
set_option maxHeartbeats 4000000 in
set_option maxRecDepth 100000 in
theorem kX9_shortestEarning {ad : Nat → Nat} {G : Gh} {p1 : Int32} {p2 : Int32} {u : Mem} {q : Int32 × Mem} (hf : FX9_shortestEarning p1 p2 u = some q) : Ct shs ad G yX9_shortestEarning cX9_shortestEarning 7 (some .int) 5 126 [.ref (ad 0), .int p1, .int p2] u (some (.int q.1)) q.2 := by
  refine Ct_ofI (by decide) (Nat.le_of_ble_eq_true rfl) (fun X C hnL K => ?_)
  have C : Cx ad G X cX9_shortestEarning "CarryFair" 5 126 := C
  unfold FX9_shortestEarning at hf
  have Lp44 : ∀ (v3 : Int32) (v4 : Int32) (x0 : (Int32 × Int32 × Mem)) (q44 : (Int32 × Int32 × Mem)), lp (BX9_shortestEarning_44 p1 p2 v3 v4) FU x0 = some q44 → V shs ad G X 115 [(0, .ref (ad 0)), (1, .int p1), (2, .int p2), (3, .int v3), (4, .int v4), (5, .int q44.1), (6, .int q44.2.1)] [] q44.2.2 → V shs ad G X 44 [(0, .ref (ad 0)), (1, .int p1), (2, .int p2), (3, .int v3), (4, .int v4), (5, .int x0.1), (6, .int x0.2.1)] [] x0.2.2 := by
    intro v3 v4 x0 q44 hq hx44_0
    refine lp_V (BX9_shortestEarning_44 p1 p2 v3 v4) (fun x44 => V shs ad G X 44 [(0, .ref (ad 0)), (1, .int p1), (2, .int p2), (3, .int v3), (4, .int v4), (5, .int x44.1), (6, .int x44.2.1)] [] x44.2.2) q44 (fun rec44 ih44 x44 hf => ?_) FU x0 hq
    unfold BX9_shortestEarning_44 at hf
    refine V_iload C 6 dX9_shortestEarning_44 rfl rfl ?_
    refine V_iload C 4 dX9_shortestEarning_46 rfl rfl ?_
    refine V_icmp_gt C dX9_shortestEarning_48 (tgt := 115) rfl rfl (fun c9 => ?_) (fun c9 => ?_)
    · replace hf := ipos c9 hf
      obtain rfl := Option.some.inj hf
      exact hx44_0
    · replace hf := ineg c9 hf
      refine V_iload C 6 dX9_shortestEarning_51 rfl rfl ?_
      refine V_iload C 4 dX9_shortestEarning_53 rfl rfl ?_
      refine V_iconst C dX9_shortestEarning_55 rfl (v := (-1)) (by decide) ?_
      refine V_ixor C dX9_shortestEarning_56 rfl ?_
      refine V_iand C dX9_shortestEarning_57 rfl ?_
      refine V_if_ne C dX9_shortestEarning_58 (tgt := 109) rfl rfl (fun c8 => ?_) (fun c8 => ?_)
      · replace hf := ineg c8 hf
        refine V_iinc C (v := (x44.2.1 + 1)) (L' := [(0, .ref (ad 0)), (1, .int p1), (2, .int p2), (3, .int v3), (4, .int v4), (5, .int x44.1), (6, .int (x44.2.1 + 1))]) 6 dX9_shortestEarning_109 rfl rfl rfl (by decide) hnL [1, 2, 3, 4, 5, 6, 0] rfl ?_
        refine V_goto C dX9_shortestEarning_112 (tgt := 44) rfl ?_
        exact ih44 (x44.1, (x44.2.1 + 1), x44.2.2) hf
      · replace hf := ipos c8 hf
        refine V_iload C 6 dX9_shortestEarning_61 rfl rfl ?_
        refine V_cSi C (As := [.int x44.2.1]) (st := []) M_bitCount w616 ⟨by decide, by decide⟩ rfl rfl (Nat.le_of_ble_eq_true rfl) dX9_shortestEarning_63 rfl c_bitCount ?_
        refine V_iconst C dX9_shortestEarning_66 rfl (v := 5) rfl ?_
        refine V_icmp_gt C dX9_shortestEarning_67 (tgt := 109) rfl rfl (fun c7 => ?_) (fun c7 => ?_)
        · replace hf := ipos c7 hf
          refine V_iinc C (v := (x44.2.1 + 1)) (L' := [(0, .ref (ad 0)), (1, .int p1), (2, .int p2), (3, .int v3), (4, .int v4), (5, .int x44.1), (6, .int (x44.2.1 + 1))]) 6 dX9_shortestEarning_109 rfl rfl rfl (by decide) hnL [1, 2, 3, 4, 5, 6, 0] rfl ?_
          refine V_goto C dX9_shortestEarning_112 (tgt := 44) rfl ?_
          exact ih44 (x44.1, (x44.2.1 + 1), x44.2.2) hf
        · replace hf := ineg c7 hf
          refine V_aload_n C 0 dX9_shortestEarning_70 rfl rfl rfl ?_
          refine V_getR C cf9 rfl 0 rfl (by decide) w361 rfl dX9_shortestEarning_71 rfl ?_
          refine V_iload_n C 1 dX9_shortestEarning_74 rfl rfl rfl ?_
          refine V_iload C 6 dX9_shortestEarning_75 rfl rfl ?_
          refine V_iload_n C 3 dX9_shortestEarning_77 rfl rfl rfl ?_
          obtain ⟨q4, hq4, hf⟩ := obd hf
          refine V_cVi C (b := 1) (As := [.int p1, .int x44.2.1, .int v3]) (st := []) cf2 (sF isF1) M_X2_paysJust w697 ⟨by decide, by decide⟩ rfl rfl (Nat.le_of_ble_eq_true rfl) dX9_shortestEarning_78 rfl (kX2_paysJust isF1 hq4) ?_
          refine V_if_eq C dX9_shortestEarning_81 (tgt := 109) rfl rfl (fun c6 => ?_) (fun c6 => ?_)
          · replace hf := ipos c6 hf
            refine V_iinc C (v := (x44.2.1 + 1)) (L' := [(0, .ref (ad 0)), (1, .int p1), (2, .int p2), (3, .int v3), (4, .int v4), (5, .int x44.1), (6, .int (x44.2.1 + 1))]) 6 dX9_shortestEarning_109 rfl rfl rfl (by decide) hnL [1, 2, 3, 4, 5, 6, 0] rfl ?_
            refine V_goto C dX9_shortestEarning_112 (tgt := 44) rfl ?_
            exact ih44 (x44.1, (x44.2.1 + 1), x44.2.2) hf
          · replace hf := ineg c6 hf
            refine V_iload C 5 dX9_shortestEarning_84 rfl rfl ?_
            refine V_aload_n C 0 dX9_shortestEarning_86 rfl rfl rfl ?_
            refine V_aload_n C 0 dX9_shortestEarning_87 rfl rfl rfl ?_
            refine V_getR C cf9 rfl 0 rfl (by decide) w361 rfl dX9_shortestEarning_88 rfl ?_
            refine V_iload_n C 1 dX9_shortestEarning_91 rfl rfl rfl ?_
            refine V_iload C 6 dX9_shortestEarning_92 rfl rfl ?_
            obtain ⟨q5, hq5, hf⟩ := obd hf
            refine V_cVi C (b := 0) (As := [.ref (ad 1), .int p1, .int x44.2.1]) (st := [.int x44.1]) cf9 rfl M_X9_yardsOfRound w627 ⟨by decide, by decide⟩ rfl rfl (Nat.le_of_ble_eq_true rfl) dX9_shortestEarning_94 rfl (kX9_yardsOfRound isF1 hq5) ?_
            refine V_sipush C dX9_shortestEarning_97 rfl (v := 256) rfl ?_
            refine V_imul C dX9_shortestEarning_100 rfl ?_
            refine V_iload C 6 dX9_shortestEarning_101 rfl rfl ?_
            refine V_iadd C dX9_shortestEarning_103 rfl ?_
            refine V_mmin C w702 ⟨by decide, by decide⟩ (Nat.le_of_ble_eq_true rfl) dX9_shortestEarning_104 rfl ?_
            refine V_istore C (L' := [(0, .ref (ad 0)), (1, .int p1), (2, .int p2), (3, .int v3), (4, .int v4), (5, .int (jmin x44.1 ((q5.1 * 256) + x44.2.1))), (6, .int x44.2.1)]) dX9_shortestEarning_107 rfl (by decide) hnL [1, 2, 3, 4, 5, 0, 6] rfl ?_
            refine V_iinc C (v := (x44.2.1 + 1)) (L' := [(0, .ref (ad 0)), (1, .int p1), (2, .int p2), (3, .int v3), (4, .int v4), (5, .int (jmin x44.1 ((q5.1 * 256) + x44.2.1))), (6, .int (x44.2.1 + 1))]) 6 dX9_shortestEarning_109 rfl rfl rfl (by decide) hnL [1, 2, 3, 4, 5, 6, 0] rfl ?_
            refine V_goto C dX9_shortestEarning_112 (tgt := 44) rfl ?_
            exact ih44 ((jmin x44.1 ((q5.1 * 256) + x44.2.1)), (x44.2.1 + 1), q5.2) hf
  refine V_aload_n C 0 dX9_shortestEarning_0 rfl rfl rfl ?_
  refine V_getR C cf9 rfl 0 rfl (by decide) w361 rfl dX9_shortestEarning_1 rfl ?_
  refine V_getR C cf2 (sF isF1) 2 rfl (by decide) w252 rfl dX9_shortestEarning_4 rfl ?_
  refine V_iload_n C 2 dX9_shortestEarning_7 rfl rfl rfl ?_
  obtain ⟨g1, hf⟩ := gd hf
  refine V_aald C (sFw isF1) (fun _ => rfl) g1 (sWag g1) dX9_shortestEarning_8 rfl ?_
  refine V_getI C cf7 (sWa isF1 g1) 0 rfl (by decide) w237 rfl dX9_shortestEarning_9 rfl ?_
  refine V_aload_n C 0 dX9_shortestEarning_12 rfl rfl rfl ?_
  refine V_getR C cf9 rfl 0 rfl (by decide) w361 rfl dX9_shortestEarning_13 rfl ?_
  refine V_getR C cf2 (sF isF1) 0 rfl (by decide) w247 rfl dX9_shortestEarning_16 rfl ?_
  refine V_iload_n C 1 dX9_shortestEarning_19 rfl rfl rfl ?_
  obtain ⟨g2, hf⟩ := gd hf
  refine V_aald C (sFc isF1) (fun _ => rfl) g2 (sCag g2) dX9_shortestEarning_20 rfl ?_
  refine V_getI C cf0 (sCa isF1 g2) 3 rfl (by decide) w181 rfl dX9_shortestEarning_21 rfl ?_
  refine V_isub C dX9_shortestEarning_24 rfl ?_
  refine V_istore_n C (L' := [(0, .ref (ad 0)), (1, .int p1), (2, .int p2), (3, .int ((u (1 + 26 + (p2).toNatClampNeg) 0) - (u (1 + 12 + (p1).toNatClampNeg) 3)))]) dX9_shortestEarning_25 rfl rfl (by decide) hnL [1, 2, 3, 0] rfl ?_
  refine V_aload_n C 0 dX9_shortestEarning_26 rfl rfl rfl ?_
  refine V_getR C cf9 rfl 0 rfl (by decide) w361 rfl dX9_shortestEarning_27 rfl ?_
  refine V_iload_n C 1 dX9_shortestEarning_30 rfl rfl rfl ?_
  obtain ⟨q3, hq3, hf⟩ := obd hf
  refine V_cVi C (b := 1) (As := [.int p1]) (st := []) cf2 (sF isF1) M_X2_ableSet w688 ⟨by decide, by decide⟩ rfl rfl (Nat.le_of_ble_eq_true rfl) dX9_shortestEarning_31 rfl (kX2_ableSet isF1 hq3) ?_
  refine V_istore C (L' := [(0, .ref (ad 0)), (1, .int p1), (2, .int p2), (3, .int ((u (1 + 26 + (p2).toNatClampNeg) 0) - (u (1 + 12 + (p1).toNatClampNeg) 3))), (4, .int q3)]) dX9_shortestEarning_34 rfl (by decide) hnL [1, 2, 3, 4, 0] rfl ?_
  refine V_ldcw C dX9_shortestEarning_36 rfl w696 ?_
  refine V_istore C (L' := [(0, .ref (ad 0)), (1, .int p1), (2, .int p2), (3, .int ((u (1 + 26 + (p2).toNatClampNeg) 0) - (u (1 + 12 + (p1).toNatClampNeg) 3))), (4, .int q3), (5, .int 256000000)]) dX9_shortestEarning_39 rfl (by decide) hnL [1, 2, 3, 4, 5, 0] rfl ?_
  refine V_iconst C dX9_shortestEarning_41 rfl (v := 0) rfl ?_
  refine V_istore C (L' := [(0, .ref (ad 0)), (1, .int p1), (2, .int p2), (3, .int ((u (1 + 26 + (p2).toNatClampNeg) 0) - (u (1 + 12 + (p1).toNatClampNeg) 3))), (4, .int q3), (5, .int 256000000), (6, .int 0)]) dX9_shortestEarning_42 rfl (by decide) hnL [1, 2, 3, 4, 5, 6, 0] rfl ?_
  obtain ⟨q44_10, hq44_10, hf⟩ := obd hf
  refine Lp44 ((u (1 + 26 + (p2).toNatClampNeg) 0) - (u (1 + 12 + (p1).toNatClampNeg) 3)) q3 (256000000, 0, u) q44_10 hq44_10 ?_
  refine V_iload C 5 dX9_shortestEarning_115 rfl rfl ?_
  obtain rfl := Option.some.inj hf
  exact K _ _ _ dX9_shortestEarning_117 rfl rfl
set_option maxHeartbeats 4000000 in
set_option maxRecDepth 100000 in
theorem kX9_cheapest {ad : Nat → Nat} {G : Gh} {p1 : Int32} {p2 : Int32} {u : Mem} {q : Int32 × Mem} (hf : FX9_cheapest p1 p2 u = some q) : Ct shs ad G yX9_cheapest cX9_cheapest 4 (some .int) 6 152 [.ref (ad 0), .int p1, .int p2] u (some (.int q.1)) q.2 := by
  refine Ct_ofI (by decide) (Nat.le_of_ble_eq_true rfl) (fun X C hnL K => ?_)
  have C : Cx ad G X cX9_cheapest "CarryFair" 6 152 := C
  unfold FX9_cheapest at hf
  refine V_aload_n C 0 dX9_cheapest_0 rfl rfl rfl ?_
  refine V_iload_n C 1 dX9_cheapest_1 rfl rfl rfl ?_
  refine V_iload_n C 2 dX9_cheapest_2 rfl rfl rfl ?_
  obtain ⟨q1, hq1, hf⟩ := obd hf
  refine V_cVi C (b := 0) (As := [.int p1, .int p2]) (st := []) cf9 rfl M_X9_buyingLack w680 ⟨by decide, by decide⟩ rfl rfl (Nat.le_of_ble_eq_true rfl) dX9_cheapest_3 rfl (kX9_buyingLack hq1) ?_
  refine V_istore_n C (L' := [(0, .ref (ad 0)), (1, .int p1), (2, .int p2), (3, .int q1)]) dX9_cheapest_6 rfl rfl (by decide) hnL [1, 2, 3, 0] rfl ?_
  refine V_iload_n C 3 dX9_cheapest_7 rfl rfl rfl ?_
  refine V_if_eq C dX9_cheapest_8 (tgt := 17) rfl rfl (fun c5 => ?_) (fun c5 => ?_)
  · replace hf := ipos c5 hf
    refine V_aload_n C 0 dX9_cheapest_17 rfl rfl rfl ?_
    refine V_aload_n C 0 dX9_cheapest_18 rfl rfl rfl ?_
    refine V_iload_n C 1 dX9_cheapest_19 rfl rfl rfl ?_
    refine V_iload_n C 2 dX9_cheapest_20 rfl rfl rfl ?_
    obtain ⟨q2, hq2, hf⟩ := obd hf
    refine V_cVi C (b := 0) (As := [.int p1, .int p2]) (st := [.ref (ad 0)]) cf9 rfl M_X9_shortestEarning w684 ⟨by decide, by decide⟩ rfl rfl (Nat.le_of_ble_eq_true rfl) dX9_cheapest_21 rfl (kX9_shortestEarning hq2) ?_
    refine V_sipush C dX9_cheapest_24 rfl (v := 256) rfl ?_
    refine V_idiv C dX9_cheapest_27 rfl (by decide) ?_
    obtain ⟨q3, hq3, hf⟩ := obd hf
    refine V_cVi C (b := 0) (As := [.int (q2.1 / 256)]) (st := []) cf9 rfl M_X9_orNone w495 ⟨by decide, by decide⟩ rfl rfl (Nat.le_of_ble_eq_true rfl) dX9_cheapest_28 rfl (kX9_orNone hq3) ?_
    obtain rfl := Option.some.inj hf
    exact K _ _ _ dX9_cheapest_31 rfl rfl
  · replace hf := ineg c5 hf
    refine V_aload_n C 0 dX9_cheapest_11 rfl rfl rfl ?_
    refine V_iload_n C 3 dX9_cheapest_12 rfl rfl rfl ?_
    obtain ⟨q4, hq4, hf⟩ := obd hf
    refine V_cVi C (b := 0) (As := [.int q1]) (st := []) cf9 rfl M_X9_finding w397 ⟨by decide, by decide⟩ rfl rfl (Nat.le_of_ble_eq_true rfl) dX9_cheapest_13 rfl (kX9_finding hq4) ?_
    obtain rfl := Option.some.inj hf
    exact K _ _ _ dX9_cheapest_16 rfl rfl
set_option maxHeartbeats 4000000 in
set_option maxRecDepth 100000 in
theorem kX9_secondOrNone {ad : Nat → Nat} {G : Gh} {p1 : Int32} {u : Mem} {q : Int32 × Mem} (hf : FX9_secondOrNone p1 u = some q) : Ct shs ad G yX9_secondOrNone cX9_secondOrNone 2 (some .int) 2 44 [.ref (ad 0), .int p1] u (some (.int q.1)) q.2 := by
  refine Ct_ofI (by decide) (Nat.le_of_ble_eq_true rfl) (fun X C hnL K => ?_)
  have C : Cx ad G X cX9_secondOrNone "CarryFair" 2 44 := C
  unfold FX9_secondOrNone at hf
  refine V_iload_n C 1 dX9_secondOrNone_0 rfl rfl rfl ?_
  refine V_sipush C dX9_secondOrNone_1 rfl (v := 256) rfl ?_
  refine V_idiv C dX9_secondOrNone_4 rfl (by decide) ?_
  refine V_ldc C dX9_secondOrNone_5 rfl w499 ?_
  refine V_icmp_lt C dX9_secondOrNone_7 (tgt := 19) rfl rfl (fun c2 => ?_) (fun c2 => ?_)
  · replace hf := ipos c2 hf
    refine V_iload_n C 1 dX9_secondOrNone_19 rfl rfl rfl ?_
    refine V_sipush C dX9_secondOrNone_20 rfl (v := 256) rfl ?_
    refine V_jrem C dX9_secondOrNone_23 rfl (by decide) ?_
    obtain rfl := Option.some.inj hf
    exact K _ _ _ dX9_secondOrNone_24 rfl rfl
  · replace hf := ineg c2 hf
    refine V_aload_n C 0 dX9_secondOrNone_10 rfl rfl rfl ?_
    refine V_ldc C dX9_secondOrNone_11 rfl w500 ?_
    obtain ⟨q1, hq1, hf⟩ := obd hf
    refine V_cVi C (b := 0) (As := [.int (-1000004)]) (st := []) cf9 rfl M_X9_finding w397 ⟨by decide, by decide⟩ rfl rfl (Nat.le_of_ble_eq_true rfl) dX9_secondOrNone_13 rfl (kX9_finding hq1) ?_
    refine V_goto C dX9_secondOrNone_16 (tgt := 24) rfl ?_
    obtain rfl := Option.some.inj hf
    exact K _ _ _ dX9_secondOrNone_24 rfl rfl
set_option maxHeartbeats 4000000 in
set_option maxRecDepth 100000 in
theorem kX9_which {ad : Nat → Nat} {G : Gh} {p1 : Int32} {p2 : Int32} {u : Mem} {q : Int32 × Mem} (hf : FX9_which p1 p2 u = some q) : Ct shs ad G yX9_which cX9_which 4 (some .int) 6 152 [.ref (ad 0), .int p1, .int p2] u (some (.int q.1)) q.2 := by
  refine Ct_ofI (by decide) (Nat.le_of_ble_eq_true rfl) (fun X C hnL K => ?_)
  have C : Cx ad G X cX9_which "CarryFair" 6 152 := C
  unfold FX9_which at hf
  refine V_aload_n C 0 dX9_which_0 rfl rfl rfl ?_
  refine V_iload_n C 1 dX9_which_1 rfl rfl rfl ?_
  refine V_iload_n C 2 dX9_which_2 rfl rfl rfl ?_
  obtain ⟨q1, hq1, hf⟩ := obd hf
  refine V_cVi C (b := 0) (As := [.int p1, .int p2]) (st := []) cf9 rfl M_X9_buyingLack w680 ⟨by decide, by decide⟩ rfl rfl (Nat.le_of_ble_eq_true rfl) dX9_which_3 rfl (kX9_buyingLack hq1) ?_
  refine V_istore_n C (L' := [(0, .ref (ad 0)), (1, .int p1), (2, .int p2), (3, .int q1)]) dX9_which_6 rfl rfl (by decide) hnL [1, 2, 3, 0] rfl ?_
  refine V_iload_n C 3 dX9_which_7 rfl rfl rfl ?_
  refine V_if_eq C dX9_which_8 (tgt := 17) rfl rfl (fun c5 => ?_) (fun c5 => ?_)
  · replace hf := ipos c5 hf
    refine V_aload_n C 0 dX9_which_17 rfl rfl rfl ?_
    refine V_aload_n C 0 dX9_which_18 rfl rfl rfl ?_
    refine V_iload_n C 1 dX9_which_19 rfl rfl rfl ?_
    refine V_iload_n C 2 dX9_which_20 rfl rfl rfl ?_
    obtain ⟨q2, hq2, hf⟩ := obd hf
    refine V_cVi C (b := 0) (As := [.int p1, .int p2]) (st := [.ref (ad 0)]) cf9 rfl M_X9_shortestEarning w684 ⟨by decide, by decide⟩ rfl rfl (Nat.le_of_ble_eq_true rfl) dX9_which_21 rfl (kX9_shortestEarning hq2) ?_
    obtain ⟨q3, hq3, hf⟩ := obd hf
    refine V_cVi C (b := 0) (As := [.int q2.1]) (st := []) cf9 rfl M_X9_secondOrNone w707 ⟨by decide, by decide⟩ rfl rfl (Nat.le_of_ble_eq_true rfl) dX9_which_24 rfl (kX9_secondOrNone hq3) ?_
    obtain rfl := Option.some.inj hf
    exact K _ _ _ dX9_which_27 rfl rfl
  · replace hf := ineg c5 hf
    refine V_aload_n C 0 dX9_which_11 rfl rfl rfl ?_
    refine V_iload_n C 3 dX9_which_12 rfl rfl rfl ?_
    obtain ⟨q4, hq4, hf⟩ := obd hf
    refine V_cVi C (b := 0) (As := [.int q1]) (st := []) cf9 rfl M_X9_finding w397 ⟨by decide, by decide⟩ rfl rfl (Nat.le_of_ble_eq_true rfl) dX9_which_13 rfl (kX9_finding hq4) ?_
    obtain rfl := Option.some.inj hf
    exact K _ _ _ dX9_which_16 rfl rfl
set_option maxHeartbeats 4000000 in
set_option maxRecDepth 100000 in
theorem kX9_who {ad : Nat → Nat} {G : Gh} {p1 : Int32} {u : Mem} {q : Int32 × Mem} (hf : FX9_who p1 u = some q) : Ct shs ad G yX9_who cX9_who 4 (some .int) 5 126 [.ref (ad 0), .int p1] u (some (.int q.1)) q.2 := by
  refine Ct_ofI (by decide) (Nat.le_of_ble_eq_true rfl) (fun X C hnL K => ?_)
  have C : Cx ad G X cX9_who "CarryFair" 5 126 := C
  unfold FX9_who at hf
  have Lp39 : ∀ (x0 : (Int32 × Int32 × Mem)) (q39 : (Int32 × Int32 × Mem)), lp (BX9_who_39 p1) FU x0 = some q39 → V shs ad G X 88 [(0, .ref (ad 0)), (1, .int p1), (2, .int q39.1), (3, .int q39.2.1)] [] q39.2.2 → V shs ad G X 39 [(0, .ref (ad 0)), (1, .int p1), (2, .int x0.1), (3, .int x0.2.1)] [] x0.2.2 := by
    intro  x0 q39 hq hx39_0
    refine lp_V (BX9_who_39 p1) (fun x39 => V shs ad G X 39 [(0, .ref (ad 0)), (1, .int p1), (2, .int x39.1), (3, .int x39.2.1)] [] x39.2.2) q39 (fun rec39 ih39 x39 hf => ?_) FU x0 hq
    unfold BX9_who_39 at hf
    refine V_iload_n C 3 dX9_who_39 rfl rfl rfl ?_
    refine V_aload_n C 0 dX9_who_40 rfl rfl rfl ?_
    refine V_getR C cf9 rfl 0 rfl (by decide) w361 rfl dX9_who_41 rfl ?_
    refine V_getI C cf2 (sF isF1) 5 rfl (by decide) w260 rfl dX9_who_44 rfl ?_
    refine V_icmp_ge C dX9_who_47 (tgt := 88) rfl rfl (fun c5 => ?_) (fun c5 => ?_)
    · replace hf := ipos c5 hf
      obtain rfl := Option.some.inj hf
      exact hx39_0
    · replace hf := ineg c5 hf
      refine V_aload_n C 0 dX9_who_50 rfl rfl rfl ?_
      refine V_getR C cf9 rfl 0 rfl (by decide) w361 rfl dX9_who_51 rfl ?_
      refine V_iload_n C 3 dX9_who_54 rfl rfl rfl ?_
      obtain ⟨q2, hq2, hf⟩ := obd hf
      refine V_cVi C (b := 1) (As := [.int x39.2.1]) (st := []) cf2 (sF isF1) M_X2_carriedBy w422 ⟨by decide, by decide⟩ rfl rfl (Nat.le_of_ble_eq_true rfl) dX9_who_55 rfl (kX2_carriedBy isF1 hq2) ?_
      refine V_if_ne C dX9_who_58 (tgt := 82) rfl rfl (fun c4 => ?_) (fun c4 => ?_)
      · replace hf := ineg c4 hf
        refine V_iinc C (v := (x39.2.1 + 1)) (L' := [(0, .ref (ad 0)), (1, .int p1), (2, .int x39.1), (3, .int (x39.2.1 + 1))]) 3 dX9_who_82 rfl rfl rfl (by decide) hnL [1, 2, 3, 0] rfl ?_
        refine V_goto C dX9_who_85 (tgt := 39) rfl ?_
        exact ih39 (x39.1, (x39.2.1 + 1), x39.2.2) hf
      · replace hf := ipos c4 hf
        refine V_iload_n C 2 dX9_who_61 rfl rfl rfl ?_
        refine V_aload_n C 0 dX9_who_62 rfl rfl rfl ?_
        refine V_aload_n C 0 dX9_who_63 rfl rfl rfl ?_
        refine V_getR C cf9 rfl 0 rfl (by decide) w361 rfl dX9_who_64 rfl ?_
        refine V_iload_n C 3 dX9_who_67 rfl rfl rfl ?_
        refine V_iload_n C 1 dX9_who_68 rfl rfl rfl ?_
        obtain ⟨q3, hq3, hf⟩ := obd hf
        refine V_cVi C (b := 0) (As := [.ref (ad 1), .int x39.2.1, .int p1]) (st := [.int x39.1]) cf9 rfl M_X9_yardsOfRound w627 ⟨by decide, by decide⟩ rfl rfl (Nat.le_of_ble_eq_true rfl) dX9_who_69 rfl (kX9_yardsOfRound isF1 hq3) ?_
        refine V_sipush C dX9_who_72 rfl (v := 256) rfl ?_
        refine V_imul C dX9_who_75 rfl ?_
        refine V_iload_n C 3 dX9_who_76 rfl rfl rfl ?_
        refine V_iadd C dX9_who_77 rfl ?_
        refine V_mmin C w702 ⟨by decide, by decide⟩ (Nat.le_of_ble_eq_true rfl) dX9_who_78 rfl ?_
        refine V_istore_n C (L' := [(0, .ref (ad 0)), (1, .int p1), (2, .int (jmin x39.1 ((q3.1 * 256) + x39.2.1))), (3, .int x39.2.1)]) dX9_who_81 rfl rfl (by decide) hnL [1, 2, 0, 3] rfl ?_
        refine V_iinc C (v := (x39.2.1 + 1)) (L' := [(0, .ref (ad 0)), (1, .int p1), (2, .int (jmin x39.1 ((q3.1 * 256) + x39.2.1))), (3, .int (x39.2.1 + 1))]) 3 dX9_who_82 rfl rfl rfl (by decide) hnL [1, 2, 3, 0] rfl ?_
        refine V_goto C dX9_who_85 (tgt := 39) rfl ?_
        exact ih39 ((jmin x39.1 ((q3.1 * 256) + x39.2.1)), (x39.2.1 + 1), q3.2) hf
  refine V_aload_n C 0 dX9_who_0 rfl rfl rfl ?_
  refine V_iload_n C 1 dX9_who_1 rfl rfl rfl ?_
  refine V_cVi C (b := 0) (As := [.int p1]) (st := []) cf9 rfl M_X9_isFewErrands w608 ⟨by decide, by decide⟩ rfl rfl (Nat.le_of_ble_eq_true rfl) dX9_who_2 rfl (kX9_isFewErrands rfl) ?_
  refine V_if_ne C dX9_who_5 (tgt := 15) rfl rfl (fun c11 => ?_) (fun c11 => ?_)
  · replace hf := ineg c11 hf
    refine V_aload_n C 0 dX9_who_15 rfl rfl rfl ?_
    refine V_getR C cf9 rfl 0 rfl (by decide) w361 rfl dX9_who_16 rfl ?_
    refine V_iload_n C 1 dX9_who_19 rfl rfl rfl ?_
    obtain ⟨q1, hq1, hf⟩ := obd hf
    refine V_cVi C (b := 1) (As := [.int p1]) (st := []) cf2 (sF isF1) M_X2_allLie w622 ⟨by decide, by decide⟩ rfl rfl (Nat.le_of_ble_eq_true rfl) dX9_who_20 rfl (kX2_allLie isF1 hq1) ?_
    refine V_if_ne C dX9_who_23 (tgt := 33) rfl rfl (fun c9 => ?_) (fun c9 => ?_)
    · replace hf := ineg c9 hf
      refine V_ldcw C dX9_who_33 rfl w696 ?_
      refine V_istore_n C (L' := [(0, .ref (ad 0)), (1, .int p1), (2, .int 256000000)]) dX9_who_36 rfl rfl (by decide) hnL [1, 2, 0] rfl ?_
      refine V_iconst C dX9_who_37 rfl (v := 0) rfl ?_
      refine V_istore_n C (L' := [(0, .ref (ad 0)), (1, .int p1), (2, .int 256000000), (3, .int 0)]) dX9_who_38 rfl rfl (by decide) hnL [1, 2, 3, 0] rfl ?_
      obtain ⟨q39_6, hq39_6, hf⟩ := obd hf
      refine Lp39  (256000000, 0, u) q39_6 hq39_6 ?_
      refine V_aload_n C 0 dX9_who_88 rfl rfl rfl ?_
      refine V_iload_n C 2 dX9_who_89 rfl rfl rfl ?_
      obtain ⟨q7, hq7, hf⟩ := obd hf
      refine V_cVi C (b := 0) (As := [.int q39_6.1]) (st := []) cf9 rfl M_X9_secondOrNone w707 ⟨by decide, by decide⟩ rfl rfl (Nat.le_of_ble_eq_true rfl) dX9_who_90 rfl (kX9_secondOrNone hq7) ?_
      obtain rfl := Option.some.inj hf
      exact K _ _ _ dX9_who_93 rfl rfl
    · replace hf := ipos c9 hf
      refine V_aload_n C 0 dX9_who_26 rfl rfl rfl ?_
      refine V_ldc C dX9_who_27 rfl w539 ?_
      obtain ⟨q8, hq8, hf⟩ := obd hf
      refine V_cVi C (b := 0) (As := [.int (-1000005)]) (st := []) cf9 rfl M_X9_finding w397 ⟨by decide, by decide⟩ rfl rfl (Nat.le_of_ble_eq_true rfl) dX9_who_29 rfl (kX9_finding hq8) ?_
      obtain rfl := Option.some.inj hf
      exact K _ _ _ dX9_who_32 rfl rfl
  · replace hf := ipos c11 hf
    refine V_aload_n C 0 dX9_who_8 rfl rfl rfl ?_
    refine V_ldc C dX9_who_9 rfl w396 ?_
    obtain ⟨q10, hq10, hf⟩ := obd hf
    refine V_cVi C (b := 0) (As := [.int (-1000001)]) (st := []) cf9 rfl M_X9_finding w397 ⟨by decide, by decide⟩ rfl rfl (Nat.le_of_ble_eq_true rfl) dX9_who_11 rfl (kX9_finding hq10) ?_
    obtain rfl := Option.some.inj hf
    exact K _ _ _ dX9_who_14 rfl rfl
set_option maxHeartbeats 4000000 in
set_option maxRecDepth 100000 in
theorem kX9_joined {ad : Nat → Nat} {G : Gh} {p1 : Int32} {p2 : Int32} {u : Mem} {q : Int32 × Mem} (hf : FX9_joined p1 p2 u = some q) : Ct shs ad G yX9_joined cX9_joined 7 (some .int) 5 126 [.ref (ad 0), .int p1, .int p2] u (some (.int q.1)) q.2 := by
  refine Ct_ofI (by decide) (Nat.le_of_ble_eq_true rfl) (fun X C hnL K => ?_)
  have C : Cx ad G X cX9_joined "CarryFair" 5 126 := C
  unfold FX9_joined at hf
  have Lp49 : ∀ (v3 : Int32) (v4 : Int32) (w : Mem) (x0 : (Int32 × Int32)) (q49 : (Int32 × Int32)), lp (BX9_joined_49 p1 p2 v3 v4 w) FU x0 = some q49 → V shs ad G X 114 [(0, .ref (ad 0)), (1, .int p1), (2, .int p2), (3, .int v3), (4, .int v4), (5, .int q49.1), (6, .int q49.2)] [] w → V shs ad G X 49 [(0, .ref (ad 0)), (1, .int p1), (2, .int p2), (3, .int v3), (4, .int v4), (5, .int x0.1), (6, .int x0.2)] [] w := by
    intro v3 v4 w x0 q49 hq hx49_0
    refine lp_V (BX9_joined_49 p1 p2 v3 v4 w) (fun x49 => V shs ad G X 49 [(0, .ref (ad 0)), (1, .int p1), (2, .int p2), (3, .int v3), (4, .int v4), (5, .int x49.1), (6, .int x49.2)] [] w) q49 (fun rec49 ih49 x49 hf => ?_) FU x0 hq
    unfold BX9_joined_49 at hf
    refine V_iload C 6 dX9_joined_49 rfl rfl ?_
    refine V_aload_n C 0 dX9_joined_51 rfl rfl rfl ?_
    refine V_getR C cf9 rfl 0 rfl (by decide) w361 rfl dX9_joined_52 rfl ?_
    refine V_getI C cf2 (sF isF1) 6 rfl (by decide) w265 rfl dX9_joined_55 rfl ?_
    refine V_icmp_ge C dX9_joined_58 (tgt := 114) rfl rfl (fun c7 => ?_) (fun c7 => ?_)
    · replace hf := ipos c7 hf
      obtain rfl := Option.some.inj hf
      exact hx49_0
    · replace hf := ineg c7 hf
      refine V_iload_n C 2 dX9_joined_61 rfl rfl rfl ?_
      refine V_iload C 6 dX9_joined_62 rfl rfl ?_
      refine V_cSi C (As := [.int p2, .int x49.2]) (st := []) M_X9_has w671 ⟨by decide, by decide⟩ rfl rfl (Nat.le_of_ble_eq_true rfl) dX9_joined_64 rfl (kX9_has rfl) ?_
      refine V_if_eq C dX9_joined_67 (tgt := 108) rfl rfl (fun c6 => ?_) (fun c6 => ?_)
      · replace hf := ipos c6 hf
        refine V_iinc C (v := (x49.2 + 1)) (L' := [(0, .ref (ad 0)), (1, .int p1), (2, .int p2), (3, .int v3), (4, .int v4), (5, .int x49.1), (6, .int (x49.2 + 1))]) 6 dX9_joined_108 rfl rfl rfl (by decide) hnL [1, 2, 3, 4, 5, 6, 0] rfl ?_
        refine V_goto C dX9_joined_111 (tgt := 49) rfl ?_
        exact ih49 (x49.1, (x49.2 + 1)) hf
      · replace hf := ineg c6 hf
        refine V_iload C 5 dX9_joined_70 rfl rfl ?_
        refine V_aload_n C 0 dX9_joined_72 rfl rfl rfl ?_
        refine V_getR C cf9 rfl 3 rfl (by decide) w364 rfl dX9_joined_73 rfl ?_
        refine V_iconst C dX9_joined_76 rfl (v := 1) rfl ?_
        refine V_iload C 6 dX9_joined_77 rfl rfl ?_
        refine V_jshl C dX9_joined_79 rfl ?_
        obtain ⟨q3, hq3, hf⟩ := obd hf
        refine V_cVi C (b := 97) (As := [.int (jshl 1 x49.2)]) (st := [.int x49.1]) cf4 rfl M_X4_yardsOfPart w663 ⟨by decide, by decide⟩ rfl rfl (Nat.le_of_ble_eq_true rfl) dX9_joined_80 rfl (kX4_yardsOfPart hq3) ?_
        refine V_aload_n C 0 dX9_joined_83 rfl rfl rfl ?_
        refine V_getR C cf9 rfl 0 rfl (by decide) w361 rfl dX9_joined_84 rfl ?_
        refine V_iload_n C 1 dX9_joined_87 rfl rfl rfl ?_
        refine V_aload_n C 0 dX9_joined_88 rfl rfl rfl ?_
        refine V_getR C cf9 rfl 0 rfl (by decide) w361 rfl dX9_joined_89 rfl ?_
        refine V_getR C cf2 (sF isF1) 1 rfl (by decide) w250 rfl dX9_joined_92 rfl ?_
        refine V_iload C 6 dX9_joined_95 rfl rfl ?_
        obtain ⟨g4, hf⟩ := gd hf
        refine V_aald C (sFe isF1) (fun _ => rfl) g4 (sErg g4) dX9_joined_97 rfl ?_
        refine V_getI C cf1 (sEr isF1 g4) 2 rfl (by decide) w213 rfl dX9_joined_98 rfl ?_
        obtain ⟨q5, hq5, hf⟩ := obd hf
        refine V_cVi C (b := 1) (As := [.int p1, .int (w (1 + 18 + (x49.2).toNatClampNeg) 2)]) (st := [.int q3, .int x49.1]) cf2 (sF isF1) M_X2_yardsTo w559 ⟨by decide, by decide⟩ rfl rfl (Nat.le_of_ble_eq_true rfl) dX9_joined_101 rfl (kX2_yardsTo isF1 hq5) ?_
        refine V_iadd C dX9_joined_104 rfl ?_
        refine V_iadd C dX9_joined_105 rfl ?_
        refine V_istore C (L' := [(0, .ref (ad 0)), (1, .int p1), (2, .int p2), (3, .int v3), (4, .int v4), (5, .int (x49.1 + (q3 + q5))), (6, .int x49.2)]) dX9_joined_106 rfl (by decide) hnL [1, 2, 3, 4, 5, 0, 6] rfl ?_
        refine V_iinc C (v := (x49.2 + 1)) (L' := [(0, .ref (ad 0)), (1, .int p1), (2, .int p2), (3, .int v3), (4, .int v4), (5, .int (x49.1 + (q3 + q5))), (6, .int (x49.2 + 1))]) 6 dX9_joined_108 rfl rfl rfl (by decide) hnL [1, 2, 3, 4, 5, 6, 0] rfl ?_
        refine V_goto C dX9_joined_111 (tgt := 49) rfl ?_
        exact ih49 ((x49.1 + (q3 + q5)), (x49.2 + 1)) hf
  refine V_aload_n C 0 dX9_joined_0 rfl rfl rfl ?_
  refine V_iload_n C 1 dX9_joined_1 rfl rfl rfl ?_
  refine V_iload_n C 2 dX9_joined_2 rfl rfl rfl ?_
  obtain ⟨q1, hq1, hf⟩ := obd hf
  refine V_cVi C (b := 0) (As := [.int p1, .int p2]) (st := []) cf9 rfl M_X9_roundLack w604 ⟨by decide, by decide⟩ rfl rfl (Nat.le_of_ble_eq_true rfl) dX9_joined_3 rfl (kX9_roundLack hq1) ?_
  refine V_istore_n C (L' := [(0, .ref (ad 0)), (1, .int p1), (2, .int p2), (3, .int q1)]) dX9_joined_6 rfl rfl (by decide) hnL [1, 2, 3, 0] rfl ?_
  refine V_iload_n C 3 dX9_joined_7 rfl rfl rfl ?_
  refine V_if_eq C dX9_joined_8 (tgt := 17) rfl rfl (fun c12 => ?_) (fun c12 => ?_)
  · replace hf := ipos c12 hf
    refine V_aload_n C 0 dX9_joined_17 rfl rfl rfl ?_
    refine V_aload_n C 0 dX9_joined_18 rfl rfl rfl ?_
    refine V_getR C cf9 rfl 0 rfl (by decide) w361 rfl dX9_joined_19 rfl ?_
    refine V_iload_n C 1 dX9_joined_22 rfl rfl rfl ?_
    refine V_iload_n C 2 dX9_joined_23 rfl rfl rfl ?_
    obtain ⟨q2, hq2, hf⟩ := obd hf
    refine V_cVi C (b := 0) (As := [.ref (ad 1), .int p1, .int p2]) (st := []) cf9 rfl M_X9_yardsOfRound w627 ⟨by decide, by decide⟩ rfl rfl (Nat.le_of_ble_eq_true rfl) dX9_joined_24 rfl (kX9_yardsOfRound isF1 hq2) ?_
    refine V_istore C (L' := [(0, .ref (ad 0)), (1, .int p1), (2, .int p2), (3, .int q1), (4, .int q2.1)]) dX9_joined_27 rfl (by decide) hnL [1, 2, 3, 4, 0] rfl ?_
    refine V_iload C 4 dX9_joined_29 rfl rfl ?_
    refine V_ldc C dX9_joined_31 rfl w499 ?_
    refine V_icmp_lt C dX9_joined_33 (tgt := 43) rfl rfl (fun c10 => ?_) (fun c10 => ?_)
    · replace hf := ipos c10 hf
      refine V_iconst C dX9_joined_43 rfl (v := 0) rfl ?_
      refine V_istore C (L' := [(0, .ref (ad 0)), (1, .int p1), (2, .int p2), (3, .int q1), (4, .int q2.1), (5, .int 0)]) dX9_joined_44 rfl (by decide) hnL [1, 2, 3, 4, 5, 0] rfl ?_
      refine V_iconst C dX9_joined_46 rfl (v := 0) rfl ?_
      refine V_istore C (L' := [(0, .ref (ad 0)), (1, .int p1), (2, .int p2), (3, .int q1), (4, .int q2.1), (5, .int 0), (6, .int 0)]) dX9_joined_47 rfl (by decide) hnL [1, 2, 3, 4, 5, 6, 0] rfl ?_
      obtain ⟨q49_8, hq49_8, hf⟩ := obd hf
      refine Lp49 q1 q2.1 q2.2 (0, 0) q49_8 hq49_8 ?_
      refine V_iload C 5 dX9_joined_114 rfl rfl ?_
      refine V_iload C 4 dX9_joined_116 rfl rfl ?_
      refine V_isub C dX9_joined_118 rfl ?_
      obtain rfl := Option.some.inj hf
      exact K _ _ _ dX9_joined_119 rfl rfl
    · replace hf := ineg c10 hf
      refine V_aload_n C 0 dX9_joined_36 rfl rfl rfl ?_
      refine V_ldc C dX9_joined_37 rfl w500 ?_
      obtain ⟨q9, hq9, hf⟩ := obd hf
      refine V_cVi C (b := 0) (As := [.int (-1000004)]) (st := []) cf9 rfl M_X9_finding w397 ⟨by decide, by decide⟩ rfl rfl (Nat.le_of_ble_eq_true rfl) dX9_joined_39 rfl (kX9_finding hq9) ?_
      obtain rfl := Option.some.inj hf
      exact K _ _ _ dX9_joined_42 rfl rfl
  · replace hf := ineg c12 hf
    refine V_aload_n C 0 dX9_joined_11 rfl rfl rfl ?_
    refine V_iload_n C 3 dX9_joined_12 rfl rfl rfl ?_
    obtain ⟨q11, hq11, hf⟩ := obd hf
    refine V_cVi C (b := 0) (As := [.int q1]) (st := []) cf9 rfl M_X9_finding w397 ⟨by decide, by decide⟩ rfl rfl (Nat.le_of_ble_eq_true rfl) dX9_joined_13 rfl (kX9_finding hq11) ?_
    obtain rfl := Option.some.inj hf
    exact K _ _ _ dX9_joined_16 rfl rfl
set_option maxHeartbeats 4000000 in
set_option maxRecDepth 100000 in
theorem kX9_sharingLack {ad : Nat → Nat} {G : Gh} {p1 : Int32} {p2 : Int32} {p3 : Int32} {u : Mem} {q : Int32} (hf : FX9_sharingLack p1 p2 p3 u = some q) : Ct shs ad G yX9_sharingLack cX9_sharingLack 5 (some .int) 4 86 [.ref (ad 0), .int p1, .int p2, .int p3] u (some (.int q)) u := by
  refine Ct_ofI (by decide) (Nat.le_of_ble_eq_true rfl) (fun X C hnL K => ?_)
  have C : Cx ad G X cX9_sharingLack "CarryFair" 4 86 := C
  unfold FX9_sharingLack at hf
  refine V_iload_n C 1 dX9_sharingLack_0 rfl rfl rfl ?_
  refine V_iload_n C 2 dX9_sharingLack_1 rfl rfl rfl ?_
  refine V_icmp_eq C dX9_sharingLack_2 (tgt := 16) rfl rfl (fun c6 => ?_) (fun c6 => ?_)
  · replace hf := ipos c6 hf
    refine V_ldc C dX9_sharingLack_16 rfl w396 ?_
    obtain rfl := Option.some.inj hf
    exact K _ _ _ dX9_sharingLack_18 rfl rfl
  · replace hf := ineg c6 hf
    refine V_aload_n C 0 dX9_sharingLack_5 rfl rfl rfl ?_
    refine V_getR C cf9 rfl 0 rfl (by decide) w361 rfl dX9_sharingLack_6 rfl ?_
    refine V_iload_n C 2 dX9_sharingLack_9 rfl rfl rfl ?_
    refine V_cVi C (b := 1) (As := [.int p2]) (st := []) cf2 (sF isF1) M_X2_hasCarrier w410 ⟨by decide, by decide⟩ rfl rfl (Nat.le_of_ble_eq_true rfl) dX9_sharingLack_10 rfl (kX2_hasCarrier isF1 rfl) ?_
    refine V_if_ne C dX9_sharingLack_13 (tgt := 19) rfl rfl (fun c5 => ?_) (fun c5 => ?_)
    · replace hf := ineg c5 hf
      refine V_aload_n C 0 dX9_sharingLack_19 rfl rfl rfl ?_
      refine V_iload_n C 1 dX9_sharingLack_20 rfl rfl rfl ?_
      refine V_iload_n C 3 dX9_sharingLack_21 rfl rfl rfl ?_
      obtain ⟨q1, hq1, hf⟩ := obd hf
      refine V_cVi C (b := 0) (As := [.int p1, .int p3]) (st := []) cf9 rfl M_X9_roundLack w604 ⟨by decide, by decide⟩ rfl rfl (Nat.le_of_ble_eq_true rfl) dX9_sharingLack_22 rfl (kX9_roundLack hq1) ?_
      refine V_istore C (L' := [(0, .ref (ad 0)), (1, .int p1), (2, .int p2), (3, .int p3), (4, .int q1)]) dX9_sharingLack_25 rfl (by decide) hnL [1, 2, 3, 4, 0] rfl ?_
      refine V_iload C 4 dX9_sharingLack_27 rfl rfl ?_
      refine V_if_eq C dX9_sharingLack_29 (tgt := 35) rfl rfl (fun c4 => ?_) (fun c4 => ?_)
      · replace hf := ipos c4 hf
        refine V_aload_n C 0 dX9_sharingLack_35 rfl rfl rfl ?_
        refine V_getR C cf9 rfl 0 rfl (by decide) w361 rfl dX9_sharingLack_36 rfl ?_
        refine V_iload_n C 2 dX9_sharingLack_39 rfl rfl rfl ?_
        obtain ⟨q2, hq2, hf⟩ := obd hf
        refine V_cVi C (b := 1) (As := [.int p2]) (st := []) cf2 (sF isF1) M_X2_carriedBy w422 ⟨by decide, by decide⟩ rfl rfl (Nat.le_of_ble_eq_true rfl) dX9_sharingLack_40 rfl (kX2_carriedBy isF1 hq2) ?_
        refine V_if_ne C dX9_sharingLack_43 (tgt := 50) rfl rfl (fun c3 => ?_) (fun c3 => ?_)
        · replace hf := ineg c3 hf
          refine V_ldc C dX9_sharingLack_50 rfl w539 ?_
          obtain rfl := Option.some.inj hf
          exact K _ _ _ dX9_sharingLack_52 rfl rfl
        · replace hf := ipos c3 hf
          refine V_iconst C dX9_sharingLack_46 rfl (v := 0) rfl ?_
          refine V_goto C dX9_sharingLack_47 (tgt := 52) rfl ?_
          obtain rfl := Option.some.inj hf
          exact K _ _ _ dX9_sharingLack_52 rfl rfl
      · replace hf := ineg c4 hf
        refine V_iload C 4 dX9_sharingLack_32 rfl rfl ?_
        obtain rfl := Option.some.inj hf
        exact K _ _ _ dX9_sharingLack_34 rfl rfl
    · replace hf := ipos c5 hf
      refine V_ldc C dX9_sharingLack_16 rfl w396 ?_
      obtain rfl := Option.some.inj hf
      exact K _ _ _ dX9_sharingLack_18 rfl rfl
set_option maxHeartbeats 4000000 in
set_option maxRecDepth 100000 in
theorem kX9_shortestShare {ad : Nat → Nat} {G : Gh} {p1 : Int32} {p2 : Int32} {p3 : Int32} {u : Mem} {q : Int32 × Mem} (hf : FX9_shortestShare p1 p2 p3 u = some q) : Ct shs ad G yX9_shortestShare cX9_shortestShare 6 (some .int) 4 103 [.ref (ad 0), .int p1, .int p2, .int p3] u (some (.int q.1)) q.2 := by
  refine Ct_ofI (by decide) (Nat.le_of_ble_eq_true rfl) (fun X C hnL K => ?_)
  have C : Cx ad G X cX9_shortestShare "CarryFair" 4 103 := C
  unfold FX9_shortestShare at hf
  have Lp28 : ∀ (x0 : (Int32 × Mem)) (q28 : (Int32 × Mem)), lp (BX9_shortestShare_28 p1 p2 p3) FU x0 = some q28 → V shs ad G X 65 [(0, .ref (ad 0)), (1, .int p1), (2, .int p2), (3, .int p3), (4, .int q28.1)] [] q28.2 → V shs ad G X 28 [(0, .ref (ad 0)), (1, .int p1), (2, .int p2), (3, .int p3), (4, .int x0.1)] [] x0.2 := by
    intro  x0 q28 hq hx28_0
    refine lp_V (BX9_shortestShare_28 p1 p2 p3) (fun x28 => V shs ad G X 28 [(0, .ref (ad 0)), (1, .int p1), (2, .int p2), (3, .int p3), (4, .int x28.1)] [] x28.2) q28 (fun rec28 ih28 x28 hf => ?_) FU x0 hq
    unfold BX9_shortestShare_28 at hf
    refine V_iload C 4 dX9_shortestShare_28 rfl rfl ?_
    refine V_iload_n C 3 dX9_shortestShare_30 rfl rfl rfl ?_
    refine V_icmp_gt C dX9_shortestShare_31 (tgt := 65) rfl rfl (fun c6 => ?_) (fun c6 => ?_)
    · replace hf := ipos c6 hf
      obtain rfl := Option.some.inj hf
      exact hx28_0
    · replace hf := ineg c6 hf
      refine V_iload C 4 dX9_shortestShare_34 rfl rfl ?_
      refine V_iload_n C 3 dX9_shortestShare_36 rfl rfl rfl ?_
      refine V_iconst C dX9_shortestShare_37 rfl (v := (-1)) (by decide) ?_
      refine V_ixor C dX9_shortestShare_38 rfl ?_
      refine V_iand C dX9_shortestShare_39 rfl ?_
      refine V_if_ne C dX9_shortestShare_40 (tgt := 59) rfl rfl (fun c5 => ?_) (fun c5 => ?_)
      · replace hf := ineg c5 hf
        refine V_iinc C (v := (x28.1 + 1)) (L' := [(0, .ref (ad 0)), (1, .int p1), (2, .int p2), (3, .int p3), (4, .int (x28.1 + 1))]) 4 dX9_shortestShare_59 rfl rfl rfl (by decide) hnL [1, 2, 3, 4, 0] rfl ?_
        refine V_goto C dX9_shortestShare_62 (tgt := 28) rfl ?_
        exact ih28 ((x28.1 + 1), x28.2) hf
      · replace hf := ipos c5 hf
        refine V_aload_n C 0 dX9_shortestShare_43 rfl rfl rfl ?_
        refine V_getR C cf9 rfl 4 rfl (by decide) w365 rfl dX9_shortestShare_44 rfl ?_
        refine V_iload C 4 dX9_shortestShare_47 rfl rfl ?_
        refine V_aload_n C 0 dX9_shortestShare_49 rfl rfl rfl ?_
        refine V_getR C cf9 rfl 3 rfl (by decide) w364 rfl dX9_shortestShare_50 rfl ?_
        refine V_iload C 4 dX9_shortestShare_53 rfl rfl ?_
        obtain ⟨q3, hq3, hf⟩ := obd hf
        refine V_cVi C (b := 97) (As := [.int x28.1]) (st := [.int x28.1, .ref (ad 103)]) cf4 rfl M_X4_yardsOfPart w663 ⟨by decide, by decide⟩ rfl rfl (Nat.le_of_ble_eq_true rfl) dX9_shortestShare_55 rfl (kX4_yardsOfPart hq3) ?_
        obtain ⟨g4, hf⟩ := gd hf
        refine V_istJ C rfl g4 rfl dX9_shortestShare_58 rfl ?_
        refine V_iinc C (v := (x28.1 + 1)) (L' := [(0, .ref (ad 0)), (1, .int p1), (2, .int p2), (3, .int p3), (4, .int (x28.1 + 1))]) 4 dX9_shortestShare_59 rfl rfl rfl (by decide) hnL [1, 2, 3, 4, 0] rfl ?_
        refine V_goto C dX9_shortestShare_62 (tgt := 28) rfl ?_
        exact ih28 ((x28.1 + 1), (mst x28.2 103 (x28.1).toNatClampNeg q3)) hf
  have Lp98 : ∀ (w : Mem) (x0 : (Int32 × Int32)) (q98 : (Int32 × Int32)), lp (BX9_shortestShare_98 p1 p2 p3 w) FU x0 = some q98 → V shs ad G X 154 [(0, .ref (ad 0)), (1, .int p1), (2, .int p2), (3, .int p3), (4, .int q98.1), (5, .int q98.2)] [] w → V shs ad G X 98 [(0, .ref (ad 0)), (1, .int p1), (2, .int p2), (3, .int p3), (4, .int x0.1), (5, .int x0.2)] [] w := by
    intro w x0 q98 hq hx98_0
    refine lp_V (BX9_shortestShare_98 p1 p2 p3 w) (fun x98 => V shs ad G X 98 [(0, .ref (ad 0)), (1, .int p1), (2, .int p2), (3, .int p3), (4, .int x98.1), (5, .int x98.2)] [] w) q98 (fun rec98 ih98 x98 hf => ?_) FU x0 hq
    unfold BX9_shortestShare_98 at hf
    refine V_iload C 5 dX9_shortestShare_98 rfl rfl ?_
    refine V_iload_n C 3 dX9_shortestShare_100 rfl rfl rfl ?_
    refine V_icmp_gt C dX9_shortestShare_101 (tgt := 154) rfl rfl (fun c13 => ?_) (fun c13 => ?_)
    · replace hf := ipos c13 hf
      obtain rfl := Option.some.inj hf
      exact hx98_0
    · replace hf := ineg c13 hf
      refine V_iload C 5 dX9_shortestShare_104 rfl rfl ?_
      refine V_iload_n C 3 dX9_shortestShare_106 rfl rfl rfl ?_
      refine V_iconst C dX9_shortestShare_107 rfl (v := (-1)) (by decide) ?_
      refine V_ixor C dX9_shortestShare_108 rfl ?_
      refine V_iand C dX9_shortestShare_109 rfl ?_
      refine V_if_ne C dX9_shortestShare_110 (tgt := 148) rfl rfl (fun c12 => ?_) (fun c12 => ?_)
      · replace hf := ineg c12 hf
        refine V_iinc C (v := (x98.2 + 1)) (L' := [(0, .ref (ad 0)), (1, .int p1), (2, .int p2), (3, .int p3), (4, .int x98.1), (5, .int (x98.2 + 1))]) 5 dX9_shortestShare_148 rfl rfl rfl (by decide) hnL [1, 2, 3, 4, 5, 0] rfl ?_
        refine V_goto C dX9_shortestShare_151 (tgt := 98) rfl ?_
        exact ih98 (x98.1, (x98.2 + 1)) hf
      · replace hf := ipos c12 hf
        refine V_iload C 4 dX9_shortestShare_113 rfl rfl ?_
        refine V_aload_n C 0 dX9_shortestShare_115 rfl rfl rfl ?_
        refine V_getR C cf9 rfl 4 rfl (by decide) w365 rfl dX9_shortestShare_116 rfl ?_
        refine V_iload C 5 dX9_shortestShare_119 rfl rfl ?_
        obtain ⟨g10, hf⟩ := gd hf
        refine V_ildJ C rfl g10 rfl dX9_shortestShare_121 rfl ?_
        refine V_aload_n C 0 dX9_shortestShare_122 rfl rfl rfl ?_
        refine V_getR C cf9 rfl 3 rfl (by decide) w364 rfl dX9_shortestShare_123 rfl ?_
        refine V_iload_n C 3 dX9_shortestShare_126 rfl rfl rfl ?_
        refine V_iload C 5 dX9_shortestShare_127 rfl rfl ?_
        refine V_iconst C dX9_shortestShare_129 rfl (v := (-1)) (by decide) ?_
        refine V_ixor C dX9_shortestShare_130 rfl ?_
        refine V_iand C dX9_shortestShare_131 rfl ?_
        obtain ⟨q11, hq11, hf⟩ := obd hf
        refine V_cVi C (b := 97) (As := [.int (p3 &&& (x98.2 ^^^ (-1)))]) (st := [.int (w 103 (x98.2).toNatClampNeg), .int x98.1]) cf4 rfl M_X4_yardsOfPart w663 ⟨by decide, by decide⟩ rfl rfl (Nat.le_of_ble_eq_true rfl) dX9_shortestShare_132 rfl (kX4_yardsOfPart hq11) ?_
        refine V_iadd C dX9_shortestShare_135 rfl ?_
        refine V_sipush C dX9_shortestShare_136 rfl (v := 256) rfl ?_
        refine V_imul C dX9_shortestShare_139 rfl ?_
        refine V_iload C 5 dX9_shortestShare_140 rfl rfl ?_
        refine V_iadd C dX9_shortestShare_142 rfl ?_
        refine V_mmin C w702 ⟨by decide, by decide⟩ (Nat.le_of_ble_eq_true rfl) dX9_shortestShare_143 rfl ?_
        refine V_istore C (L' := [(0, .ref (ad 0)), (1, .int p1), (2, .int p2), (3, .int p3), (4, .int (jmin x98.1 ((((w 103 (x98.2).toNatClampNeg) + q11) * 256) + x98.2))), (5, .int x98.2)]) dX9_shortestShare_146 rfl (by decide) hnL [1, 2, 3, 4, 0, 5] rfl ?_
        refine V_iinc C (v := (x98.2 + 1)) (L' := [(0, .ref (ad 0)), (1, .int p1), (2, .int p2), (3, .int p3), (4, .int (jmin x98.1 ((((w 103 (x98.2).toNatClampNeg) + q11) * 256) + x98.2))), (5, .int (x98.2 + 1))]) 5 dX9_shortestShare_148 rfl rfl rfl (by decide) hnL [1, 2, 3, 4, 5, 0] rfl ?_
        refine V_goto C dX9_shortestShare_151 (tgt := 98) rfl ?_
        exact ih98 ((jmin x98.1 ((((w 103 (x98.2).toNatClampNeg) + q11) * 256) + x98.2)), (x98.2 + 1)) hf
  refine V_aload_n C 0 dX9_shortestShare_0 rfl rfl rfl ?_
  refine V_getR C cf9 rfl 3 rfl (by decide) w364 rfl dX9_shortestShare_1 rfl ?_
  refine V_aload_n C 0 dX9_shortestShare_4 rfl rfl rfl ?_
  refine V_getR C cf9 rfl 0 rfl (by decide) w361 rfl dX9_shortestShare_5 rfl ?_
  refine V_iload_n C 1 dX9_shortestShare_8 rfl rfl rfl ?_
  refine V_aload_n C 0 dX9_shortestShare_9 rfl rfl rfl ?_
  refine V_getR C cf9 rfl 0 rfl (by decide) w361 rfl dX9_shortestShare_10 rfl ?_
  refine V_getR C cf2 (sF isF1) 0 rfl (by decide) w247 rfl dX9_shortestShare_13 rfl ?_
  refine V_iload_n C 1 dX9_shortestShare_16 rfl rfl rfl ?_
  obtain ⟨g1, hf⟩ := gd hf
  refine V_aald C (sFc isF1) (fun _ => rfl) g1 (sCag g1) dX9_shortestShare_17 rfl ?_
  refine V_getI C cf0 (sCa isF1 g1) 0 rfl (by decide) w170 rfl dX9_shortestShare_18 rfl ?_
  refine V_iload_n C 3 dX9_shortestShare_21 rfl rfl rfl ?_
  obtain ⟨q2, hq2, hf⟩ := obd hf
  refine V_cVv C (b := 97) (As := [.ref (ad 1), .int p1, .int (u (1 + 12 + (p1).toNatClampNeg) 0), .int p3]) (st := []) cf4 rfl M_X4_find w631 ⟨by decide, by decide⟩ rfl rfl (Nat.le_of_ble_eq_true rfl) dX9_shortestShare_22 rfl (kX4_find isF1 hq2) ?_
  refine V_iconst C dX9_shortestShare_25 rfl (v := 0) rfl ?_
  refine V_istore C (L' := [(0, .ref (ad 0)), (1, .int p1), (2, .int p2), (3, .int p3), (4, .int 0)]) dX9_shortestShare_26 rfl (by decide) hnL [1, 2, 3, 4, 0] rfl ?_
  obtain ⟨q28_7, hq28_7, hf⟩ := obd hf
  refine Lp28  (0, q2) q28_7 hq28_7 ?_
  refine V_aload_n C 0 dX9_shortestShare_65 rfl rfl rfl ?_
  refine V_getR C cf9 rfl 3 rfl (by decide) w364 rfl dX9_shortestShare_66 rfl ?_
  refine V_aload_n C 0 dX9_shortestShare_69 rfl rfl rfl ?_
  refine V_getR C cf9 rfl 0 rfl (by decide) w361 rfl dX9_shortestShare_70 rfl ?_
  refine V_iload_n C 2 dX9_shortestShare_73 rfl rfl rfl ?_
  refine V_aload_n C 0 dX9_shortestShare_74 rfl rfl rfl ?_
  refine V_getR C cf9 rfl 0 rfl (by decide) w361 rfl dX9_shortestShare_75 rfl ?_
  refine V_getR C cf2 (sF isF1) 0 rfl (by decide) w247 rfl dX9_shortestShare_78 rfl ?_
  refine V_iload_n C 2 dX9_shortestShare_81 rfl rfl rfl ?_
  obtain ⟨g8, hf⟩ := gd hf
  refine V_aald C (sFc isF1) (fun _ => rfl) g8 (sCag g8) dX9_shortestShare_82 rfl ?_
  refine V_getI C cf0 (sCa isF1 g8) 0 rfl (by decide) w170 rfl dX9_shortestShare_83 rfl ?_
  refine V_iload_n C 3 dX9_shortestShare_86 rfl rfl rfl ?_
  obtain ⟨q9, hq9, hf⟩ := obd hf
  refine V_cVv C (b := 97) (As := [.ref (ad 1), .int p2, .int (q28_7.2 (1 + 12 + (p2).toNatClampNeg) 0), .int p3]) (st := []) cf4 rfl M_X4_find w631 ⟨by decide, by decide⟩ rfl rfl (Nat.le_of_ble_eq_true rfl) dX9_shortestShare_87 rfl (kX4_find isF1 hq9) ?_
  refine V_ldcw C dX9_shortestShare_90 rfl w696 ?_
  refine V_istore C (L' := [(0, .ref (ad 0)), (1, .int p1), (2, .int p2), (3, .int p3), (4, .int 256000000)]) dX9_shortestShare_93 rfl (by decide) hnL [1, 2, 3, 4, 0] rfl ?_
  refine V_iconst C dX9_shortestShare_95 rfl (v := 0) rfl ?_
  refine V_istore C (L' := [(0, .ref (ad 0)), (1, .int p1), (2, .int p2), (3, .int p3), (4, .int 256000000), (5, .int 0)]) dX9_shortestShare_96 rfl (by decide) hnL [1, 2, 3, 4, 5, 0] rfl ?_
  obtain ⟨q98_14, hq98_14, hf⟩ := obd hf
  refine Lp98 q9 (256000000, 0) q98_14 hq98_14 ?_
  refine V_iload C 4 dX9_shortestShare_154 rfl rfl ?_
  obtain rfl := Option.some.inj hf
  exact K _ _ _ dX9_shortestShare_156 rfl rfl
set_option maxHeartbeats 4000000 in
set_option maxRecDepth 100000 in
theorem kX9_shared {ad : Nat → Nat} {G : Gh} {p1 : Int32} {p2 : Int32} {p3 : Int32} {u : Mem} {q : Int32 × Mem} (hf : FX9_shared p1 p2 p3 u = some q) : Ct shs ad G yX9_shared cX9_shared 5 (some .int) 5 128 [.ref (ad 0), .int p1, .int p2, .int p3] u (some (.int q.1)) q.2 := by
  refine Ct_ofI (by decide) (Nat.le_of_ble_eq_true rfl) (fun X C hnL K => ?_)
  have C : Cx ad G X cX9_shared "CarryFair" 5 128 := C
  unfold FX9_shared at hf
  refine V_aload_n C 0 dX9_shared_0 rfl rfl rfl ?_
  refine V_iload_n C 1 dX9_shared_1 rfl rfl rfl ?_
  refine V_iload_n C 2 dX9_shared_2 rfl rfl rfl ?_
  refine V_iload_n C 3 dX9_shared_3 rfl rfl rfl ?_
  obtain ⟨q1, hq1, hf⟩ := obd hf
  refine V_cVi C (b := 0) (As := [.int p1, .int p2, .int p3]) (st := []) cf9 rfl M_X9_sharingLack w723 ⟨by decide, by decide⟩ rfl rfl (Nat.le_of_ble_eq_true rfl) dX9_shared_4 rfl (kX9_sharingLack hq1) ?_
  refine V_istore C (L' := [(0, .ref (ad 0)), (1, .int p1), (2, .int p2), (3, .int p3), (4, .int q1)]) dX9_shared_7 rfl (by decide) hnL [1, 2, 3, 4, 0] rfl ?_
  refine V_iload C 4 dX9_shared_9 rfl rfl ?_
  refine V_if_eq C dX9_shared_11 (tgt := 21) rfl rfl (fun c5 => ?_) (fun c5 => ?_)
  · replace hf := ipos c5 hf
    refine V_aload_n C 0 dX9_shared_21 rfl rfl rfl ?_
    refine V_aload_n C 0 dX9_shared_22 rfl rfl rfl ?_
    refine V_iload_n C 1 dX9_shared_23 rfl rfl rfl ?_
    refine V_iload_n C 2 dX9_shared_24 rfl rfl rfl ?_
    refine V_iload_n C 3 dX9_shared_25 rfl rfl rfl ?_
    obtain ⟨q2, hq2, hf⟩ := obd hf
    refine V_cVi C (b := 0) (As := [.int p1, .int p2, .int p3]) (st := [.ref (ad 0)]) cf9 rfl M_X9_shortestShare w727 ⟨by decide, by decide⟩ rfl rfl (Nat.le_of_ble_eq_true rfl) dX9_shared_26 rfl (kX9_shortestShare hq2) ?_
    refine V_sipush C dX9_shared_29 rfl (v := 256) rfl ?_
    refine V_idiv C dX9_shared_32 rfl (by decide) ?_
    obtain ⟨q3, hq3, hf⟩ := obd hf
    refine V_cVi C (b := 0) (As := [.int (q2.1 / 256)]) (st := []) cf9 rfl M_X9_orNone w495 ⟨by decide, by decide⟩ rfl rfl (Nat.le_of_ble_eq_true rfl) dX9_shared_33 rfl (kX9_orNone hq3) ?_
    obtain rfl := Option.some.inj hf
    exact K _ _ _ dX9_shared_36 rfl rfl
  · replace hf := ineg c5 hf
    refine V_aload_n C 0 dX9_shared_14 rfl rfl rfl ?_
    refine V_iload C 4 dX9_shared_15 rfl rfl ?_
    obtain ⟨q4, hq4, hf⟩ := obd hf
    refine V_cVi C (b := 0) (As := [.int q1]) (st := []) cf9 rfl M_X9_finding w397 ⟨by decide, by decide⟩ rfl rfl (Nat.le_of_ble_eq_true rfl) dX9_shared_17 rfl (kX9_finding hq4) ?_
    obtain rfl := Option.some.inj hf
    exact K _ _ _ dX9_shared_20 rfl rfl
set_option maxHeartbeats 4000000 in
set_option maxRecDepth 100000 in
theorem kX9_part {ad : Nat → Nat} {G : Gh} {p1 : Int32} {p2 : Int32} {p3 : Int32} {u : Mem} {q : Int32 × Mem} (hf : FX9_part p1 p2 p3 u = some q) : Ct shs ad G yX9_part cX9_part 5 (some .int) 5 128 [.ref (ad 0), .int p1, .int p2, .int p3] u (some (.int q.1)) q.2 := by
  refine Ct_ofI (by decide) (Nat.le_of_ble_eq_true rfl) (fun X C hnL K => ?_)
  have C : Cx ad G X cX9_part "CarryFair" 5 128 := C
  unfold FX9_part at hf
  refine V_aload_n C 0 dX9_part_0 rfl rfl rfl ?_
  refine V_iload_n C 1 dX9_part_1 rfl rfl rfl ?_
  refine V_iload_n C 2 dX9_part_2 rfl rfl rfl ?_
  refine V_iload_n C 3 dX9_part_3 rfl rfl rfl ?_
  obtain ⟨q1, hq1, hf⟩ := obd hf
  refine V_cVi C (b := 0) (As := [.int p1, .int p2, .int p3]) (st := []) cf9 rfl M_X9_sharingLack w723 ⟨by decide, by decide⟩ rfl rfl (Nat.le_of_ble_eq_true rfl) dX9_part_4 rfl (kX9_sharingLack hq1) ?_
  refine V_istore C (L' := [(0, .ref (ad 0)), (1, .int p1), (2, .int p2), (3, .int p3), (4, .int q1)]) dX9_part_7 rfl (by decide) hnL [1, 2, 3, 4, 0] rfl ?_
  refine V_iload C 4 dX9_part_9 rfl rfl ?_
  refine V_if_eq C dX9_part_11 (tgt := 21) rfl rfl (fun c5 => ?_) (fun c5 => ?_)
  · replace hf := ipos c5 hf
    refine V_aload_n C 0 dX9_part_21 rfl rfl rfl ?_
    refine V_aload_n C 0 dX9_part_22 rfl rfl rfl ?_
    refine V_iload_n C 1 dX9_part_23 rfl rfl rfl ?_
    refine V_iload_n C 2 dX9_part_24 rfl rfl rfl ?_
    refine V_iload_n C 3 dX9_part_25 rfl rfl rfl ?_
    obtain ⟨q2, hq2, hf⟩ := obd hf
    refine V_cVi C (b := 0) (As := [.int p1, .int p2, .int p3]) (st := [.ref (ad 0)]) cf9 rfl M_X9_shortestShare w727 ⟨by decide, by decide⟩ rfl rfl (Nat.le_of_ble_eq_true rfl) dX9_part_26 rfl (kX9_shortestShare hq2) ?_
    obtain ⟨q3, hq3, hf⟩ := obd hf
    refine V_cVi C (b := 0) (As := [.int q2.1]) (st := []) cf9 rfl M_X9_secondOrNone w707 ⟨by decide, by decide⟩ rfl rfl (Nat.le_of_ble_eq_true rfl) dX9_part_29 rfl (kX9_secondOrNone hq3) ?_
    obtain rfl := Option.some.inj hf
    exact K _ _ _ dX9_part_32 rfl rfl
  · replace hf := ineg c5 hf
    refine V_aload_n C 0 dX9_part_14 rfl rfl rfl ?_
    refine V_iload C 4 dX9_part_15 rfl rfl ?_
    obtain ⟨q4, hq4, hf⟩ := obd hf
    refine V_cVi C (b := 0) (As := [.int q1]) (st := []) cf9 rfl M_X9_finding w397 ⟨by decide, by decide⟩ rfl rfl (Nat.le_of_ble_eq_true rfl) dX9_part_17 rfl (kX9_finding hq4) ?_
    obtain rfl := Option.some.inj hf
    exact K _ _ _ dX9_part_20 rfl rfl
set_option maxHeartbeats 4000000 in
set_option maxRecDepth 100000 in
theorem kX9_strength {ad : Nat → Nat} {G : Gh} {p1 : Int32} {p2 : Int32} {u : Mem} {q : Int32 × Mem} (hf : FX9_strength p1 p2 u = some q) : Ct shs ad G yX9_strength cX9_strength 6 (some .int) 4 90 [.ref (ad 0), .int p1, .int p2] u (some (.int q.1)) q.2 := by
  refine Ct_ofI (by decide) (Nat.le_of_ble_eq_true rfl) (fun X C hnL K => ?_)
  have C : Cx ad G X cX9_strength "CarryFair" 4 90 := C
  unfold FX9_strength at hf
  have Lp49 : ∀ (v3 : Int32) (v4 : Int32) (w : Mem) (x0 : (Int32)) (q49 : (Nat × Int32)), lp (BX9_strength_49 p1 p2 v3 v4 w) FU x0 = some q49 → (q49.1 = 0 → V shs ad G X 78 [(0, .ref (ad 0)), (1, .int p1), (2, .int p2), (3, .int v3), (4, .int v4), (5, .int q49.2)] [] w) → (q49.1 = 1 → V shs ad G X 87 [(0, .ref (ad 0)), (1, .int p1), (2, .int p2), (3, .int v3), (4, .int v4), (5, .int q49.2)] [] w) → V shs ad G X 49 [(0, .ref (ad 0)), (1, .int p1), (2, .int p2), (3, .int v3), (4, .int v4), (5, .int x0)] [] w := by
    intro v3 v4 w x0 q49 hq hx49_0 hx49_1
    refine lp_V (BX9_strength_49 p1 p2 v3 v4 w) (fun x49 => V shs ad G X 49 [(0, .ref (ad 0)), (1, .int p1), (2, .int p2), (3, .int v3), (4, .int v4), (5, .int x49)] [] w) q49 (fun rec49 ih49 x49 hf => ?_) FU x0 hq
    unfold BX9_strength_49 at hf
    refine V_iload C 5 dX9_strength_49 rfl rfl ?_
    refine V_bipush C dX9_strength_51 rfl (v := 99) rfl ?_
    refine V_icmp_gt C dX9_strength_53 (tgt := 87) rfl rfl (fun c6 => ?_) (fun c6 => ?_)
    · replace hf := ipos c6 hf
      obtain rfl := Option.some.inj hf
      exact hx49_1 rfl
    · replace hf := ineg c6 hf
      refine V_aload_n C 0 dX9_strength_56 rfl rfl rfl ?_
      refine V_getR C cf9 rfl 0 rfl (by decide) w361 rfl dX9_strength_57 rfl ?_
      refine V_getR C cf2 (sF isF1) 0 rfl (by decide) w247 rfl dX9_strength_60 rfl ?_
      refine V_iload_n C 1 dX9_strength_63 rfl rfl rfl ?_
      obtain ⟨g4, hf⟩ := gd hf
      refine V_aald C (sFc isF1) (fun _ => rfl) g4 (sCag g4) dX9_strength_64 rfl ?_
      refine V_getI C cf0 (sCa isF1 g4) 0 rfl (by decide) w170 rfl dX9_strength_65 rfl ?_
      refine V_iload C 5 dX9_strength_68 rfl rfl ?_
      refine V_cSi C (As := [.int (w (1 + 12 + (p1).toNatClampNeg) 0), .int x49]) (st := []) M_X3_canBear w748 ⟨by decide, by decide⟩ rfl rfl (Nat.le_of_ble_eq_true rfl) dX9_strength_70 rfl (kX3_canBear rfl) ?_
      refine V_iload C 4 dX9_strength_73 rfl rfl ?_
      refine V_icmp_lt C dX9_strength_75 (tgt := 81) rfl rfl (fun c5 => ?_) (fun c5 => ?_)
      · replace hf := ipos c5 hf
        refine V_iinc C (v := (x49 + 1)) (L' := [(0, .ref (ad 0)), (1, .int p1), (2, .int p2), (3, .int v3), (4, .int v4), (5, .int (x49 + 1))]) 5 dX9_strength_81 rfl rfl rfl (by decide) hnL [1, 2, 3, 4, 5, 0] rfl ?_
        refine V_goto C dX9_strength_84 (tgt := 49) rfl ?_
        exact ih49 (x49 + 1) hf
      · replace hf := ineg c5 hf
        obtain rfl := Option.some.inj hf
        exact hx49_0 rfl
  refine V_aload_n C 0 dX9_strength_0 rfl rfl rfl ?_
  refine V_iload_n C 1 dX9_strength_1 rfl rfl rfl ?_
  refine V_iload_n C 2 dX9_strength_2 rfl rfl rfl ?_
  obtain ⟨q1, hq1, hf⟩ := obd hf
  refine V_cVi C (b := 0) (As := [.int p1, .int p2]) (st := []) cf9 rfl M_X9_roundLack w604 ⟨by decide, by decide⟩ rfl rfl (Nat.le_of_ble_eq_true rfl) dX9_strength_3 rfl (kX9_roundLack hq1) ?_
  refine V_istore_n C (L' := [(0, .ref (ad 0)), (1, .int p1), (2, .int p2), (3, .int q1)]) dX9_strength_6 rfl rfl (by decide) hnL [1, 2, 3, 0] rfl ?_
  refine V_iload_n C 3 dX9_strength_7 rfl rfl rfl ?_
  refine V_if_eq C dX9_strength_8 (tgt := 17) rfl rfl (fun c12 => ?_) (fun c12 => ?_)
  · replace hf := ipos c12 hf
    refine V_aload_n C 0 dX9_strength_17 rfl rfl rfl ?_
    refine V_getR C cf9 rfl 0 rfl (by decide) w361 rfl dX9_strength_18 rfl ?_
    refine V_iload_n C 1 dX9_strength_21 rfl rfl rfl ?_
    refine V_iload_n C 2 dX9_strength_22 rfl rfl rfl ?_
    obtain ⟨q2, hq2, hf⟩ := obd hf
    refine V_cVi C (b := 1) (As := [.int p1, .int p2]) (st := []) cf2 (sF isF1) M_X2_canComeToAll w739 ⟨by decide, by decide⟩ rfl rfl (Nat.le_of_ble_eq_true rfl) dX9_strength_23 rfl (kX2_canComeToAll isF1 hq2) ?_
    refine V_if_ne C dX9_strength_26 (tgt := 36) rfl rfl (fun c10 => ?_) (fun c10 => ?_)
    · replace hf := ineg c10 hf
      refine V_aload_n C 0 dX9_strength_36 rfl rfl rfl ?_
      refine V_getR C cf9 rfl 0 rfl (by decide) w361 rfl dX9_strength_37 rfl ?_
      refine V_iload_n C 2 dX9_strength_40 rfl rfl rfl ?_
      obtain ⟨q3, hq3, hf⟩ := obd hf
      refine V_cVi C (b := 1) (As := [.int p2]) (st := []) cf2 (sF isF1) M_X2_heaviestOf w743 ⟨by decide, by decide⟩ rfl rfl (Nat.le_of_ble_eq_true rfl) dX9_strength_41 rfl (kX2_heaviestOf isF1 hq3) ?_
      refine V_istore C (L' := [(0, .ref (ad 0)), (1, .int p1), (2, .int p2), (3, .int q1), (4, .int q3)]) dX9_strength_44 rfl (by decide) hnL [1, 2, 3, 4, 0] rfl ?_
      refine V_iconst C dX9_strength_46 rfl (v := 1) rfl ?_
      refine V_istore C (L' := [(0, .ref (ad 0)), (1, .int p1), (2, .int p2), (3, .int q1), (4, .int q3), (5, .int 1)]) dX9_strength_47 rfl (by decide) hnL [1, 2, 3, 4, 5, 0] rfl ?_
      obtain ⟨q49_7, hq49_7, hf⟩ := obd hf
      refine Lp49 q1 q3 u 1 q49_7 hq49_7 ?_ ?_
      · intro hk
        replace hf := ipos hk hf
        refine V_iload C 5 dX9_strength_78 rfl rfl ?_
        obtain rfl := Option.some.inj hf
        exact K _ _ _ dX9_strength_80 rfl rfl
      · intro hk
        replace hf := ineg (by rw [hk]; decide) hf
        refine V_aload_n C 0 dX9_strength_87 rfl rfl rfl ?_
        refine V_ldc C dX9_strength_88 rfl w500 ?_
        obtain ⟨q8, hq8, hf⟩ := obd hf
        refine V_cVi C (b := 0) (As := [.int (-1000004)]) (st := []) cf9 rfl M_X9_finding w397 ⟨by decide, by decide⟩ rfl rfl (Nat.le_of_ble_eq_true rfl) dX9_strength_90 rfl (kX9_finding hq8) ?_
        obtain rfl := Option.some.inj hf
        exact K _ _ _ dX9_strength_93 rfl rfl
    · replace hf := ipos c10 hf
      refine V_aload_n C 0 dX9_strength_29 rfl rfl rfl ?_
      refine V_ldc C dX9_strength_30 rfl w500 ?_
      obtain ⟨q9, hq9, hf⟩ := obd hf
      refine V_cVi C (b := 0) (As := [.int (-1000004)]) (st := []) cf9 rfl M_X9_finding w397 ⟨by decide, by decide⟩ rfl rfl (Nat.le_of_ble_eq_true rfl) dX9_strength_32 rfl (kX9_finding hq9) ?_
      obtain rfl := Option.some.inj hf
      exact K _ _ _ dX9_strength_35 rfl rfl
  · replace hf := ineg c12 hf
    refine V_aload_n C 0 dX9_strength_11 rfl rfl rfl ?_
    refine V_iload_n C 3 dX9_strength_12 rfl rfl rfl ?_
    obtain ⟨q11, hq11, hf⟩ := obd hf
    refine V_cVi C (b := 0) (As := [.int q1]) (st := []) cf9 rfl M_X9_finding w397 ⟨by decide, by decide⟩ rfl rfl (Nat.le_of_ble_eq_true rfl) dX9_strength_13 rfl (kX9_finding hq11) ?_
    obtain rfl := Option.some.inj hf
    exact K _ _ _ dX9_strength_16 rfl rfl
set_option maxHeartbeats 4000000 in
set_option maxRecDepth 100000 in
theorem kX9_kindFor {ad : Nat → Nat} {G : Gh} {p1 : Int32} {p2 : Int32} {u : Mem} {q : Int32 × Mem} (hf : FX9_kindFor p1 p2 u = some q) : Ct shs ad G yX9_kindFor cX9_kindFor 6 (some .int) 4 103 [.ref (ad 0), .int p1, .int p2] u (some (.int q.1)) q.2 := by
  refine Ct_ofI (by decide) (Nat.le_of_ble_eq_true rfl) (fun X C hnL K => ?_)
  have C : Cx ad G X cX9_kindFor "CarryFair" 4 103 := C
  unfold FX9_kindFor at hf
  have Lp25 : ∀ (v3 : Int32) (x0 : (Int32 × Int32 × Mem)) (q25 : (Int32 × Int32 × Mem)), lp (BX9_kindFor_25 p1 p2 v3) FU x0 = some q25 → V shs ad G X 75 [(0, .ref (ad 0)), (1, .int p1), (2, .int p2), (3, .int v3), (4, .int q25.1), (5, .int q25.2.1)] [] q25.2.2 → V shs ad G X 25 [(0, .ref (ad 0)), (1, .int p1), (2, .int p2), (3, .int v3), (4, .int x0.1), (5, .int x0.2.1)] [] x0.2.2 := by
    intro v3 x0 q25 hq hx25_0
    refine lp_V (BX9_kindFor_25 p1 p2 v3) (fun x25 => V shs ad G X 25 [(0, .ref (ad 0)), (1, .int p1), (2, .int p2), (3, .int v3), (4, .int x25.1), (5, .int x25.2.1)] [] x25.2.2) q25 (fun rec25 ih25 x25 hf => ?_) FU x0 hq
    unfold BX9_kindFor_25 at hf
    refine V_iload C 5 dX9_kindFor_25 rfl rfl ?_
    refine V_bipush C dX9_kindFor_27 rfl (v := 6) rfl ?_
    refine V_icmp_gt C dX9_kindFor_29 (tgt := 75) rfl rfl (fun c4 => ?_) (fun c4 => ?_)
    · replace hf := ipos c4 hf
      obtain rfl := Option.some.inj hf
      exact hx25_0
    · replace hf := ineg c4 hf
      refine V_aload_n C 0 dX9_kindFor_32 rfl rfl rfl ?_
      refine V_getR C cf9 rfl 3 rfl (by decide) w364 rfl dX9_kindFor_33 rfl ?_
      refine V_aload_n C 0 dX9_kindFor_36 rfl rfl rfl ?_
      refine V_getR C cf9 rfl 0 rfl (by decide) w361 rfl dX9_kindFor_37 rfl ?_
      refine V_iload_n C 1 dX9_kindFor_40 rfl rfl rfl ?_
      refine V_iload C 5 dX9_kindFor_41 rfl rfl ?_
      refine V_iload_n C 2 dX9_kindFor_43 rfl rfl rfl ?_
      obtain ⟨q2, hq2, hf⟩ := obd hf
      refine V_cVv C (b := 97) (As := [.ref (ad 1), .int p1, .int x25.2.1, .int p2]) (st := []) cf4 rfl M_X4_find w631 ⟨by decide, by decide⟩ rfl rfl (Nat.le_of_ble_eq_true rfl) dX9_kindFor_44 rfl (kX4_find isF1 hq2) ?_
      refine V_iload C 4 dX9_kindFor_47 rfl rfl ?_
      refine V_aload_n C 0 dX9_kindFor_49 rfl rfl rfl ?_
      refine V_getR C cf9 rfl 3 rfl (by decide) w364 rfl dX9_kindFor_50 rfl ?_
      refine V_iload_n C 2 dX9_kindFor_53 rfl rfl rfl ?_
      obtain ⟨q3, hq3, hf⟩ := obd hf
      refine V_cVi C (b := 97) (As := [.int p2]) (st := [.int x25.1]) cf4 rfl M_X4_yardsOfPart w663 ⟨by decide, by decide⟩ rfl rfl (Nat.le_of_ble_eq_true rfl) dX9_kindFor_54 rfl (kX4_yardsOfPart hq3) ?_
      refine V_sipush C dX9_kindFor_57 rfl (v := 256) rfl ?_
      refine V_imul C dX9_kindFor_60 rfl ?_
      refine V_iload C 5 dX9_kindFor_61 rfl rfl ?_
      refine V_iadd C dX9_kindFor_63 rfl ?_
      refine V_mmin C w702 ⟨by decide, by decide⟩ (Nat.le_of_ble_eq_true rfl) dX9_kindFor_64 rfl ?_
      refine V_istore C (L' := [(0, .ref (ad 0)), (1, .int p1), (2, .int p2), (3, .int v3), (4, .int (jmin x25.1 ((q3 * 256) + x25.2.1))), (5, .int x25.2.1)]) dX9_kindFor_67 rfl (by decide) hnL [1, 2, 3, 4, 0, 5] rfl ?_
      refine V_iinc C (v := (x25.2.1 + 1)) (L' := [(0, .ref (ad 0)), (1, .int p1), (2, .int p2), (3, .int v3), (4, .int (jmin x25.1 ((q3 * 256) + x25.2.1))), (5, .int (x25.2.1 + 1))]) 5 dX9_kindFor_69 rfl rfl rfl (by decide) hnL [1, 2, 3, 4, 5, 0] rfl ?_
      refine V_goto C dX9_kindFor_72 (tgt := 25) rfl ?_
      exact ih25 ((jmin x25.1 ((q3 * 256) + x25.2.1)), (x25.2.1 + 1), q2) hf
  refine V_aload_n C 0 dX9_kindFor_0 rfl rfl rfl ?_
  refine V_iload_n C 1 dX9_kindFor_1 rfl rfl rfl ?_
  refine V_iload_n C 2 dX9_kindFor_2 rfl rfl rfl ?_
  obtain ⟨q1, hq1, hf⟩ := obd hf
  refine V_cVi C (b := 0) (As := [.int p1, .int p2]) (st := []) cf9 rfl M_X9_roundLack w604 ⟨by decide, by decide⟩ rfl rfl (Nat.le_of_ble_eq_true rfl) dX9_kindFor_3 rfl (kX9_roundLack hq1) ?_
  refine V_istore_n C (L' := [(0, .ref (ad 0)), (1, .int p1), (2, .int p2), (3, .int q1)]) dX9_kindFor_6 rfl rfl (by decide) hnL [1, 2, 3, 0] rfl ?_
  refine V_iload_n C 3 dX9_kindFor_7 rfl rfl rfl ?_
  refine V_if_eq C dX9_kindFor_8 (tgt := 17) rfl rfl (fun c8 => ?_) (fun c8 => ?_)
  · replace hf := ipos c8 hf
    refine V_ldcw C dX9_kindFor_17 rfl w696 ?_
    refine V_istore C (L' := [(0, .ref (ad 0)), (1, .int p1), (2, .int p2), (3, .int q1), (4, .int 256000000)]) dX9_kindFor_20 rfl (by decide) hnL [1, 2, 3, 4, 0] rfl ?_
    refine V_iconst C dX9_kindFor_22 rfl (v := 0) rfl ?_
    refine V_istore C (L' := [(0, .ref (ad 0)), (1, .int p1), (2, .int p2), (3, .int q1), (4, .int 256000000), (5, .int 0)]) dX9_kindFor_23 rfl (by decide) hnL [1, 2, 3, 4, 5, 0] rfl ?_
    obtain ⟨q25_5, hq25_5, hf⟩ := obd hf
    refine Lp25 q1 (256000000, 0, u) q25_5 hq25_5 ?_
    refine V_aload_n C 0 dX9_kindFor_75 rfl rfl rfl ?_
    refine V_iload C 4 dX9_kindFor_76 rfl rfl ?_
    obtain ⟨q6, hq6, hf⟩ := obd hf
    refine V_cVi C (b := 0) (As := [.int q25_5.1]) (st := []) cf9 rfl M_X9_secondOrNone w707 ⟨by decide, by decide⟩ rfl rfl (Nat.le_of_ble_eq_true rfl) dX9_kindFor_78 rfl (kX9_secondOrNone hq6) ?_
    obtain rfl := Option.some.inj hf
    exact K _ _ _ dX9_kindFor_81 rfl rfl
  · replace hf := ineg c8 hf
    refine V_aload_n C 0 dX9_kindFor_11 rfl rfl rfl ?_
    refine V_iload_n C 3 dX9_kindFor_12 rfl rfl rfl ?_
    obtain ⟨q7, hq7, hf⟩ := obd hf
    refine V_cVi C (b := 0) (As := [.int q1]) (st := []) cf9 rfl M_X9_finding w397 ⟨by decide, by decide⟩ rfl rfl (Nat.le_of_ble_eq_true rfl) dX9_kindFor_13 rfl (kX9_finding hq7) ?_
    obtain rfl := Option.some.inj hf
    exact K _ _ _ dX9_kindFor_16 rfl rfl
set_option maxHeartbeats 4000000 in
set_option maxRecDepth 100000 in
theorem kX9_shortestByBridge {ad : Nat → Nat} {G : Gh} {p1 : Int32} {p2 : Int32} {u : Mem} {q : Int32 × Mem} (hf : FX9_shortestByBridge p1 p2 u = some q) : Ct shs ad G yX9_shortestByBridge cX9_shortestByBridge 7 (some .int) 5 126 [.ref (ad 0), .int p1, .int p2] u (some (.int q.1)) q.2 := by
  refine Ct_ofI (by decide) (Nat.le_of_ble_eq_true rfl) (fun X C hnL K => ?_)
  have C : Cx ad G X cX9_shortestByBridge "CarryFair" 5 126 := C
  unfold FX9_shortestByBridge at hf
  have Lp31 : ∀ (v4 : Int32) (x0 : (Int32 × Int32 × Mem)) (q31 : (Int32 × Int32 × Mem)), lp (BX9_shortestByBridge_31 p1 p2 v4) FU x0 = some q31 → V shs ad G X 155 [(0, .ref (ad 0)), (1, .int p1), (2, .int p2), (3, .int q31.1), (4, .int v4), (5, .int q31.2.1)] [] q31.2.2 → V shs ad G X 31 [(0, .ref (ad 0)), (1, .int p1), (2, .int p2), (3, .int x0.1), (4, .int v4), (5, .int x0.2.1)] [] x0.2.2 := by
    intro v4 x0 q31 hq hx31_0
    refine lp_V (BX9_shortestByBridge_31 p1 p2 v4) (fun x31 => V shs ad G X 31 [(0, .ref (ad 0)), (1, .int p1), (2, .int p2), (3, .int x31.1), (4, .int v4), (5, .int x31.2.1)] [] x31.2.2) q31 (fun rec31 ih31 x31 hf => ?_) FU x0 hq
    unfold BX9_shortestByBridge_31 at hf
    refine V_iload C 5 dX9_shortestByBridge_31 rfl rfl ?_
    refine V_bipush C dX9_shortestByBridge_33 rfl (v := 7) rfl ?_
    refine V_icmp_ge C dX9_shortestByBridge_35 (tgt := 155) rfl rfl (fun c10 => ?_) (fun c10 => ?_)
    · replace hf := ipos c10 hf
      obtain rfl := Option.some.inj hf
      exact hx31_0
    · replace hf := ineg c10 hf
      refine V_aload_n C 0 dX9_shortestByBridge_38 rfl rfl rfl ?_
      refine V_getR C cf9 rfl 0 rfl (by decide) w361 rfl dX9_shortestByBridge_39 rfl ?_
      refine V_getR C cf2 (sF isF1) 3 rfl (by decide) w256 rfl dX9_shortestByBridge_42 rfl ?_
      refine V_iload C 4 dX9_shortestByBridge_45 rfl rfl ?_
      refine V_iload C 5 dX9_shortestByBridge_47 rfl rfl ?_
      obtain ⟨q2, hq2, hf⟩ := obd hf
      refine V_cVi C (b := (1 + 4)) (As := [.int v4, .int x31.2.1]) (st := []) cf8 (sW (wF isF1)) M_X8_yardsOf w451 ⟨by decide, by decide⟩ rfl rfl (Nat.le_of_ble_eq_true rfl) dX9_shortestByBridge_49 rfl (kX8_yardsOf (wF isF1) hq2) ?_
      refine V_istore C (L' := [(0, .ref (ad 0)), (1, .int p1), (2, .int p2), (3, .int x31.1), (4, .int v4), (5, .int x31.2.1), (6, .int q2)]) dX9_shortestByBridge_52 rfl (by decide) hnL [1, 2, 3, 4, 5, 6, 0] rfl ?_
      refine V_iload C 6 dX9_shortestByBridge_54 rfl rfl ?_
      refine V_if_le C dX9_shortestByBridge_56 (tgt := 149) rfl rfl (fun c9 => ?_) (fun c9 => ?_)
      · replace hf := ipos c9 hf
        refine V_iinc C (v := (x31.2.1 + 1)) (L' := [(0, .ref (ad 0)), (1, .int p1), (2, .int p2), (3, .int x31.1), (4, .int v4), (5, .int (x31.2.1 + 1)), (6, .int q2)]) 5 dX9_shortestByBridge_149 rfl rfl rfl (by decide) hnL [1, 2, 3, 4, 5, 0, 6] rfl ?_
        refine V_goto C dX9_shortestByBridge_152 (tgt := 31) rfl ?_
        refine V_sub (L' := [(0, .ref (ad 0)), (1, .int p1), (2, .int p2), (3, .int x31.1), (4, .int v4), (5, .int (x31.2.1 + 1))]) [0, 1, 2, 3, 4, 5] rfl ?_
        exact ih31 (x31.1, (x31.2.1 + 1), x31.2.2) hf
      · replace hf := ineg c9 hf
        refine V_aload_n C 0 dX9_shortestByBridge_59 rfl rfl rfl ?_
        refine V_getR C cf9 rfl 0 rfl (by decide) w361 rfl dX9_shortestByBridge_60 rfl ?_
        refine V_getR C cf2 (sF isF1) 3 rfl (by decide) w256 rfl dX9_shortestByBridge_63 rfl ?_
        refine V_iload C 4 dX9_shortestByBridge_66 rfl rfl ?_
        refine V_iload C 5 dX9_shortestByBridge_68 rfl rfl ?_
        obtain ⟨q3, hq3, hf⟩ := obd hf
        refine V_cVi C (b := (1 + 4)) (As := [.int v4, .int x31.2.1]) (st := []) cf8 (sW (wF isF1)) M_X8_riverOf w464 ⟨by decide, by decide⟩ rfl rfl (Nat.le_of_ble_eq_true rfl) dX9_shortestByBridge_70 rfl (kX8_riverOf (wF isF1) hq3) ?_
        refine V_iconst C dX9_shortestByBridge_73 rfl (v := 1) rfl ?_
        refine V_icmp_ne C dX9_shortestByBridge_74 (tgt := 149) rfl rfl (fun c8 => ?_) (fun c8 => ?_)
        · replace hf := ineg c8 hf
          refine V_iinc C (v := (x31.2.1 + 1)) (L' := [(0, .ref (ad 0)), (1, .int p1), (2, .int p2), (3, .int x31.1), (4, .int v4), (5, .int (x31.2.1 + 1)), (6, .int q2)]) 5 dX9_shortestByBridge_149 rfl rfl rfl (by decide) hnL [1, 2, 3, 4, 5, 0, 6] rfl ?_
          refine V_goto C dX9_shortestByBridge_152 (tgt := 31) rfl ?_
          refine V_sub (L' := [(0, .ref (ad 0)), (1, .int p1), (2, .int p2), (3, .int x31.1), (4, .int v4), (5, .int (x31.2.1 + 1))]) [0, 1, 2, 3, 4, 5] rfl ?_
          exact ih31 (x31.1, (x31.2.1 + 1), x31.2.2) hf
        · replace hf := ipos c8 hf
          refine V_aload_n C 0 dX9_shortestByBridge_77 rfl rfl rfl ?_
          refine V_getR C cf9 rfl 2 rfl (by decide) w363 rfl dX9_shortestByBridge_78 rfl ?_
          refine V_getR C cf2 (sF isF65) 3 rfl (by decide) w256 rfl dX9_shortestByBridge_81 rfl ?_
          refine V_iload C 4 dX9_shortestByBridge_84 rfl rfl ?_
          refine V_iload C 5 dX9_shortestByBridge_86 rfl rfl ?_
          refine V_iload C 6 dX9_shortestByBridge_88 rfl rfl ?_
          refine V_iconst C dX9_shortestByBridge_90 rfl (v := 0) rfl ?_
          obtain ⟨q4, hq4, hf⟩ := obd hf
          refine V_cVv C (b := (65 + 4)) (As := [.int v4, .int x31.2.1, .int q2, .int 0]) (st := []) cf8 (sW (wF isF65)) M_X8_lay w455 ⟨by decide, by decide⟩ rfl rfl (Nat.le_of_ble_eq_true rfl) dX9_shortestByBridge_91 rfl (kX8_lay (wF isF65) hq4) ?_
          refine V_aload_n C 0 dX9_shortestByBridge_94 rfl rfl rfl ?_
          refine V_getR C cf9 rfl 2 rfl (by decide) w363 rfl dX9_shortestByBridge_95 rfl ?_
          refine V_getR C cf2 (sF isF65) 3 rfl (by decide) w256 rfl dX9_shortestByBridge_98 rfl ?_
          obtain ⟨q5, hq5, hf⟩ := obd hf
          refine V_cVv C (b := (65 + 4)) (As := []) (st := []) cf8 (sW (wF isF65)) M_X8_measure w459 ⟨by decide, by decide⟩ rfl rfl (Nat.le_of_ble_eq_true rfl) dX9_shortestByBridge_101 rfl (kX8_measure (wF isF65) hq5) ?_
          refine V_iload_n C 3 dX9_shortestByBridge_104 rfl rfl rfl ?_
          refine V_aload_n C 0 dX9_shortestByBridge_105 rfl rfl rfl ?_
          refine V_aload_n C 0 dX9_shortestByBridge_106 rfl rfl rfl ?_
          refine V_getR C cf9 rfl 2 rfl (by decide) w363 rfl dX9_shortestByBridge_107 rfl ?_
          refine V_iload_n C 1 dX9_shortestByBridge_110 rfl rfl rfl ?_
          refine V_iload_n C 2 dX9_shortestByBridge_111 rfl rfl rfl ?_
          obtain ⟨q6, hq6, hf⟩ := obd hf
          refine V_cVi C (b := 0) (As := [.ref (ad 65), .int p1, .int p2]) (st := [.int x31.1]) cf9 rfl M_X9_yardsOfRound w627 ⟨by decide, by decide⟩ rfl rfl (Nat.le_of_ble_eq_true rfl) dX9_shortestByBridge_112 rfl (kX9_yardsOfRound isF65 hq6) ?_
          refine V_sipush C dX9_shortestByBridge_115 rfl (v := 256) rfl ?_
          refine V_imul C dX9_shortestByBridge_118 rfl ?_
          refine V_bipush C dX9_shortestByBridge_119 rfl (v := 10) rfl ?_
          refine V_iload C 4 dX9_shortestByBridge_121 rfl rfl ?_
          refine V_imul C dX9_shortestByBridge_123 rfl ?_
          refine V_iadd C dX9_shortestByBridge_124 rfl ?_
          refine V_iload C 5 dX9_shortestByBridge_125 rfl rfl ?_
          refine V_iadd C dX9_shortestByBridge_127 rfl ?_
          refine V_mmin C w702 ⟨by decide, by decide⟩ (Nat.le_of_ble_eq_true rfl) dX9_shortestByBridge_128 rfl ?_
          refine V_istore_n C (L' := [(0, .ref (ad 0)), (1, .int p1), (2, .int p2), (3, .int (jmin x31.1 (((q6.1 * 256) + (10 * v4)) + x31.2.1))), (4, .int v4), (5, .int x31.2.1), (6, .int q2)]) dX9_shortestByBridge_131 rfl rfl (by decide) hnL [1, 2, 3, 0, 4, 5, 6] rfl ?_
          refine V_aload_n C 0 dX9_shortestByBridge_132 rfl rfl rfl ?_
          refine V_getR C cf9 rfl 2 rfl (by decide) w363 rfl dX9_shortestByBridge_133 rfl ?_
          refine V_getR C cf2 (sF isF65) 3 rfl (by decide) w256 rfl dX9_shortestByBridge_136 rfl ?_
          refine V_iload C 4 dX9_shortestByBridge_139 rfl rfl ?_
          refine V_iload C 5 dX9_shortestByBridge_141 rfl rfl ?_
          refine V_iload C 6 dX9_shortestByBridge_143 rfl rfl ?_
          refine V_iconst C dX9_shortestByBridge_145 rfl (v := 1) rfl ?_
          obtain ⟨q7, hq7, hf⟩ := obd hf
          refine V_cVv C (b := (65 + 4)) (As := [.int v4, .int x31.2.1, .int q2, .int 1]) (st := []) cf8 (sW (wF isF65)) M_X8_lay w455 ⟨by decide, by decide⟩ rfl rfl (Nat.le_of_ble_eq_true rfl) dX9_shortestByBridge_146 rfl (kX8_lay (wF isF65) hq7) ?_
          refine V_iinc C (v := (x31.2.1 + 1)) (L' := [(0, .ref (ad 0)), (1, .int p1), (2, .int p2), (3, .int (jmin x31.1 (((q6.1 * 256) + (10 * v4)) + x31.2.1))), (4, .int v4), (5, .int (x31.2.1 + 1)), (6, .int q2)]) 5 dX9_shortestByBridge_149 rfl rfl rfl (by decide) hnL [1, 2, 3, 4, 5, 0, 6] rfl ?_
          refine V_goto C dX9_shortestByBridge_152 (tgt := 31) rfl ?_
          refine V_sub (L' := [(0, .ref (ad 0)), (1, .int p1), (2, .int p2), (3, .int (jmin x31.1 (((q6.1 * 256) + (10 * v4)) + x31.2.1))), (4, .int v4), (5, .int (x31.2.1 + 1))]) [0, 1, 2, 3, 4, 5] rfl ?_
          exact ih31 ((jmin x31.1 (((q6.1 * 256) + (10 * v4)) + x31.2.1)), (x31.2.1 + 1), q7) hf
  have Lp18 : ∀ (x0 : (Int32 × Int32 × Mem)) (q18 : (Int32 × Int32 × Mem)), lp (BX9_shortestByBridge_18 p1 p2) FU x0 = some q18 → V shs ad G X 161 [(0, .ref (ad 0)), (1, .int p1), (2, .int p2), (3, .int q18.1), (4, .int q18.2.1)] [] q18.2.2 → V shs ad G X 18 [(0, .ref (ad 0)), (1, .int p1), (2, .int p2), (3, .int x0.1), (4, .int x0.2.1)] [] x0.2.2 := by
    intro  x0 q18 hq hx18_0
    refine lp_V (BX9_shortestByBridge_18 p1 p2) (fun x18 => V shs ad G X 18 [(0, .ref (ad 0)), (1, .int p1), (2, .int p2), (3, .int x18.1), (4, .int x18.2.1)] [] x18.2.2) q18 (fun rec18 ih18 x18 hf => ?_) FU x0 hq
    unfold BX9_shortestByBridge_18 at hf
    refine V_iload C 4 dX9_shortestByBridge_18 rfl rfl ?_
    refine V_bipush C dX9_shortestByBridge_20 rfl (v := 7) rfl ?_
    refine V_icmp_ge C dX9_shortestByBridge_22 (tgt := 161) rfl rfl (fun c12 => ?_) (fun c12 => ?_)
    · replace hf := ipos c12 hf
      obtain rfl := Option.some.inj hf
      exact hx18_0
    · replace hf := ineg c12 hf
      refine V_iload C 4 dX9_shortestByBridge_25 rfl rfl ?_
      refine V_iconst C dX9_shortestByBridge_27 rfl (v := 1) rfl ?_
      refine V_iadd C dX9_shortestByBridge_28 rfl ?_
      refine V_istore C (L' := [(0, .ref (ad 0)), (1, .int p1), (2, .int p2), (3, .int x18.1), (4, .int x18.2.1), (5, .int (x18.2.1 + 1))]) dX9_shortestByBridge_29 rfl (by decide) hnL [1, 2, 3, 4, 5, 0] rfl ?_
      obtain ⟨q31_11, hq31_11, hf⟩ := obd hf
      refine Lp31 x18.2.1 (x18.1, (x18.2.1 + 1), x18.2.2) q31_11 hq31_11 ?_
      refine V_iinc C (v := (x18.2.1 + 1)) (L' := [(0, .ref (ad 0)), (1, .int p1), (2, .int p2), (3, .int q31_11.1), (4, .int (x18.2.1 + 1)), (5, .int q31_11.2.1)]) 4 dX9_shortestByBridge_155 rfl rfl rfl (by decide) hnL [1, 2, 3, 4, 0, 5] rfl ?_
      refine V_goto C dX9_shortestByBridge_158 (tgt := 18) rfl ?_
      refine V_sub (L' := [(0, .ref (ad 0)), (1, .int p1), (2, .int p2), (3, .int q31_11.1), (4, .int (x18.2.1 + 1))]) [0, 1, 2, 3, 4] rfl ?_
      exact ih18 (q31_11.1, (x18.2.1 + 1), q31_11.2.2) hf
  refine V_aload_n C 0 dX9_shortestByBridge_0 rfl rfl rfl ?_
  refine V_getR C cf9 rfl 2 rfl (by decide) w363 rfl dX9_shortestByBridge_1 rfl ?_
  refine V_aload_n C 0 dX9_shortestByBridge_4 rfl rfl rfl ?_
  refine V_getR C cf9 rfl 0 rfl (by decide) w361 rfl dX9_shortestByBridge_5 rfl ?_
  obtain ⟨q1, hq1, hf⟩ := obd hf
  refine V_cVv C (b := 65) (As := [.ref (ad 1)]) (st := []) cf2 (sF isF65) M_X2_become w761 ⟨by decide, by decide⟩ rfl rfl (Nat.le_of_ble_eq_true rfl) dX9_shortestByBridge_8 rfl (kX2_become isF65 isF1 hq1) ?_
  refine V_ldcw C dX9_shortestByBridge_11 rfl w696 ?_
  refine V_istore_n C (L' := [(0, .ref (ad 0)), (1, .int p1), (2, .int p2), (3, .int 256000000)]) dX9_shortestByBridge_14 rfl rfl (by decide) hnL [1, 2, 3, 0] rfl ?_
  refine V_iconst C dX9_shortestByBridge_15 rfl (v := 0) rfl ?_
  refine V_istore C (L' := [(0, .ref (ad 0)), (1, .int p1), (2, .int p2), (3, .int 256000000), (4, .int 0)]) dX9_shortestByBridge_16 rfl (by decide) hnL [1, 2, 3, 4, 0] rfl ?_
  obtain ⟨q18_13, hq18_13, hf⟩ := obd hf
  refine Lp18  (256000000, 0, q1) q18_13 hq18_13 ?_
  refine V_iload_n C 3 dX9_shortestByBridge_161 rfl rfl rfl ?_
  obtain rfl := Option.some.inj hf
  exact K _ _ _ dX9_shortestByBridge_162 rfl rfl
set_option maxHeartbeats 4000000 in
set_option maxRecDepth 100000 in
theorem kX9_bridge {ad : Nat → Nat} {G : Gh} {p1 : Int32} {p2 : Int32} {u : Mem} {q : Int32 × Mem} (hf : FX9_bridge p1 p2 u = some q) : Ct shs ad G yX9_bridge cX9_bridge 4 (some .int) 6 152 [.ref (ad 0), .int p1, .int p2] u (some (.int q.1)) q.2 := by
  refine Ct_ofI (by decide) (Nat.le_of_ble_eq_true rfl) (fun X C hnL K => ?_)
  have C : Cx ad G X cX9_bridge "CarryFair" 6 152 := C
  unfold FX9_bridge at hf
  refine V_aload_n C 0 dX9_bridge_0 rfl rfl rfl ?_
  refine V_iload_n C 1 dX9_bridge_1 rfl rfl rfl ?_
  refine V_iload_n C 2 dX9_bridge_2 rfl rfl rfl ?_
  obtain ⟨q1, hq1, hf⟩ := obd hf
  refine V_cVi C (b := 0) (As := [.int p1, .int p2]) (st := []) cf9 rfl M_X9_roundLack w604 ⟨by decide, by decide⟩ rfl rfl (Nat.le_of_ble_eq_true rfl) dX9_bridge_3 rfl (kX9_roundLack hq1) ?_
  refine V_istore_n C (L' := [(0, .ref (ad 0)), (1, .int p1), (2, .int p2), (3, .int q1)]) dX9_bridge_6 rfl rfl (by decide) hnL [1, 2, 3, 0] rfl ?_
  refine V_iload_n C 3 dX9_bridge_7 rfl rfl rfl ?_
  refine V_if_eq C dX9_bridge_8 (tgt := 17) rfl rfl (fun c5 => ?_) (fun c5 => ?_)
  · replace hf := ipos c5 hf
    refine V_aload_n C 0 dX9_bridge_17 rfl rfl rfl ?_
    refine V_aload_n C 0 dX9_bridge_18 rfl rfl rfl ?_
    refine V_iload_n C 1 dX9_bridge_19 rfl rfl rfl ?_
    refine V_iload_n C 2 dX9_bridge_20 rfl rfl rfl ?_
    obtain ⟨q2, hq2, hf⟩ := obd hf
    refine V_cVi C (b := 0) (As := [.int p1, .int p2]) (st := [.ref (ad 0)]) cf9 rfl M_X9_shortestByBridge w757 ⟨by decide, by decide⟩ rfl rfl (Nat.le_of_ble_eq_true rfl) dX9_bridge_21 rfl (kX9_shortestByBridge hq2) ?_
    obtain ⟨q3, hq3, hf⟩ := obd hf
    refine V_cVi C (b := 0) (As := [.int q2.1]) (st := []) cf9 rfl M_X9_secondOrNone w707 ⟨by decide, by decide⟩ rfl rfl (Nat.le_of_ble_eq_true rfl) dX9_bridge_24 rfl (kX9_secondOrNone hq3) ?_
    obtain rfl := Option.some.inj hf
    exact K _ _ _ dX9_bridge_27 rfl rfl
  · replace hf := ineg c5 hf
    refine V_aload_n C 0 dX9_bridge_11 rfl rfl rfl ?_
    refine V_iload_n C 3 dX9_bridge_12 rfl rfl rfl ?_
    obtain ⟨q4, hq4, hf⟩ := obd hf
    refine V_cVi C (b := 0) (As := [.int q1]) (st := []) cf9 rfl M_X9_finding w397 ⟨by decide, by decide⟩ rfl rfl (Nat.le_of_ble_eq_true rfl) dX9_bridge_13 rfl (kX9_finding hq4) ?_
    obtain rfl := Option.some.inj hf
    exact K _ _ _ dX9_bridge_16 rfl rfl
