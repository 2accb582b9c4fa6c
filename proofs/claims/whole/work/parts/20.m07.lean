set_option maxHeartbeats 4000000 in
set_option maxRecDepth 100000 in
theorem kX10_wayOf {ad : Nat → Nat} {G : Gh} {p1 : Int32} {p2 : Int32} {p3 : Int32} {u : Mem} {q : Int32 × Mem} (hf : FX10_wayOf p1 p2 p3 u = some q) : Ct shs ad G yX10_wayOf cX10_wayOf 5 (some .int) 2 44 [.ref (ad 116), .int p1, .int p2, .int p3] u (some (.int q.1)) q.2 := by
  refine Ct_ofI (by decide) (Nat.le_of_ble_eq_true rfl) (fun X C hnL K => ?_)
  have C : Cx ad G X cX10_wayOf "CarryFairModel" 2 44 := C
  unfold FX10_wayOf at hf
  refine V_iload_n C 1 dX10_wayOf_0 rfl rfl rfl ?_
  refine V_cSi C (As := [.int p1]) (st := []) M_X10_isPlace w1240 ⟨by decide, by decide⟩ rfl rfl (Nat.le_of_ble_eq_true rfl) dX10_wayOf_1 rfl (kX10_isPlace rfl) ?_
  refine V_if_eq C dX10_wayOf_4 (tgt := 32) rfl rfl (fun c9 => ?_) (fun c9 => ?_)
  · replace hf := ipos c9 hf
    refine V_iconst C dX10_wayOf_32 rfl (v := 0) rfl ?_
    refine V_istore C (L' := [(0, .ref (ad 116)), (1, .int p1), (2, .int p2), (3, .int p3), (4, .int 0)]) dX10_wayOf_33 rfl (by decide) hnL [1, 2, 3, 4, 0] rfl ?_
    refine V_iload C 4 dX10_wayOf_35 rfl rfl ?_
    refine V_if_eq C dX10_wayOf_37 (tgt := 55) rfl rfl (fun _ => ?_) (fun z => absurd (by decide) z)
    refine V_aload_n C 0 dX10_wayOf_55 rfl rfl rfl ?_
    refine V_ldc C dX10_wayOf_56 rfl w1183 ?_
    obtain ⟨q1, hq1, hf⟩ := obd hf
    refine V_cVi C (b := 116) (As := [.int (-1000001)]) (st := []) cf10 rfl M_X10_finding w1184 ⟨by decide, by decide⟩ rfl rfl (Nat.le_of_ble_eq_true rfl) dX10_wayOf_58 rfl (kX10_finding hq1) ?_
    obtain rfl := Option.some.inj hf
    exact K _ _ _ dX10_wayOf_61 rfl rfl
  · replace hf := ineg c9 hf
    refine V_iload_n C 2 dX10_wayOf_7 rfl rfl rfl ?_
    refine V_cSi C (As := [.int p2]) (st := []) M_X10_isPlace w1240 ⟨by decide, by decide⟩ rfl rfl (Nat.le_of_ble_eq_true rfl) dX10_wayOf_8 rfl (kX10_isPlace rfl) ?_
    refine V_if_eq C dX10_wayOf_11 (tgt := 32) rfl rfl (fun c8 => ?_) (fun c8 => ?_)
    · replace hf := ipos c8 hf
      refine V_iconst C dX10_wayOf_32 rfl (v := 0) rfl ?_
      refine V_istore C (L' := [(0, .ref (ad 116)), (1, .int p1), (2, .int p2), (3, .int p3), (4, .int 0)]) dX10_wayOf_33 rfl (by decide) hnL [1, 2, 3, 4, 0] rfl ?_
      refine V_iload C 4 dX10_wayOf_35 rfl rfl ?_
      refine V_if_eq C dX10_wayOf_37 (tgt := 55) rfl rfl (fun _ => ?_) (fun z => absurd (by decide) z)
      refine V_aload_n C 0 dX10_wayOf_55 rfl rfl rfl ?_
      refine V_ldc C dX10_wayOf_56 rfl w1183 ?_
      obtain ⟨q2, hq2, hf⟩ := obd hf
      refine V_cVi C (b := 116) (As := [.int (-1000001)]) (st := []) cf10 rfl M_X10_finding w1184 ⟨by decide, by decide⟩ rfl rfl (Nat.le_of_ble_eq_true rfl) dX10_wayOf_58 rfl (kX10_finding hq2) ?_
      obtain rfl := Option.some.inj hf
      exact K _ _ _ dX10_wayOf_61 rfl rfl
    · replace hf := ineg c8 hf
      refine V_iload_n C 1 dX10_wayOf_14 rfl rfl rfl ?_
      refine V_iload_n C 2 dX10_wayOf_15 rfl rfl rfl ?_
      refine V_icmp_eq C dX10_wayOf_16 (tgt := 32) rfl rfl (fun c7 => ?_) (fun c7 => ?_)
      · replace hf := ipos c7 hf
        refine V_iconst C dX10_wayOf_32 rfl (v := 0) rfl ?_
        refine V_istore C (L' := [(0, .ref (ad 116)), (1, .int p1), (2, .int p2), (3, .int p3), (4, .int 0)]) dX10_wayOf_33 rfl (by decide) hnL [1, 2, 3, 4, 0] rfl ?_
        refine V_iload C 4 dX10_wayOf_35 rfl rfl ?_
        refine V_if_eq C dX10_wayOf_37 (tgt := 55) rfl rfl (fun _ => ?_) (fun z => absurd (by decide) z)
        refine V_aload_n C 0 dX10_wayOf_55 rfl rfl rfl ?_
        refine V_ldc C dX10_wayOf_56 rfl w1183 ?_
        obtain ⟨q3, hq3, hf⟩ := obd hf
        refine V_cVi C (b := 116) (As := [.int (-1000001)]) (st := []) cf10 rfl M_X10_finding w1184 ⟨by decide, by decide⟩ rfl rfl (Nat.le_of_ble_eq_true rfl) dX10_wayOf_58 rfl (kX10_finding hq3) ?_
        obtain rfl := Option.some.inj hf
        exact K _ _ _ dX10_wayOf_61 rfl rfl
      · replace hf := ineg c7 hf
        refine V_iload_n C 3 dX10_wayOf_19 rfl rfl rfl ?_
        refine V_iconst C dX10_wayOf_20 rfl (v := 0) rfl ?_
        refine V_iconst C dX10_wayOf_21 rfl (v := 1) rfl ?_
        refine V_cSi C (As := [.int p3, .int 0, .int 1]) (st := []) M_X10_within w1180 ⟨by decide, by decide⟩ rfl rfl (Nat.le_of_ble_eq_true rfl) dX10_wayOf_22 rfl (kX10_within rfl) ?_
        refine V_if_eq C dX10_wayOf_25 (tgt := 32) rfl rfl (fun c6 => ?_) (fun c6 => ?_)
        · replace hf := ipos c6 hf
          refine V_iconst C dX10_wayOf_32 rfl (v := 0) rfl ?_
          refine V_istore C (L' := [(0, .ref (ad 116)), (1, .int p1), (2, .int p2), (3, .int p3), (4, .int 0)]) dX10_wayOf_33 rfl (by decide) hnL [1, 2, 3, 4, 0] rfl ?_
          refine V_iload C 4 dX10_wayOf_35 rfl rfl ?_
          refine V_if_eq C dX10_wayOf_37 (tgt := 55) rfl rfl (fun _ => ?_) (fun z => absurd (by decide) z)
          refine V_aload_n C 0 dX10_wayOf_55 rfl rfl rfl ?_
          refine V_ldc C dX10_wayOf_56 rfl w1183 ?_
          obtain ⟨q4, hq4, hf⟩ := obd hf
          refine V_cVi C (b := 116) (As := [.int (-1000001)]) (st := []) cf10 rfl M_X10_finding w1184 ⟨by decide, by decide⟩ rfl rfl (Nat.le_of_ble_eq_true rfl) dX10_wayOf_58 rfl (kX10_finding hq4) ?_
          obtain rfl := Option.some.inj hf
          exact K _ _ _ dX10_wayOf_61 rfl rfl
        · replace hf := ineg c6 hf
          refine V_iconst C dX10_wayOf_28 rfl (v := 1) rfl ?_
          refine V_goto C dX10_wayOf_29 (tgt := 33) rfl ?_
          refine V_istore C (L' := [(0, .ref (ad 116)), (1, .int p1), (2, .int p2), (3, .int p3), (4, .int 1)]) dX10_wayOf_33 rfl (by decide) hnL [1, 2, 3, 4, 0] rfl ?_
          refine V_iload C 4 dX10_wayOf_35 rfl rfl ?_
          refine V_if_eq C dX10_wayOf_37 (tgt := 55) rfl rfl (fun z => absurd z (by decide)) (fun _ => ?_)
          refine V_aload_n C 0 dX10_wayOf_40 rfl rfl rfl ?_
          refine V_getR C cf10 rfl 0 rfl (by decide) w1082 rfl dX10_wayOf_41 rfl ?_
          refine V_iload_n C 1 dX10_wayOf_44 rfl rfl rfl ?_
          refine V_iload_n C 2 dX10_wayOf_45 rfl rfl rfl ?_
          refine V_cSi C (As := [.int p1, .int p2]) (st := [.ref (ad 117)]) M_X10_wayAt w1256 ⟨by decide, by decide⟩ rfl rfl (Nat.le_of_ble_eq_true rfl) dX10_wayOf_46 rfl (kX10_wayAt rfl) ?_
          refine V_iload_n C 3 dX10_wayOf_49 rfl rfl rfl ?_
          refine V_iadd C dX10_wayOf_50 rfl ?_
          obtain ⟨g5, hf⟩ := gd hf
          refine V_ildJ C rfl g5 rfl dX10_wayOf_51 rfl ?_
          refine V_goto C dX10_wayOf_52 (tgt := 61) rfl ?_
          obtain rfl := Option.some.inj hf
          exact K _ _ _ dX10_wayOf_61 rfl rfl
set_option maxHeartbeats 4000000 in
set_option maxRecDepth 100000 in
theorem kX10_newErrand {ad : Nat → Nat} {G : Gh} {p1 : Int32} {p2 : Int32} {p3 : Int32} {u : Mem} {q : Int32 × Mem} (hf : FX10_newErrand p1 p2 p3 u = some q) : Ct shs ad G yX10_newErrand cX10_newErrand 5 (some .int) 1 21 [.ref (ad 116), .int p1, .int p2, .int p3] u (some (.int q.1)) q.2 := by
  refine Ct_ofI (by decide) (Nat.le_of_ble_eq_true rfl) (fun X C hnL K => ?_)
  have C : Cx ad G X cX10_newErrand "CarryFairModel" 1 21 := C
  unfold FX10_newErrand at hf
  refine V_aload_n C 0 dX10_newErrand_0 rfl rfl rfl ?_
  refine V_getR C cf10 rfl 0 rfl (by decide) w1082 rfl dX10_newErrand_1 rfl ?_
  refine V_bipush C dX10_newErrand_4 rfl (v := 43) rfl ?_
  refine V_ildJ C rfl (by decide) (j := 43) (by decide) dX10_newErrand_6 rfl ?_
  refine V_istore C (L' := [(0, .ref (ad 116)), (1, .int p1), (2, .int p2), (3, .int p3), (4, .int (u 117 43))]) dX10_newErrand_7 rfl (by decide) hnL [1, 2, 3, 4, 0] rfl ?_
  refine V_aload_n C 0 dX10_newErrand_9 rfl rfl rfl ?_
  refine V_getR C cf10 rfl 0 rfl (by decide) w1082 rfl dX10_newErrand_10 rfl ?_
  refine V_iload C 4 dX10_newErrand_13 rfl rfl ?_
  refine V_iconst C dX10_newErrand_15 rfl (v := 0) rfl ?_
  refine V_cSi C (As := [.int (u 117 43), .int 0]) (st := [.ref (ad 117)]) M_X10_eAt w1226 ⟨by decide, by decide⟩ rfl rfl (Nat.le_of_ble_eq_true rfl) dX10_newErrand_16 rfl (kX10_eAt rfl) ?_
  refine V_iload_n C 1 dX10_newErrand_19 rfl rfl rfl ?_
  obtain ⟨g1, hf⟩ := gd hf
  refine V_istJ C rfl g1 rfl dX10_newErrand_20 rfl ?_
  refine V_aload_n C 0 dX10_newErrand_21 rfl rfl rfl ?_
  refine V_getR C cf10 rfl 0 rfl (by decide) w1082 rfl dX10_newErrand_22 rfl ?_
  refine V_iload C 4 dX10_newErrand_25 rfl rfl ?_
  refine V_iconst C dX10_newErrand_27 rfl (v := 1) rfl ?_
  refine V_cSi C (As := [.int (u 117 43), .int 1]) (st := [.ref (ad 117)]) M_X10_eAt w1226 ⟨by decide, by decide⟩ rfl rfl (Nat.le_of_ble_eq_true rfl) dX10_newErrand_28 rfl (kX10_eAt rfl) ?_
  refine V_iload_n C 2 dX10_newErrand_31 rfl rfl rfl ?_
  obtain ⟨g2, hf⟩ := gd hf
  refine V_istJ C rfl g2 rfl dX10_newErrand_32 rfl ?_
  refine V_aload_n C 0 dX10_newErrand_33 rfl rfl rfl ?_
  refine V_getR C cf10 rfl 0 rfl (by decide) w1082 rfl dX10_newErrand_34 rfl ?_
  refine V_iload C 4 dX10_newErrand_37 rfl rfl ?_
  refine V_iconst C dX10_newErrand_39 rfl (v := 2) rfl ?_
  refine V_cSi C (As := [.int (u 117 43), .int 2]) (st := [.ref (ad 117)]) M_X10_eAt w1226 ⟨by decide, by decide⟩ rfl rfl (Nat.le_of_ble_eq_true rfl) dX10_newErrand_40 rfl (kX10_eAt rfl) ?_
  refine V_iload_n C 3 dX10_newErrand_43 rfl rfl rfl ?_
  obtain ⟨g3, hf⟩ := gd hf
  refine V_istJ C rfl g3 rfl dX10_newErrand_44 rfl ?_
  obtain ⟨w4, ew4, hf⟩ := nmd hf
  rw [← ew4]
  refine V_aload_n C 0 dX10_newErrand_45 rfl rfl rfl ?_
  refine V_getR C cf10 rfl 0 rfl (by decide) w1082 rfl dX10_newErrand_46 rfl ?_
  refine V_iload C 4 dX10_newErrand_49 rfl rfl ?_
  refine V_iconst C dX10_newErrand_51 rfl (v := 3) rfl ?_
  refine V_cSi C (As := [.int (u 117 43), .int 3]) (st := [.ref (ad 117)]) M_X10_eAt w1226 ⟨by decide, by decide⟩ rfl rfl (Nat.le_of_ble_eq_true rfl) dX10_newErrand_52 rfl (kX10_eAt rfl) ?_
  refine V_iconst C dX10_newErrand_55 rfl (v := 0) rfl ?_
  obtain ⟨g5, hf⟩ := gd hf
  refine V_istJ C rfl g5 rfl dX10_newErrand_56 rfl ?_
  refine V_aload_n C 0 dX10_newErrand_57 rfl rfl rfl ?_
  refine V_getR C cf10 rfl 0 rfl (by decide) w1082 rfl dX10_newErrand_58 rfl ?_
  refine V_iload C 4 dX10_newErrand_61 rfl rfl ?_
  refine V_iconst C dX10_newErrand_63 rfl (v := 4) rfl ?_
  refine V_cSi C (As := [.int (u 117 43), .int 4]) (st := [.ref (ad 117)]) M_X10_eAt w1226 ⟨by decide, by decide⟩ rfl rfl (Nat.le_of_ble_eq_true rfl) dX10_newErrand_64 rfl (kX10_eAt rfl) ?_
  refine V_iconst C dX10_newErrand_67 rfl (v := (-1)) (by decide) ?_
  obtain ⟨g6, hf⟩ := gd hf
  refine V_istJ C rfl g6 rfl dX10_newErrand_68 rfl ?_
  refine V_aload_n C 0 dX10_newErrand_69 rfl rfl rfl ?_
  refine V_getR C cf10 rfl 0 rfl (by decide) w1082 rfl dX10_newErrand_70 rfl ?_
  refine V_bipush C dX10_newErrand_73 rfl (v := 43) rfl ?_
  refine V_dup2 C dX10_newErrand_75 rfl rfl rfl ?_
  refine V_ildJ C rfl (by decide) (j := 43) (by decide) dX10_newErrand_76 rfl ?_
  refine V_iconst C dX10_newErrand_77 rfl (v := 1) rfl ?_
  refine V_iadd C dX10_newErrand_78 rfl ?_
  refine V_istJ C rfl (by decide) (j := 43) (by decide) dX10_newErrand_79 rfl ?_
  obtain ⟨w7, ew7, hf⟩ := nmd hf
  rw [← ew7]
  refine V_iload C 4 dX10_newErrand_80 rfl rfl ?_
  obtain rfl := Option.some.inj hf
  exact K _ _ _ dX10_newErrand_82 rfl rfl
set_option maxHeartbeats 4000000 in
set_option maxRecDepth 100000 in
theorem kX10_errand {ad : Nat → Nat} {G : Gh} {p1 : Int32} {p2 : Int32} {p3 : Int32} {u : Mem} {q : Int32 × Mem} (hf : FX10_errand p1 p2 p3 u = some q) : Ct shs ad G yX10_errand cX10_errand 4 (some .int) 2 45 [.ref (ad 116), .int p1, .int p2, .int p3] u (some (.int q.1)) q.2 := by
  refine Ct_ofI (by decide) (Nat.le_of_ble_eq_true rfl) (fun X C hnL K => ?_)
  have C : Cx ad G X cX10_errand "CarryFairModel" 2 45 := C
  unfold FX10_errand at hf
  refine V_iload_n C 1 dX10_errand_0 rfl rfl rfl ?_
  refine V_iconst C dX10_errand_1 rfl (v := 1) rfl ?_
  refine V_bipush C dX10_errand_2 rfl (v := 60) rfl ?_
  refine V_cSi C (As := [.int p1, .int 1, .int 60]) (st := []) M_X10_within w1180 ⟨by decide, by decide⟩ rfl rfl (Nat.le_of_ble_eq_true rfl) dX10_errand_4 rfl (kX10_within rfl) ?_
  refine V_if_eq C dX10_errand_7 (tgt := 29) rfl rfl (fun c11 => ?_) (fun c11 => ?_)
  · replace hf := ipos c11 hf
    refine V_aload_n C 0 dX10_errand_29 rfl rfl rfl ?_
    refine V_ldc C dX10_errand_30 rfl w1183 ?_
    obtain ⟨q1, hq1, hf⟩ := obd hf
    refine V_cVi C (b := 116) (As := [.int (-1000001)]) (st := []) cf10 rfl M_X10_finding w1184 ⟨by decide, by decide⟩ rfl rfl (Nat.le_of_ble_eq_true rfl) dX10_errand_32 rfl (kX10_finding hq1) ?_
    obtain rfl := Option.some.inj hf
    exact K _ _ _ dX10_errand_35 rfl rfl
  · replace hf := ineg c11 hf
    refine V_iload_n C 2 dX10_errand_10 rfl rfl rfl ?_
    refine V_cSi C (As := [.int p2]) (st := []) M_X10_isPlace w1240 ⟨by decide, by decide⟩ rfl rfl (Nat.le_of_ble_eq_true rfl) dX10_errand_11 rfl (kX10_isPlace rfl) ?_
    refine V_if_eq C dX10_errand_14 (tgt := 29) rfl rfl (fun c10 => ?_) (fun c10 => ?_)
    · replace hf := ipos c10 hf
      refine V_aload_n C 0 dX10_errand_29 rfl rfl rfl ?_
      refine V_ldc C dX10_errand_30 rfl w1183 ?_
      obtain ⟨q2, hq2, hf⟩ := obd hf
      refine V_cVi C (b := 116) (As := [.int (-1000001)]) (st := []) cf10 rfl M_X10_finding w1184 ⟨by decide, by decide⟩ rfl rfl (Nat.le_of_ble_eq_true rfl) dX10_errand_32 rfl (kX10_finding hq2) ?_
      obtain rfl := Option.some.inj hf
      exact K _ _ _ dX10_errand_35 rfl rfl
    · replace hf := ineg c10 hf
      refine V_iload_n C 3 dX10_errand_17 rfl rfl rfl ?_
      refine V_cSi C (As := [.int p3]) (st := []) M_X10_isPlace w1240 ⟨by decide, by decide⟩ rfl rfl (Nat.le_of_ble_eq_true rfl) dX10_errand_18 rfl (kX10_isPlace rfl) ?_
      refine V_if_eq C dX10_errand_21 (tgt := 29) rfl rfl (fun c9 => ?_) (fun c9 => ?_)
      · replace hf := ipos c9 hf
        refine V_aload_n C 0 dX10_errand_29 rfl rfl rfl ?_
        refine V_ldc C dX10_errand_30 rfl w1183 ?_
        obtain ⟨q3, hq3, hf⟩ := obd hf
        refine V_cVi C (b := 116) (As := [.int (-1000001)]) (st := []) cf10 rfl M_X10_finding w1184 ⟨by decide, by decide⟩ rfl rfl (Nat.le_of_ble_eq_true rfl) dX10_errand_32 rfl (kX10_finding hq3) ?_
        obtain rfl := Option.some.inj hf
        exact K _ _ _ dX10_errand_35 rfl rfl
      · replace hf := ineg c9 hf
        refine V_iload_n C 2 dX10_errand_24 rfl rfl rfl ?_
        refine V_iload_n C 3 dX10_errand_25 rfl rfl rfl ?_
        refine V_icmp_ne C dX10_errand_26 (tgt := 36) rfl rfl (fun c8 => ?_) (fun c8 => ?_)
        · replace hf := ineg c8 hf
          refine V_aload_n C 0 dX10_errand_36 rfl rfl rfl ?_
          refine V_getR C cf10 rfl 0 rfl (by decide) w1082 rfl dX10_errand_37 rfl ?_
          refine V_bipush C dX10_errand_40 rfl (v := 43) rfl ?_
          refine V_ildJ C rfl (by decide) (j := 43) (by decide) dX10_errand_42 rfl ?_
          refine V_bipush C dX10_errand_43 rfl (v := 8) rfl ?_
          refine V_icmp_ne C dX10_errand_45 (tgt := 57) rfl rfl (fun c6 => ?_) (fun c6 => ?_)
          · replace hf := ineg c6 hf
            refine V_aload_n C 0 dX10_errand_57 rfl rfl rfl ?_
            refine V_iload_n C 1 dX10_errand_58 rfl rfl rfl ?_
            refine V_iload_n C 2 dX10_errand_59 rfl rfl rfl ?_
            refine V_iload_n C 3 dX10_errand_60 rfl rfl rfl ?_
            obtain ⟨q4, hq4, hf⟩ := obd hf
            refine V_cVi C (b := 116) (As := [.int p1, .int p2, .int p3]) (st := []) cf10 rfl M_X10_newErrand w1269 ⟨by decide, by decide⟩ rfl rfl (Nat.le_of_ble_eq_true rfl) dX10_errand_61 rfl (kX10_newErrand hq4) ?_
            obtain rfl := Option.some.inj hf
            exact K _ _ _ dX10_errand_64 rfl rfl
          · replace hf := ipos c6 hf
            refine V_aload_n C 0 dX10_errand_48 rfl rfl rfl ?_
            refine V_ldc C dX10_errand_49 rfl w1188 ?_
            obtain ⟨q5, hq5, hf⟩ := obd hf
            refine V_cVi C (b := 116) (As := [.int (-1000002)]) (st := []) cf10 rfl M_X10_finding w1184 ⟨by decide, by decide⟩ rfl rfl (Nat.le_of_ble_eq_true rfl) dX10_errand_51 rfl (kX10_finding hq5) ?_
            refine V_goto C dX10_errand_54 (tgt := 64) rfl ?_
            obtain rfl := Option.some.inj hf
            exact K _ _ _ dX10_errand_64 rfl rfl
        · replace hf := ipos c8 hf
          refine V_aload_n C 0 dX10_errand_29 rfl rfl rfl ?_
          refine V_ldc C dX10_errand_30 rfl w1183 ?_
          obtain ⟨q7, hq7, hf⟩ := obd hf
          refine V_cVi C (b := 116) (As := [.int (-1000001)]) (st := []) cf10 rfl M_X10_finding w1184 ⟨by decide, by decide⟩ rfl rfl (Nat.le_of_ble_eq_true rfl) dX10_errand_32 rfl (kX10_finding hq7) ?_
          obtain rfl := Option.some.inj hf
          exact K _ _ _ dX10_errand_35 rfl rfl
set_option maxHeartbeats 4000000 in
set_option maxRecDepth 100000 in
theorem kX10_counts {ad : Nat → Nat} {G : Gh} {p1 : Int32} {p2 : Int32} {p3 : Int32} {u : Mem} {q : Int32} (hf : FX10_counts p1 p2 p3 u = some q) : Ct shs ad G yX10_counts cX10_counts 6 (some .int) 2 44 [.ref (ad 116), .int p1, .int p2, .int p3] u (some (.int q)) u := by
  refine Ct_ofI (by decide) (Nat.le_of_ble_eq_true rfl) (fun X C hnL K => ?_)
  have C : Cx ad G X cX10_counts "CarryFairModel" 2 44 := C
  unfold FX10_counts at hf
  refine V_aload_n C 0 dX10_counts_0 rfl rfl rfl ?_
  refine V_getR C cf10 rfl 0 rfl (by decide) w1082 rfl dX10_counts_1 rfl ?_
  refine V_iload_n C 2 dX10_counts_4 rfl rfl rfl ?_
  refine V_iload_n C 3 dX10_counts_5 rfl rfl rfl ?_
  refine V_cSi C (As := [.int p2, .int p3]) (st := [.ref (ad 117)]) M_X10_wayAt w1256 ⟨by decide, by decide⟩ rfl rfl (Nat.le_of_ble_eq_true rfl) dX10_counts_6 rfl (kX10_wayAt rfl) ?_
  obtain ⟨g1, hf⟩ := gd hf
  refine V_ildJ C rfl g1 rfl dX10_counts_9 rfl ?_
  refine V_istore C (L' := [(0, .ref (ad 116)), (1, .int p1), (2, .int p2), (3, .int p3), (4, .int (u 117 (FX10_wayAt p2 p3).toNatClampNeg))]) dX10_counts_10 rfl (by decide) hnL [1, 2, 3, 4, 0] rfl ?_
  refine V_aload_n C 0 dX10_counts_12 rfl rfl rfl ?_
  refine V_getR C cf10 rfl 0 rfl (by decide) w1082 rfl dX10_counts_13 rfl ?_
  refine V_iload_n C 2 dX10_counts_16 rfl rfl rfl ?_
  refine V_iload_n C 3 dX10_counts_17 rfl rfl rfl ?_
  refine V_cSi C (As := [.int p2, .int p3]) (st := [.ref (ad 117)]) M_X10_wayAt w1256 ⟨by decide, by decide⟩ rfl rfl (Nat.le_of_ble_eq_true rfl) dX10_counts_18 rfl (kX10_wayAt rfl) ?_
  refine V_iconst C dX10_counts_21 rfl (v := 1) rfl ?_
  refine V_iadd C dX10_counts_22 rfl ?_
  obtain ⟨g2, hf⟩ := gd hf
  refine V_ildJ C rfl g2 rfl dX10_counts_23 rfl ?_
  refine V_iconst C dX10_counts_24 rfl (v := 1) rfl ?_
  refine V_icmp_ne C dX10_counts_25 (tgt := 32) rfl rfl (fun c5 => ?_) (fun c5 => ?_)
  · replace hf := ineg c5 hf
    refine V_iconst C dX10_counts_32 rfl (v := 0) rfl ?_
    refine V_istore C (L' := [(0, .ref (ad 116)), (1, .int p1), (2, .int p2), (3, .int p3), (4, .int (u 117 (FX10_wayAt p2 p3).toNatClampNeg)), (5, .int 0)]) dX10_counts_33 rfl (by decide) hnL [1, 2, 3, 4, 5, 0] rfl ?_
    refine V_iload C 5 dX10_counts_35 rfl rfl ?_
    refine V_if_eq C dX10_counts_37 (tgt := 45) rfl rfl (fun _ => ?_) (fun z => absurd (by decide) z)
    refine V_iload C 4 dX10_counts_45 rfl rfl ?_
    obtain rfl := Option.some.inj hf
    exact K _ _ _ dX10_counts_47 rfl rfl
  · replace hf := ipos c5 hf
    refine V_iconst C dX10_counts_28 rfl (v := 1) rfl ?_
    refine V_goto C dX10_counts_29 (tgt := 33) rfl ?_
    refine V_istore C (L' := [(0, .ref (ad 116)), (1, .int p1), (2, .int p2), (3, .int p3), (4, .int (u 117 (FX10_wayAt p2 p3).toNatClampNeg)), (5, .int 1)]) dX10_counts_33 rfl (by decide) hnL [1, 2, 3, 4, 5, 0] rfl ?_
    refine V_iload C 5 dX10_counts_35 rfl rfl ?_
    refine V_if_eq C dX10_counts_37 (tgt := 45) rfl rfl (fun z => absurd z (by decide)) (fun _ => ?_)
    refine V_iload_n C 1 dX10_counts_40 rfl rfl rfl ?_
    refine V_iconst C dX10_counts_41 rfl (v := 5) rfl ?_
    refine V_icmp_ne C dX10_counts_42 (tgt := 48) rfl rfl (fun c4 => ?_) (fun c4 => ?_)
    · replace hf := ineg c4 hf
      refine V_iload_n C 1 dX10_counts_48 rfl rfl rfl ?_
      refine V_bipush C dX10_counts_49 rfl (v := 6) rfl ?_
      refine V_icmp_ne C dX10_counts_51 (tgt := 65) rfl rfl (fun c3 => ?_) (fun c3 => ?_)
      · replace hf := ineg c3 hf
        refine V_iconst C dX10_counts_65 rfl (v := 2) rfl ?_
        refine V_iload C 4 dX10_counts_66 rfl rfl ?_
        refine V_imul C dX10_counts_68 rfl ?_
        obtain rfl := Option.some.inj hf
        exact K _ _ _ dX10_counts_69 rfl rfl
      · replace hf := ipos c3 hf
        refine V_iconst C dX10_counts_54 rfl (v := 1) rfl ?_
        refine V_iload C 4 dX10_counts_55 rfl rfl ?_
        refine V_iconst C dX10_counts_57 rfl (v := 2) rfl ?_
        refine V_idiv C dX10_counts_58 rfl (by decide) ?_
        refine V_mmax C w1260 ⟨by decide, by decide⟩ (Nat.le_of_ble_eq_true rfl) dX10_counts_59 rfl ?_
        refine V_goto C dX10_counts_62 (tgt := 69) rfl ?_
        obtain rfl := Option.some.inj hf
        exact K _ _ _ dX10_counts_69 rfl rfl
    · replace hf := ipos c4 hf
      refine V_iload C 4 dX10_counts_45 rfl rfl ?_
      obtain rfl := Option.some.inj hf
      exact K _ _ _ dX10_counts_47 rfl rfl
set_option maxHeartbeats 4000000 in
set_option maxRecDepth 100000 in
theorem kX10_findFar {ad : Nat → Nat} {G : Gh} {p1 : Int32} {u : Mem} {q : Mem} (hf : FX10_findFar p1 u = some q) : Ct shs ad G yX10_findFar cX10_findFar 5 none 3 69 [.ref (ad 116), .int p1] u none q := by
  refine Ct_ofV (by decide) (Nat.le_of_ble_eq_true rfl) (fun X C hnL K => ?_)
  have C : Cx ad G X cX10_findFar "CarryFairModel" 3 69 := C
  unfold FX10_findFar at hf
  have Lp10 : ∀ (v2 : Int32) (x0 : (Int32 × Mem)) (q10 : (Int32 × Mem)), lp (BX10_findFar_10 p1 v2) FU x0 = some q10 → V shs ad G X 67 [(0, .ref (ad 116)), (1, .int p1), (2, .int v2), (3, .int q10.1)] [] q10.2 → V shs ad G X 10 [(0, .ref (ad 116)), (1, .int p1), (2, .int v2), (3, .int x0.1)] [] x0.2 := by
    intro v2 x0 q10 hq hx10_0
    refine lp_V (BX10_findFar_10 p1 v2) (fun x10 => V shs ad G X 10 [(0, .ref (ad 116)), (1, .int p1), (2, .int v2), (3, .int x10.1)] [] x10.2) q10 (fun rec10 ih10 x10 hf => ?_) FU x0 hq
    unfold BX10_findFar_10 at hf
    refine V_iload_n C 3 dX10_findFar_10 rfl rfl rfl ?_
    refine V_bipush C dX10_findFar_11 rfl (v := 7) rfl ?_
    refine V_icmp_ge C dX10_findFar_13 (tgt := 67) rfl rfl (fun c8 => ?_) (fun c8 => ?_)
    · replace hf := ipos c8 hf
      obtain rfl := Option.some.inj hf
      exact hx10_0
    · replace hf := ineg c8 hf
      refine V_aload_n C 0 dX10_findFar_16 rfl rfl rfl ?_
      refine V_getR C cf10 rfl 5 rfl (by decide) w1087 rfl dX10_findFar_17 rfl ?_
      refine V_bipush C dX10_findFar_20 rfl (v := 7) rfl ?_
      refine V_iload_n C 2 dX10_findFar_22 rfl rfl rfl ?_
      refine V_imul C dX10_findFar_23 rfl ?_
      refine V_iload_n C 3 dX10_findFar_24 rfl rfl rfl ?_
      refine V_iadd C dX10_findFar_25 rfl ?_
      refine V_iload_n C 2 dX10_findFar_26 rfl rfl rfl ?_
      refine V_iload_n C 3 dX10_findFar_27 rfl rfl rfl ?_
      refine V_icmp_ne C dX10_findFar_28 (tgt := 35) rfl rfl (fun c7 => ?_) (fun c7 => ?_)
      · replace hf := ineg c7 hf
        refine V_aload_n C 0 dX10_findFar_35 rfl rfl rfl ?_
        refine V_getR C cf10 rfl 0 rfl (by decide) w1082 rfl dX10_findFar_36 rfl ?_
        refine V_iload_n C 2 dX10_findFar_39 rfl rfl rfl ?_
        refine V_iload_n C 3 dX10_findFar_40 rfl rfl rfl ?_
        refine V_cSi C (As := [.int v2, .int x10.1]) (st := [.ref (ad 117), .int ((7 * v2) + x10.1), .ref (ad 121)]) M_X10_wayAt w1256 ⟨by decide, by decide⟩ rfl rfl (Nat.le_of_ble_eq_true rfl) dX10_findFar_41 rfl (kX10_wayAt rfl) ?_
        obtain ⟨g1, hf⟩ := gd hf
        refine V_ildJ C rfl g1 rfl dX10_findFar_44 rfl ?_
        refine V_if_ne C dX10_findFar_45 (tgt := 53) rfl rfl (fun c5 => ?_) (fun c5 => ?_)
        · replace hf := ineg c5 hf
          refine V_aload_n C 0 dX10_findFar_53 rfl rfl rfl ?_
          refine V_iload_n C 1 dX10_findFar_54 rfl rfl rfl ?_
          refine V_iload_n C 2 dX10_findFar_55 rfl rfl rfl ?_
          refine V_iload_n C 3 dX10_findFar_56 rfl rfl rfl ?_
          obtain ⟨q2, hq2, hf⟩ := obd hf
          refine V_cVi C (b := 116) (As := [.int p1, .int v2, .int x10.1]) (st := [.int ((7 * v2) + x10.1), .ref (ad 121)]) cf10 rfl M_X10_counts w1294 ⟨by decide, by decide⟩ rfl rfl (Nat.le_of_ble_eq_true rfl) dX10_findFar_57 rfl (kX10_counts hq2) ?_
          obtain ⟨g3, hf⟩ := gd hf
          refine V_istJ C rfl g3 rfl dX10_findFar_60 rfl ?_
          refine V_iinc C (v := (x10.1 + 1)) (L' := [(0, .ref (ad 116)), (1, .int p1), (2, .int v2), (3, .int (x10.1 + 1))]) 3 dX10_findFar_61 rfl rfl rfl (by decide) hnL [1, 2, 3, 0] rfl ?_
          refine V_goto C dX10_findFar_64 (tgt := 10) rfl ?_
          exact ih10 ((x10.1 + 1), (mst x10.2 121 (((7 * v2) + x10.1).toNatClampNeg) q2)) hf
        · replace hf := ipos c5 hf
          refine V_ldc C dX10_findFar_48 rfl w1293 ?_
          refine V_goto C dX10_findFar_50 (tgt := 60) rfl ?_
          obtain ⟨g4, hf⟩ := gd hf
          refine V_istJ C rfl g4 rfl dX10_findFar_60 rfl ?_
          refine V_iinc C (v := (x10.1 + 1)) (L' := [(0, .ref (ad 116)), (1, .int p1), (2, .int v2), (3, .int (x10.1 + 1))]) 3 dX10_findFar_61 rfl rfl rfl (by decide) hnL [1, 2, 3, 0] rfl ?_
          refine V_goto C dX10_findFar_64 (tgt := 10) rfl ?_
          exact ih10 ((x10.1 + 1), (mst x10.2 121 (((7 * v2) + x10.1).toNatClampNeg) 1000000)) hf
      · replace hf := ipos c7 hf
        refine V_iconst C dX10_findFar_31 rfl (v := 0) rfl ?_
        refine V_goto C dX10_findFar_32 (tgt := 60) rfl ?_
        obtain ⟨g6, hf⟩ := gd hf
        refine V_istJ C rfl g6 rfl dX10_findFar_60 rfl ?_
        refine V_iinc C (v := (x10.1 + 1)) (L' := [(0, .ref (ad 116)), (1, .int p1), (2, .int v2), (3, .int (x10.1 + 1))]) 3 dX10_findFar_61 rfl rfl rfl (by decide) hnL [1, 2, 3, 0] rfl ?_
        refine V_goto C dX10_findFar_64 (tgt := 10) rfl ?_
        exact ih10 ((x10.1 + 1), (mst x10.2 121 (((7 * v2) + x10.1).toNatClampNeg) 0)) hf
  have Lp2 : ∀ (x0 : (Int32 × Mem)) (q2 : (Int32 × Mem)), lp (BX10_findFar_2 p1) FU x0 = some q2 → V shs ad G X 73 [(0, .ref (ad 116)), (1, .int p1), (2, .int q2.1)] [] q2.2 → V shs ad G X 2 [(0, .ref (ad 116)), (1, .int p1), (2, .int x0.1)] [] x0.2 := by
    intro  x0 q2 hq hx2_0
    refine lp_V (BX10_findFar_2 p1) (fun x2 => V shs ad G X 2 [(0, .ref (ad 116)), (1, .int p1), (2, .int x2.1)] [] x2.2) q2 (fun rec2 ih2 x2 hf => ?_) FU x0 hq
    unfold BX10_findFar_2 at hf
    refine V_iload_n C 2 dX10_findFar_2 rfl rfl rfl ?_
    refine V_bipush C dX10_findFar_3 rfl (v := 7) rfl ?_
    refine V_icmp_ge C dX10_findFar_5 (tgt := 73) rfl rfl (fun c10 => ?_) (fun c10 => ?_)
    · replace hf := ipos c10 hf
      obtain rfl := Option.some.inj hf
      exact hx2_0
    · replace hf := ineg c10 hf
      refine V_iconst C dX10_findFar_8 rfl (v := 0) rfl ?_
      refine V_istore_n C (L' := [(0, .ref (ad 116)), (1, .int p1), (2, .int x2.1), (3, .int 0)]) dX10_findFar_9 rfl rfl (by decide) hnL [1, 2, 3, 0] rfl ?_
      obtain ⟨q10_9, hq10_9, hf⟩ := obd hf
      refine Lp10 x2.1 (0, x2.2) q10_9 hq10_9 ?_
      refine V_iinc C (v := (x2.1 + 1)) (L' := [(0, .ref (ad 116)), (1, .int p1), (2, .int (x2.1 + 1)), (3, .int q10_9.1)]) 2 dX10_findFar_67 rfl rfl rfl (by decide) hnL [1, 2, 0, 3] rfl ?_
      refine V_goto C dX10_findFar_70 (tgt := 2) rfl ?_
      refine V_sub (L' := [(0, .ref (ad 116)), (1, .int p1), (2, .int (x2.1 + 1))]) [0, 1, 2] rfl ?_
      exact ih2 ((x2.1 + 1), q10_9.2) hf
  have Lp92 : ∀ (v2 : Int32) (v3 : Int32) (x0 : (Int32 × Mem)) (q92 : (Int32 × Mem)), lp (BX10_findFar_92 p1 v2 v3) FU x0 = some q92 → V shs ad G X 156 [(0, .ref (ad 116)), (1, .int p1), (2, .int v2), (3, .int v3), (4, .int q92.1)] [] q92.2 → V shs ad G X 92 [(0, .ref (ad 116)), (1, .int p1), (2, .int v2), (3, .int v3), (4, .int x0.1)] [] x0.2 := by
    intro v2 v3 x0 q92 hq hx92_0
    refine lp_V (BX10_findFar_92 p1 v2 v3) (fun x92 => V shs ad G X 92 [(0, .ref (ad 116)), (1, .int p1), (2, .int v2), (3, .int v3), (4, .int x92.1)] [] x92.2) q92 (fun rec92 ih92 x92 hf => ?_) FU x0 hq
    unfold BX10_findFar_92 at hf
    refine V_iload C 4 dX10_findFar_92 rfl rfl ?_
    refine V_bipush C dX10_findFar_94 rfl (v := 7) rfl ?_
    refine V_icmp_ge C dX10_findFar_96 (tgt := 156) rfl rfl (fun c17 => ?_) (fun c17 => ?_)
    · replace hf := ipos c17 hf
      obtain rfl := Option.some.inj hf
      exact hx92_0
    · replace hf := ineg c17 hf
      refine V_aload_n C 0 dX10_findFar_99 rfl rfl rfl ?_
      refine V_getR C cf10 rfl 5 rfl (by decide) w1087 rfl dX10_findFar_100 rfl ?_
      refine V_bipush C dX10_findFar_103 rfl (v := 7) rfl ?_
      refine V_iload_n C 3 dX10_findFar_105 rfl rfl rfl ?_
      refine V_imul C dX10_findFar_106 rfl ?_
      refine V_iload C 4 dX10_findFar_107 rfl rfl ?_
      refine V_iadd C dX10_findFar_109 rfl ?_
      refine V_aload_n C 0 dX10_findFar_110 rfl rfl rfl ?_
      refine V_getR C cf10 rfl 5 rfl (by decide) w1087 rfl dX10_findFar_111 rfl ?_
      refine V_bipush C dX10_findFar_114 rfl (v := 7) rfl ?_
      refine V_iload_n C 3 dX10_findFar_116 rfl rfl rfl ?_
      refine V_imul C dX10_findFar_117 rfl ?_
      refine V_iload C 4 dX10_findFar_118 rfl rfl ?_
      refine V_iadd C dX10_findFar_120 rfl ?_
      obtain ⟨g12, hf⟩ := gd hf
      refine V_ildJ C rfl g12 rfl dX10_findFar_121 rfl ?_
      refine V_aload_n C 0 dX10_findFar_122 rfl rfl rfl ?_
      refine V_getR C cf10 rfl 5 rfl (by decide) w1087 rfl dX10_findFar_123 rfl ?_
      refine V_bipush C dX10_findFar_126 rfl (v := 7) rfl ?_
      refine V_iload_n C 3 dX10_findFar_128 rfl rfl rfl ?_
      refine V_imul C dX10_findFar_129 rfl ?_
      refine V_iload_n C 2 dX10_findFar_130 rfl rfl rfl ?_
      refine V_iadd C dX10_findFar_131 rfl ?_
      obtain ⟨g13, hf⟩ := gd hf
      refine V_ildJ C rfl g13 rfl dX10_findFar_132 rfl ?_
      refine V_aload_n C 0 dX10_findFar_133 rfl rfl rfl ?_
      refine V_getR C cf10 rfl 5 rfl (by decide) w1087 rfl dX10_findFar_134 rfl ?_
      refine V_bipush C dX10_findFar_137 rfl (v := 7) rfl ?_
      refine V_iload_n C 2 dX10_findFar_139 rfl rfl rfl ?_
      refine V_imul C dX10_findFar_140 rfl ?_
      refine V_iload C 4 dX10_findFar_141 rfl rfl ?_
      refine V_iadd C dX10_findFar_143 rfl ?_
      obtain ⟨g14, hf⟩ := gd hf
      refine V_ildJ C rfl g14 rfl dX10_findFar_144 rfl ?_
      refine V_iadd C dX10_findFar_145 rfl ?_
      refine V_mmin C w1259 ⟨by decide, by decide⟩ (Nat.le_of_ble_eq_true rfl) dX10_findFar_146 rfl ?_
      obtain ⟨g15, hf⟩ := gd hf
      refine V_istJ C rfl g15 rfl dX10_findFar_149 rfl ?_
      obtain ⟨w16, ew16, hf⟩ := nmd hf
      rw [← ew16]
      refine V_iinc C (v := (x92.1 + 1)) (L' := [(0, .ref (ad 116)), (1, .int p1), (2, .int v2), (3, .int v3), (4, .int (x92.1 + 1))]) 4 dX10_findFar_150 rfl rfl rfl (by decide) hnL [1, 2, 3, 4, 0] rfl ?_
      refine V_goto C dX10_findFar_153 (tgt := 92) rfl ?_
      exact ih92 ((x92.1 + 1), w16) hf
  have Lp83 : ∀ (v2 : Int32) (x0 : (Int32 × Mem)) (q83 : (Int32 × Mem)), lp (BX10_findFar_83 p1 v2) FU x0 = some q83 → V shs ad G X 162 [(0, .ref (ad 116)), (1, .int p1), (2, .int v2), (3, .int q83.1)] [] q83.2 → V shs ad G X 83 [(0, .ref (ad 116)), (1, .int p1), (2, .int v2), (3, .int x0.1)] [] x0.2 := by
    intro v2 x0 q83 hq hx83_0
    refine lp_V (BX10_findFar_83 p1 v2) (fun x83 => V shs ad G X 83 [(0, .ref (ad 116)), (1, .int p1), (2, .int v2), (3, .int x83.1)] [] x83.2) q83 (fun rec83 ih83 x83 hf => ?_) FU x0 hq
    unfold BX10_findFar_83 at hf
    refine V_iload_n C 3 dX10_findFar_83 rfl rfl rfl ?_
    refine V_bipush C dX10_findFar_84 rfl (v := 7) rfl ?_
    refine V_icmp_ge C dX10_findFar_86 (tgt := 162) rfl rfl (fun c19 => ?_) (fun c19 => ?_)
    · replace hf := ipos c19 hf
      obtain rfl := Option.some.inj hf
      exact hx83_0
    · replace hf := ineg c19 hf
      refine V_iconst C dX10_findFar_89 rfl (v := 0) rfl ?_
      refine V_istore C (L' := [(0, .ref (ad 116)), (1, .int p1), (2, .int v2), (3, .int x83.1), (4, .int 0)]) dX10_findFar_90 rfl (by decide) hnL [1, 2, 3, 4, 0] rfl ?_
      obtain ⟨q92_18, hq92_18, hf⟩ := obd hf
      refine Lp92 v2 x83.1 (0, x83.2) q92_18 hq92_18 ?_
      refine V_iinc C (v := (x83.1 + 1)) (L' := [(0, .ref (ad 116)), (1, .int p1), (2, .int v2), (3, .int (x83.1 + 1)), (4, .int q92_18.1)]) 3 dX10_findFar_156 rfl rfl rfl (by decide) hnL [1, 2, 3, 0, 4] rfl ?_
      refine V_goto C dX10_findFar_159 (tgt := 83) rfl ?_
      refine V_sub (L' := [(0, .ref (ad 116)), (1, .int p1), (2, .int v2), (3, .int (x83.1 + 1))]) [0, 1, 2, 3] rfl ?_
      exact ih83 ((x83.1 + 1), q92_18.2) hf
  have Lp75 : ∀ (x0 : (Int32 × Mem)) (q75 : (Int32 × Mem)), lp (BX10_findFar_75 p1) FU x0 = some q75 → V shs ad G X 168 [(0, .ref (ad 116)), (1, .int p1), (2, .int q75.1)] [] q75.2 → V shs ad G X 75 [(0, .ref (ad 116)), (1, .int p1), (2, .int x0.1)] [] x0.2 := by
    intro  x0 q75 hq hx75_0
    refine lp_V (BX10_findFar_75 p1) (fun x75 => V shs ad G X 75 [(0, .ref (ad 116)), (1, .int p1), (2, .int x75.1)] [] x75.2) q75 (fun rec75 ih75 x75 hf => ?_) FU x0 hq
    unfold BX10_findFar_75 at hf
    refine V_iload_n C 2 dX10_findFar_75 rfl rfl rfl ?_
    refine V_bipush C dX10_findFar_76 rfl (v := 7) rfl ?_
    refine V_icmp_ge C dX10_findFar_78 (tgt := 168) rfl rfl (fun c21 => ?_) (fun c21 => ?_)
    · replace hf := ipos c21 hf
      obtain rfl := Option.some.inj hf
      exact hx75_0
    · replace hf := ineg c21 hf
      refine V_iconst C dX10_findFar_81 rfl (v := 0) rfl ?_
      refine V_istore_n C (L' := [(0, .ref (ad 116)), (1, .int p1), (2, .int x75.1), (3, .int 0)]) dX10_findFar_82 rfl rfl (by decide) hnL [1, 2, 3, 0] rfl ?_
      obtain ⟨q83_20, hq83_20, hf⟩ := obd hf
      refine Lp83 x75.1 (0, x75.2) q83_20 hq83_20 ?_
      refine V_iinc C (v := (x75.1 + 1)) (L' := [(0, .ref (ad 116)), (1, .int p1), (2, .int (x75.1 + 1)), (3, .int q83_20.1)]) 2 dX10_findFar_162 rfl rfl rfl (by decide) hnL [1, 2, 0, 3] rfl ?_
      refine V_goto C dX10_findFar_165 (tgt := 75) rfl ?_
      refine V_sub (L' := [(0, .ref (ad 116)), (1, .int p1), (2, .int (x75.1 + 1))]) [0, 1, 2] rfl ?_
      exact ih75 ((x75.1 + 1), q83_20.2) hf
  refine V_iconst C dX10_findFar_0 rfl (v := 0) rfl ?_
  refine V_istore_n C (L' := [(0, .ref (ad 116)), (1, .int p1), (2, .int 0)]) dX10_findFar_1 rfl rfl (by decide) hnL [1, 2, 0] rfl ?_
  obtain ⟨q2_11, hq2_11, hf⟩ := obd hf
  refine Lp2  (0, u) q2_11 hq2_11 ?_
  refine V_iconst C dX10_findFar_73 rfl (v := 0) rfl ?_
  refine V_istore_n C (L' := [(0, .ref (ad 116)), (1, .int p1), (2, .int 0)]) dX10_findFar_74 rfl rfl (by decide) hnL [1, 2, 0] rfl ?_
  obtain ⟨q75_22, hq75_22, hf⟩ := obd hf
  refine Lp75  (0, q2_11.2) q75_22 hq75_22 ?_
  obtain rfl := Option.some.inj hf
  exact K _ _ dX10_findFar_168 rfl
set_option maxHeartbeats 4000000 in
set_option maxRecDepth 100000 in
theorem kX10_farFor {ad : Nat → Nat} {G : Gh} {p1 : Int32} {p2 : Int32} {p3 : Int32} {u : Mem} {q : Int32 × Mem} (hf : FX10_farFor p1 p2 p3 u = some q) : Ct shs ad G yX10_farFor cX10_farFor 4 (some .int) 4 93 [.ref (ad 116), .int p1, .int p2, .int p3] u (some (.int q.1)) q.2 := by
  refine Ct_ofI (by decide) (Nat.le_of_ble_eq_true rfl) (fun X C hnL K => ?_)
  have C : Cx ad G X cX10_farFor "CarryFairModel" 4 93 := C
  unfold FX10_farFor at hf
  refine V_aload_n C 0 dX10_farFor_0 rfl rfl rfl ?_
  refine V_iload_n C 1 dX10_farFor_1 rfl rfl rfl ?_
  obtain ⟨q1, hq1, hf⟩ := obd hf
  refine V_cVv C (b := 116) (As := [.int p1]) (st := []) cf10 rfl M_X10_findFar w1289 ⟨by decide, by decide⟩ rfl rfl (Nat.le_of_ble_eq_true rfl) dX10_farFor_2 rfl (kX10_findFar hq1) ?_
  refine V_aload_n C 0 dX10_farFor_5 rfl rfl rfl ?_
  refine V_getR C cf10 rfl 5 rfl (by decide) w1087 rfl dX10_farFor_6 rfl ?_
  refine V_bipush C dX10_farFor_9 rfl (v := 7) rfl ?_
  refine V_iload_n C 2 dX10_farFor_11 rfl rfl rfl ?_
  refine V_imul C dX10_farFor_12 rfl ?_
  refine V_iload_n C 3 dX10_farFor_13 rfl rfl rfl ?_
  refine V_iadd C dX10_farFor_14 rfl ?_
  obtain ⟨g2, hf⟩ := gd hf
  refine V_ildJ C rfl g2 rfl dX10_farFor_15 rfl ?_
  obtain rfl := Option.some.inj hf
  exact K _ _ _ dX10_farFor_16 rfl rfl
set_option maxHeartbeats 4000000 in
set_option maxRecDepth 100000 in
theorem kX10_worthOf {ad : Nat → Nat} {G : Gh} {p1 : Int32} {u : Mem} {q : Int32 × Mem} (hf : FX10_worthOf p1 u = some q) : Ct shs ad G yX10_worthOf cX10_worthOf 3 (some .int) 5 116 [.ref (ad 116), .int p1] u (some (.int q.1)) q.2 := by
  refine Ct_ofI (by decide) (Nat.le_of_ble_eq_true rfl) (fun X C hnL K => ?_)
  have C : Cx ad G X cX10_worthOf "CarryFairModel" 5 116 := C
  unfold FX10_worthOf at hf
  refine V_aload_n C 0 dX10_worthOf_0 rfl rfl rfl ?_
  refine V_iconst C dX10_worthOf_1 rfl (v := 0) rfl ?_
  refine V_aload_n C 0 dX10_worthOf_2 rfl rfl rfl ?_
  refine V_iload_n C 1 dX10_worthOf_3 rfl rfl rfl ?_
  refine V_iconst C dX10_worthOf_4 rfl (v := 1) rfl ?_
  obtain ⟨q1, hq1, hf⟩ := obd hf
  refine V_cVi C (b := 116) (As := [.int p1, .int 1]) (st := [.int 0, .ref (ad 116)]) cf10 rfl M_X10_eIs w1222 ⟨by decide, by decide⟩ rfl rfl (Nat.le_of_ble_eq_true rfl) dX10_worthOf_5 rfl (kX10_eIs hq1) ?_
  refine V_aload_n C 0 dX10_worthOf_8 rfl rfl rfl ?_
  refine V_iload_n C 1 dX10_worthOf_9 rfl rfl rfl ?_
  refine V_iconst C dX10_worthOf_10 rfl (v := 2) rfl ?_
  obtain ⟨q2, hq2, hf⟩ := obd hf
  refine V_cVi C (b := 116) (As := [.int p1, .int 2]) (st := [.int q1, .int 0, .ref (ad 116)]) cf10 rfl M_X10_eIs w1222 ⟨by decide, by decide⟩ rfl rfl (Nat.le_of_ble_eq_true rfl) dX10_worthOf_11 rfl (kX10_eIs hq2) ?_
  obtain ⟨q3, hq3, hf⟩ := obd hf
  refine V_cVi C (b := 116) (As := [.int 0, .int q1, .int q2]) (st := []) cf10 rfl M_X10_farFor w1285 ⟨by decide, by decide⟩ rfl rfl (Nat.le_of_ble_eq_true rfl) dX10_worthOf_14 rfl (kX10_farFor hq3) ?_
  refine V_istore_n C (L' := [(0, .ref (ad 116)), (1, .int p1), (2, .int q3.1)]) dX10_worthOf_17 rfl rfl (by decide) hnL [1, 2, 0] rfl ?_
  refine V_iload_n C 2 dX10_worthOf_18 rfl rfl rfl ?_
  refine V_ldc C dX10_worthOf_19 rfl w1293 ?_
  refine V_icmp_lt C dX10_worthOf_21 (tgt := 28) rfl rfl (fun c5 => ?_) (fun c5 => ?_)
  · replace hf := ipos c5 hf
    refine V_aload_n C 0 dX10_worthOf_28 rfl rfl rfl ?_
    refine V_iload_n C 1 dX10_worthOf_29 rfl rfl rfl ?_
    refine V_iconst C dX10_worthOf_30 rfl (v := 0) rfl ?_
    obtain ⟨q4, hq4, hf⟩ := obd hf
    refine V_cVi C (b := 116) (As := [.int p1, .int 0]) (st := []) cf10 rfl M_X10_eIs w1222 ⟨by decide, by decide⟩ rfl rfl (Nat.le_of_ble_eq_true rfl) dX10_worthOf_31 rfl (kX10_eIs hq4) ?_
    refine V_iload_n C 2 dX10_worthOf_34 rfl rfl rfl ?_
    refine V_imul C dX10_worthOf_35 rfl ?_
    obtain rfl := Option.some.inj hf
    exact K _ _ _ dX10_worthOf_36 rfl rfl
  · replace hf := ineg c5 hf
    refine V_iconst C dX10_worthOf_24 rfl (v := (-1)) (by decide) ?_
    refine V_goto C dX10_worthOf_25 (tgt := 36) rfl ?_
    obtain rfl := Option.some.inj hf
    exact K _ _ _ dX10_worthOf_36 rfl rfl
set_option maxHeartbeats 4000000 in
set_option maxRecDepth 100000 in
theorem kX10_errandOf {ad : Nat → Nat} {G : Gh} {p1 : Int32} {p2 : Int32} {u : Mem} {q : Int32 × Mem} (hf : FX10_errandOf p1 p2 u = some q) : Ct shs ad G yX10_errandOf cX10_errandOf 4 (some .int) 6 138 [.ref (ad 116), .int p1, .int p2] u (some (.int q.1)) q.2 := by
  refine Ct_ofI (by decide) (Nat.le_of_ble_eq_true rfl) (fun X C hnL K => ?_)
  have C : Cx ad G X cX10_errandOf "CarryFairModel" 6 138 := C
  unfold FX10_errandOf at hf
  refine V_aload_n C 0 dX10_errandOf_0 rfl rfl rfl ?_
  refine V_iload_n C 1 dX10_errandOf_1 rfl rfl rfl ?_
  refine V_cVi C (b := 116) (As := [.int p1]) (st := []) cf10 rfl M_X10_isErrand w1277 ⟨by decide, by decide⟩ rfl rfl (Nat.le_of_ble_eq_true rfl) dX10_errandOf_2 rfl (kX10_isErrand rfl) ?_
  refine V_if_eq C dX10_errandOf_5 (tgt := 17) rfl rfl (fun c9 => ?_) (fun c9 => ?_)
  · replace hf := ipos c9 hf
    refine V_aload_n C 0 dX10_errandOf_17 rfl rfl rfl ?_
    refine V_ldc C dX10_errandOf_18 rfl w1183 ?_
    obtain ⟨q1, hq1, hf⟩ := obd hf
    refine V_cVi C (b := 116) (As := [.int (-1000001)]) (st := []) cf10 rfl M_X10_finding w1184 ⟨by decide, by decide⟩ rfl rfl (Nat.le_of_ble_eq_true rfl) dX10_errandOf_20 rfl (kX10_finding hq1) ?_
    obtain rfl := Option.some.inj hf
    exact K _ _ _ dX10_errandOf_23 rfl rfl
  · replace hf := ineg c9 hf
    refine V_iload_n C 2 dX10_errandOf_8 rfl rfl rfl ?_
    refine V_iconst C dX10_errandOf_9 rfl (v := 0) rfl ?_
    refine V_iconst C dX10_errandOf_10 rfl (v := 5) rfl ?_
    refine V_cSi C (As := [.int p2, .int 0, .int 5]) (st := []) M_X10_within w1180 ⟨by decide, by decide⟩ rfl rfl (Nat.le_of_ble_eq_true rfl) dX10_errandOf_11 rfl (kX10_within rfl) ?_
    refine V_if_ne C dX10_errandOf_14 (tgt := 24) rfl rfl (fun c8 => ?_) (fun c8 => ?_)
    · replace hf := ineg c8 hf
      refine V_iload_n C 2 dX10_errandOf_24 rfl rfl rfl ?_
      refine V_iconst C dX10_errandOf_25 rfl (v := 5) rfl ?_
      refine V_icmp_ge C dX10_errandOf_26 (tgt := 36) rfl rfl (fun c6 => ?_) (fun c6 => ?_)
      · replace hf := ipos c6 hf
        refine V_aload_n C 0 dX10_errandOf_36 rfl rfl rfl ?_
        refine V_iload_n C 1 dX10_errandOf_37 rfl rfl rfl ?_
        obtain ⟨q2, hq2, hf⟩ := obd hf
        refine V_cVi C (b := 116) (As := [.int p1]) (st := []) cf10 rfl M_X10_worthOf w1281 ⟨by decide, by decide⟩ rfl rfl (Nat.le_of_ble_eq_true rfl) dX10_errandOf_38 rfl (kX10_worthOf hq2) ?_
        refine V_istore_n C (L' := [(0, .ref (ad 116)), (1, .int p1), (2, .int p2), (3, .int q2.1)]) dX10_errandOf_41 rfl rfl (by decide) hnL [1, 2, 3, 0] rfl ?_
        refine V_iload_n C 3 dX10_errandOf_42 rfl rfl rfl ?_
        refine V_if_ge C dX10_errandOf_43 (tgt := 55) rfl rfl (fun c4 => ?_) (fun c4 => ?_)
        · replace hf := ipos c4 hf
          refine V_iload_n C 3 dX10_errandOf_55 rfl rfl rfl ?_
          obtain rfl := Option.some.inj hf
          exact K _ _ _ dX10_errandOf_56 rfl rfl
        · replace hf := ineg c4 hf
          refine V_aload_n C 0 dX10_errandOf_46 rfl rfl rfl ?_
          refine V_ldc C dX10_errandOf_47 rfl w1298 ?_
          obtain ⟨q3, hq3, hf⟩ := obd hf
          refine V_cVi C (b := 116) (As := [.int (-1000004)]) (st := []) cf10 rfl M_X10_finding w1184 ⟨by decide, by decide⟩ rfl rfl (Nat.le_of_ble_eq_true rfl) dX10_errandOf_49 rfl (kX10_finding hq3) ?_
          refine V_goto C dX10_errandOf_52 (tgt := 56) rfl ?_
          obtain rfl := Option.some.inj hf
          exact K _ _ _ dX10_errandOf_56 rfl rfl
      · replace hf := ineg c6 hf
        refine V_aload_n C 0 dX10_errandOf_29 rfl rfl rfl ?_
        refine V_iload_n C 1 dX10_errandOf_30 rfl rfl rfl ?_
        refine V_iload_n C 2 dX10_errandOf_31 rfl rfl rfl ?_
        obtain ⟨q5, hq5, hf⟩ := obd hf
        refine V_cVi C (b := 116) (As := [.int p1, .int p2]) (st := []) cf10 rfl M_X10_eIs w1222 ⟨by decide, by decide⟩ rfl rfl (Nat.le_of_ble_eq_true rfl) dX10_errandOf_32 rfl (kX10_eIs hq5) ?_
        obtain rfl := Option.some.inj hf
        exact K _ _ _ dX10_errandOf_35 rfl rfl
    · replace hf := ipos c8 hf
      refine V_aload_n C 0 dX10_errandOf_17 rfl rfl rfl ?_
      refine V_ldc C dX10_errandOf_18 rfl w1183 ?_
      obtain ⟨q7, hq7, hf⟩ := obd hf
      refine V_cVi C (b := 116) (As := [.int (-1000001)]) (st := []) cf10 rfl M_X10_finding w1184 ⟨by decide, by decide⟩ rfl rfl (Nat.le_of_ble_eq_true rfl) dX10_errandOf_20 rfl (kX10_finding hq7) ?_
      obtain rfl := Option.some.inj hf
      exact K _ _ _ dX10_errandOf_23 rfl rfl
set_option maxHeartbeats 4000000 in
set_option maxRecDepth 100000 in
theorem kX10_newWare {ad : Nat → Nat} {G : Gh} {p1 : Int32} {u : Mem} {q : Int32 × Mem} (hf : FX10_newWare p1 u = some q) : Ct shs ad G yX10_newWare cX10_newWare 3 (some .int) 1 21 [.ref (ad 116), .int p1] u (some (.int q.1)) q.2 := by
  refine Ct_ofI (by decide) (Nat.le_of_ble_eq_true rfl) (fun X C hnL K => ?_)
  have C : Cx ad G X cX10_newWare "CarryFairModel" 1 21 := C
  unfold FX10_newWare at hf
  refine V_aload_n C 0 dX10_newWare_0 rfl rfl rfl ?_
  refine V_getR C cf10 rfl 0 rfl (by decide) w1082 rfl dX10_newWare_1 rfl ?_
  refine V_bipush C dX10_newWare_4 rfl (v := 44) rfl ?_
  refine V_ildJ C rfl (by decide) (j := 44) (by decide) dX10_newWare_6 rfl ?_
  refine V_istore_n C (L' := [(0, .ref (ad 116)), (1, .int p1), (2, .int (u 117 44))]) dX10_newWare_7 rfl rfl (by decide) hnL [1, 2, 0] rfl ?_
  refine V_aload_n C 0 dX10_newWare_8 rfl rfl rfl ?_
  refine V_getR C cf10 rfl 0 rfl (by decide) w1082 rfl dX10_newWare_9 rfl ?_
  refine V_iload_n C 2 dX10_newWare_12 rfl rfl rfl ?_
  refine V_iconst C dX10_newWare_13 rfl (v := 0) rfl ?_
  refine V_cSi C (As := [.int (u 117 44), .int 0]) (st := [.ref (ad 117)]) M_X10_wAt w1307 ⟨by decide, by decide⟩ rfl rfl (Nat.le_of_ble_eq_true rfl) dX10_newWare_14 rfl (kX10_wAt rfl) ?_
  refine V_iload_n C 1 dX10_newWare_17 rfl rfl rfl ?_
  obtain ⟨g1, hf⟩ := gd hf
  refine V_istJ C rfl g1 rfl dX10_newWare_18 rfl ?_
  refine V_aload_n C 0 dX10_newWare_19 rfl rfl rfl ?_
  refine V_getR C cf10 rfl 0 rfl (by decide) w1082 rfl dX10_newWare_20 rfl ?_
  refine V_iload_n C 2 dX10_newWare_23 rfl rfl rfl ?_
  refine V_iconst C dX10_newWare_24 rfl (v := 1) rfl ?_
  refine V_cSi C (As := [.int (u 117 44), .int 1]) (st := [.ref (ad 117)]) M_X10_wAt w1307 ⟨by decide, by decide⟩ rfl rfl (Nat.le_of_ble_eq_true rfl) dX10_newWare_25 rfl (kX10_wAt rfl) ?_
  refine V_iconst C dX10_newWare_28 rfl (v := (-1)) (by decide) ?_
  obtain ⟨g2, hf⟩ := gd hf
  refine V_istJ C rfl g2 rfl dX10_newWare_29 rfl ?_
  refine V_aload_n C 0 dX10_newWare_30 rfl rfl rfl ?_
  refine V_getR C cf10 rfl 0 rfl (by decide) w1082 rfl dX10_newWare_31 rfl ?_
  refine V_bipush C dX10_newWare_34 rfl (v := 44) rfl ?_
  refine V_dup2 C dX10_newWare_36 rfl rfl rfl ?_
  refine V_ildJ C rfl (by decide) (j := 44) (by decide) dX10_newWare_37 rfl ?_
  refine V_iconst C dX10_newWare_38 rfl (v := 1) rfl ?_
  refine V_iadd C dX10_newWare_39 rfl ?_
  refine V_istJ C rfl (by decide) (j := 44) (by decide) dX10_newWare_40 rfl ?_
  obtain ⟨w3, ew3, hf⟩ := nmd hf
  rw [← ew3]
  refine V_iload_n C 2 dX10_newWare_41 rfl rfl rfl ?_
  obtain rfl := Option.some.inj hf
  exact K _ _ _ dX10_newWare_42 rfl rfl
set_option maxHeartbeats 4000000 in
set_option maxRecDepth 100000 in
theorem kX10_ware {ad : Nat → Nat} {G : Gh} {p1 : Int32} {u : Mem} {q : Int32 × Mem} (hf : FX10_ware p1 u = some q) : Ct shs ad G yX10_ware cX10_ware 2 (some .int) 2 43 [.ref (ad 116), .int p1] u (some (.int q.1)) q.2 := by
  refine Ct_ofI (by decide) (Nat.le_of_ble_eq_true rfl) (fun X C hnL K => ?_)
  have C : Cx ad G X cX10_ware "CarryFairModel" 2 43 := C
  unfold FX10_ware at hf
  refine V_iload_n C 1 dX10_ware_0 rfl rfl rfl ?_
  refine V_iconst C dX10_ware_1 rfl (v := 1) rfl ?_
  refine V_sipush C dX10_ware_2 rfl (v := 9999) rfl ?_
  refine V_cSi C (As := [.int p1, .int 1, .int 9999]) (st := []) M_X10_within w1180 ⟨by decide, by decide⟩ rfl rfl (Nat.le_of_ble_eq_true rfl) dX10_ware_5 rfl (kX10_within rfl) ?_
  refine V_if_ne C dX10_ware_8 (tgt := 18) rfl rfl (fun c5 => ?_) (fun c5 => ?_)
  · replace hf := ineg c5 hf
    refine V_aload_n C 0 dX10_ware_18 rfl rfl rfl ?_
    refine V_getR C cf10 rfl 0 rfl (by decide) w1082 rfl dX10_ware_19 rfl ?_
    refine V_bipush C dX10_ware_22 rfl (v := 44) rfl ?_
    refine V_ildJ C rfl (by decide) (j := 44) (by decide) dX10_ware_24 rfl ?_
    refine V_bipush C dX10_ware_25 rfl (v := 6) rfl ?_
    refine V_icmp_ne C dX10_ware_27 (tgt := 39) rfl rfl (fun c3 => ?_) (fun c3 => ?_)
    · replace hf := ineg c3 hf
      refine V_aload_n C 0 dX10_ware_39 rfl rfl rfl ?_
      refine V_iload_n C 1 dX10_ware_40 rfl rfl rfl ?_
      obtain ⟨q1, hq1, hf⟩ := obd hf
      refine V_cVi C (b := 116) (As := [.int p1]) (st := []) cf10 rfl M_X10_newWare w1303 ⟨by decide, by decide⟩ rfl rfl (Nat.le_of_ble_eq_true rfl) dX10_ware_41 rfl (kX10_newWare hq1) ?_
      obtain rfl := Option.some.inj hf
      exact K _ _ _ dX10_ware_44 rfl rfl
    · replace hf := ipos c3 hf
      refine V_aload_n C 0 dX10_ware_30 rfl rfl rfl ?_
      refine V_ldc C dX10_ware_31 rfl w1188 ?_
      obtain ⟨q2, hq2, hf⟩ := obd hf
      refine V_cVi C (b := 116) (As := [.int (-1000002)]) (st := []) cf10 rfl M_X10_finding w1184 ⟨by decide, by decide⟩ rfl rfl (Nat.le_of_ble_eq_true rfl) dX10_ware_33 rfl (kX10_finding hq2) ?_
      refine V_goto C dX10_ware_36 (tgt := 44) rfl ?_
      obtain rfl := Option.some.inj hf
      exact K _ _ _ dX10_ware_44 rfl rfl
  · replace hf := ipos c5 hf
    refine V_aload_n C 0 dX10_ware_11 rfl rfl rfl ?_
    refine V_ldc C dX10_ware_12 rfl w1183 ?_
    obtain ⟨q4, hq4, hf⟩ := obd hf
    refine V_cVi C (b := 116) (As := [.int (-1000001)]) (st := []) cf10 rfl M_X10_finding w1184 ⟨by decide, by decide⟩ rfl rfl (Nat.le_of_ble_eq_true rfl) dX10_ware_14 rfl (kX10_finding hq4) ?_
    obtain rfl := Option.some.inj hf
    exact K _ _ _ dX10_ware_17 rfl rfl
set_option maxHeartbeats 4000000 in
set_option maxRecDepth 100000 in
theorem kX10_wareOf {ad : Nat → Nat} {G : Gh} {p1 : Int32} {p2 : Int32} {u : Mem} {q : Int32 × Mem} (hf : FX10_wareOf p1 p2 u = some q) : Ct shs ad G yX10_wareOf cX10_wareOf 3 (some .int) 2 43 [.ref (ad 116), .int p1, .int p2] u (some (.int q.1)) q.2 := by
  refine Ct_ofI (by decide) (Nat.le_of_ble_eq_true rfl) (fun X C hnL K => ?_)
  have C : Cx ad G X cX10_wareOf "CarryFairModel" 2 43 := C
  unfold FX10_wareOf at hf
  refine V_aload_n C 0 dX10_wareOf_0 rfl rfl rfl ?_
  refine V_iload_n C 1 dX10_wareOf_1 rfl rfl rfl ?_
  refine V_cVi C (b := 116) (As := [.int p1]) (st := []) cf10 rfl M_X10_isWare w1314 ⟨by decide, by decide⟩ rfl rfl (Nat.le_of_ble_eq_true rfl) dX10_wareOf_2 rfl (kX10_isWare rfl) ?_
  refine V_if_eq C dX10_wareOf_5 (tgt := 30) rfl rfl (fun c5 => ?_) (fun c5 => ?_)
  · replace hf := ipos c5 hf
    refine V_aload_n C 0 dX10_wareOf_30 rfl rfl rfl ?_
    refine V_ldc C dX10_wareOf_31 rfl w1183 ?_
    obtain ⟨q1, hq1, hf⟩ := obd hf
    refine V_cVi C (b := 116) (As := [.int (-1000001)]) (st := []) cf10 rfl M_X10_finding w1184 ⟨by decide, by decide⟩ rfl rfl (Nat.le_of_ble_eq_true rfl) dX10_wareOf_33 rfl (kX10_finding hq1) ?_
    obtain rfl := Option.some.inj hf
    exact K _ _ _ dX10_wareOf_36 rfl rfl
  · replace hf := ineg c5 hf
    refine V_iload_n C 2 dX10_wareOf_8 rfl rfl rfl ?_
    refine V_iconst C dX10_wareOf_9 rfl (v := 0) rfl ?_
    refine V_iconst C dX10_wareOf_10 rfl (v := 1) rfl ?_
    refine V_cSi C (As := [.int p2, .int 0, .int 1]) (st := []) M_X10_within w1180 ⟨by decide, by decide⟩ rfl rfl (Nat.le_of_ble_eq_true rfl) dX10_wareOf_11 rfl (kX10_within rfl) ?_
    refine V_if_eq C dX10_wareOf_14 (tgt := 30) rfl rfl (fun c4 => ?_) (fun c4 => ?_)
    · replace hf := ipos c4 hf
      refine V_aload_n C 0 dX10_wareOf_30 rfl rfl rfl ?_
      refine V_ldc C dX10_wareOf_31 rfl w1183 ?_
      obtain ⟨q2, hq2, hf⟩ := obd hf
      refine V_cVi C (b := 116) (As := [.int (-1000001)]) (st := []) cf10 rfl M_X10_finding w1184 ⟨by decide, by decide⟩ rfl rfl (Nat.le_of_ble_eq_true rfl) dX10_wareOf_33 rfl (kX10_finding hq2) ?_
      obtain rfl := Option.some.inj hf
      exact K _ _ _ dX10_wareOf_36 rfl rfl
    · replace hf := ineg c4 hf
      refine V_aload_n C 0 dX10_wareOf_17 rfl rfl rfl ?_
      refine V_getR C cf10 rfl 0 rfl (by decide) w1082 rfl dX10_wareOf_18 rfl ?_
      refine V_iload_n C 1 dX10_wareOf_21 rfl rfl rfl ?_
      refine V_iload_n C 2 dX10_wareOf_22 rfl rfl rfl ?_
      refine V_cSi C (As := [.int p1, .int p2]) (st := [.ref (ad 117)]) M_X10_wAt w1307 ⟨by decide, by decide⟩ rfl rfl (Nat.le_of_ble_eq_true rfl) dX10_wareOf_23 rfl (kX10_wAt rfl) ?_
      obtain ⟨g3, hf⟩ := gd hf
      refine V_ildJ C rfl g3 rfl dX10_wareOf_26 rfl ?_
      refine V_goto C dX10_wareOf_27 (tgt := 36) rfl ?_
      obtain rfl := Option.some.inj hf
      exact K _ _ _ dX10_wareOf_36 rfl rfl
set_option maxHeartbeats 4000000 in
set_option maxRecDepth 100000 in
theorem kX10_far {ad : Nat → Nat} {G : Gh} {p1 : Int32} {p2 : Int32} {p3 : Int32} {u : Mem} {q : Int32 × Mem} (hf : FX10_far p1 p2 p3 u = some q) : Ct shs ad G yX10_far cX10_far 5 (some .int) 5 116 [.ref (ad 116), .int p1, .int p2, .int p3] u (some (.int q.1)) q.2 := by
  refine Ct_ofI (by decide) (Nat.le_of_ble_eq_true rfl) (fun X C hnL K => ?_)
  have C : Cx ad G X cX10_far "CarryFairModel" 5 116 := C
  unfold FX10_far at hf
  refine V_aload_n C 0 dX10_far_0 rfl rfl rfl ?_
  refine V_iload_n C 1 dX10_far_1 rfl rfl rfl ?_
  refine V_cVi C (b := 116) (As := [.int p1]) (st := []) cf10 rfl M_X10_isCarrier w1200 ⟨by decide, by decide⟩ rfl rfl (Nat.le_of_ble_eq_true rfl) dX10_far_2 rfl (kX10_isCarrier rfl) ?_
  refine V_if_eq C dX10_far_5 (tgt := 22) rfl rfl (fun c10 => ?_) (fun c10 => ?_)
  · replace hf := ipos c10 hf
    refine V_aload_n C 0 dX10_far_22 rfl rfl rfl ?_
    refine V_ldc C dX10_far_23 rfl w1183 ?_
    obtain ⟨q1, hq1, hf⟩ := obd hf
    refine V_cVi C (b := 116) (As := [.int (-1000001)]) (st := []) cf10 rfl M_X10_finding w1184 ⟨by decide, by decide⟩ rfl rfl (Nat.le_of_ble_eq_true rfl) dX10_far_25 rfl (kX10_finding hq1) ?_
    obtain rfl := Option.some.inj hf
    exact K _ _ _ dX10_far_28 rfl rfl
  · replace hf := ineg c10 hf
    refine V_iload_n C 2 dX10_far_8 rfl rfl rfl ?_
    refine V_cSi C (As := [.int p2]) (st := []) M_X10_isPlace w1240 ⟨by decide, by decide⟩ rfl rfl (Nat.le_of_ble_eq_true rfl) dX10_far_9 rfl (kX10_isPlace rfl) ?_
    refine V_if_eq C dX10_far_12 (tgt := 22) rfl rfl (fun c9 => ?_) (fun c9 => ?_)
    · replace hf := ipos c9 hf
      refine V_aload_n C 0 dX10_far_22 rfl rfl rfl ?_
      refine V_ldc C dX10_far_23 rfl w1183 ?_
      obtain ⟨q2, hq2, hf⟩ := obd hf
      refine V_cVi C (b := 116) (As := [.int (-1000001)]) (st := []) cf10 rfl M_X10_finding w1184 ⟨by decide, by decide⟩ rfl rfl (Nat.le_of_ble_eq_true rfl) dX10_far_25 rfl (kX10_finding hq2) ?_
      obtain rfl := Option.some.inj hf
      exact K _ _ _ dX10_far_28 rfl rfl
    · replace hf := ineg c9 hf
      refine V_iload_n C 3 dX10_far_15 rfl rfl rfl ?_
      refine V_cSi C (As := [.int p3]) (st := []) M_X10_isPlace w1240 ⟨by decide, by decide⟩ rfl rfl (Nat.le_of_ble_eq_true rfl) dX10_far_16 rfl (kX10_isPlace rfl) ?_
      refine V_if_ne C dX10_far_19 (tgt := 29) rfl rfl (fun c8 => ?_) (fun c8 => ?_)
      · replace hf := ineg c8 hf
        refine V_aload_n C 0 dX10_far_29 rfl rfl rfl ?_
        refine V_aload_n C 0 dX10_far_30 rfl rfl rfl ?_
        refine V_iload_n C 1 dX10_far_31 rfl rfl rfl ?_
        refine V_iconst C dX10_far_32 rfl (v := 0) rfl ?_
        obtain ⟨q3, hq3, hf⟩ := obd hf
        refine V_cVi C (b := 116) (As := [.int p1, .int 0]) (st := [.ref (ad 116)]) cf10 rfl M_X10_cIs w1208 ⟨by decide, by decide⟩ rfl rfl (Nat.le_of_ble_eq_true rfl) dX10_far_33 rfl (kX10_cIs hq3) ?_
        refine V_iload_n C 2 dX10_far_36 rfl rfl rfl ?_
        refine V_iload_n C 3 dX10_far_37 rfl rfl rfl ?_
        obtain ⟨q4, hq4, hf⟩ := obd hf
        refine V_cVi C (b := 116) (As := [.int q3, .int p2, .int p3]) (st := []) cf10 rfl M_X10_farFor w1285 ⟨by decide, by decide⟩ rfl rfl (Nat.le_of_ble_eq_true rfl) dX10_far_38 rfl (kX10_farFor hq4) ?_
        refine V_istore C (L' := [(0, .ref (ad 116)), (1, .int p1), (2, .int p2), (3, .int p3), (4, .int q4.1)]) dX10_far_41 rfl (by decide) hnL [1, 2, 3, 4, 0] rfl ?_
        refine V_iload C 4 dX10_far_43 rfl rfl ?_
        refine V_ldc C dX10_far_45 rfl w1293 ?_
        refine V_icmp_lt C dX10_far_47 (tgt := 59) rfl rfl (fun c6 => ?_) (fun c6 => ?_)
        · replace hf := ipos c6 hf
          refine V_iload C 4 dX10_far_59 rfl rfl ?_
          obtain rfl := Option.some.inj hf
          exact K _ _ _ dX10_far_61 rfl rfl
        · replace hf := ineg c6 hf
          refine V_aload_n C 0 dX10_far_50 rfl rfl rfl ?_
          refine V_ldc C dX10_far_51 rfl w1298 ?_
          obtain ⟨q5, hq5, hf⟩ := obd hf
          refine V_cVi C (b := 116) (As := [.int (-1000004)]) (st := []) cf10 rfl M_X10_finding w1184 ⟨by decide, by decide⟩ rfl rfl (Nat.le_of_ble_eq_true rfl) dX10_far_53 rfl (kX10_finding hq5) ?_
          refine V_goto C dX10_far_56 (tgt := 61) rfl ?_
          obtain rfl := Option.some.inj hf
          exact K _ _ _ dX10_far_61 rfl rfl
      · replace hf := ipos c8 hf
        refine V_aload_n C 0 dX10_far_22 rfl rfl rfl ?_
        refine V_ldc C dX10_far_23 rfl w1183 ?_
        obtain ⟨q7, hq7, hf⟩ := obd hf
        refine V_cVi C (b := 116) (As := [.int (-1000001)]) (st := []) cf10 rfl M_X10_finding w1184 ⟨by decide, by decide⟩ rfl rfl (Nat.le_of_ble_eq_true rfl) dX10_far_25 rfl (kX10_finding hq7) ?_
        obtain rfl := Option.some.inj hf
        exact K _ _ _ dX10_far_28 rfl rfl
set_option maxHeartbeats 4000000 in
set_option maxRecDepth 100000 in
theorem kX10_first {ad : Nat → Nat} {G : Gh} {p1 : Int32} {p2 : Int32} {u : Mem} {q : Int32 × Mem} (hf : FX10_first p1 p2 u = some q) : Ct shs ad G yX10_first cX10_first 9 (some .int) 5 116 [.ref (ad 116), .int p1, .int p2] u (some (.int q.1)) q.2 := by
  refine Ct_ofI (by decide) (Nat.le_of_ble_eq_true rfl) (fun X C hnL K => ?_)
  have C : Cx ad G X cX10_first "CarryFairModel" 5 116 := C
  unfold FX10_first at hf
  have Lp76 : ∀ (v3 : Int32) (v4 : Int32) (v5 : Int32) (w : Mem) (x0 : (Int32 × Int32)) (q76 : (Int32 × Int32)), lp (BX10_first_76 p1 p2 v3 v4 v5 w) FU x0 = some q76 → V shs ad G X 162 [(0, .ref (ad 116)), (1, .int p1), (2, .int p2), (3, .int v3), (4, .int v4), (5, .int v5), (6, .int q76.1), (7, .int q76.2)] [] w → V shs ad G X 76 [(0, .ref (ad 116)), (1, .int p1), (2, .int p2), (3, .int v3), (4, .int v4), (5, .int v5), (6, .int x0.1), (7, .int x0.2)] [] w := by
    intro v3 v4 v5 w x0 q76 hq hx76_0
    refine lp_V (BX10_first_76 p1 p2 v3 v4 v5 w) (fun x76 => V shs ad G X 76 [(0, .ref (ad 116)), (1, .int p1), (2, .int p2), (3, .int v3), (4, .int v4), (5, .int v5), (6, .int x76.1), (7, .int x76.2)] [] w) q76 (fun rec76 ih76 x76 hf => ?_) FU x0 hq
    unfold BX10_first_76 at hf
    have JX10_first_113_76 : ∀ (v6 : Int32) (v7 : Int32) (s0 : Int32), JX10_first_113_76 p1 p2 v3 v4 v5 v6 v7 s0 w rec76 = some q76 → V shs ad G X 113 [(0, .ref (ad 116)), (1, .int p1), (2, .int p2), (3, .int v3), (4, .int v4), (5, .int v5), (6, .int v6), (7, .int v7)] [.int s0] w := by
      intro v6 v7 s0 hf
      unfold JX10_first_113_76 at hf
      refine V_istore C (L' := [(0, .ref (ad 116)), (1, .int p1), (2, .int p2), (3, .int v3), (4, .int v4), (5, .int v5), (6, .int v6), (7, .int v7), (8, .int s0)]) dX10_first_113 rfl (by decide) hnL [1, 2, 3, 4, 5, 6, 7, 8, 0] rfl ?_
      refine V_iload C 8 dX10_first_115 rfl rfl ?_
      refine V_if_eq C dX10_first_117 (tgt := 152) rfl rfl (fun c8 => ?_) (fun c8 => ?_)
      · replace hf := ipos c8 hf
        refine V_iload C 6 dX10_first_152 rfl rfl ?_
        refine V_istore C (L' := [(0, .ref (ad 116)), (1, .int p1), (2, .int p2), (3, .int v3), (4, .int v4), (5, .int v5), (6, .int v6), (7, .int v7), (8, .int s0)]) dX10_first_154 rfl (by decide) hnL [1, 2, 3, 4, 5, 6, 0, 7, 8] rfl ?_
        refine V_iinc C (v := (v7 + 1)) (L' := [(0, .ref (ad 116)), (1, .int p1), (2, .int p2), (3, .int v3), (4, .int v4), (5, .int v5), (6, .int v6), (7, .int (v7 + 1)), (8, .int s0)]) 7 dX10_first_156 rfl rfl rfl (by decide) hnL [1, 2, 3, 4, 5, 6, 7, 0, 8] rfl ?_
        refine V_goto C dX10_first_159 (tgt := 76) rfl ?_
        refine V_sub (L' := [(0, .ref (ad 116)), (1, .int p1), (2, .int p2), (3, .int v3), (4, .int v4), (5, .int v5), (6, .int v6), (7, .int (v7 + 1))]) [0, 1, 2, 3, 4, 5, 6, 7] rfl ?_
        exact ih76 (v6, (v7 + 1)) hf
      · replace hf := ineg c8 hf
        refine V_aload_n C 0 dX10_first_120 rfl rfl rfl ?_
        refine V_iload C 4 dX10_first_121 rfl rfl ?_
        refine V_iload_n C 3 dX10_first_123 rfl rfl rfl ?_
        refine V_iload C 7 dX10_first_124 rfl rfl ?_
        obtain ⟨q5, hq5, hf⟩ := obd hf
        refine V_cVi C (b := 116) (As := [.int v4, .int v3, .int v7]) (st := []) cf10 rfl M_X10_counts w1294 ⟨by decide, by decide⟩ rfl rfl (Nat.le_of_ble_eq_true rfl) dX10_first_126 rfl (kX10_counts hq5) ?_
        refine V_aload_n C 0 dX10_first_129 rfl rfl rfl ?_
        refine V_getR C cf10 rfl 5 rfl (by decide) w1087 rfl dX10_first_130 rfl ?_
        refine V_bipush C dX10_first_133 rfl (v := 7) rfl ?_
        refine V_iload C 7 dX10_first_135 rfl rfl ?_
        refine V_imul C dX10_first_137 rfl ?_
        refine V_iload_n C 2 dX10_first_138 rfl rfl rfl ?_
        refine V_iadd C dX10_first_139 rfl ?_
        obtain ⟨g6, hf⟩ := gd hf
        refine V_ildJ C rfl g6 rfl dX10_first_140 rfl ?_
        refine V_iadd C dX10_first_141 rfl ?_
        refine V_iload C 5 dX10_first_142 rfl rfl ?_
        refine V_icmp_ne C dX10_first_144 (tgt := 152) rfl rfl (fun c7 => ?_) (fun c7 => ?_)
        · replace hf := ineg c7 hf
          refine V_iload C 6 dX10_first_152 rfl rfl ?_
          refine V_istore C (L' := [(0, .ref (ad 116)), (1, .int p1), (2, .int p2), (3, .int v3), (4, .int v4), (5, .int v5), (6, .int v6), (7, .int v7), (8, .int s0)]) dX10_first_154 rfl (by decide) hnL [1, 2, 3, 4, 5, 6, 0, 7, 8] rfl ?_
          refine V_iinc C (v := (v7 + 1)) (L' := [(0, .ref (ad 116)), (1, .int p1), (2, .int p2), (3, .int v3), (4, .int v4), (5, .int v5), (6, .int v6), (7, .int (v7 + 1)), (8, .int s0)]) 7 dX10_first_156 rfl rfl rfl (by decide) hnL [1, 2, 3, 4, 5, 6, 7, 0, 8] rfl ?_
          refine V_goto C dX10_first_159 (tgt := 76) rfl ?_
          refine V_sub (L' := [(0, .ref (ad 116)), (1, .int p1), (2, .int p2), (3, .int v3), (4, .int v4), (5, .int v5), (6, .int v6), (7, .int (v7 + 1))]) [0, 1, 2, 3, 4, 5, 6, 7] rfl ?_
          exact ih76 (v6, (v7 + 1)) hf
        · replace hf := ipos c7 hf
          refine V_iload C 7 dX10_first_147 rfl rfl ?_
          refine V_goto C dX10_first_149 (tgt := 154) rfl ?_
          refine V_istore C (L' := [(0, .ref (ad 116)), (1, .int p1), (2, .int p2), (3, .int v3), (4, .int v4), (5, .int v5), (6, .int v7), (7, .int v7), (8, .int s0)]) dX10_first_154 rfl (by decide) hnL [1, 2, 3, 4, 5, 6, 0, 7, 8] rfl ?_
          refine V_iinc C (v := (v7 + 1)) (L' := [(0, .ref (ad 116)), (1, .int p1), (2, .int p2), (3, .int v3), (4, .int v4), (5, .int v5), (6, .int v7), (7, .int (v7 + 1)), (8, .int s0)]) 7 dX10_first_156 rfl rfl rfl (by decide) hnL [1, 2, 3, 4, 5, 6, 7, 0, 8] rfl ?_
          refine V_goto C dX10_first_159 (tgt := 76) rfl ?_
          refine V_sub (L' := [(0, .ref (ad 116)), (1, .int p1), (2, .int p2), (3, .int v3), (4, .int v4), (5, .int v5), (6, .int v7), (7, .int (v7 + 1))]) [0, 1, 2, 3, 4, 5, 6, 7] rfl ?_
          exact ih76 (v7, (v7 + 1)) hf
    have JX10_first_112_76 : ∀ (v6 : Int32) (v7 : Int32), JX10_first_112_76 p1 p2 v3 v4 v5 v6 v7 w rec76 = some q76 → V shs ad G X 112 [(0, .ref (ad 116)), (1, .int p1), (2, .int p2), (3, .int v3), (4, .int v4), (5, .int v5), (6, .int v6), (7, .int v7)] [] w := by
      intro v6 v7 hf
      unfold JX10_first_112_76 at hf
      refine V_iconst C dX10_first_112 rfl (v := 0) rfl ?_
      exact JX10_first_113_76 v6 v7 0 hf
    refine V_iload C 7 dX10_first_76 rfl rfl ?_
    refine V_bipush C dX10_first_78 rfl (v := 7) rfl ?_
    refine V_icmp_ge C dX10_first_80 (tgt := 162) rfl rfl (fun c13 => ?_) (fun c13 => ?_)
    · replace hf := ipos c13 hf
      obtain rfl := Option.some.inj hf
      exact hx76_0
    · replace hf := ineg c13 hf
      refine V_iload C 6 dX10_first_83 rfl rfl ?_
      refine V_if_ge C dX10_first_85 (tgt := 162) rfl rfl (fun c12 => ?_) (fun c12 => ?_)
      · replace hf := ipos c12 hf
        obtain rfl := Option.some.inj hf
        exact hx76_0
      · replace hf := ineg c12 hf
        refine V_iload C 7 dX10_first_88 rfl rfl ?_
        refine V_iload_n C 3 dX10_first_90 rfl rfl rfl ?_
        refine V_icmp_eq C dX10_first_91 (tgt := 112) rfl rfl (fun c11 => ?_) (fun c11 => ?_)
        · replace hf := ipos c11 hf
          exact JX10_first_112_76 x76.1 x76.2 hf
        · replace hf := ineg c11 hf
          refine V_aload_n C 0 dX10_first_94 rfl rfl rfl ?_
          refine V_getR C cf10 rfl 0 rfl (by decide) w1082 rfl dX10_first_95 rfl ?_
          refine V_iload C 7 dX10_first_98 rfl rfl ?_
          refine V_iload_n C 3 dX10_first_100 rfl rfl rfl ?_
          refine V_cSi C (As := [.int x76.2, .int v3]) (st := [.ref (ad 117)]) M_X10_wayAt w1256 ⟨by decide, by decide⟩ rfl rfl (Nat.le_of_ble_eq_true rfl) dX10_first_101 rfl (kX10_wayAt rfl) ?_
          obtain ⟨g9, hf⟩ := gd hf
          refine V_ildJ C rfl g9 rfl dX10_first_104 rfl ?_
          refine V_if_le C dX10_first_105 (tgt := 112) rfl rfl (fun c10 => ?_) (fun c10 => ?_)
          · replace hf := ipos c10 hf
            exact JX10_first_112_76 x76.1 x76.2 hf
          · replace hf := ineg c10 hf
            refine V_iconst C dX10_first_108 rfl (v := 1) rfl ?_
            refine V_goto C dX10_first_109 (tgt := 113) rfl ?_
            exact JX10_first_113_76 x76.1 x76.2 1 hf
  have JX10_first_71 : ∀ (v3 : Int32) (v4 : Int32) (v5 : Int32) (s0 : Int32) (w : Mem), JX10_first_71 p1 p2 v3 v4 v5 s0 w = some q → V shs ad G X 71 [(0, .ref (ad 116)), (1, .int p1), (2, .int p2), (3, .int v3), (4, .int v4), (5, .int v5)] [.int s0] w := by
    intro v3 v4 v5 s0 w hf
    unfold JX10_first_71 at hf
    refine V_istore C (L' := [(0, .ref (ad 116)), (1, .int p1), (2, .int p2), (3, .int v3), (4, .int v4), (5, .int v5), (6, .int s0)]) dX10_first_71 rfl (by decide) hnL [1, 2, 3, 4, 5, 6, 0] rfl ?_
    refine V_iconst C dX10_first_73 rfl (v := 0) rfl ?_
    refine V_istore C (L' := [(0, .ref (ad 116)), (1, .int p1), (2, .int p2), (3, .int v3), (4, .int v4), (5, .int v5), (6, .int s0), (7, .int 0)]) dX10_first_74 rfl (by decide) hnL [1, 2, 3, 4, 5, 6, 7, 0] rfl ?_
    obtain ⟨q76_14, hq76_14, hf⟩ := obd hf
    refine Lp76 v3 v4 v5 w (s0, 0) q76_14 hq76_14 ?_
    refine V_iload C 6 dX10_first_162 rfl rfl ?_
    obtain rfl := Option.some.inj hf
    exact K _ _ _ dX10_first_164 rfl rfl
  refine V_aload_n C 0 dX10_first_0 rfl rfl rfl ?_
  refine V_iload_n C 1 dX10_first_1 rfl rfl rfl ?_
  refine V_cVi C (b := 116) (As := [.int p1]) (st := []) cf10 rfl M_X10_isCarrier w1200 ⟨by decide, by decide⟩ rfl rfl (Nat.le_of_ble_eq_true rfl) dX10_first_2 rfl (kX10_isCarrier rfl) ?_
  refine V_if_eq C dX10_first_5 (tgt := 15) rfl rfl (fun c20 => ?_) (fun c20 => ?_)
  · replace hf := ipos c20 hf
    refine V_aload_n C 0 dX10_first_15 rfl rfl rfl ?_
    refine V_ldc C dX10_first_16 rfl w1183 ?_
    obtain ⟨q1, hq1, hf⟩ := obd hf
    refine V_cVi C (b := 116) (As := [.int (-1000001)]) (st := []) cf10 rfl M_X10_finding w1184 ⟨by decide, by decide⟩ rfl rfl (Nat.le_of_ble_eq_true rfl) dX10_first_18 rfl (kX10_finding hq1) ?_
    obtain rfl := Option.some.inj hf
    exact K _ _ _ dX10_first_21 rfl rfl
  · replace hf := ineg c20 hf
    refine V_iload_n C 2 dX10_first_8 rfl rfl rfl ?_
    refine V_cSi C (As := [.int p2]) (st := []) M_X10_isPlace w1240 ⟨by decide, by decide⟩ rfl rfl (Nat.le_of_ble_eq_true rfl) dX10_first_9 rfl (kX10_isPlace rfl) ?_
    refine V_if_ne C dX10_first_12 (tgt := 22) rfl rfl (fun c19 => ?_) (fun c19 => ?_)
    · replace hf := ineg c19 hf
      refine V_aload_n C 0 dX10_first_22 rfl rfl rfl ?_
      refine V_iload_n C 1 dX10_first_23 rfl rfl rfl ?_
      refine V_iconst C dX10_first_24 rfl (v := 1) rfl ?_
      obtain ⟨q2, hq2, hf⟩ := obd hf
      refine V_cVi C (b := 116) (As := [.int p1, .int 1]) (st := []) cf10 rfl M_X10_cIs w1208 ⟨by decide, by decide⟩ rfl rfl (Nat.le_of_ble_eq_true rfl) dX10_first_25 rfl (kX10_cIs hq2) ?_
      refine V_istore_n C (L' := [(0, .ref (ad 116)), (1, .int p1), (2, .int p2), (3, .int q2)]) dX10_first_28 rfl rfl (by decide) hnL [1, 2, 3, 0] rfl ?_
      refine V_aload_n C 0 dX10_first_29 rfl rfl rfl ?_
      refine V_iload_n C 1 dX10_first_30 rfl rfl rfl ?_
      refine V_iconst C dX10_first_31 rfl (v := 0) rfl ?_
      obtain ⟨q3, hq3, hf⟩ := obd hf
      refine V_cVi C (b := 116) (As := [.int p1, .int 0]) (st := []) cf10 rfl M_X10_cIs w1208 ⟨by decide, by decide⟩ rfl rfl (Nat.le_of_ble_eq_true rfl) dX10_first_32 rfl (kX10_cIs hq3) ?_
      refine V_istore C (L' := [(0, .ref (ad 116)), (1, .int p1), (2, .int p2), (3, .int q2), (4, .int q3)]) dX10_first_35 rfl (by decide) hnL [1, 2, 3, 4, 0] rfl ?_
      refine V_aload_n C 0 dX10_first_37 rfl rfl rfl ?_
      refine V_iload C 4 dX10_first_38 rfl rfl ?_
      refine V_iload_n C 3 dX10_first_40 rfl rfl rfl ?_
      refine V_iload_n C 2 dX10_first_41 rfl rfl rfl ?_
      obtain ⟨q4, hq4, hf⟩ := obd hf
      refine V_cVi C (b := 116) (As := [.int q3, .int q2, .int p2]) (st := []) cf10 rfl M_X10_farFor w1285 ⟨by decide, by decide⟩ rfl rfl (Nat.le_of_ble_eq_true rfl) dX10_first_42 rfl (kX10_farFor hq4) ?_
      refine V_istore C (L' := [(0, .ref (ad 116)), (1, .int p1), (2, .int p2), (3, .int q2), (4, .int q3), (5, .int q4.1)]) dX10_first_45 rfl (by decide) hnL [1, 2, 3, 4, 5, 0] rfl ?_
      refine V_iload C 5 dX10_first_47 rfl rfl ?_
      refine V_ldc C dX10_first_49 rfl w1293 ?_
      refine V_icmp_lt C dX10_first_51 (tgt := 61) rfl rfl (fun c17 => ?_) (fun c17 => ?_)
      · replace hf := ipos c17 hf
        refine V_iload_n C 3 dX10_first_61 rfl rfl rfl ?_
        refine V_iload_n C 2 dX10_first_62 rfl rfl rfl ?_
        refine V_icmp_ne C dX10_first_63 (tgt := 70) rfl rfl (fun c15 => ?_) (fun c15 => ?_)
        · replace hf := ineg c15 hf
          refine V_iconst C dX10_first_70 rfl (v := (-1)) (by decide) ?_
          exact JX10_first_71 q2 q3 q4.1 (-1) q4.2 hf
        · replace hf := ipos c15 hf
          refine V_iload_n C 2 dX10_first_66 rfl rfl rfl ?_
          refine V_goto C dX10_first_67 (tgt := 71) rfl ?_
          exact JX10_first_71 q2 q3 q4.1 p2 q4.2 hf
      · replace hf := ineg c17 hf
        refine V_aload_n C 0 dX10_first_54 rfl rfl rfl ?_
        refine V_ldc C dX10_first_55 rfl w1298 ?_
        obtain ⟨q16, hq16, hf⟩ := obd hf
        refine V_cVi C (b := 116) (As := [.int (-1000004)]) (st := []) cf10 rfl M_X10_finding w1184 ⟨by decide, by decide⟩ rfl rfl (Nat.le_of_ble_eq_true rfl) dX10_first_57 rfl (kX10_finding hq16) ?_
        obtain rfl := Option.some.inj hf
        exact K _ _ _ dX10_first_60 rfl rfl
    · replace hf := ipos c19 hf
      refine V_aload_n C 0 dX10_first_15 rfl rfl rfl ?_
      refine V_ldc C dX10_first_16 rfl w1183 ?_
      obtain ⟨q18, hq18, hf⟩ := obd hf
      refine V_cVi C (b := 116) (As := [.int (-1000001)]) (st := []) cf10 rfl M_X10_finding w1184 ⟨by decide, by decide⟩ rfl rfl (Nat.le_of_ble_eq_true rfl) dX10_first_18 rfl (kX10_finding hq18) ?_
      obtain rfl := Option.some.inj hf
      exact K _ _ _ dX10_first_21 rfl rfl
set_option maxHeartbeats 4000000 in
set_option maxRecDepth 100000 in
theorem kX10_liesAt {ad : Nat → Nat} {G : Gh} {p1 : Int32} {p2 : Int32} {u : Mem} {q : Int32} (hf : FX10_liesAt p1 p2 u = some q) : Ct shs ad G yX10_liesAt cX10_liesAt 3 (some .boolean) 2 43 [.ref (ad 116), .int p1, .int p2] u (some (.int q)) u := by
  refine Ct_ofI (by decide) (Nat.le_of_ble_eq_true rfl) (fun X C hnL K => ?_)
  have C : Cx ad G X cX10_liesAt "CarryFairModel" 2 43 := C
  unfold FX10_liesAt at hf
  refine V_aload_n C 0 dX10_liesAt_0 rfl rfl rfl ?_
  refine V_iload_n C 1 dX10_liesAt_1 rfl rfl rfl ?_
  refine V_iconst C dX10_liesAt_2 rfl (v := 3) rfl ?_
  obtain ⟨q1, hq1, hf⟩ := obd hf
  refine V_cVi C (b := 116) (As := [.int p1, .int 3]) (st := []) cf10 rfl M_X10_eIs w1222 ⟨by decide, by decide⟩ rfl rfl (Nat.le_of_ble_eq_true rfl) dX10_liesAt_3 rfl (kX10_eIs hq1) ?_
  refine V_if_ne C dX10_liesAt_6 (tgt := 23) rfl rfl (fun c4 => ?_) (fun c4 => ?_)
  · replace hf := ineg c4 hf
    refine V_iconst C dX10_liesAt_23 rfl (v := 0) rfl ?_
    obtain rfl := Option.some.inj hf
    exact K _ _ _ dX10_liesAt_24 rfl (by decide)
  · replace hf := ipos c4 hf
    refine V_aload_n C 0 dX10_liesAt_9 rfl rfl rfl ?_
    refine V_iload_n C 1 dX10_liesAt_10 rfl rfl rfl ?_
    refine V_iconst C dX10_liesAt_11 rfl (v := 1) rfl ?_
    obtain ⟨q2, hq2, hf⟩ := obd hf
    refine V_cVi C (b := 116) (As := [.int p1, .int 1]) (st := []) cf10 rfl M_X10_eIs w1222 ⟨by decide, by decide⟩ rfl rfl (Nat.le_of_ble_eq_true rfl) dX10_liesAt_12 rfl (kX10_eIs hq2) ?_
    refine V_iload_n C 2 dX10_liesAt_15 rfl rfl rfl ?_
    refine V_icmp_ne C dX10_liesAt_16 (tgt := 23) rfl rfl (fun c3 => ?_) (fun c3 => ?_)
    · replace hf := ineg c3 hf
      refine V_iconst C dX10_liesAt_23 rfl (v := 0) rfl ?_
      obtain rfl := Option.some.inj hf
      exact K _ _ _ dX10_liesAt_24 rfl (by decide)
    · replace hf := ipos c3 hf
      refine V_iconst C dX10_liesAt_19 rfl (v := 1) rfl ?_
      refine V_goto C dX10_liesAt_20 (tgt := 24) rfl ?_
      obtain rfl := Option.some.inj hf
      exact K _ _ _ dX10_liesAt_24 rfl (by decide)
set_option maxHeartbeats 4000000 in
set_option maxRecDepth 100000 in
theorem kX10_fitsTo {ad : Nat → Nat} {G : Gh} {p1 : Int32} {p2 : Int32} {u : Mem} {q : Int32} (hf : FX10_fitsTo p1 p2 u = some q) : Ct shs ad G yX10_fitsTo cX10_fitsTo 3 (some .boolean) 3 66 [.ref (ad 116), .int p1, .int p2] u (some (.int q)) u := by
  refine Ct_ofI (by decide) (Nat.le_of_ble_eq_true rfl) (fun X C hnL K => ?_)
  have C : Cx ad G X cX10_fitsTo "CarryFairModel" 3 66 := C
  unfold FX10_fitsTo at hf
  refine V_aload_n C 0 dX10_fitsTo_0 rfl rfl rfl ?_
  refine V_aload_n C 0 dX10_fitsTo_1 rfl rfl rfl ?_
  refine V_iload_n C 1 dX10_fitsTo_2 rfl rfl rfl ?_
  obtain ⟨q1, hq1, hf⟩ := obd hf
  refine V_cVi C (b := 116) (As := [.int p1]) (st := [.ref (ad 116)]) cf10 rfl M_X10_carries w1218 ⟨by decide, by decide⟩ rfl rfl (Nat.le_of_ble_eq_true rfl) dX10_fitsTo_3 rfl (kX10_carries hq1) ?_
  obtain ⟨q2, hq2, hf⟩ := obd hf
  refine V_cVi C (b := 116) (As := [.int q1]) (st := []) cf10 rfl M_X10_weighs w1229 ⟨by decide, by decide⟩ rfl rfl (Nat.le_of_ble_eq_true rfl) dX10_fitsTo_6 rfl (kX10_weighs hq2) ?_
  refine V_aload_n C 0 dX10_fitsTo_9 rfl rfl rfl ?_
  refine V_iload_n C 2 dX10_fitsTo_10 rfl rfl rfl ?_
  refine V_iconst C dX10_fitsTo_11 rfl (v := 0) rfl ?_
  obtain ⟨q3, hq3, hf⟩ := obd hf
  refine V_cVi C (b := 116) (As := [.int p2, .int 0]) (st := [.int q2]) cf10 rfl M_X10_eIs w1222 ⟨by decide, by decide⟩ rfl rfl (Nat.le_of_ble_eq_true rfl) dX10_fitsTo_12 rfl (kX10_eIs hq3) ?_
  refine V_iadd C dX10_fitsTo_15 rfl ?_
  refine V_aload_n C 0 dX10_fitsTo_16 rfl rfl rfl ?_
  refine V_iload_n C 1 dX10_fitsTo_17 rfl rfl rfl ?_
  obtain ⟨q4, hq4, hf⟩ := obd hf
  refine V_cVi C (b := 116) (As := [.int p1]) (st := [.int (q2 + q3)]) cf10 rfl M_X10_bears w1204 ⟨by decide, by decide⟩ rfl rfl (Nat.le_of_ble_eq_true rfl) dX10_fitsTo_18 rfl (kX10_bears hq4) ?_
  refine V_icmp_gt C dX10_fitsTo_21 (tgt := 28) rfl rfl (fun c5 => ?_) (fun c5 => ?_)
  · replace hf := ipos c5 hf
    refine V_iconst C dX10_fitsTo_28 rfl (v := 0) rfl ?_
    obtain rfl := Option.some.inj hf
    exact K _ _ _ dX10_fitsTo_29 rfl (by decide)
  · replace hf := ineg c5 hf
    refine V_iconst C dX10_fitsTo_24 rfl (v := 1) rfl ?_
    refine V_goto C dX10_fitsTo_25 (tgt := 29) rfl ?_
    obtain rfl := Option.some.inj hf
    exact K _ _ _ dX10_fitsTo_29 rfl (by decide)
set_option maxHeartbeats 4000000 in
set_option maxRecDepth 100000 in
theorem kX10_taken {ad : Nat → Nat} {G : Gh} {p1 : Int32} {p2 : Int32} {u : Mem} {q : Mem} (hf : FX10_taken p1 p2 u = some q) : Ct shs ad G yX10_taken cX10_taken 3 none 1 21 [.ref (ad 116), .int p1, .int p2] u none q := by
  refine Ct_ofV (by decide) (Nat.le_of_ble_eq_true rfl) (fun X C hnL K => ?_)
  have C : Cx ad G X cX10_taken "CarryFairModel" 1 21 := C
  unfold FX10_taken at hf
  refine V_aload_n C 0 dX10_taken_0 rfl rfl rfl ?_
  refine V_getR C cf10 rfl 0 rfl (by decide) w1082 rfl dX10_taken_1 rfl ?_
  refine V_iload_n C 2 dX10_taken_4 rfl rfl rfl ?_
  refine V_iconst C dX10_taken_5 rfl (v := 3) rfl ?_
  refine V_cSi C (As := [.int p2, .int 3]) (st := [.ref (ad 117)]) M_X10_eAt w1226 ⟨by decide, by decide⟩ rfl rfl (Nat.le_of_ble_eq_true rfl) dX10_taken_6 rfl (kX10_eAt rfl) ?_
  refine V_iconst C dX10_taken_9 rfl (v := 1) rfl ?_
  obtain ⟨g1, hf⟩ := gd hf
  refine V_istJ C rfl g1 rfl dX10_taken_10 rfl ?_
  refine V_aload_n C 0 dX10_taken_11 rfl rfl rfl ?_
  refine V_getR C cf10 rfl 0 rfl (by decide) w1082 rfl dX10_taken_12 rfl ?_
  refine V_iload_n C 2 dX10_taken_15 rfl rfl rfl ?_
  refine V_iconst C dX10_taken_16 rfl (v := 4) rfl ?_
  refine V_cSi C (As := [.int p2, .int 4]) (st := [.ref (ad 117)]) M_X10_eAt w1226 ⟨by decide, by decide⟩ rfl rfl (Nat.le_of_ble_eq_true rfl) dX10_taken_17 rfl (kX10_eAt rfl) ?_
  refine V_iload_n C 1 dX10_taken_20 rfl rfl rfl ?_
  obtain ⟨g2, hf⟩ := gd hf
  refine V_istJ C rfl g2 rfl dX10_taken_21 rfl ?_
  obtain rfl := Option.some.inj hf
  exact K _ _ dX10_taken_22 rfl
set_option maxHeartbeats 4000000 in
set_option maxRecDepth 100000 in
theorem kX10_take {ad : Nat → Nat} {G : Gh} {p1 : Int32} {p2 : Int32} {u : Mem} {q : Int32 × Mem} (hf : FX10_take p1 p2 u = some q) : Ct shs ad G yX10_take cX10_take 3 (some .int) 4 88 [.ref (ad 116), .int p1, .int p2] u (some (.int q.1)) q.2 := by
  refine Ct_ofI (by decide) (Nat.le_of_ble_eq_true rfl) (fun X C hnL K => ?_)
  have C : Cx ad G X cX10_take "CarryFairModel" 4 88 := C
  unfold FX10_take at hf
  refine V_aload_n C 0 dX10_take_0 rfl rfl rfl ?_
  refine V_iload_n C 1 dX10_take_1 rfl rfl rfl ?_
  refine V_cVi C (b := 116) (As := [.int p1]) (st := []) cf10 rfl M_X10_isCarrier w1200 ⟨by decide, by decide⟩ rfl rfl (Nat.le_of_ble_eq_true rfl) dX10_take_2 rfl (kX10_isCarrier rfl) ?_
  refine V_if_eq C dX10_take_5 (tgt := 16) rfl rfl (fun c14 => ?_) (fun c14 => ?_)
  · replace hf := ipos c14 hf
    refine V_aload_n C 0 dX10_take_16 rfl rfl rfl ?_
    refine V_ldc C dX10_take_17 rfl w1183 ?_
    obtain ⟨q1, hq1, hf⟩ := obd hf
    refine V_cVi C (b := 116) (As := [.int (-1000001)]) (st := []) cf10 rfl M_X10_finding w1184 ⟨by decide, by decide⟩ rfl rfl (Nat.le_of_ble_eq_true rfl) dX10_take_19 rfl (kX10_finding hq1) ?_
    obtain rfl := Option.some.inj hf
    exact K _ _ _ dX10_take_22 rfl rfl
  · replace hf := ineg c14 hf
    refine V_aload_n C 0 dX10_take_8 rfl rfl rfl ?_
    refine V_iload_n C 2 dX10_take_9 rfl rfl rfl ?_
    refine V_cVi C (b := 116) (As := [.int p2]) (st := []) cf10 rfl M_X10_isErrand w1277 ⟨by decide, by decide⟩ rfl rfl (Nat.le_of_ble_eq_true rfl) dX10_take_10 rfl (kX10_isErrand rfl) ?_
    refine V_if_ne C dX10_take_13 (tgt := 23) rfl rfl (fun c13 => ?_) (fun c13 => ?_)
    · replace hf := ineg c13 hf
      refine V_aload_n C 0 dX10_take_23 rfl rfl rfl ?_
      refine V_iload_n C 2 dX10_take_24 rfl rfl rfl ?_
      refine V_aload_n C 0 dX10_take_25 rfl rfl rfl ?_
      refine V_iload_n C 1 dX10_take_26 rfl rfl rfl ?_
      refine V_iconst C dX10_take_27 rfl (v := 1) rfl ?_
      obtain ⟨q2, hq2, hf⟩ := obd hf
      refine V_cVi C (b := 116) (As := [.int p1, .int 1]) (st := [.int p2, .ref (ad 116)]) cf10 rfl M_X10_cIs w1208 ⟨by decide, by decide⟩ rfl rfl (Nat.le_of_ble_eq_true rfl) dX10_take_28 rfl (kX10_cIs hq2) ?_
      obtain ⟨q3, hq3, hf⟩ := obd hf
      refine V_cVi C (b := 116) (As := [.int p2, .int q2]) (st := []) cf10 rfl M_X10_liesAt w1330 ⟨by decide, by decide⟩ rfl rfl (Nat.le_of_ble_eq_true rfl) dX10_take_31 rfl (kX10_liesAt hq3) ?_
      refine V_if_ne C dX10_take_34 (tgt := 44) rfl rfl (fun c11 => ?_) (fun c11 => ?_)
      · replace hf := ineg c11 hf
        refine V_aload_n C 0 dX10_take_44 rfl rfl rfl ?_
        refine V_iload_n C 1 dX10_take_45 rfl rfl rfl ?_
        refine V_iload_n C 2 dX10_take_46 rfl rfl rfl ?_
        obtain ⟨q4, hq4, hf⟩ := obd hf
        refine V_cVi C (b := 116) (As := [.int p1, .int p2]) (st := []) cf10 rfl M_X10_fitsTo w1335 ⟨by decide, by decide⟩ rfl rfl (Nat.le_of_ble_eq_true rfl) dX10_take_47 rfl (kX10_fitsTo hq4) ?_
        refine V_if_ne C dX10_take_50 (tgt := 60) rfl rfl (fun c9 => ?_) (fun c9 => ?_)
        · replace hf := ineg c9 hf
          refine V_aload_n C 0 dX10_take_60 rfl rfl rfl ?_
          refine V_iload_n C 1 dX10_take_61 rfl rfl rfl ?_
          refine V_iload_n C 2 dX10_take_62 rfl rfl rfl ?_
          obtain ⟨q5, hq5, hf⟩ := obd hf
          refine V_cVv C (b := 116) (As := [.int p1, .int p2]) (st := []) cf10 rfl M_X10_taken w1339 ⟨by decide, by decide⟩ rfl rfl (Nat.le_of_ble_eq_true rfl) dX10_take_63 rfl (kX10_taken hq5) ?_
          refine V_aload_n C 0 dX10_take_66 rfl rfl rfl ?_
          refine V_aload_n C 0 dX10_take_67 rfl rfl rfl ?_
          refine V_iload_n C 1 dX10_take_68 rfl rfl rfl ?_
          obtain ⟨q6, hq6, hf⟩ := obd hf
          refine V_cVi C (b := 116) (As := [.int p1]) (st := [.ref (ad 116)]) cf10 rfl M_X10_carries w1218 ⟨by decide, by decide⟩ rfl rfl (Nat.le_of_ble_eq_true rfl) dX10_take_69 rfl (kX10_carries hq6) ?_
          obtain ⟨q7, hq7, hf⟩ := obd hf
          refine V_cVi C (b := 116) (As := [.int q6]) (st := []) cf10 rfl M_X10_weighs w1229 ⟨by decide, by decide⟩ rfl rfl (Nat.le_of_ble_eq_true rfl) dX10_take_72 rfl (kX10_weighs hq7) ?_
          obtain rfl := Option.some.inj hf
          exact K _ _ _ dX10_take_75 rfl rfl
        · replace hf := ipos c9 hf
          refine V_aload_n C 0 dX10_take_53 rfl rfl rfl ?_
          refine V_ldc C dX10_take_54 rfl w1188 ?_
          obtain ⟨q8, hq8, hf⟩ := obd hf
          refine V_cVi C (b := 116) (As := [.int (-1000002)]) (st := []) cf10 rfl M_X10_finding w1184 ⟨by decide, by decide⟩ rfl rfl (Nat.le_of_ble_eq_true rfl) dX10_take_56 rfl (kX10_finding hq8) ?_
          obtain rfl := Option.some.inj hf
          exact K _ _ _ dX10_take_59 rfl rfl
      · replace hf := ipos c11 hf
        refine V_aload_n C 0 dX10_take_37 rfl rfl rfl ?_
        refine V_ldc C dX10_take_38 rfl w1334 ?_
        obtain ⟨q10, hq10, hf⟩ := obd hf
        refine V_cVi C (b := 116) (As := [.int (-1000005)]) (st := []) cf10 rfl M_X10_finding w1184 ⟨by decide, by decide⟩ rfl rfl (Nat.le_of_ble_eq_true rfl) dX10_take_40 rfl (kX10_finding hq10) ?_
        obtain rfl := Option.some.inj hf
        exact K _ _ _ dX10_take_43 rfl rfl
    · replace hf := ipos c13 hf
      refine V_aload_n C 0 dX10_take_16 rfl rfl rfl ?_
      refine V_ldc C dX10_take_17 rfl w1183 ?_
      obtain ⟨q12, hq12, hf⟩ := obd hf
      refine V_cVi C (b := 116) (As := [.int (-1000001)]) (st := []) cf10 rfl M_X10_finding w1184 ⟨by decide, by decide⟩ rfl rfl (Nat.le_of_ble_eq_true rfl) dX10_take_19 rfl (kX10_finding hq12) ?_
      obtain rfl := Option.some.inj hf
      exact K _ _ _ dX10_take_22 rfl rfl
set_option maxHeartbeats 4000000 in
set_option maxRecDepth 100000 in
theorem kX10_drop {ad : Nat → Nat} {G : Gh} {p1 : Int32} {p2 : Int32} {u : Mem} {q : Int32 × Mem} (hf : FX10_drop p1 p2 u = some q) : Ct shs ad G yX10_drop cX10_drop 3 (some .int) 3 66 [.ref (ad 116), .int p1, .int p2] u (some (.int q.1)) q.2 := by
  refine Ct_ofI (by decide) (Nat.le_of_ble_eq_true rfl) (fun X C hnL K => ?_)
  have C : Cx ad G X cX10_drop "CarryFairModel" 3 66 := C
  unfold FX10_drop at hf
  refine V_aload_n C 0 dX10_drop_0 rfl rfl rfl ?_
  refine V_iload_n C 1 dX10_drop_1 rfl rfl rfl ?_
  refine V_cVi C (b := 116) (As := [.int p1]) (st := []) cf10 rfl M_X10_isCarrier w1200 ⟨by decide, by decide⟩ rfl rfl (Nat.le_of_ble_eq_true rfl) dX10_drop_2 rfl (kX10_isCarrier rfl) ?_
  refine V_if_eq C dX10_drop_5 (tgt := 16) rfl rfl (fun c18 => ?_) (fun c18 => ?_)
  · replace hf := ipos c18 hf
    refine V_aload_n C 0 dX10_drop_16 rfl rfl rfl ?_
    refine V_ldc C dX10_drop_17 rfl w1183 ?_
    obtain ⟨q1, hq1, hf⟩ := obd hf
    refine V_cVi C (b := 116) (As := [.int (-1000001)]) (st := []) cf10 rfl M_X10_finding w1184 ⟨by decide, by decide⟩ rfl rfl (Nat.le_of_ble_eq_true rfl) dX10_drop_19 rfl (kX10_finding hq1) ?_
    obtain rfl := Option.some.inj hf
    exact K _ _ _ dX10_drop_22 rfl rfl
  · replace hf := ineg c18 hf
    refine V_aload_n C 0 dX10_drop_8 rfl rfl rfl ?_
    refine V_iload_n C 2 dX10_drop_9 rfl rfl rfl ?_
    refine V_cVi C (b := 116) (As := [.int p2]) (st := []) cf10 rfl M_X10_isErrand w1277 ⟨by decide, by decide⟩ rfl rfl (Nat.le_of_ble_eq_true rfl) dX10_drop_10 rfl (kX10_isErrand rfl) ?_
    refine V_if_ne C dX10_drop_13 (tgt := 23) rfl rfl (fun c17 => ?_) (fun c17 => ?_)
    · replace hf := ineg c17 hf
      refine V_aload_n C 0 dX10_drop_23 rfl rfl rfl ?_
      refine V_iload_n C 1 dX10_drop_24 rfl rfl rfl ?_
      obtain ⟨q2, hq2, hf⟩ := obd hf
      refine V_cVi C (b := 116) (As := [.int p1]) (st := []) cf10 rfl M_X10_carries w1218 ⟨by decide, by decide⟩ rfl rfl (Nat.le_of_ble_eq_true rfl) dX10_drop_25 rfl (kX10_carries hq2) ?_
      refine V_iload_n C 2 dX10_drop_28 rfl rfl rfl ?_
      refine V_cSi C (As := [.int q2, .int p2]) (st := []) M_X10_has w1233 ⟨by decide, by decide⟩ rfl rfl (Nat.le_of_ble_eq_true rfl) dX10_drop_29 rfl (kX10_has rfl) ?_
      refine V_if_eq C dX10_drop_32 (tgt := 50) rfl rfl (fun c15 => ?_) (fun c15 => ?_)
      · replace hf := ipos c15 hf
        refine V_aload_n C 0 dX10_drop_50 rfl rfl rfl ?_
        refine V_ldc C dX10_drop_51 rfl w1334 ?_
        obtain ⟨q3, hq3, hf⟩ := obd hf
        refine V_cVi C (b := 116) (As := [.int (-1000005)]) (st := []) cf10 rfl M_X10_finding w1184 ⟨by decide, by decide⟩ rfl rfl (Nat.le_of_ble_eq_true rfl) dX10_drop_53 rfl (kX10_finding hq3) ?_
        obtain rfl := Option.some.inj hf
        exact K _ _ _ dX10_drop_56 rfl rfl
      · replace hf := ineg c15 hf
        refine V_aload_n C 0 dX10_drop_35 rfl rfl rfl ?_
        refine V_iload_n C 2 dX10_drop_36 rfl rfl rfl ?_
        refine V_iconst C dX10_drop_37 rfl (v := 2) rfl ?_
        obtain ⟨q4, hq4, hf⟩ := obd hf
        refine V_cVi C (b := 116) (As := [.int p2, .int 2]) (st := []) cf10 rfl M_X10_eIs w1222 ⟨by decide, by decide⟩ rfl rfl (Nat.le_of_ble_eq_true rfl) dX10_drop_38 rfl (kX10_eIs hq4) ?_
        refine V_aload_n C 0 dX10_drop_41 rfl rfl rfl ?_
        refine V_iload_n C 1 dX10_drop_42 rfl rfl rfl ?_
        refine V_iconst C dX10_drop_43 rfl (v := 1) rfl ?_
        obtain ⟨q5, hq5, hf⟩ := obd hf
        refine V_cVi C (b := 116) (As := [.int p1, .int 1]) (st := [.int q4]) cf10 rfl M_X10_cIs w1208 ⟨by decide, by decide⟩ rfl rfl (Nat.le_of_ble_eq_true rfl) dX10_drop_44 rfl (kX10_cIs hq5) ?_
        refine V_icmp_ne C dX10_drop_47 (tgt := 57) rfl rfl (fun c14 => ?_) (fun c14 => ?_)
        · replace hf := ineg c14 hf
          refine V_aload_n C 0 dX10_drop_57 rfl rfl rfl ?_
          refine V_getR C cf10 rfl 0 rfl (by decide) w1082 rfl dX10_drop_58 rfl ?_
          refine V_iload_n C 2 dX10_drop_61 rfl rfl rfl ?_
          refine V_iconst C dX10_drop_62 rfl (v := 1) rfl ?_
          refine V_cSi C (As := [.int p2, .int 1]) (st := [.ref (ad 117)]) M_X10_eAt w1226 ⟨by decide, by decide⟩ rfl rfl (Nat.le_of_ble_eq_true rfl) dX10_drop_63 rfl (kX10_eAt rfl) ?_
          refine V_aload_n C 0 dX10_drop_66 rfl rfl rfl ?_
          refine V_iload_n C 1 dX10_drop_67 rfl rfl rfl ?_
          refine V_iconst C dX10_drop_68 rfl (v := 1) rfl ?_
          obtain ⟨q6, hq6, hf⟩ := obd hf
          refine V_cVi C (b := 116) (As := [.int p1, .int 1]) (st := [.int (FX10_eAt p2 1), .ref (ad 117)]) cf10 rfl M_X10_cIs w1208 ⟨by decide, by decide⟩ rfl rfl (Nat.le_of_ble_eq_true rfl) dX10_drop_69 rfl (kX10_cIs hq6) ?_
          obtain ⟨g7, hf⟩ := gd hf
          refine V_istJ C rfl g7 rfl dX10_drop_72 rfl ?_
          refine V_aload_n C 0 dX10_drop_73 rfl rfl rfl ?_
          refine V_getR C cf10 rfl 0 rfl (by decide) w1082 rfl dX10_drop_74 rfl ?_
          refine V_iload_n C 2 dX10_drop_77 rfl rfl rfl ?_
          refine V_iconst C dX10_drop_78 rfl (v := 3) rfl ?_
          refine V_cSi C (As := [.int p2, .int 3]) (st := [.ref (ad 117)]) M_X10_eAt w1226 ⟨by decide, by decide⟩ rfl rfl (Nat.le_of_ble_eq_true rfl) dX10_drop_79 rfl (kX10_eAt rfl) ?_
          refine V_iconst C dX10_drop_82 rfl (v := 0) rfl ?_
          obtain ⟨g8, hf⟩ := gd hf
          refine V_istJ C rfl g8 rfl dX10_drop_83 rfl ?_
          refine V_aload_n C 0 dX10_drop_84 rfl rfl rfl ?_
          refine V_getR C cf10 rfl 0 rfl (by decide) w1082 rfl dX10_drop_85 rfl ?_
          refine V_iload_n C 2 dX10_drop_88 rfl rfl rfl ?_
          refine V_iconst C dX10_drop_89 rfl (v := 4) rfl ?_
          refine V_cSi C (As := [.int p2, .int 4]) (st := [.ref (ad 117)]) M_X10_eAt w1226 ⟨by decide, by decide⟩ rfl rfl (Nat.le_of_ble_eq_true rfl) dX10_drop_90 rfl (kX10_eAt rfl) ?_
          refine V_iconst C dX10_drop_93 rfl (v := (-1)) (by decide) ?_
          obtain ⟨g9, hf⟩ := gd hf
          refine V_istJ C rfl g9 rfl dX10_drop_94 rfl ?_
          obtain ⟨w10, ew10, hf⟩ := nmd hf
          rw [← ew10]
          refine V_aload_n C 0 dX10_drop_95 rfl rfl rfl ?_
          refine V_aload_n C 0 dX10_drop_96 rfl rfl rfl ?_
          refine V_iload_n C 1 dX10_drop_97 rfl rfl rfl ?_
          obtain ⟨q11, hq11, hf⟩ := obd hf
          refine V_cVi C (b := 116) (As := [.int p1]) (st := [.ref (ad 116)]) cf10 rfl M_X10_carries w1218 ⟨by decide, by decide⟩ rfl rfl (Nat.le_of_ble_eq_true rfl) dX10_drop_98 rfl (kX10_carries hq11) ?_
          obtain ⟨q12, hq12, hf⟩ := obd hf
          refine V_cVi C (b := 116) (As := [.int q11]) (st := []) cf10 rfl M_X10_weighs w1229 ⟨by decide, by decide⟩ rfl rfl (Nat.le_of_ble_eq_true rfl) dX10_drop_101 rfl (kX10_weighs hq12) ?_
          obtain rfl := Option.some.inj hf
          exact K _ _ _ dX10_drop_104 rfl rfl
        · replace hf := ipos c14 hf
          refine V_aload_n C 0 dX10_drop_50 rfl rfl rfl ?_
          refine V_ldc C dX10_drop_51 rfl w1334 ?_
          obtain ⟨q13, hq13, hf⟩ := obd hf
          refine V_cVi C (b := 116) (As := [.int (-1000005)]) (st := []) cf10 rfl M_X10_finding w1184 ⟨by decide, by decide⟩ rfl rfl (Nat.le_of_ble_eq_true rfl) dX10_drop_53 rfl (kX10_finding hq13) ?_
          obtain rfl := Option.some.inj hf
          exact K _ _ _ dX10_drop_56 rfl rfl
    · replace hf := ipos c17 hf
      refine V_aload_n C 0 dX10_drop_16 rfl rfl rfl ?_
      refine V_ldc C dX10_drop_17 rfl w1183 ?_
      obtain ⟨q16, hq16, hf⟩ := obd hf
      refine V_cVi C (b := 116) (As := [.int (-1000001)]) (st := []) cf10 rfl M_X10_finding w1184 ⟨by decide, by decide⟩ rfl rfl (Nat.le_of_ble_eq_true rfl) dX10_drop_19 rfl (kX10_finding hq16) ?_
      obtain rfl := Option.some.inj hf
      exact K _ _ _ dX10_drop_22 rfl rfl
