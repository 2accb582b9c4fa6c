set_option maxHeartbeats 4000000 in
set_option maxRecDepth 100000 in
theorem kX2_ableSet {ad : Nat → Nat} {G : Gh} {p0 : Nat} (h0 : isF p0) {p1 : Int32} {u : Mem} {q : Int32} (hf : FX2_ableSet p0 p1 u = some q) : Ct shs ad G yX2_ableSet cX2_ableSet 5 (some .int) 3 67 [.ref (ad p0), .int p1] u (some (.int q)) u := by
  refine Ct_ofI (by decide) (Nat.le_of_ble_eq_true rfl) (fun X C hnL K => ?_)
  have C : Cx ad G X cX2_ableSet "CarryFair$Fair" 3 67 := C
  unfold FX2_ableSet at hf
  have Lp4 : ∀ (x0 : (Int32 × Int32)) (q4 : (Int32 × Int32)), lp (BX2_ableSet_4 p0 p1 u) FU x0 = some q4 → V shs ad G X 66 [(0, .ref (ad p0)), (1, .int p1), (2, .int q4.1), (3, .int q4.2)] [] u → V shs ad G X 4 [(0, .ref (ad p0)), (1, .int p1), (2, .int x0.1), (3, .int x0.2)] [] u := by
    intro  x0 q4 hq hx4_0
    refine lp_V (BX2_ableSet_4 p0 p1 u) (fun x4 => V shs ad G X 4 [(0, .ref (ad p0)), (1, .int p1), (2, .int x4.1), (3, .int x4.2)] [] u) q4 (fun rec4 ih4 x4 hf => ?_) FU x0 hq
    unfold BX2_ableSet_4 at hf
    refine V_iload_n C 3 dX2_ableSet_4 rfl rfl rfl ?_
    refine V_aload_n C 0 dX2_ableSet_5 rfl rfl rfl ?_
    refine V_getI C cf2 (sF h0) 6 rfl (by decide) w262 rfl dX2_ableSet_6 rfl ?_
    refine V_icmp_ge C dX2_ableSet_9 (tgt := 66) rfl rfl (fun c7 => ?_) (fun c7 => ?_)
    · replace hf := ipos c7 hf
      obtain rfl := Option.some.inj hf
      exact hx4_0
    · replace hf := ineg c7 hf
      refine V_aload_n C 0 dX2_ableSet_12 rfl rfl rfl ?_
      refine V_getR C cf2 (sF h0) 1 rfl (by decide) w248 rfl dX2_ableSet_13 rfl ?_
      refine V_iload_n C 3 dX2_ableSet_16 rfl rfl rfl ?_
      obtain ⟨g1, hf⟩ := gd hf
      refine V_aald C (sFe h0) (fun _ => rfl) g1 (sErg g1) dX2_ableSet_17 rfl ?_
      refine V_astore C (L' := [(0, .ref (ad p0)), (1, .int p1), (2, .int x4.1), (3, .int x4.2), (4, .ref (ad (p0 + 18 + (x4.2).toNatClampNeg)))]) dX2_ableSet_18 rfl (by decide) hnL [1, 2, 3, 4, 0] rfl ?_
      refine V_aload C 4 dX2_ableSet_20 rfl rfl ?_
      refine V_getI C cf1 (sEr h0 g1) 3 rfl (by decide) w215 rfl dX2_ableSet_22 rfl ?_
      refine V_if_ne C dX2_ableSet_25 (tgt := 60) rfl rfl (fun c6 => ?_) (fun c6 => ?_)
      · replace hf := ineg c6 hf
        refine V_iinc C (v := (x4.2 + 1)) (L' := [(0, .ref (ad p0)), (1, .int p1), (2, .int x4.1), (3, .int (x4.2 + 1)), (4, .ref (ad (p0 + 18 + (x4.2).toNatClampNeg)))]) 3 dX2_ableSet_60 rfl rfl rfl (by decide) hnL [1, 2, 3, 0, 4] rfl ?_
        refine V_goto C dX2_ableSet_63 (tgt := 4) rfl ?_
        refine V_sub (L' := [(0, .ref (ad p0)), (1, .int p1), (2, .int x4.1), (3, .int (x4.2 + 1))]) [0, 1, 2, 3] rfl ?_
        exact ih4 (x4.1, (x4.2 + 1)) hf
      · replace hf := ipos c6 hf
        refine V_aload C 4 dX2_ableSet_28 rfl rfl ?_
        refine V_getI C cf1 (sEr h0 g1) 0 rfl (by decide) w204 rfl dX2_ableSet_30 rfl ?_
        refine V_aload_n C 0 dX2_ableSet_33 rfl rfl rfl ?_
        refine V_getR C cf2 (sF h0) 0 rfl (by decide) w245 rfl dX2_ableSet_34 rfl ?_
        refine V_iload_n C 1 dX2_ableSet_37 rfl rfl rfl ?_
        obtain ⟨g2, hf⟩ := gd hf
        refine V_aald C (sFc h0) (fun _ => rfl) g2 (sCag g2) dX2_ableSet_38 rfl ?_
        refine V_cVi C (b := (p0 + 12 + (p1).toNatClampNeg)) (As := []) (st := [.int (u (p0 + 18 + (x4.2).toNatClampNeg) 0)]) cf0 (sCa h0 g2) M_X0_canBear w546 ⟨by decide, by decide⟩ rfl rfl (Nat.le_of_ble_eq_true rfl) dX2_ableSet_39 rfl (kX0_canBear (sCa h0 g2) rfl) ?_
        refine V_icmp_gt C dX2_ableSet_42 (tgt := 60) rfl rfl (fun c5 => ?_) (fun c5 => ?_)
        · replace hf := ipos c5 hf
          refine V_iinc C (v := (x4.2 + 1)) (L' := [(0, .ref (ad p0)), (1, .int p1), (2, .int x4.1), (3, .int (x4.2 + 1)), (4, .ref (ad (p0 + 18 + (x4.2).toNatClampNeg)))]) 3 dX2_ableSet_60 rfl rfl rfl (by decide) hnL [1, 2, 3, 0, 4] rfl ?_
          refine V_goto C dX2_ableSet_63 (tgt := 4) rfl ?_
          refine V_sub (L' := [(0, .ref (ad p0)), (1, .int p1), (2, .int x4.1), (3, .int (x4.2 + 1))]) [0, 1, 2, 3] rfl ?_
          exact ih4 (x4.1, (x4.2 + 1)) hf
        · replace hf := ineg c5 hf
          refine V_aload_n C 0 dX2_ableSet_45 rfl rfl rfl ?_
          refine V_iload_n C 1 dX2_ableSet_46 rfl rfl rfl ?_
          refine V_iload_n C 3 dX2_ableSet_47 rfl rfl rfl ?_
          obtain ⟨q3, hq3, hf⟩ := obd hf
          refine V_cVi C (b := p0) (As := [.int p1, .int x4.2]) (st := []) cf2 (sF h0) M_X2_canComeToBoth w692 ⟨by decide, by decide⟩ rfl rfl (Nat.le_of_ble_eq_true rfl) dX2_ableSet_48 rfl (kX2_canComeToBoth h0 hq3) ?_
          refine V_if_eq C dX2_ableSet_51 (tgt := 60) rfl rfl (fun c4 => ?_) (fun c4 => ?_)
          · replace hf := ipos c4 hf
            refine V_iinc C (v := (x4.2 + 1)) (L' := [(0, .ref (ad p0)), (1, .int p1), (2, .int x4.1), (3, .int (x4.2 + 1)), (4, .ref (ad (p0 + 18 + (x4.2).toNatClampNeg)))]) 3 dX2_ableSet_60 rfl rfl rfl (by decide) hnL [1, 2, 3, 0, 4] rfl ?_
            refine V_goto C dX2_ableSet_63 (tgt := 4) rfl ?_
            refine V_sub (L' := [(0, .ref (ad p0)), (1, .int p1), (2, .int x4.1), (3, .int (x4.2 + 1))]) [0, 1, 2, 3] rfl ?_
            exact ih4 (x4.1, (x4.2 + 1)) hf
          · replace hf := ineg c4 hf
            refine V_iload_n C 2 dX2_ableSet_54 rfl rfl rfl ?_
            refine V_iconst C dX2_ableSet_55 rfl (v := 1) rfl ?_
            refine V_iload_n C 3 dX2_ableSet_56 rfl rfl rfl ?_
            refine V_jshl C dX2_ableSet_57 rfl ?_
            refine V_ior C dX2_ableSet_58 rfl ?_
            refine V_istore_n C (L' := [(0, .ref (ad p0)), (1, .int p1), (2, .int (x4.1 ||| (jshl 1 x4.2))), (3, .int x4.2), (4, .ref (ad (p0 + 18 + (x4.2).toNatClampNeg)))]) dX2_ableSet_59 rfl rfl (by decide) hnL [1, 2, 0, 3, 4] rfl ?_
            refine V_iinc C (v := (x4.2 + 1)) (L' := [(0, .ref (ad p0)), (1, .int p1), (2, .int (x4.1 ||| (jshl 1 x4.2))), (3, .int (x4.2 + 1)), (4, .ref (ad (p0 + 18 + (x4.2).toNatClampNeg)))]) 3 dX2_ableSet_60 rfl rfl rfl (by decide) hnL [1, 2, 3, 0, 4] rfl ?_
            refine V_goto C dX2_ableSet_63 (tgt := 4) rfl ?_
            refine V_sub (L' := [(0, .ref (ad p0)), (1, .int p1), (2, .int (x4.1 ||| (jshl 1 x4.2))), (3, .int (x4.2 + 1))]) [0, 1, 2, 3] rfl ?_
            exact ih4 ((x4.1 ||| (jshl 1 x4.2)), (x4.2 + 1)) hf
  refine V_iconst C dX2_ableSet_0 rfl (v := 0) rfl ?_
  refine V_istore_n C (L' := [(0, .ref (ad p0)), (1, .int p1), (2, .int 0)]) dX2_ableSet_1 rfl rfl (by decide) hnL [1, 2, 0] rfl ?_
  refine V_iconst C dX2_ableSet_2 rfl (v := 0) rfl ?_
  refine V_istore_n C (L' := [(0, .ref (ad p0)), (1, .int p1), (2, .int 0), (3, .int 0)]) dX2_ableSet_3 rfl rfl (by decide) hnL [1, 2, 3, 0] rfl ?_
  obtain ⟨q4_8, hq4_8, hf⟩ := obd hf
  refine Lp4  (0, 0) q4_8 hq4_8 ?_
  refine V_iload_n C 2 dX2_ableSet_66 rfl rfl rfl ?_
  obtain rfl := Option.some.inj hf
  exact K _ _ _ dX2_ableSet_67 rfl rfl
set_option maxHeartbeats 4000000 in
set_option maxRecDepth 100000 in
theorem kX2_liesBy {ad : Nat → Nat} {G : Gh} {p0 : Nat} (h0 : isF p0) {p1 : Int32} {p2 : Int32} {u : Mem} {q : Int32} (hf : FX2_liesBy p0 p1 p2 u = some q) : Ct shs ad G yX2_liesBy cX2_liesBy 3 (some .boolean) 0 0 [.ref (ad p0), .int p1, .int p2] u (some (.int q)) u := by
  refine Ct_ofI (by decide) (Nat.le_of_ble_eq_true rfl) (fun X C hnL K => ?_)
  have C : Cx ad G X cX2_liesBy "CarryFair$Fair" 0 0 := C
  unfold FX2_liesBy at hf
  refine V_aload_n C 0 dX2_liesBy_0 rfl rfl rfl ?_
  refine V_getR C cf2 (sF h0) 1 rfl (by decide) w248 rfl dX2_liesBy_1 rfl ?_
  refine V_iload_n C 1 dX2_liesBy_4 rfl rfl rfl ?_
  obtain ⟨g1, hf⟩ := gd hf
  refine V_aald C (sFe h0) (fun _ => rfl) g1 (sErg g1) dX2_liesBy_5 rfl ?_
  refine V_getI C cf1 (sEr h0 g1) 3 rfl (by decide) w215 rfl dX2_liesBy_6 rfl ?_
  refine V_if_ne C dX2_liesBy_9 (tgt := 37) rfl rfl (fun c5 => ?_) (fun c5 => ?_)
  · replace hf := ineg c5 hf
    refine V_iconst C dX2_liesBy_37 rfl (v := 0) rfl ?_
    obtain rfl := Option.some.inj hf
    exact K _ _ _ dX2_liesBy_38 rfl (by decide)
  · replace hf := ipos c5 hf
    refine V_aload_n C 0 dX2_liesBy_12 rfl rfl rfl ?_
    refine V_getR C cf2 (sF h0) 1 rfl (by decide) w248 rfl dX2_liesBy_13 rfl ?_
    refine V_iload_n C 1 dX2_liesBy_16 rfl rfl rfl ?_
    obtain ⟨g2, hf⟩ := gd hf
    refine V_aald C (sFe h0) (fun _ => rfl) g2 (sErg g2) dX2_liesBy_17 rfl ?_
    refine V_getI C cf1 (sEr h0 g2) 1 rfl (by decide) w208 rfl dX2_liesBy_18 rfl ?_
    refine V_aload_n C 0 dX2_liesBy_21 rfl rfl rfl ?_
    refine V_getR C cf2 (sF h0) 0 rfl (by decide) w245 rfl dX2_liesBy_22 rfl ?_
    refine V_iload_n C 2 dX2_liesBy_25 rfl rfl rfl ?_
    obtain ⟨g3, hf⟩ := gd hf
    refine V_aald C (sFc h0) (fun _ => rfl) g3 (sCag g3) dX2_liesBy_26 rfl ?_
    refine V_getI C cf0 (sCa h0 g3) 1 rfl (by decide) w175 rfl dX2_liesBy_27 rfl ?_
    refine V_icmp_ne C dX2_liesBy_30 (tgt := 37) rfl rfl (fun c4 => ?_) (fun c4 => ?_)
    · replace hf := ineg c4 hf
      refine V_iconst C dX2_liesBy_37 rfl (v := 0) rfl ?_
      obtain rfl := Option.some.inj hf
      exact K _ _ _ dX2_liesBy_38 rfl (by decide)
    · replace hf := ipos c4 hf
      refine V_iconst C dX2_liesBy_33 rfl (v := 1) rfl ?_
      refine V_goto C dX2_liesBy_34 (tgt := 38) rfl ?_
      obtain rfl := Option.some.inj hf
      exact K _ _ _ dX2_liesBy_38 rfl (by decide)
set_option maxHeartbeats 4000000 in
set_option maxRecDepth 100000 in
theorem kX2_couldAdd {ad : Nat → Nat} {G : Gh} {p0 : Nat} (h0 : isF p0) {p1 : Int32} {p2 : Int32} {u : Mem} {q : Int32} (hf : FX2_couldAdd p0 p1 p2 u = some q) : Ct shs ad G yX2_couldAdd cX2_couldAdd 3 (some .boolean) 2 44 [.ref (ad p0), .int p1, .int p2] u (some (.int q)) u := by
  refine Ct_ofI (by decide) (Nat.le_of_ble_eq_true rfl) (fun X C hnL K => ?_)
  have C : Cx ad G X cX2_couldAdd "CarryFair$Fair" 2 44 := C
  unfold FX2_couldAdd at hf
  refine V_aload_n C 0 dX2_couldAdd_0 rfl rfl rfl ?_
  refine V_aload_n C 0 dX2_couldAdd_1 rfl rfl rfl ?_
  refine V_iload_n C 1 dX2_couldAdd_2 rfl rfl rfl ?_
  obtain ⟨q1, hq1, hf⟩ := obd hf
  refine V_cVi C (b := p0) (As := [.int p1]) (st := [.ref (ad p0)]) cf2 (sF h0) M_X2_carriedBy w544 ⟨by decide, by decide⟩ rfl rfl (Nat.le_of_ble_eq_true rfl) dX2_couldAdd_3 rfl (kX2_carriedBy h0 hq1) ?_
  obtain ⟨q2, hq2, hf⟩ := obd hf
  refine V_cVi C (b := p0) (As := [.int q1]) (st := []) cf2 (sF h0) M_X2_weightOf w545 ⟨by decide, by decide⟩ rfl rfl (Nat.le_of_ble_eq_true rfl) dX2_couldAdd_6 rfl (kX2_weightOf h0 hq2) ?_
  refine V_aload_n C 0 dX2_couldAdd_9 rfl rfl rfl ?_
  refine V_getR C cf2 (sF h0) 1 rfl (by decide) w248 rfl dX2_couldAdd_10 rfl ?_
  refine V_iload_n C 2 dX2_couldAdd_13 rfl rfl rfl ?_
  obtain ⟨g3, hf⟩ := gd hf
  refine V_aald C (sFe h0) (fun _ => rfl) g3 (sErg g3) dX2_couldAdd_14 rfl ?_
  refine V_getI C cf1 (sEr h0 g3) 0 rfl (by decide) w204 rfl dX2_couldAdd_15 rfl ?_
  refine V_iadd C dX2_couldAdd_18 rfl ?_
  refine V_aload_n C 0 dX2_couldAdd_19 rfl rfl rfl ?_
  refine V_getR C cf2 (sF h0) 0 rfl (by decide) w245 rfl dX2_couldAdd_20 rfl ?_
  refine V_iload_n C 1 dX2_couldAdd_23 rfl rfl rfl ?_
  obtain ⟨g4, hf⟩ := gd hf
  refine V_aald C (sFc h0) (fun _ => rfl) g4 (sCag g4) dX2_couldAdd_24 rfl ?_
  refine V_cVi C (b := (p0 + 12 + (p1).toNatClampNeg)) (As := []) (st := [.int (q2 + (u (p0 + 18 + (p2).toNatClampNeg) 0))]) cf0 (sCa h0 g4) M_X0_canBear w546 ⟨by decide, by decide⟩ rfl rfl (Nat.le_of_ble_eq_true rfl) dX2_couldAdd_25 rfl (kX0_canBear (sCa h0 g4) rfl) ?_
  refine V_icmp_gt C dX2_couldAdd_28 (tgt := 35) rfl rfl (fun c5 => ?_) (fun c5 => ?_)
  · replace hf := ipos c5 hf
    refine V_iconst C dX2_couldAdd_35 rfl (v := 0) rfl ?_
    obtain rfl := Option.some.inj hf
    exact K _ _ _ dX2_couldAdd_36 rfl (by decide)
  · replace hf := ineg c5 hf
    refine V_iconst C dX2_couldAdd_31 rfl (v := 1) rfl ?_
    refine V_goto C dX2_couldAdd_32 (tgt := 36) rfl ?_
    obtain rfl := Option.some.inj hf
    exact K _ _ _ dX2_couldAdd_36 rfl (by decide)
set_option maxHeartbeats 4000000 in
set_option maxRecDepth 100000 in
theorem kX2_pickUp {ad : Nat → Nat} {G : Gh} {p0 : Nat} (h0 : isF p0) {p1 : Int32} {p2 : Int32} {u : Mem} {q : Mem} (hf : FX2_pickUp p0 p1 p2 u = some q) : Ct shs ad G yX2_pickUp cX2_pickUp 3 none 0 0 [.ref (ad p0), .int p1, .int p2] u none q := by
  refine Ct_ofV (by decide) (Nat.le_of_ble_eq_true rfl) (fun X C hnL K => ?_)
  have C : Cx ad G X cX2_pickUp "CarryFair$Fair" 0 0 := C
  unfold FX2_pickUp at hf
  refine V_aload_n C 0 dX2_pickUp_0 rfl rfl rfl ?_
  refine V_getR C cf2 (sF h0) 1 rfl (by decide) w248 rfl dX2_pickUp_1 rfl ?_
  refine V_iload_n C 2 dX2_pickUp_4 rfl rfl rfl ?_
  obtain ⟨g1, hf⟩ := gd hf
  refine V_aald C (sFe h0) (fun _ => rfl) g1 (sErg g1) dX2_pickUp_5 rfl ?_
  refine V_iconst C dX2_pickUp_6 rfl (v := 1) rfl ?_
  refine V_put C cf1 (sEr h0 g1) 3 rfl (by decide) w215 rfl rfl rfl rfl dX2_pickUp_7 rfl ?_
  refine V_aload_n C 0 dX2_pickUp_10 rfl rfl rfl ?_
  refine V_getR C cf2 (sF h0) 1 rfl (by decide) w248 rfl dX2_pickUp_11 rfl ?_
  refine V_iload_n C 2 dX2_pickUp_14 rfl rfl rfl ?_
  obtain ⟨g2, hf⟩ := gd hf
  refine V_aald C (sFe h0) (fun _ => rfl) g2 (sErg g2) dX2_pickUp_15 rfl ?_
  refine V_iload_n C 1 dX2_pickUp_16 rfl rfl rfl ?_
  refine V_put C cf1 (sEr h0 g2) 4 rfl (by decide) w218 rfl rfl rfl rfl dX2_pickUp_17 rfl ?_
  obtain rfl := Option.some.inj hf
  exact K _ _ dX2_pickUp_20 rfl
set_option maxHeartbeats 4000000 in
set_option maxRecDepth 100000 in
theorem kX2_takeUpAll {ad : Nat → Nat} {G : Gh} {p0 : Nat} (h0 : isF p0) {p1 : Int32} {u : Mem} {q : Mem} (hf : FX2_takeUpAll p0 p1 u = some q) : Ct shs ad G yX2_takeUpAll cX2_takeUpAll 3 none 3 66 [.ref (ad p0), .int p1] u none q := by
  refine Ct_ofV (by decide) (Nat.le_of_ble_eq_true rfl) (fun X C hnL K => ?_)
  have C : Cx ad G X cX2_takeUpAll "CarryFair$Fair" 3 66 := C
  unfold FX2_takeUpAll at hf
  have Lp2 : ∀ (x0 : (Int32 × Mem)) (q2 : (Int32 × Mem)), lp (BX2_takeUpAll_2 p0 p1) FU x0 = some q2 → V shs ad G X 40 [(0, .ref (ad p0)), (1, .int p1), (2, .int q2.1)] [] q2.2 → V shs ad G X 2 [(0, .ref (ad p0)), (1, .int p1), (2, .int x0.1)] [] x0.2 := by
    intro  x0 q2 hq hx2_0
    refine lp_V (BX2_takeUpAll_2 p0 p1) (fun x2 => V shs ad G X 2 [(0, .ref (ad p0)), (1, .int p1), (2, .int x2.1)] [] x2.2) q2 (fun rec2 ih2 x2 hf => ?_) FU x0 hq
    unfold BX2_takeUpAll_2 at hf
    refine V_iload_n C 2 dX2_takeUpAll_2 rfl rfl rfl ?_
    refine V_aload_n C 0 dX2_takeUpAll_3 rfl rfl rfl ?_
    refine V_getI C cf2 (sF h0) 6 rfl (by decide) w262 rfl dX2_takeUpAll_4 rfl ?_
    refine V_icmp_ge C dX2_takeUpAll_7 (tgt := 40) rfl rfl (fun c6 => ?_) (fun c6 => ?_)
    · replace hf := ipos c6 hf
      obtain rfl := Option.some.inj hf
      exact hx2_0
    · replace hf := ineg c6 hf
      refine V_aload_n C 0 dX2_takeUpAll_10 rfl rfl rfl ?_
      refine V_iload_n C 2 dX2_takeUpAll_11 rfl rfl rfl ?_
      refine V_iload_n C 1 dX2_takeUpAll_12 rfl rfl rfl ?_
      obtain ⟨q1, hq1, hf⟩ := obd hf
      refine V_cVi C (b := p0) (As := [.int x2.1, .int p1]) (st := []) cf2 (sF h0) M_X2_liesBy w834 ⟨by decide, by decide⟩ rfl rfl (Nat.le_of_ble_eq_true rfl) dX2_takeUpAll_13 rfl (kX2_liesBy h0 hq1) ?_
      refine V_if_eq C dX2_takeUpAll_16 (tgt := 34) rfl rfl (fun c5 => ?_) (fun c5 => ?_)
      · replace hf := ipos c5 hf
        refine V_iinc C (v := (x2.1 + 1)) (L' := [(0, .ref (ad p0)), (1, .int p1), (2, .int (x2.1 + 1))]) 2 dX2_takeUpAll_34 rfl rfl rfl (by decide) hnL [1, 2, 0] rfl ?_
        refine V_goto C dX2_takeUpAll_37 (tgt := 2) rfl ?_
        exact ih2 ((x2.1 + 1), x2.2) hf
      · replace hf := ineg c5 hf
        refine V_aload_n C 0 dX2_takeUpAll_19 rfl rfl rfl ?_
        refine V_iload_n C 1 dX2_takeUpAll_20 rfl rfl rfl ?_
        refine V_iload_n C 2 dX2_takeUpAll_21 rfl rfl rfl ?_
        obtain ⟨q2, hq2, hf⟩ := obd hf
        refine V_cVi C (b := p0) (As := [.int p1, .int x2.1]) (st := []) cf2 (sF h0) M_X2_couldAdd w835 ⟨by decide, by decide⟩ rfl rfl (Nat.le_of_ble_eq_true rfl) dX2_takeUpAll_22 rfl (kX2_couldAdd h0 hq2) ?_
        refine V_if_eq C dX2_takeUpAll_25 (tgt := 34) rfl rfl (fun c4 => ?_) (fun c4 => ?_)
        · replace hf := ipos c4 hf
          refine V_iinc C (v := (x2.1 + 1)) (L' := [(0, .ref (ad p0)), (1, .int p1), (2, .int (x2.1 + 1))]) 2 dX2_takeUpAll_34 rfl rfl rfl (by decide) hnL [1, 2, 0] rfl ?_
          refine V_goto C dX2_takeUpAll_37 (tgt := 2) rfl ?_
          exact ih2 ((x2.1 + 1), x2.2) hf
        · replace hf := ineg c4 hf
          refine V_aload_n C 0 dX2_takeUpAll_28 rfl rfl rfl ?_
          refine V_iload_n C 1 dX2_takeUpAll_29 rfl rfl rfl ?_
          refine V_iload_n C 2 dX2_takeUpAll_30 rfl rfl rfl ?_
          obtain ⟨q3, hq3, hf⟩ := obd hf
          refine V_cVv C (b := p0) (As := [.int p1, .int x2.1]) (st := []) cf2 (sF h0) M_X2_pickUp w836 ⟨by decide, by decide⟩ rfl rfl (Nat.le_of_ble_eq_true rfl) dX2_takeUpAll_31 rfl (kX2_pickUp h0 hq3) ?_
          refine V_iinc C (v := (x2.1 + 1)) (L' := [(0, .ref (ad p0)), (1, .int p1), (2, .int (x2.1 + 1))]) 2 dX2_takeUpAll_34 rfl rfl rfl (by decide) hnL [1, 2, 0] rfl ?_
          refine V_goto C dX2_takeUpAll_37 (tgt := 2) rfl ?_
          exact ih2 ((x2.1 + 1), q3) hf
  refine V_iconst C dX2_takeUpAll_0 rfl (v := 0) rfl ?_
  refine V_istore_n C (L' := [(0, .ref (ad p0)), (1, .int p1), (2, .int 0)]) dX2_takeUpAll_1 rfl rfl (by decide) hnL [1, 2, 0] rfl ?_
  obtain ⟨q2_7, hq2_7, hf⟩ := obd hf
  refine Lp2  (0, u) q2_7 hq2_7 ?_
  obtain rfl := Option.some.inj hf
  exact K _ _ dX2_takeUpAll_40 rfl
set_option maxHeartbeats 4000000 in
set_option maxRecDepth 100000 in
theorem kX2_go {ad : Nat → Nat} {G : Gh} {p0 : Nat} (h0 : isF p0) {p1 : Int32} {p2 : Int32} {u : Mem} {q : Int32 × Mem} (hf : FX2_go p0 p1 p2 u = some q) : Ct shs ad G yX2_go cX2_go 7 (some .int) 3 69 [.ref (ad p0), .int p1, .int p2] u (some (.int q.1)) q.2 := by
  refine Ct_ofI (by decide) (Nat.le_of_ble_eq_true rfl) (fun X C hnL K => ?_)
  have C : Cx ad G X cX2_go "CarryFair$Fair" 3 69 := C
  unfold FX2_go at hf
  have Lp40 : ∀ (v3 : Nat) (v5 : Int32) (hv3 : shs[v3]? = some (.inl (0, [none, none, none, none, none]))) (x0 : (Int32 × Int32 × Mem)) (q40 : (Int32 × Int32 × Mem)), lp (BX2_go_40 p0 p1 p2 v3 v5) FU x0 = some q40 → V shs ad G X 102 [(0, .ref (ad p0)), (1, .int p1), (2, .int p2), (3, .ref (ad v3)), (4, .int q40.1), (5, .int v5), (6, .int q40.2.1)] [] q40.2.2 → V shs ad G X 40 [(0, .ref (ad p0)), (1, .int p1), (2, .int p2), (3, .ref (ad v3)), (4, .int x0.1), (5, .int v5), (6, .int x0.2.1)] [] x0.2.2 := by
    intro v3 v5 hv3 x0 q40 hq hx40_0
    refine lp_V (BX2_go_40 p0 p1 p2 v3 v5) (fun x40 => V shs ad G X 40 [(0, .ref (ad p0)), (1, .int p1), (2, .int p2), (3, .ref (ad v3)), (4, .int x40.1), (5, .int v5), (6, .int x40.2.1)] [] x40.2.2) q40 (fun rec40 ih40 x40 hf => ?_) FU x0 hq
    unfold BX2_go_40 at hf
    refine V_iload C 6 dX2_go_40 rfl rfl ?_
    refine V_aload_n C 0 dX2_go_42 rfl rfl rfl ?_
    refine V_getI C cf2 (sF h0) 6 rfl (by decide) w262 rfl dX2_go_43 rfl ?_
    refine V_icmp_ge C dX2_go_46 (tgt := 102) rfl rfl (fun c10 => ?_) (fun c10 => ?_)
    · replace hf := ipos c10 hf
      obtain rfl := Option.some.inj hf
      exact hx40_0
    · replace hf := ineg c10 hf
      refine V_iload C 5 dX2_go_49 rfl rfl ?_
      refine V_iload C 6 dX2_go_51 rfl rfl ?_
      refine V_cNi C (As := [.int v5, .int x40.2.1]) (st := []) M_X9_has (host := "CarryFair") (by decide +kernel) ⟨by decide, by decide⟩ rfl rfl (Nat.le_of_ble_eq_true rfl) dX2_go_53 rfl (kX9_has rfl) ?_
      refine V_if_eq C dX2_go_56 (tgt := 96) rfl rfl (fun c9 => ?_) (fun c9 => ?_)
      · replace hf := ipos c9 hf
        refine V_iinc C (v := (x40.2.1 + 1)) (L' := [(0, .ref (ad p0)), (1, .int p1), (2, .int p2), (3, .ref (ad v3)), (4, .int x40.1), (5, .int v5), (6, .int (x40.2.1 + 1))]) 6 dX2_go_96 rfl rfl rfl (by decide) hnL [1, 2, 3, 4, 5, 6, 0] rfl ?_
        refine V_goto C dX2_go_99 (tgt := 40) rfl ?_
        exact ih40 (x40.1, (x40.2.1 + 1), x40.2.2) hf
      · replace hf := ineg c9 hf
        refine V_aload_n C 0 dX2_go_59 rfl rfl rfl ?_
        refine V_getR C cf2 (sF h0) 1 rfl (by decide) w248 rfl dX2_go_60 rfl ?_
        refine V_iload C 6 dX2_go_63 rfl rfl ?_
        obtain ⟨g5, hf⟩ := gd hf
        refine V_aald C (sFe h0) (fun _ => rfl) g5 (sErg g5) dX2_go_65 rfl ?_
        refine V_getI C cf1 (sEr h0 g5) 2 rfl (by decide) w212 rfl dX2_go_66 rfl ?_
        refine V_iload_n C 2 dX2_go_69 rfl rfl rfl ?_
        refine V_icmp_ne C dX2_go_70 (tgt := 96) rfl rfl (fun c8 => ?_) (fun c8 => ?_)
        · replace hf := ineg c8 hf
          refine V_iinc C (v := (x40.2.1 + 1)) (L' := [(0, .ref (ad p0)), (1, .int p1), (2, .int p2), (3, .ref (ad v3)), (4, .int x40.1), (5, .int v5), (6, .int (x40.2.1 + 1))]) 6 dX2_go_96 rfl rfl rfl (by decide) hnL [1, 2, 3, 4, 5, 6, 0] rfl ?_
          refine V_goto C dX2_go_99 (tgt := 40) rfl ?_
          exact ih40 (x40.1, (x40.2.1 + 1), x40.2.2) hf
        · replace hf := ipos c8 hf
          refine V_aload_n C 0 dX2_go_73 rfl rfl rfl ?_
          refine V_getR C cf2 (sF h0) 1 rfl (by decide) w248 rfl dX2_go_74 rfl ?_
          refine V_iload C 6 dX2_go_77 rfl rfl ?_
          obtain ⟨g6, hf⟩ := gd hf
          refine V_aald C (sFe h0) (fun _ => rfl) g6 (sErg g6) dX2_go_79 rfl ?_
          refine V_iconst C dX2_go_80 rfl (v := 2) rfl ?_
          refine V_put C cf1 (sEr h0 g6) 3 rfl (by decide) w215 rfl rfl rfl rfl dX2_go_81 rfl ?_
          refine V_iload C 4 dX2_go_84 rfl rfl ?_
          refine V_aload_n C 0 dX2_go_86 rfl rfl rfl ?_
          refine V_iload_n C 1 dX2_go_87 rfl rfl rfl ?_
          refine V_iload C 6 dX2_go_88 rfl rfl ?_
          obtain ⟨q7, hq7, hf⟩ := obd hf
          refine V_cVi C (b := p0) (As := [.int p1, .int x40.2.1]) (st := [.int x40.1]) cf2 (sF h0) M_X2_payFor w568 ⟨by decide, by decide⟩ rfl rfl (Nat.le_of_ble_eq_true rfl) dX2_go_90 rfl (kX2_payFor h0 hq7) ?_
          refine V_iadd C dX2_go_93 rfl ?_
          refine V_istore C (L' := [(0, .ref (ad p0)), (1, .int p1), (2, .int p2), (3, .ref (ad v3)), (4, .int (x40.1 + q7)), (5, .int v5), (6, .int x40.2.1)]) dX2_go_94 rfl (by decide) hnL [1, 2, 3, 4, 0, 5, 6] rfl ?_
          refine V_iinc C (v := (x40.2.1 + 1)) (L' := [(0, .ref (ad p0)), (1, .int p1), (2, .int p2), (3, .ref (ad v3)), (4, .int (x40.1 + q7)), (5, .int v5), (6, .int (x40.2.1 + 1))]) 6 dX2_go_96 rfl rfl rfl (by decide) hnL [1, 2, 3, 4, 5, 6, 0] rfl ?_
          refine V_goto C dX2_go_99 (tgt := 40) rfl ?_
          exact ih40 ((x40.1 + q7), (x40.2.1 + 1), (mst x40.2.2 (p0 + 18 + (x40.2.1).toNatClampNeg) 3 2)) hf
  refine V_aload_n C 0 dX2_go_0 rfl rfl rfl ?_
  refine V_getR C cf2 (sF h0) 0 rfl (by decide) w245 rfl dX2_go_1 rfl ?_
  refine V_iload_n C 1 dX2_go_4 rfl rfl rfl ?_
  obtain ⟨g1, hf⟩ := gd hf
  refine V_aald C (sFc h0) (fun _ => rfl) g1 (sCag g1) dX2_go_5 rfl ?_
  refine V_astore_n C (L' := [(0, .ref (ad p0)), (1, .int p1), (2, .int p2), (3, .ref (ad (p0 + 12 + (p1).toNatClampNeg)))]) dX2_go_6 rfl rfl (by decide) hnL [1, 2, 3, 0] rfl ?_
  refine V_aload_n C 3 dX2_go_7 rfl rfl rfl ?_
  refine V_dup C dX2_go_8 rfl rfl ?_
  refine V_getI C cf0 (sCa h0 g1) 4 rfl (by decide) w185 rfl dX2_go_9 rfl ?_
  refine V_aload_n C 0 dX2_go_12 rfl rfl rfl ?_
  refine V_iload_n C 1 dX2_go_13 rfl rfl rfl ?_
  refine V_iload_n C 2 dX2_go_14 rfl rfl rfl ?_
  obtain ⟨q2, hq2, hf⟩ := obd hf
  refine V_cVi C (b := p0) (As := [.int p1, .int p2]) (st := [.int (u (p0 + 12 + (p1).toNatClampNeg) 4), .ref (ad (p0 + 12 + (p1).toNatClampNeg))]) cf2 (sF h0) M_X2_yardsTo w567 ⟨by decide, by decide⟩ rfl rfl (Nat.le_of_ble_eq_true rfl) dX2_go_15 rfl (kX2_yardsTo h0 hq2) ?_
  refine V_iadd C dX2_go_18 rfl ?_
  refine V_put C cf0 (sCa h0 g1) 4 rfl (by decide) w185 rfl rfl rfl rfl dX2_go_19 rfl ?_
  refine V_aload_n C 3 dX2_go_22 rfl rfl rfl ?_
  refine V_iload_n C 2 dX2_go_23 rfl rfl rfl ?_
  refine V_put C cf0 (sCa h0 g1) 1 rfl (by decide) w175 rfl rfl rfl rfl dX2_go_24 rfl ?_
  obtain ⟨w3, ew3, hf⟩ := nmd hf
  rw [← ew3]
  refine V_iconst C dX2_go_27 rfl (v := 0) rfl ?_
  refine V_istore C (L' := [(0, .ref (ad p0)), (1, .int p1), (2, .int p2), (3, .ref (ad (p0 + 12 + (p1).toNatClampNeg))), (4, .int 0)]) dX2_go_28 rfl (by decide) hnL [1, 2, 3, 4, 0] rfl ?_
  refine V_aload_n C 0 dX2_go_30 rfl rfl rfl ?_
  refine V_iload_n C 1 dX2_go_31 rfl rfl rfl ?_
  obtain ⟨q4, hq4, hf⟩ := obd hf
  refine V_cVi C (b := p0) (As := [.int p1]) (st := []) cf2 (sF h0) M_X2_carriedBy w544 ⟨by decide, by decide⟩ rfl rfl (Nat.le_of_ble_eq_true rfl) dX2_go_32 rfl (kX2_carriedBy h0 hq4) ?_
  refine V_istore C (L' := [(0, .ref (ad p0)), (1, .int p1), (2, .int p2), (3, .ref (ad (p0 + 12 + (p1).toNatClampNeg))), (4, .int 0), (5, .int q4)]) dX2_go_35 rfl (by decide) hnL [1, 2, 3, 4, 5, 0] rfl ?_
  refine V_iconst C dX2_go_37 rfl (v := 0) rfl ?_
  refine V_istore C (L' := [(0, .ref (ad p0)), (1, .int p1), (2, .int p2), (3, .ref (ad (p0 + 12 + (p1).toNatClampNeg))), (4, .int 0), (5, .int q4), (6, .int 0)]) dX2_go_38 rfl (by decide) hnL [1, 2, 3, 4, 5, 6, 0] rfl ?_
  obtain ⟨q40_11, hq40_11, hf⟩ := obd hf
  refine Lp40 (p0 + 12 + (p1).toNatClampNeg) q4 (sCa h0 g1) (0, 0, w3) q40_11 hq40_11 ?_
  refine V_aload_n C 3 dX2_go_102 rfl rfl rfl ?_
  refine V_dup C dX2_go_103 rfl rfl ?_
  refine V_getI C cf0 (sCa h0 g1) 3 rfl (by decide) w182 rfl dX2_go_104 rfl ?_
  refine V_iload C 4 dX2_go_107 rfl rfl ?_
  refine V_iadd C dX2_go_109 rfl ?_
  refine V_put C cf0 (sCa h0 g1) 3 rfl (by decide) w182 rfl rfl rfl rfl dX2_go_110 rfl ?_
  refine V_iload C 4 dX2_go_113 rfl rfl ?_
  obtain rfl := Option.some.inj hf
  exact K _ _ _ dX2_go_115 rfl rfl
set_option maxHeartbeats 4000000 in
set_option maxRecDepth 100000 in
theorem kX2_draw {ad : Nat → Nat} {G : Gh} {p0 : Nat} (h0 : isF p0) {u : Mem} {q : Int32 × Mem} (hf : FX2_draw p0 u = q) : Ct shs ad G yX2_draw cX2_draw 1 (some .int) 0 0 [.ref (ad p0)] u (some (.int q.1)) q.2 := by
  refine Ct_ofI (by decide) (Nat.le_of_ble_eq_true rfl) (fun X C hnL K => ?_)
  have C : Cx ad G X cX2_draw "CarryFair$Fair" 0 0 := C
  unfold FX2_draw at hf
  refine V_aload_n C 0 dX2_draw_0 rfl rfl rfl ?_
  refine V_aload_n C 0 dX2_draw_1 rfl rfl rfl ?_
  refine V_getI C cf2 (sF h0) 8 rfl (by decide) w269 rfl dX2_draw_2 rfl ?_
  refine V_ldc C dX2_draw_5 rfl w829 ?_
  refine V_imul C dX2_draw_7 rfl ?_
  refine V_sipush C dX2_draw_8 rfl (v := 12345) rfl ?_
  refine V_iadd C dX2_draw_11 rfl ?_
  refine V_put C cf2 (sF h0) 8 rfl (by decide) w269 rfl rfl rfl rfl dX2_draw_12 rfl ?_
  refine V_aload_n C 0 dX2_draw_15 rfl rfl rfl ?_
  refine V_getI C cf2 (sF h0) 8 rfl (by decide) w269 rfl dX2_draw_16 rfl ?_
  refine V_bipush C dX2_draw_19 rfl (v := 8) rfl ?_
  refine V_jushr C dX2_draw_21 rfl ?_
  subst hf
  exact K _ _ _ dX2_draw_22 rfl rfl
set_option maxHeartbeats 4000000 in
set_option maxRecDepth 100000 in
theorem kX2_turn {ad : Nat → Nat} {G : Gh} {p0 : Nat} (h0 : isF p0) {u : Mem} {q : Mem} (hf : FX2_turn p0 u = some q) : Ct shs ad G yX2_turn cX2_turn 3 none 4 95 [.ref (ad p0)] u none q := by
  refine Ct_ofV (by decide) (Nat.le_of_ble_eq_true rfl) (fun X C hnL K => ?_)
  have C : Cx ad G X cX2_turn "CarryFair$Fair" 4 95 := C
  unfold FX2_turn at hf
  refine V_aload_n C 0 dX2_turn_0 rfl rfl rfl ?_
  refine V_getI C cf2 (sF h0) 5 rfl (by decide) w259 rfl dX2_turn_1 rfl ?_
  refine V_if_ne C dX2_turn_4 (tgt := 8) rfl rfl (fun c6 => ?_) (fun c6 => ?_)
  · replace hf := ineg c6 hf
    refine V_aload_n C 0 dX2_turn_8 rfl rfl rfl ?_
    refine V_cVi C (b := p0) (As := []) (st := []) cf2 (sF h0) M_X2_draw w825 ⟨by decide, by decide⟩ rfl rfl (Nat.le_of_ble_eq_true rfl) dX2_turn_9 rfl (kX2_draw h0 rfl) ?_
    refine V_aload_n C 0 dX2_turn_12 rfl rfl rfl ?_
    refine V_getI C cf2 (sF h0) 5 rfl (by decide) w259 rfl dX2_turn_13 rfl ?_
    obtain ⟨g1, hf⟩ := gd hf
    refine V_jrem C dX2_turn_16 rfl g1 ?_
    refine V_istore_n C (L' := [(0, .ref (ad p0)), (1, .int (jrem (FX2_draw p0 u).1 ((FX2_draw p0 u).2 p0 5)))]) dX2_turn_17 rfl rfl (by decide) hnL [1, 0] rfl ?_
    refine V_aload_n C 0 dX2_turn_18 rfl rfl rfl ?_
    refine V_iload_n C 1 dX2_turn_19 rfl rfl rfl ?_
    obtain ⟨q2, hq2, hf⟩ := obd hf
    refine V_cVv C (b := p0) (As := [.int (jrem (FX2_draw p0 u).1 ((FX2_draw p0 u).2 p0 5))]) (st := []) cf2 (sF h0) M_X2_takeUpAll w830 ⟨by decide, by decide⟩ rfl rfl (Nat.le_of_ble_eq_true rfl) dX2_turn_20 rfl (kX2_takeUpAll h0 hq2) ?_
    refine V_aload_n C 0 dX2_turn_23 rfl rfl rfl ?_
    refine V_cVi C (b := p0) (As := []) (st := []) cf2 (sF h0) M_X2_draw w825 ⟨by decide, by decide⟩ rfl rfl (Nat.le_of_ble_eq_true rfl) dX2_turn_24 rfl (kX2_draw h0 rfl) ?_
    refine V_bipush C dX2_turn_27 rfl (v := 7) rfl ?_
    refine V_jrem C dX2_turn_29 rfl (by decide) ?_
    refine V_istore_n C (L' := [(0, .ref (ad p0)), (1, .int (jrem (FX2_draw p0 u).1 ((FX2_draw p0 u).2 p0 5))), (2, .int (jrem (FX2_draw p0 q2).1 7))]) dX2_turn_30 rfl rfl (by decide) hnL [1, 2, 0] rfl ?_
    refine V_aload_n C 0 dX2_turn_31 rfl rfl rfl ?_
    refine V_iload_n C 1 dX2_turn_32 rfl rfl rfl ?_
    refine V_iload_n C 2 dX2_turn_33 rfl rfl rfl ?_
    obtain ⟨q3, hq3, hf⟩ := obd hf
    refine V_cVi C (b := p0) (As := [.int (jrem (FX2_draw p0 u).1 ((FX2_draw p0 u).2 p0 5)), .int (jrem (FX2_draw p0 q2).1 7)]) (st := []) cf2 (sF h0) M_X2_yardsTo w567 ⟨by decide, by decide⟩ rfl rfl (Nat.le_of_ble_eq_true rfl) dX2_turn_34 rfl (kX2_yardsTo h0 hq3) ?_
    refine V_ldc C dX2_turn_37 rfl w494 ?_
    refine V_icmp_ge C dX2_turn_39 (tgt := 49) rfl rfl (fun c5 => ?_) (fun c5 => ?_)
    · replace hf := ipos c5 hf
      obtain rfl := Option.some.inj hf
      exact K _ _ dX2_turn_49 rfl
    · replace hf := ineg c5 hf
      refine V_aload_n C 0 dX2_turn_42 rfl rfl rfl ?_
      refine V_iload_n C 1 dX2_turn_43 rfl rfl rfl ?_
      refine V_iload_n C 2 dX2_turn_44 rfl rfl rfl ?_
      obtain ⟨q4, hq4, hf⟩ := obd hf
      refine V_cVi C (b := p0) (As := [.int (jrem (FX2_draw p0 u).1 ((FX2_draw p0 u).2 p0 5)), .int (jrem (FX2_draw p0 q2).1 7)]) (st := []) cf2 (sF h0) M_X2_go w837 ⟨by decide, by decide⟩ rfl rfl (Nat.le_of_ble_eq_true rfl) dX2_turn_45 rfl (kX2_go h0 hq4) ?_
      refine V_pop C dX2_turn_48 rfl rfl ?_
      obtain rfl := Option.some.inj hf
      exact K _ _ dX2_turn_49 rfl
  · replace hf := ipos c6 hf
    obtain rfl := Option.some.inj hf
    exact K _ _ dX2_turn_7 rfl
set_option maxHeartbeats 4000000 in
set_option maxRecDepth 100000 in
theorem kX2_turns {ad : Nat → Nat} {G : Gh} {p0 : Nat} (h0 : isF p0) {p1 : Int32} {u : Mem} {q : Int32 × Mem} (hf : FX2_turns p0 p1 u = some q) : Ct shs ad G yX2_turns cX2_turns 4 (some .int) 5 117 [.ref (ad p0), .int p1] u (some (.int q.1)) q.2 := by
  refine Ct_ofI (by decide) (Nat.le_of_ble_eq_true rfl) (fun X C hnL K => ?_)
  have C : Cx ad G X cX2_turns "CarryFair$Fair" 5 117 := C
  unfold FX2_turns at hf
  have Lp11 : ∀ (v2 : Int32) (x0 : (Int32 × Mem)) (q11 : (Int32 × Mem)), lp (BX2_turns_11 p0 p1 v2) FU x0 = some q11 → V shs ad G X 26 [(0, .ref (ad p0)), (1, .int p1), (2, .int v2), (3, .int q11.1)] [] q11.2 → V shs ad G X 11 [(0, .ref (ad p0)), (1, .int p1), (2, .int v2), (3, .int x0.1)] [] x0.2 := by
    intro v2 x0 q11 hq hx11_0
    refine lp_V (BX2_turns_11 p0 p1 v2) (fun x11 => V shs ad G X 11 [(0, .ref (ad p0)), (1, .int p1), (2, .int v2), (3, .int x11.1)] [] x11.2) q11 (fun rec11 ih11 x11 hf => ?_) FU x0 hq
    unfold BX2_turns_11 at hf
    refine V_iload_n C 3 dX2_turns_11 rfl rfl rfl ?_
    refine V_iload_n C 1 dX2_turns_12 rfl rfl rfl ?_
    refine V_icmp_ge C dX2_turns_13 (tgt := 26) rfl rfl (fun c3 => ?_) (fun c3 => ?_)
    · replace hf := ipos c3 hf
      obtain rfl := Option.some.inj hf
      exact hx11_0
    · replace hf := ineg c3 hf
      refine V_aload_n C 0 dX2_turns_16 rfl rfl rfl ?_
      obtain ⟨q2, hq2, hf⟩ := obd hf
      refine V_cVv C (b := p0) (As := []) (st := []) cf2 (sF h0) M_X2_turn w821 ⟨by decide, by decide⟩ rfl rfl (Nat.le_of_ble_eq_true rfl) dX2_turns_17 rfl (kX2_turn h0 hq2) ?_
      refine V_iinc C (v := (x11.1 + 1)) (L' := [(0, .ref (ad p0)), (1, .int p1), (2, .int v2), (3, .int (x11.1 + 1))]) 3 dX2_turns_20 rfl rfl rfl (by decide) hnL [1, 2, 3, 0] rfl ?_
      refine V_goto C dX2_turns_23 (tgt := 11) rfl ?_
      exact ih11 ((x11.1 + 1), q2) hf
  refine V_aload_n C 0 dX2_turns_0 rfl rfl rfl ?_
  refine V_iconst C dX2_turns_1 rfl (v := 2) rfl ?_
  obtain ⟨q1, hq1, hf⟩ := obd hf
  refine V_cVi C (b := p0) (As := [.int 2]) (st := []) cf2 (sF h0) M_X2_errandsThat w626 ⟨by decide, by decide⟩ rfl rfl (Nat.le_of_ble_eq_true rfl) dX2_turns_2 rfl (kX2_errandsThat h0 hq1) ?_
  refine V_cSi C (As := [.int q1]) (st := []) M_bitCount w820 ⟨by decide, by decide⟩ rfl rfl (Nat.le_of_ble_eq_true rfl) dX2_turns_5 rfl c_bitCount ?_
  refine V_istore_n C (L' := [(0, .ref (ad p0)), (1, .int p1), (2, .int (bitCount q1))]) dX2_turns_8 rfl rfl (by decide) hnL [1, 2, 0] rfl ?_
  refine V_iconst C dX2_turns_9 rfl (v := 0) rfl ?_
  refine V_istore_n C (L' := [(0, .ref (ad p0)), (1, .int p1), (2, .int (bitCount q1)), (3, .int 0)]) dX2_turns_10 rfl rfl (by decide) hnL [1, 2, 3, 0] rfl ?_
  obtain ⟨q11_4, hq11_4, hf⟩ := obd hf
  refine Lp11 (bitCount q1) (0, u) q11_4 hq11_4 ?_
  refine V_aload_n C 0 dX2_turns_26 rfl rfl rfl ?_
  refine V_iconst C dX2_turns_27 rfl (v := 2) rfl ?_
  obtain ⟨q5, hq5, hf⟩ := obd hf
  refine V_cVi C (b := p0) (As := [.int 2]) (st := []) cf2 (sF h0) M_X2_errandsThat w626 ⟨by decide, by decide⟩ rfl rfl (Nat.le_of_ble_eq_true rfl) dX2_turns_28 rfl (kX2_errandsThat h0 hq5) ?_
  refine V_cSi C (As := [.int q5]) (st := []) M_bitCount w820 ⟨by decide, by decide⟩ rfl rfl (Nat.le_of_ble_eq_true rfl) dX2_turns_31 rfl c_bitCount ?_
  refine V_iload_n C 2 dX2_turns_34 rfl rfl rfl ?_
  refine V_isub C dX2_turns_35 rfl ?_
  obtain rfl := Option.some.inj hf
  exact K _ _ _ dX2_turns_36 rfl rfl
set_option maxHeartbeats 4000000 in
set_option maxRecDepth 100000 in
theorem kX3_isUnder {S : List Shp} {ad : Nat → Nat} {G : Gh} {p0 : Int32} {p1 : Int32} {u : Mem} {q : Int32} (hf : FX3_isUnder p0 p1 u = some q) : Ct S ad G yX3_isUnder cX3_isUnder 4 (some .boolean) 0 0 [.int p0, .int p1] u (some (.int q)) u := by
  refine Ct_ofI (by decide) (Nat.le_of_ble_eq_true rfl) (fun X C hnL K => ?_)
  have C : Cx ad G X cX3_isUnder "CarryFair$Kinds" 0 0 := C
  unfold FX3_isUnder at hf
  have Lp4 : ∀ (x0 : (Int32 × Int32)) (q4 : (Nat × Int32 × Int32)), lp (BX3_isUnder_4 p0 p1 u) FU x0 = some q4 → (q4.1 = 0 → V S ad G X 25 [(0, .int p0), (1, .int p1), (2, .int q4.2.1), (3, .int q4.2.2)] [] u) → (q4.1 = 1 → V S ad G X 39 [(0, .int p0), (1, .int p1), (2, .int q4.2.1), (3, .int q4.2.2)] [] u) → V S ad G X 4 [(0, .int p0), (1, .int p1), (2, .int x0.1), (3, .int x0.2)] [] u := by
    intro  x0 q4 hq hx4_0 hx4_1
    refine lp_V (BX3_isUnder_4 p0 p1 u) (fun x4 => V S ad G X 4 [(0, .int p0), (1, .int p1), (2, .int x4.1), (3, .int x4.2)] [] u) q4 (fun rec4 ih4 x4 hf => ?_) FU x0 hq
    unfold BX3_isUnder_4 at hf
    refine V_iload_n C 3 dX3_isUnder_4 rfl rfl rfl ?_
    refine V_bipush C dX3_isUnder_5 rfl (v := 6) rfl ?_
    refine V_icmp_gt C dX3_isUnder_7 (tgt := 39) rfl rfl (fun c5 => ?_) (fun c5 => ?_)
    · replace hf := ipos c5 hf
      obtain rfl := Option.some.inj hf
      exact hx4_1 rfl
    · replace hf := ineg c5 hf
      refine V_iload_n C 2 dX3_isUnder_10 rfl rfl rfl ?_
      refine V_if_lt C dX3_isUnder_11 (tgt := 39) rfl rfl (fun c4 => ?_) (fun c4 => ?_)
      · replace hf := ipos c4 hf
        obtain rfl := Option.some.inj hf
        exact hx4_1 rfl
      · replace hf := ineg c4 hf
        refine V_iload_n C 2 dX3_isUnder_14 rfl rfl rfl ?_
        refine V_bipush C dX3_isUnder_15 rfl (v := 6) rfl ?_
        refine V_icmp_gt C dX3_isUnder_17 (tgt := 39) rfl rfl (fun c3 => ?_) (fun c3 => ?_)
        · replace hf := ipos c3 hf
          obtain rfl := Option.some.inj hf
          exact hx4_1 rfl
        · replace hf := ineg c3 hf
          refine V_iload_n C 2 dX3_isUnder_20 rfl rfl rfl ?_
          refine V_iload_n C 1 dX3_isUnder_21 rfl rfl rfl ?_
          refine V_icmp_ne C dX3_isUnder_22 (tgt := 27) rfl rfl (fun c2 => ?_) (fun c2 => ?_)
          · replace hf := ineg c2 hf
            refine V_above C w997 dX3_isUnder_27 rfl ?_
            refine V_iload_n C 2 dX3_isUnder_30 rfl rfl rfl ?_
            obtain ⟨g1, hf⟩ := gd hf
            refine V_above_ld C g1 dX3_isUnder_31 rfl ?_
            refine V_istore_n C (L' := [(0, .int p0), (1, .int p1), (2, .int (tAbove (x4.1).toNatClampNeg)), (3, .int x4.2)]) dX3_isUnder_32 rfl rfl (by decide) hnL [1, 2, 0, 3] rfl ?_
            refine V_iinc C (v := (x4.2 + 1)) (L' := [(0, .int p0), (1, .int p1), (2, .int (tAbove (x4.1).toNatClampNeg)), (3, .int (x4.2 + 1))]) 3 dX3_isUnder_33 rfl rfl rfl (by decide) hnL [1, 2, 3, 0] rfl ?_
            refine V_goto C dX3_isUnder_36 (tgt := 4) rfl ?_
            exact ih4 ((tAbove (x4.1).toNatClampNeg), (x4.2 + 1)) hf
          · replace hf := ipos c2 hf
            obtain rfl := Option.some.inj hf
            exact hx4_0 rfl
  refine V_iload_n C 0 dX3_isUnder_0 rfl rfl rfl ?_
  refine V_istore_n C (L' := [(0, .int p0), (1, .int p1), (2, .int p0)]) dX3_isUnder_1 rfl rfl (by decide) hnL [1, 2, 0] rfl ?_
  refine V_iconst C dX3_isUnder_2 rfl (v := 0) rfl ?_
  refine V_istore_n C (L' := [(0, .int p0), (1, .int p1), (2, .int p0), (3, .int 0)]) dX3_isUnder_3 rfl rfl (by decide) hnL [1, 2, 3, 0] rfl ?_
  obtain ⟨q4_6, hq4_6, hf⟩ := obd hf
  refine Lp4  (p0, 0) q4_6 hq4_6 ?_ ?_
  · intro hk
    replace hf := ipos hk hf
    refine V_iconst C dX3_isUnder_25 rfl (v := 1) rfl ?_
    obtain rfl := Option.some.inj hf
    exact K _ _ _ dX3_isUnder_26 rfl (by decide)
  · intro hk
    replace hf := ineg (by rw [hk]; decide) hf
    refine V_iconst C dX3_isUnder_39 rfl (v := 0) rfl ?_
    obtain rfl := Option.some.inj hf
    exact K _ _ _ dX3_isUnder_40 rfl (by decide)
set_option maxHeartbeats 4000000 in
set_option maxRecDepth 100000 in
theorem kX3_yardsAt {S : List Shp} {ad : Nat → Nat} {G : Gh} {p0 : Int32} {p1 : Int32} {p2 : Int32} {u : Mem} {q : Int32} (hf : FX3_yardsAt p0 p1 p2 = q) : Ct S ad G yX3_yardsAt cX3_yardsAt 3 (some .int) 1 21 [.int p0, .int p1, .int p2] u (some (.int q)) u := by
  refine Ct_ofI (by decide) (Nat.le_of_ble_eq_true rfl) (fun X C hnL K => ?_)
  have C : Cx ad G X cX3_yardsAt "CarryFair$Kinds" 1 21 := C
  unfold FX3_yardsAt at hf
  refine V_iload_n C 2 dX3_yardsAt_0 rfl rfl rfl ?_
  refine V_if_eq C dX3_yardsAt_1 (tgt := 9) rfl rfl (fun c3 => ?_) (fun c3 => ?_)
  · replace hf := ipos c3 hf
    refine V_iload_n C 1 dX3_yardsAt_9 rfl rfl rfl ?_
    subst hf
    exact K _ _ _ dX3_yardsAt_10 rfl rfl
  · replace hf := ineg c3 hf
    refine V_iload_n C 0 dX3_yardsAt_4 rfl rfl rfl ?_
    refine V_iconst C dX3_yardsAt_5 rfl (v := 1) rfl ?_
    refine V_icmp_ne C dX3_yardsAt_6 (tgt := 11) rfl rfl (fun c2 => ?_) (fun c2 => ?_)
    · replace hf := ineg c2 hf
      refine V_iload_n C 0 dX3_yardsAt_11 rfl rfl rfl ?_
      refine V_iconst C dX3_yardsAt_12 rfl (v := 2) rfl ?_
      refine V_icmp_ne C dX3_yardsAt_13 (tgt := 26) rfl rfl (fun c1 => ?_) (fun c1 => ?_)
      · replace hf := ineg c1 hf
        refine V_iconst C dX3_yardsAt_26 rfl (v := 2) rfl ?_
        refine V_iload_n C 1 dX3_yardsAt_27 rfl rfl rfl ?_
        refine V_imul C dX3_yardsAt_28 rfl ?_
        subst hf
        exact K _ _ _ dX3_yardsAt_29 rfl rfl
      · replace hf := ipos c1 hf
        refine V_iconst C dX3_yardsAt_16 rfl (v := 1) rfl ?_
        refine V_iload_n C 1 dX3_yardsAt_17 rfl rfl rfl ?_
        refine V_iconst C dX3_yardsAt_18 rfl (v := 2) rfl ?_
        refine V_idiv C dX3_yardsAt_19 rfl (by decide) ?_
        refine V_mmax C w150 ⟨by decide, by decide⟩ (Nat.le_of_ble_eq_true rfl) dX3_yardsAt_20 rfl ?_
        refine V_goto C dX3_yardsAt_23 (tgt := 29) rfl ?_
        subst hf
        exact K _ _ _ dX3_yardsAt_29 rfl rfl
    · replace hf := ipos c2 hf
      refine V_iload_n C 1 dX3_yardsAt_9 rfl rfl rfl ?_
      subst hf
      exact K _ _ _ dX3_yardsAt_10 rfl rfl
set_option maxHeartbeats 4000000 in
set_option maxRecDepth 100000 in
theorem kX4_gather {ad : Nat → Nat} {G : Gh} {p1 : Nat} (h1 : isF p1) {p2 : Int32} {u : Mem} {q : Mem} (hf : FX4_gather p1 p2 u = some q) : Ct shs ad G yX4_gather cX4_gather 4 none 1 21 [.ref (ad 97), .ref (ad p1), .int p2] u none q := by
  refine Ct_ofV (by decide) (Nat.le_of_ble_eq_true rfl) (fun X C hnL K => ?_)
  have C : Cx ad G X cX4_gather "CarryFair$Rounds" 1 21 := C
  unfold FX4_gather at hf
  have Lp7 : ∀ (x0 : (Int32 × Mem)) (q7 : (Int32 × Mem)), lp (BX4_gather_7 p1 p2) FU x0 = some q7 → V shs ad G X 111 [(0, .ref (ad 97)), (1, .ref (ad p1)), (2, .int p2), (3, .int q7.1)] [] q7.2 → V shs ad G X 7 [(0, .ref (ad 97)), (1, .ref (ad p1)), (2, .int p2), (3, .int x0.1)] [] x0.2 := by
    intro  x0 q7 hq hx7_0
    refine lp_V (BX4_gather_7 p1 p2) (fun x7 => V shs ad G X 7 [(0, .ref (ad 97)), (1, .ref (ad p1)), (2, .int p2), (3, .int x7.1)] [] x7.2) q7 (fun rec7 ih7 x7 hf => ?_) FU x0 hq
    unfold BX4_gather_7 at hf
    refine V_iload_n C 3 dX4_gather_7 rfl rfl rfl ?_
    refine V_aload_n C 1 dX4_gather_8 rfl rfl rfl ?_
    refine V_getI C cf2 (sF h1) 6 rfl (by decide) w263 rfl dX4_gather_9 rfl ?_
    refine V_icmp_ge C dX4_gather_12 (tgt := 111) rfl rfl (fun c12 => ?_) (fun c12 => ?_)
    · replace hf := ipos c12 hf
      obtain rfl := Option.some.inj hf
      exact hx7_0
    · replace hf := ineg c12 hf
      refine V_iload_n C 2 dX4_gather_15 rfl rfl rfl ?_
      refine V_iload_n C 3 dX4_gather_16 rfl rfl rfl ?_
      refine V_cNi C (As := [.int p2, .int x7.1]) (st := []) M_X9_has (host := "CarryFair") (by decide +kernel) ⟨by decide, by decide⟩ rfl rfl (Nat.le_of_ble_eq_true rfl) dX4_gather_17 rfl (kX9_has rfl) ?_
      refine V_if_eq C dX4_gather_20 (tgt := 105) rfl rfl (fun c11 => ?_) (fun c11 => ?_)
      · replace hf := ipos c11 hf
        refine V_iinc C (v := (x7.1 + 1)) (L' := [(0, .ref (ad 97)), (1, .ref (ad p1)), (2, .int p2), (3, .int (x7.1 + 1))]) 3 dX4_gather_105 rfl rfl rfl (by decide) hnL [1, 2, 3, 0] rfl ?_
        refine V_goto C dX4_gather_108 (tgt := 7) rfl ?_
        exact ih7 ((x7.1 + 1), x7.2) hf
      · replace hf := ineg c11 hf
        refine V_aload_n C 0 dX4_gather_23 rfl rfl rfl ?_
        refine V_getI C cf4 rfl 5 rfl (by decide) w301 rfl dX4_gather_24 rfl ?_
        refine V_iconst C dX4_gather_27 rfl (v := 5) rfl ?_
        refine V_icmp_ge C dX4_gather_28 (tgt := 105) rfl rfl (fun c10 => ?_) (fun c10 => ?_)
        · replace hf := ipos c10 hf
          refine V_iinc C (v := (x7.1 + 1)) (L' := [(0, .ref (ad 97)), (1, .ref (ad p1)), (2, .int p2), (3, .int (x7.1 + 1))]) 3 dX4_gather_105 rfl rfl rfl (by decide) hnL [1, 2, 3, 0] rfl ?_
          refine V_goto C dX4_gather_108 (tgt := 7) rfl ?_
          exact ih7 ((x7.1 + 1), x7.2) hf
        · replace hf := ineg c10 hf
          refine V_aload_n C 0 dX4_gather_31 rfl rfl rfl ?_
          refine V_getR C cf4 rfl 0 rfl (by decide) w296 rfl dX4_gather_32 rfl ?_
          refine V_aload_n C 0 dX4_gather_35 rfl rfl rfl ?_
          refine V_getI C cf4 rfl 5 rfl (by decide) w301 rfl dX4_gather_36 rfl ?_
          refine V_iload_n C 3 dX4_gather_39 rfl rfl rfl ?_
          obtain ⟨g1, hf⟩ := gd hf
          refine V_istJ C rfl g1 rfl dX4_gather_40 rfl ?_
          refine V_aload_n C 0 dX4_gather_41 rfl rfl rfl ?_
          refine V_getR C cf4 rfl 1 rfl (by decide) w297 rfl dX4_gather_42 rfl ?_
          refine V_aload_n C 0 dX4_gather_45 rfl rfl rfl ?_
          refine V_getI C cf4 rfl 5 rfl (by decide) w301 rfl dX4_gather_46 rfl ?_
          refine V_aload_n C 1 dX4_gather_49 rfl rfl rfl ?_
          refine V_getR C cf2 (sF h1) 1 rfl (by decide) w249 rfl dX4_gather_50 rfl ?_
          refine V_iload_n C 3 dX4_gather_53 rfl rfl rfl ?_
          obtain ⟨g2, hf⟩ := gd hf
          refine V_aald C (sFe h1) (fun _ => rfl) g2 (sErg g2) dX4_gather_54 rfl ?_
          refine V_getI C cf1 (sEr h1 g2) 0 rfl (by decide) w203 rfl dX4_gather_55 rfl ?_
          obtain ⟨g3, hf⟩ := gd hf
          refine V_istJ C rfl g3 rfl dX4_gather_58 rfl ?_
          obtain ⟨w4, ew4, hf⟩ := nmd hf
          rw [← ew4]
          refine V_aload_n C 0 dX4_gather_59 rfl rfl rfl ?_
          refine V_getR C cf4 rfl 2 rfl (by decide) w298 rfl dX4_gather_60 rfl ?_
          refine V_aload_n C 0 dX4_gather_63 rfl rfl rfl ?_
          refine V_getI C cf4 rfl 5 rfl (by decide) w301 rfl dX4_gather_64 rfl ?_
          refine V_aload_n C 1 dX4_gather_67 rfl rfl rfl ?_
          refine V_getR C cf2 (sF h1) 1 rfl (by decide) w249 rfl dX4_gather_68 rfl ?_
          refine V_iload_n C 3 dX4_gather_71 rfl rfl rfl ?_
          obtain ⟨g5, hf⟩ := gd hf
          refine V_aald C (sFe h1) (fun _ => rfl) g5 (sErg g5) dX4_gather_72 rfl ?_
          refine V_getI C cf1 (sEr h1 g5) 1 rfl (by decide) w207 rfl dX4_gather_73 rfl ?_
          obtain ⟨g6, hf⟩ := gd hf
          refine V_istJ C rfl g6 rfl dX4_gather_76 rfl ?_
          refine V_aload_n C 0 dX4_gather_77 rfl rfl rfl ?_
          refine V_getR C cf4 rfl 3 rfl (by decide) w299 rfl dX4_gather_78 rfl ?_
          refine V_aload_n C 0 dX4_gather_81 rfl rfl rfl ?_
          refine V_getI C cf4 rfl 5 rfl (by decide) w301 rfl dX4_gather_82 rfl ?_
          refine V_aload_n C 1 dX4_gather_85 rfl rfl rfl ?_
          refine V_getR C cf2 (sF h1) 1 rfl (by decide) w249 rfl dX4_gather_86 rfl ?_
          refine V_iload_n C 3 dX4_gather_89 rfl rfl rfl ?_
          obtain ⟨g7, hf⟩ := gd hf
          refine V_aald C (sFe h1) (fun _ => rfl) g7 (sErg g7) dX4_gather_90 rfl ?_
          refine V_getI C cf1 (sEr h1 g7) 2 rfl (by decide) w211 rfl dX4_gather_91 rfl ?_
          obtain ⟨g8, hf⟩ := gd hf
          refine V_istJ C rfl g8 rfl dX4_gather_94 rfl ?_
          obtain ⟨w9, ew9, hf⟩ := nmd hf
          rw [← ew9]
          refine V_aload_n C 0 dX4_gather_95 rfl rfl rfl ?_
          refine V_dup C dX4_gather_96 rfl rfl ?_
          refine V_getI C cf4 rfl 5 rfl (by decide) w301 rfl dX4_gather_97 rfl ?_
          refine V_iconst C dX4_gather_100 rfl (v := 1) rfl ?_
          refine V_iadd C dX4_gather_101 rfl ?_
          refine V_put C cf4 rfl 5 rfl (by decide) w301 rfl rfl rfl rfl dX4_gather_102 rfl ?_
          refine V_iinc C (v := (x7.1 + 1)) (L' := [(0, .ref (ad 97)), (1, .ref (ad p1)), (2, .int p2), (3, .int (x7.1 + 1))]) 3 dX4_gather_105 rfl rfl rfl (by decide) hnL [1, 2, 3, 0] rfl ?_
          refine V_goto C dX4_gather_108 (tgt := 7) rfl ?_
          exact ih7 ((x7.1 + 1), (mst w9 97 5 ((w9 97 5) + 1))) hf
  refine V_aload_n C 0 dX4_gather_0 rfl rfl rfl ?_
  refine V_iconst C dX4_gather_1 rfl (v := 0) rfl ?_
  refine V_put C cf4 rfl 5 rfl (by decide) w301 rfl rfl rfl rfl dX4_gather_2 rfl ?_
  refine V_iconst C dX4_gather_5 rfl (v := 0) rfl ?_
  refine V_istore_n C (L' := [(0, .ref (ad 97)), (1, .ref (ad p1)), (2, .int p2), (3, .int 0)]) dX4_gather_6 rfl rfl (by decide) hnL [1, 2, 3, 0] rfl ?_
  obtain ⟨q7_13, hq7_13, hf⟩ := obd hf
  refine Lp7  (0, (mst u 97 5 0)) q7_13 hq7_13 ?_
  obtain rfl := Option.some.inj hf
  exact K _ _ dX4_gather_111 rfl
set_option maxHeartbeats 4000000 in
set_option maxRecDepth 100000 in
theorem kX8_tableFor {S : List Shp} {ad : Nat → Nat} {G : Gh} {p0 : Nat} (h0 : isW S p0) {p1 : Int32} {u : Mem} {q : Nat} (hf : FX8_tableFor p0 p1 u = some q) : Ct S ad G yX8_tableFor cX8_tableFor 2 (some (.array .int)) 0 0 [.ref (ad p0), .int p1] u (some (.ref (ad q))) u := by
  refine Ct_ofR (by decide) (Or.inr ⟨_, rfl⟩) (Nat.le_of_ble_eq_true rfl) (fun X C hnL K => ?_)
  have C : Cx ad G X cX8_tableFor "CarryFair$Ways" 0 0 := C
  unfold FX8_tableFor at hf
  refine V_aload_n C 0 dX8_tableFor_0 rfl rfl rfl ?_
  refine V_getR C cf8 (sW h0) 2 rfl (by decide) w155 rfl dX8_tableFor_1 rfl ?_
  refine V_gait C w492 dX8_tableFor_4 rfl ?_
  refine V_iload_n C 1 dX8_tableFor_7 rfl rfl rfl ?_
  obtain ⟨g1, hf⟩ := gd hf
  refine V_gait_ld C g1 dX8_tableFor_8 rfl ?_
  obtain ⟨g2, hf⟩ := gd hf
  refine V_aaldA C (sWt h0) (fun _ => rfl) g2 (sTag g2) dX8_tableFor_9 rfl ?_
  obtain rfl := Option.some.inj hf
  exact K _ _ _ dX8_tableFor_10 rfl
set_option maxHeartbeats 4000000 in
set_option maxRecDepth 100000 in
theorem kX4_howAt {ad : Nat → Nat} {G : Gh} {p1 : Int32} {p2 : Int32} {u : Mem} {q : Int32} (hf : FX4_howAt p1 p2 u = some q) : Ct shs ad G yX4_howAt cX4_howAt 3 (some .int) 0 0 [.ref (ad 97), .int p1, .int p2] u (some (.int q)) u := by
  refine Ct_ofI (by decide) (Nat.le_of_ble_eq_true rfl) (fun X C hnL K => ?_)
  have C : Cx ad G X cX4_howAt "CarryFair$Rounds" 0 0 := C
  unfold FX4_howAt at hf
  refine V_iload_n C 1 dX4_howAt_0 rfl rfl rfl ?_
  refine V_powers C w640 dX4_howAt_1 rfl ?_
  refine V_iload_n C 2 dX4_howAt_4 rfl rfl rfl ?_
  obtain ⟨g1, hf⟩ := gd hf
  refine V_powers_ld C g1 dX4_howAt_5 rfl ?_
  obtain ⟨g2, hf⟩ := gd hf
  refine V_idiv C dX4_howAt_6 rfl g2 ?_
  refine V_iconst C dX4_howAt_7 rfl (v := 3) rfl ?_
  refine V_jrem C dX4_howAt_8 rfl (by decide) ?_
  obtain rfl := Option.some.inj hf
  exact K _ _ _ dX4_howAt_9 rfl rfl
set_option maxHeartbeats 4000000 in
set_option maxRecDepth 100000 in
theorem kX4_step {ad : Nat → Nat} {G : Gh} {p1 : Int32} {p2 : Int32} {p3 : Int32} {p4 : Nat} (h4 : shs[p4]? = some (.inr ((0, 49), none))) {u : Mem} {q : Mem} (hf : FX4_step p1 p2 p3 p4 u = some q) : Ct shs ad G yX4_step cX4_step 8 none 1 21 [.ref (ad 97), .int p1, .int p2, .int p3, .ref (ad p4)] u none q := by
  refine Ct_ofV (by decide) (Nat.le_of_ble_eq_true rfl) (fun X C hnL K => ?_)
  have C : Cx ad G X cX4_step "CarryFair$Rounds" 1 21 := C
  unfold FX4_step at hf
  have Lp16 : ∀ (w : Mem) (x0 : (Int32 × Int32)) (q16 : (Int32 × Int32)), lp (BX4_step_16 p1 p2 p3 p4 w) FU x0 = some q16 → V shs ad G X 70 [(0, .ref (ad 97)), (1, .int p1), (2, .int p2), (3, .int p3), (4, .ref (ad p4)), (5, .int q16.1), (6, .int q16.2)] [] w → V shs ad G X 16 [(0, .ref (ad 97)), (1, .int p1), (2, .int p2), (3, .int p3), (4, .ref (ad p4)), (5, .int x0.1), (6, .int x0.2)] [] w := by
    intro w x0 q16 hq hx16_0
    refine lp_V (BX4_step_16 p1 p2 p3 p4 w) (fun x16 => V shs ad G X 16 [(0, .ref (ad 97)), (1, .int p1), (2, .int p2), (3, .int p3), (4, .ref (ad p4)), (5, .int x16.1), (6, .int x16.2)] [] w) q16 (fun rec16 ih16 x16 hf => ?_) FU x0 hq
    unfold BX4_step_16 at hf
    refine V_iload C 6 dX4_step_16 rfl rfl ?_
    refine V_bipush C dX4_step_18 rfl (v := 7) rfl ?_
    refine V_icmp_ge C dX4_step_20 (tgt := 70) rfl rfl (fun c5 => ?_) (fun c5 => ?_)
    · replace hf := ipos c5 hf
      obtain rfl := Option.some.inj hf
      exact hx16_0
    · replace hf := ineg c5 hf
      refine V_aload_n C 0 dX4_step_23 rfl rfl rfl ?_
      refine V_getR C cf4 rfl 4 rfl (by decide) w300 rfl dX4_step_24 rfl ?_
      refine V_iload_n C 1 dX4_step_27 rfl rfl rfl ?_
      refine V_bipush C dX4_step_28 rfl (v := 7) rfl ?_
      refine V_imul C dX4_step_30 rfl ?_
      refine V_iload C 6 dX4_step_31 rfl rfl ?_
      refine V_iadd C dX4_step_33 rfl ?_
      obtain ⟨g2, hf⟩ := gd hf
      refine V_ildJ C rfl g2 rfl dX4_step_34 rfl ?_
      refine V_istore C (L' := [(0, .ref (ad 97)), (1, .int p1), (2, .int p2), (3, .int p3), (4, .ref (ad p4)), (5, .int x16.1), (6, .int x16.2), (7, .int (w 102 ((p1 * 7) + x16.2).toNatClampNeg))]) dX4_step_35 rfl (by decide) hnL [1, 2, 3, 4, 5, 6, 7, 0] rfl ?_
      refine V_iload C 7 dX4_step_37 rfl rfl ?_
      refine V_iload C 5 dX4_step_39 rfl rfl ?_
      refine V_icmp_ge C dX4_step_41 (tgt := 64) rfl rfl (fun c4 => ?_) (fun c4 => ?_)
      · replace hf := ipos c4 hf
        refine V_iinc C (v := (x16.2 + 1)) (L' := [(0, .ref (ad 97)), (1, .int p1), (2, .int p2), (3, .int p3), (4, .ref (ad p4)), (5, .int x16.1), (6, .int (x16.2 + 1)), (7, .int (w 102 ((p1 * 7) + x16.2).toNatClampNeg))]) 6 dX4_step_64 rfl rfl rfl (by decide) hnL [1, 2, 3, 4, 5, 6, 0, 7] rfl ?_
        refine V_goto C dX4_step_67 (tgt := 16) rfl ?_
        refine V_sub (L' := [(0, .ref (ad 97)), (1, .int p1), (2, .int p2), (3, .int p3), (4, .ref (ad p4)), (5, .int x16.1), (6, .int (x16.2 + 1))]) [0, 1, 2, 3, 4, 5, 6] rfl ?_
        exact ih16 (x16.1, (x16.2 + 1)) hf
      · replace hf := ineg c4 hf
        refine V_iload C 5 dX4_step_44 rfl rfl ?_
        refine V_iload C 7 dX4_step_46 rfl rfl ?_
        refine V_aload C 4 dX4_step_48 rfl rfl ?_
        refine V_iload C 6 dX4_step_50 rfl rfl ?_
        refine V_bipush C dX4_step_52 rfl (v := 7) rfl ?_
        refine V_imul C dX4_step_54 rfl ?_
        refine V_iload_n C 3 dX4_step_55 rfl rfl rfl ?_
        refine V_iadd C dX4_step_56 rfl ?_
        obtain ⟨g3, hf⟩ := gd hf
        refine V_ildJ C h4 g3 rfl dX4_step_57 rfl ?_
        refine V_iadd C dX4_step_58 rfl ?_
        refine V_mmin C w660 ⟨by decide, by decide⟩ (Nat.le_of_ble_eq_true rfl) dX4_step_59 rfl ?_
        refine V_istore C (L' := [(0, .ref (ad 97)), (1, .int p1), (2, .int p2), (3, .int p3), (4, .ref (ad p4)), (5, .int (jmin x16.1 ((w 102 ((p1 * 7) + x16.2).toNatClampNeg) + (w p4 ((x16.2 * 7) + p3).toNatClampNeg)))), (6, .int x16.2), (7, .int (w 102 ((p1 * 7) + x16.2).toNatClampNeg))]) dX4_step_62 rfl (by decide) hnL [1, 2, 3, 4, 5, 0, 6, 7] rfl ?_
        refine V_iinc C (v := (x16.2 + 1)) (L' := [(0, .ref (ad 97)), (1, .int p1), (2, .int p2), (3, .int p3), (4, .ref (ad p4)), (5, .int (jmin x16.1 ((w 102 ((p1 * 7) + x16.2).toNatClampNeg) + (w p4 ((x16.2 * 7) + p3).toNatClampNeg)))), (6, .int (x16.2 + 1)), (7, .int (w 102 ((p1 * 7) + x16.2).toNatClampNeg))]) 6 dX4_step_64 rfl rfl rfl (by decide) hnL [1, 2, 3, 4, 5, 6, 0, 7] rfl ?_
        refine V_goto C dX4_step_67 (tgt := 16) rfl ?_
        refine V_sub (L' := [(0, .ref (ad 97)), (1, .int p1), (2, .int p2), (3, .int p3), (4, .ref (ad p4)), (5, .int (jmin x16.1 ((w 102 ((p1 * 7) + x16.2).toNatClampNeg) + (w p4 ((x16.2 * 7) + p3).toNatClampNeg)))), (6, .int (x16.2 + 1))]) [0, 1, 2, 3, 4, 5, 6] rfl ?_
        exact ih16 ((jmin x16.1 ((w 102 ((p1 * 7) + x16.2).toNatClampNeg) + (w p4 ((x16.2 * 7) + p3).toNatClampNeg))), (x16.2 + 1)) hf
  refine V_aload_n C 0 dX4_step_0 rfl rfl rfl ?_
  refine V_getR C cf4 rfl 4 rfl (by decide) w300 rfl dX4_step_1 rfl ?_
  refine V_iload_n C 2 dX4_step_4 rfl rfl rfl ?_
  refine V_bipush C dX4_step_5 rfl (v := 7) rfl ?_
  refine V_imul C dX4_step_7 rfl ?_
  refine V_iload_n C 3 dX4_step_8 rfl rfl rfl ?_
  refine V_iadd C dX4_step_9 rfl ?_
  obtain ⟨g1, hf⟩ := gd hf
  refine V_ildJ C rfl g1 rfl dX4_step_10 rfl ?_
  refine V_istore C (L' := [(0, .ref (ad 97)), (1, .int p1), (2, .int p2), (3, .int p3), (4, .ref (ad p4)), (5, .int (u 102 ((p2 * 7) + p3).toNatClampNeg))]) dX4_step_11 rfl (by decide) hnL [1, 2, 3, 4, 5, 0] rfl ?_
  refine V_iconst C dX4_step_13 rfl (v := 0) rfl ?_
  refine V_istore C (L' := [(0, .ref (ad 97)), (1, .int p1), (2, .int p2), (3, .int p3), (4, .ref (ad p4)), (5, .int (u 102 ((p2 * 7) + p3).toNatClampNeg)), (6, .int 0)]) dX4_step_14 rfl (by decide) hnL [1, 2, 3, 4, 5, 6, 0] rfl ?_
  obtain ⟨q16_6, hq16_6, hf⟩ := obd hf
  refine Lp16 u ((u 102 ((p2 * 7) + p3).toNatClampNeg), 0) q16_6 hq16_6 ?_
  refine V_aload_n C 0 dX4_step_70 rfl rfl rfl ?_
  refine V_getR C cf4 rfl 4 rfl (by decide) w300 rfl dX4_step_71 rfl ?_
  refine V_iload_n C 2 dX4_step_74 rfl rfl rfl ?_
  refine V_bipush C dX4_step_75 rfl (v := 7) rfl ?_
  refine V_imul C dX4_step_77 rfl ?_
  refine V_iload_n C 3 dX4_step_78 rfl rfl rfl ?_
  refine V_iadd C dX4_step_79 rfl ?_
  refine V_iload C 5 dX4_step_80 rfl rfl ?_
  obtain ⟨g7, hf⟩ := gd hf
  refine V_istJ C rfl g7 rfl dX4_step_82 rfl ?_
  obtain rfl := Option.some.inj hf
  exact K _ _ dX4_step_83 rfl
set_option maxHeartbeats 4000000 in
set_option maxRecDepth 100000 in
theorem kX4_goOnFrom {ad : Nat → Nat} {G : Gh} {p1 : Int32} {p2 : Int32} {p3 : Nat} (h3 : shs[p3]? = some (.inr ((0, 49), none))) {u : Mem} {q : Mem} (hf : FX4_goOnFrom p1 p2 p3 u = some q) : Ct shs ad G yX4_goOnFrom cX4_goOnFrom 7 none 2 48 [.ref (ad 97), .int p1, .int p2, .ref (ad p3)] u none q := by
  refine Ct_ofV (by decide) (Nat.le_of_ble_eq_true rfl) (fun X C hnL K => ?_)
  have C : Cx ad G X cX4_goOnFrom "CarryFair$Rounds" 2 48 := C
  unfold FX4_goOnFrom at hf
  have Lp6 : ∀ (w : Mem) (x0 : (Int32 × Int32)) (q6 : (Int32 × Int32)), lp (BX4_goOnFrom_6 p1 p2 p3 w) FU x0 = some q6 → V shs ad G X 44 [(0, .ref (ad 97)), (1, .int p1), (2, .int p2), (3, .ref (ad p3)), (4, .int q6.1), (5, .int q6.2)] [] w → V shs ad G X 6 [(0, .ref (ad 97)), (1, .int p1), (2, .int p2), (3, .ref (ad p3)), (4, .int x0.1), (5, .int x0.2)] [] w := by
    intro w x0 q6 hq hx6_0
    refine lp_V (BX4_goOnFrom_6 p1 p2 p3 w) (fun x6 => V shs ad G X 6 [(0, .ref (ad 97)), (1, .int p1), (2, .int p2), (3, .ref (ad p3)), (4, .int x6.1), (5, .int x6.2)] [] w) q6 (fun rec6 ih6 x6 hf => ?_) FU x0 hq
    unfold BX4_goOnFrom_6 at hf
    refine V_iload C 5 dX4_goOnFrom_6 rfl rfl ?_
    refine V_aload_n C 0 dX4_goOnFrom_8 rfl rfl rfl ?_
    refine V_getI C cf4 rfl 5 rfl (by decide) w301 rfl dX4_goOnFrom_9 rfl ?_
    refine V_icmp_ge C dX4_goOnFrom_12 (tgt := 44) rfl rfl (fun c4 => ?_) (fun c4 => ?_)
    · replace hf := ipos c4 hf
      obtain rfl := Option.some.inj hf
      exact hx6_0
    · replace hf := ineg c4 hf
      refine V_aload_n C 0 dX4_goOnFrom_15 rfl rfl rfl ?_
      refine V_iload_n C 1 dX4_goOnFrom_16 rfl rfl rfl ?_
      refine V_iload C 5 dX4_goOnFrom_17 rfl rfl ?_
      obtain ⟨q1, hq1, hf⟩ := obd hf
      refine V_cVi C (b := 97) (As := [.int p1, .int x6.2]) (st := []) cf4 rfl M_X4_howAt w652 ⟨by decide, by decide⟩ rfl rfl (Nat.le_of_ble_eq_true rfl) dX4_goOnFrom_19 rfl (kX4_howAt hq1) ?_
      refine V_iconst C dX4_goOnFrom_22 rfl (v := 1) rfl ?_
      refine V_icmp_ne C dX4_goOnFrom_23 (tgt := 38) rfl rfl (fun c3 => ?_) (fun c3 => ?_)
      · replace hf := ineg c3 hf
        refine V_iinc C (v := (x6.2 + 1)) (L' := [(0, .ref (ad 97)), (1, .int p1), (2, .int p2), (3, .ref (ad p3)), (4, .int x6.1), (5, .int (x6.2 + 1))]) 5 dX4_goOnFrom_38 rfl rfl rfl (by decide) hnL [1, 2, 3, 4, 5, 0] rfl ?_
        refine V_goto C dX4_goOnFrom_41 (tgt := 6) rfl ?_
        exact ih6 (x6.1, (x6.2 + 1)) hf
      · replace hf := ipos c3 hf
        refine V_iload C 4 dX4_goOnFrom_26 rfl rfl ?_
        refine V_aload_n C 0 dX4_goOnFrom_28 rfl rfl rfl ?_
        refine V_getR C cf4 rfl 1 rfl (by decide) w297 rfl dX4_goOnFrom_29 rfl ?_
        refine V_iload C 5 dX4_goOnFrom_32 rfl rfl ?_
        obtain ⟨g2, hf⟩ := gd hf
        refine V_ildJ C rfl g2 rfl dX4_goOnFrom_34 rfl ?_
        refine V_isub C dX4_goOnFrom_35 rfl ?_
        refine V_istore C (L' := [(0, .ref (ad 97)), (1, .int p1), (2, .int p2), (3, .ref (ad p3)), (4, .int (x6.1 - (w 99 (x6.2).toNatClampNeg))), (5, .int x6.2)]) dX4_goOnFrom_36 rfl (by decide) hnL [1, 2, 3, 4, 0, 5] rfl ?_
        refine V_iinc C (v := (x6.2 + 1)) (L' := [(0, .ref (ad 97)), (1, .int p1), (2, .int p2), (3, .ref (ad p3)), (4, .int (x6.1 - (w 99 (x6.2).toNatClampNeg))), (5, .int (x6.2 + 1))]) 5 dX4_goOnFrom_38 rfl rfl rfl (by decide) hnL [1, 2, 3, 4, 5, 0] rfl ?_
        refine V_goto C dX4_goOnFrom_41 (tgt := 6) rfl ?_
        exact ih6 ((x6.1 - (w 99 (x6.2).toNatClampNeg)), (x6.2 + 1)) hf
  have Lp47 : ∀ (v4 : Int32) (x0 : (Int32 × Mem)) (q47 : (Int32 × Mem)), lp (BX4_goOnFrom_47 p1 p2 p3 v4) FU x0 = some q47 → V shs ad G X 139 [(0, .ref (ad 97)), (1, .int p1), (2, .int p2), (3, .ref (ad p3)), (4, .int v4), (5, .int q47.1)] [] q47.2 → V shs ad G X 47 [(0, .ref (ad 97)), (1, .int p1), (2, .int p2), (3, .ref (ad p3)), (4, .int v4), (5, .int x0.1)] [] x0.2 := by
    intro v4 x0 q47 hq hx47_0
    refine lp_V (BX4_goOnFrom_47 p1 p2 p3 v4) (fun x47 => V shs ad G X 47 [(0, .ref (ad 97)), (1, .int p1), (2, .int p2), (3, .ref (ad p3)), (4, .int v4), (5, .int x47.1)] [] x47.2) q47 (fun rec47 ih47 x47 hf => ?_) FU x0 hq
    unfold BX4_goOnFrom_47 at hf
    have JX4_goOnFrom_106_47 : ∀ (v5 : Int32) (v6 : Int32) (w : Mem), JX4_goOnFrom_106_47 p1 p2 p3 v4 v5 v6 w rec47 = some q47 → V shs ad G X 106 [(0, .ref (ad 97)), (1, .int p1), (2, .int p2), (3, .ref (ad p3)), (4, .int v4), (5, .int v5), (6, .int v6)] [] w := by
      intro v5 v6 w hf
      unfold JX4_goOnFrom_106_47 at hf
      refine V_iload C 6 dX4_goOnFrom_106 rfl rfl ?_
      refine V_iconst C dX4_goOnFrom_108 rfl (v := 1) rfl ?_
      refine V_icmp_ne C dX4_goOnFrom_109 (tgt := 133) rfl rfl (fun c10 => ?_) (fun c10 => ?_)
      · replace hf := ineg c10 hf
        refine V_iinc C (v := (v5 + 1)) (L' := [(0, .ref (ad 97)), (1, .int p1), (2, .int p2), (3, .ref (ad p3)), (4, .int v4), (5, .int (v5 + 1)), (6, .int v6)]) 5 dX4_goOnFrom_133 rfl rfl rfl (by decide) hnL [1, 2, 3, 4, 5, 0, 6] rfl ?_
        refine V_goto C dX4_goOnFrom_136 (tgt := 47) rfl ?_
        refine V_sub (L' := [(0, .ref (ad 97)), (1, .int p1), (2, .int p2), (3, .ref (ad p3)), (4, .int v4), (5, .int (v5 + 1))]) [0, 1, 2, 3, 4, 5] rfl ?_
        exact ih47 ((v5 + 1), w) hf
      · replace hf := ipos c10 hf
        refine V_aload_n C 0 dX4_goOnFrom_112 rfl rfl rfl ?_
        refine V_iload_n C 1 dX4_goOnFrom_113 rfl rfl rfl ?_
        refine V_iload_n C 1 dX4_goOnFrom_114 rfl rfl rfl ?_
        refine V_powers C w640 dX4_goOnFrom_115 rfl ?_
        refine V_iload C 5 dX4_goOnFrom_118 rfl rfl ?_
        obtain ⟨g7, hf⟩ := gd hf
        refine V_powers_ld C g7 dX4_goOnFrom_120 rfl ?_
        refine V_iadd C dX4_goOnFrom_121 rfl ?_
        refine V_aload_n C 0 dX4_goOnFrom_122 rfl rfl rfl ?_
        refine V_getR C cf4 rfl 3 rfl (by decide) w299 rfl dX4_goOnFrom_123 rfl ?_
        refine V_iload C 5 dX4_goOnFrom_126 rfl rfl ?_
        obtain ⟨g8, hf⟩ := gd hf
        refine V_ildJ C rfl g8 rfl dX4_goOnFrom_128 rfl ?_
        refine V_aload_n C 3 dX4_goOnFrom_129 rfl rfl rfl ?_
        obtain ⟨q9, hq9, hf⟩ := obd hf
        refine V_cVv C (b := 97) (As := [.int p1, .int (p1 + (tPowers (v5).toNatClampNeg)), .int (w 101 (v5).toNatClampNeg), .ref (ad p3)]) (st := []) cf4 rfl M_X4_step w656 ⟨by decide, by decide⟩ rfl rfl (Nat.le_of_ble_eq_true rfl) dX4_goOnFrom_130 rfl (kX4_step h3 hq9) ?_
        refine V_iinc C (v := (v5 + 1)) (L' := [(0, .ref (ad 97)), (1, .int p1), (2, .int p2), (3, .ref (ad p3)), (4, .int v4), (5, .int (v5 + 1)), (6, .int v6)]) 5 dX4_goOnFrom_133 rfl rfl rfl (by decide) hnL [1, 2, 3, 4, 5, 0, 6] rfl ?_
        refine V_goto C dX4_goOnFrom_136 (tgt := 47) rfl ?_
        refine V_sub (L' := [(0, .ref (ad 97)), (1, .int p1), (2, .int p2), (3, .ref (ad p3)), (4, .int v4), (5, .int (v5 + 1))]) [0, 1, 2, 3, 4, 5] rfl ?_
        exact ih47 ((v5 + 1), q9) hf
    refine V_iload C 5 dX4_goOnFrom_47 rfl rfl ?_
    refine V_aload_n C 0 dX4_goOnFrom_49 rfl rfl rfl ?_
    refine V_getI C cf4 rfl 5 rfl (by decide) w301 rfl dX4_goOnFrom_50 rfl ?_
    refine V_icmp_ge C dX4_goOnFrom_53 (tgt := 139) rfl rfl (fun c17 => ?_) (fun c17 => ?_)
    · replace hf := ipos c17 hf
      obtain rfl := Option.some.inj hf
      exact hx47_0
    · replace hf := ineg c17 hf
      refine V_aload_n C 0 dX4_goOnFrom_56 rfl rfl rfl ?_
      refine V_iload_n C 1 dX4_goOnFrom_57 rfl rfl rfl ?_
      refine V_iload C 5 dX4_goOnFrom_58 rfl rfl ?_
      obtain ⟨q6, hq6, hf⟩ := obd hf
      refine V_cVi C (b := 97) (As := [.int p1, .int x47.1]) (st := []) cf4 rfl M_X4_howAt w652 ⟨by decide, by decide⟩ rfl rfl (Nat.le_of_ble_eq_true rfl) dX4_goOnFrom_60 rfl (kX4_howAt hq6) ?_
      refine V_istore C (L' := [(0, .ref (ad 97)), (1, .int p1), (2, .int p2), (3, .ref (ad p3)), (4, .int v4), (5, .int x47.1), (6, .int q6)]) dX4_goOnFrom_63 rfl (by decide) hnL [1, 2, 3, 4, 5, 6, 0] rfl ?_
      refine V_iload C 6 dX4_goOnFrom_65 rfl rfl ?_
      refine V_if_ne C dX4_goOnFrom_67 (tgt := 106) rfl rfl (fun c16 => ?_) (fun c16 => ?_)
      · replace hf := ineg c16 hf
        exact JX4_goOnFrom_106_47 x47.1 q6 x47.2 hf
      · replace hf := ipos c16 hf
        refine V_aload_n C 0 dX4_goOnFrom_70 rfl rfl rfl ?_
        refine V_getR C cf4 rfl 1 rfl (by decide) w297 rfl dX4_goOnFrom_71 rfl ?_
        refine V_iload C 5 dX4_goOnFrom_74 rfl rfl ?_
        obtain ⟨g11, hf⟩ := gd hf
        refine V_ildJ C rfl g11 rfl dX4_goOnFrom_76 rfl ?_
        refine V_iload C 4 dX4_goOnFrom_77 rfl rfl ?_
        refine V_icmp_gt C dX4_goOnFrom_79 (tgt := 106) rfl rfl (fun c15 => ?_) (fun c15 => ?_)
        · replace hf := ipos c15 hf
          exact JX4_goOnFrom_106_47 x47.1 q6 x47.2 hf
        · replace hf := ineg c15 hf
          refine V_aload_n C 0 dX4_goOnFrom_82 rfl rfl rfl ?_
          refine V_iload_n C 1 dX4_goOnFrom_83 rfl rfl rfl ?_
          refine V_iload_n C 1 dX4_goOnFrom_84 rfl rfl rfl ?_
          refine V_powers C w640 dX4_goOnFrom_85 rfl ?_
          refine V_iload C 5 dX4_goOnFrom_88 rfl rfl ?_
          obtain ⟨g12, hf⟩ := gd hf
          refine V_powers_ld C g12 dX4_goOnFrom_90 rfl ?_
          refine V_iadd C dX4_goOnFrom_91 rfl ?_
          refine V_aload_n C 0 dX4_goOnFrom_92 rfl rfl rfl ?_
          refine V_getR C cf4 rfl 2 rfl (by decide) w298 rfl dX4_goOnFrom_93 rfl ?_
          refine V_iload C 5 dX4_goOnFrom_96 rfl rfl ?_
          obtain ⟨g13, hf⟩ := gd hf
          refine V_ildJ C rfl g13 rfl dX4_goOnFrom_98 rfl ?_
          refine V_aload_n C 3 dX4_goOnFrom_99 rfl rfl rfl ?_
          obtain ⟨q14, hq14, hf⟩ := obd hf
          refine V_cVv C (b := 97) (As := [.int p1, .int (p1 + (tPowers (x47.1).toNatClampNeg)), .int (x47.2 100 (x47.1).toNatClampNeg), .ref (ad p3)]) (st := []) cf4 rfl M_X4_step w656 ⟨by decide, by decide⟩ rfl rfl (Nat.le_of_ble_eq_true rfl) dX4_goOnFrom_100 rfl (kX4_step h3 hq14) ?_
          refine V_goto C dX4_goOnFrom_103 (tgt := 133) rfl ?_
          refine V_iinc C (v := (x47.1 + 1)) (L' := [(0, .ref (ad 97)), (1, .int p1), (2, .int p2), (3, .ref (ad p3)), (4, .int v4), (5, .int (x47.1 + 1)), (6, .int q6)]) 5 dX4_goOnFrom_133 rfl rfl rfl (by decide) hnL [1, 2, 3, 4, 5, 0, 6] rfl ?_
          refine V_goto C dX4_goOnFrom_136 (tgt := 47) rfl ?_
          refine V_sub (L' := [(0, .ref (ad 97)), (1, .int p1), (2, .int p2), (3, .ref (ad p3)), (4, .int v4), (5, .int (x47.1 + 1))]) [0, 1, 2, 3, 4, 5] rfl ?_
          exact ih47 ((x47.1 + 1), q14) hf
  refine V_iload_n C 2 dX4_goOnFrom_0 rfl rfl rfl ?_
  refine V_istore C (L' := [(0, .ref (ad 97)), (1, .int p1), (2, .int p2), (3, .ref (ad p3)), (4, .int p2)]) dX4_goOnFrom_1 rfl (by decide) hnL [1, 2, 3, 4, 0] rfl ?_
  refine V_iconst C dX4_goOnFrom_3 rfl (v := 0) rfl ?_
  refine V_istore C (L' := [(0, .ref (ad 97)), (1, .int p1), (2, .int p2), (3, .ref (ad p3)), (4, .int p2), (5, .int 0)]) dX4_goOnFrom_4 rfl (by decide) hnL [1, 2, 3, 4, 5, 0] rfl ?_
  obtain ⟨q6_5, hq6_5, hf⟩ := obd hf
  refine Lp6 u (p2, 0) q6_5 hq6_5 ?_
  refine V_iconst C dX4_goOnFrom_44 rfl (v := 0) rfl ?_
  refine V_istore C (L' := [(0, .ref (ad 97)), (1, .int p1), (2, .int p2), (3, .ref (ad p3)), (4, .int q6_5.1), (5, .int 0)]) dX4_goOnFrom_45 rfl (by decide) hnL [1, 2, 3, 4, 5, 0] rfl ?_
  obtain ⟨q47_18, hq47_18, hf⟩ := obd hf
  refine Lp47 q6_5.1 (0, u) q47_18 hq47_18 ?_
  obtain rfl := Option.some.inj hf
  exact K _ _ dX4_goOnFrom_139 rfl
set_option maxHeartbeats 4000000 in
set_option maxRecDepth 100000 in
theorem kX4_find {ad : Nat → Nat} {G : Gh} {p1 : Nat} (h1 : isF p1) {p2 : Int32} {p3 : Int32} {p4 : Int32} {u : Mem} {q : Mem} (hf : FX4_find p1 p2 p3 p4 u = some q) : Ct shs ad G yX4_find cX4_find 10 none 3 74 [.ref (ad 97), .ref (ad p1), .int p2, .int p3, .int p4] u none q := by
  refine Ct_ofV (by decide) (Nat.le_of_ble_eq_true rfl) (fun X C hnL K => ?_)
  have C : Cx ad G X cX4_find "CarryFair$Rounds" 3 74 := C
  unfold FX4_find at hf
  have Lp20 : ∀ (v5 : Int32) (x0 : (Int32 × Mem)) (q20 : (Int32 × Mem)), lp (BX4_find_20 p1 p2 p3 p4 v5) FU x0 = some q20 → V shs ad G X 45 [(0, .ref (ad 97)), (1, .ref (ad p1)), (2, .int p2), (3, .int p3), (4, .int p4), (5, .int v5), (6, .int q20.1)] [] q20.2 → V shs ad G X 20 [(0, .ref (ad 97)), (1, .ref (ad p1)), (2, .int p2), (3, .int p3), (4, .int p4), (5, .int v5), (6, .int x0.1)] [] x0.2 := by
    intro v5 x0 q20 hq hx20_0
    refine lp_V (BX4_find_20 p1 p2 p3 p4 v5) (fun x20 => V shs ad G X 20 [(0, .ref (ad 97)), (1, .ref (ad p1)), (2, .int p2), (3, .int p3), (4, .int p4), (5, .int v5), (6, .int x20.1)] [] x20.2) q20 (fun rec20 ih20 x20 hf => ?_) FU x0 hq
    unfold BX4_find_20 at hf
    refine V_iload C 6 dX4_find_20 rfl rfl ?_
    refine V_iload C 5 dX4_find_22 rfl rfl ?_
    refine V_bipush C dX4_find_24 rfl (v := 7) rfl ?_
    refine V_imul C dX4_find_26 rfl ?_
    refine V_icmp_ge C dX4_find_27 (tgt := 45) rfl rfl (fun c4 => ?_) (fun c4 => ?_)
    · replace hf := ipos c4 hf
      obtain rfl := Option.some.inj hf
      exact hx20_0
    · replace hf := ineg c4 hf
      refine V_aload_n C 0 dX4_find_30 rfl rfl rfl ?_
      refine V_getR C cf4 rfl 4 rfl (by decide) w300 rfl dX4_find_31 rfl ?_
      refine V_iload C 6 dX4_find_34 rfl rfl ?_
      refine V_ldc C dX4_find_36 rfl w642 ?_
      obtain ⟨g3, hf⟩ := gd hf
      refine V_istJ C rfl g3 rfl dX4_find_38 rfl ?_
      refine V_iinc C (v := (x20.1 + 1)) (L' := [(0, .ref (ad 97)), (1, .ref (ad p1)), (2, .int p2), (3, .int p3), (4, .int p4), (5, .int v5), (6, .int (x20.1 + 1))]) 6 dX4_find_39 rfl rfl rfl (by decide) hnL [1, 2, 3, 4, 5, 6, 0] rfl ?_
      refine V_goto C dX4_find_42 (tgt := 20) rfl ?_
      exact ih20 ((x20.1 + 1), (mst x20.2 102 (x20.1).toNatClampNeg 1000000)) hf
  have Lp88 : ∀ (v5 : Int32) (v6 : Nat) (v7 : Int32) (v8 : Nat) (hv6 : shs[v6]? = some (.inl (0, [none, none, none, none, none]))) (hv8 : shs[v8]? = some (.inr ((0, 49), none))) (x0 : (Int32 × Mem)) (q88 : (Int32 × Mem)), lp (BX4_find_88 p1 p2 p3 p4 v5 v6 v7 v8) FU x0 = some q88 → V shs ad G X 111 [(0, .ref (ad 97)), (1, .ref (ad p1)), (2, .int p2), (3, .int p3), (4, .int p4), (5, .int v5), (6, .ref (ad v6)), (7, .int v7), (8, .ref (ad v8)), (9, .int q88.1)] [] q88.2 → V shs ad G X 88 [(0, .ref (ad 97)), (1, .ref (ad p1)), (2, .int p2), (3, .int p3), (4, .int p4), (5, .int v5), (6, .ref (ad v6)), (7, .int v7), (8, .ref (ad v8)), (9, .int x0.1)] [] x0.2 := by
    intro v5 v6 v7 v8 hv6 hv8 x0 q88 hq hx88_0
    refine lp_V (BX4_find_88 p1 p2 p3 p4 v5 v6 v7 v8) (fun x88 => V shs ad G X 88 [(0, .ref (ad 97)), (1, .ref (ad p1)), (2, .int p2), (3, .int p3), (4, .int p4), (5, .int v5), (6, .ref (ad v6)), (7, .int v7), (8, .ref (ad v8)), (9, .int x88.1)] [] x88.2) q88 (fun rec88 ih88 x88 hf => ?_) FU x0 hq
    unfold BX4_find_88 at hf
    refine V_iload C 9 dX4_find_88 rfl rfl ?_
    refine V_iload C 5 dX4_find_90 rfl rfl ?_
    refine V_icmp_ge C dX4_find_92 (tgt := 111) rfl rfl (fun c10 => ?_) (fun c10 => ?_)
    · replace hf := ipos c10 hf
      obtain rfl := Option.some.inj hf
      exact hx88_0
    · replace hf := ineg c10 hf
      refine V_aload_n C 0 dX4_find_95 rfl rfl rfl ?_
      refine V_iload C 9 dX4_find_96 rfl rfl ?_
      refine V_iload C 7 dX4_find_98 rfl rfl ?_
      refine V_aload C 8 dX4_find_100 rfl rfl ?_
      obtain ⟨q9, hq9, hf⟩ := obd hf
      refine V_cVv C (b := 97) (As := [.int x88.1, .int v7, .ref (ad v8)]) (st := []) cf4 rfl M_X4_goOnFrom w648 ⟨by decide, by decide⟩ rfl rfl (Nat.le_of_ble_eq_true rfl) dX4_find_102 rfl (kX4_goOnFrom hv8 hq9) ?_
      refine V_iinc C (v := (x88.1 + 1)) (L' := [(0, .ref (ad 97)), (1, .ref (ad p1)), (2, .int p2), (3, .int p3), (4, .int p4), (5, .int v5), (6, .ref (ad v6)), (7, .int v7), (8, .ref (ad v8)), (9, .int (x88.1 + 1))]) 9 dX4_find_105 rfl rfl rfl (by decide) hnL [1, 2, 3, 4, 5, 6, 7, 8, 9, 0] rfl ?_
      refine V_goto C dX4_find_108 (tgt := 88) rfl ?_
      exact ih88 ((x88.1 + 1), q9) hf
  refine V_aload_n C 0 dX4_find_0 rfl rfl rfl ?_
  refine V_aload_n C 1 dX4_find_1 rfl rfl rfl ?_
  refine V_iload C 4 dX4_find_2 rfl rfl ?_
  obtain ⟨q1, hq1, hf⟩ := obd hf
  refine V_cVv C (b := 97) (As := [.ref (ad p1), .int p4]) (st := []) cf4 rfl M_X4_gather w635 ⟨by decide, by decide⟩ rfl rfl (Nat.le_of_ble_eq_true rfl) dX4_find_4 rfl (kX4_gather h1 hq1) ?_
  refine V_powers C w640 dX4_find_7 rfl ?_
  refine V_aload_n C 0 dX4_find_10 rfl rfl rfl ?_
  refine V_getI C cf4 rfl 5 rfl (by decide) w301 rfl dX4_find_11 rfl ?_
  obtain ⟨g2, hf⟩ := gd hf
  refine V_powers_ld C g2 dX4_find_14 rfl ?_
  refine V_istore C (L' := [(0, .ref (ad 97)), (1, .ref (ad p1)), (2, .int p2), (3, .int p3), (4, .int p4), (5, .int (tPowers (q1 97 5).toNatClampNeg))]) dX4_find_15 rfl (by decide) hnL [1, 2, 3, 4, 5, 0] rfl ?_
  refine V_iconst C dX4_find_17 rfl (v := 0) rfl ?_
  refine V_istore C (L' := [(0, .ref (ad 97)), (1, .ref (ad p1)), (2, .int p2), (3, .int p3), (4, .int p4), (5, .int (tPowers (q1 97 5).toNatClampNeg)), (6, .int 0)]) dX4_find_18 rfl (by decide) hnL [1, 2, 3, 4, 5, 6, 0] rfl ?_
  obtain ⟨q20_5, hq20_5, hf⟩ := obd hf
  refine Lp20 (tPowers (q1 97 5).toNatClampNeg) (0, q1) q20_5 hq20_5 ?_
  refine V_aload_n C 1 dX4_find_45 rfl rfl rfl ?_
  refine V_getR C cf2 (sF h1) 0 rfl (by decide) w246 rfl dX4_find_46 rfl ?_
  refine V_iload_n C 2 dX4_find_49 rfl rfl rfl ?_
  obtain ⟨g6, hf⟩ := gd hf
  refine V_aald C (sFc h1) (fun _ => rfl) g6 (sCag g6) dX4_find_50 rfl ?_
  refine V_astore C (L' := [(0, .ref (ad 97)), (1, .ref (ad p1)), (2, .int p2), (3, .int p3), (4, .int p4), (5, .int (tPowers (q1 97 5).toNatClampNeg)), (6, .ref (ad (p1 + 12 + (p2).toNatClampNeg)))]) dX4_find_51 rfl (by decide) hnL [1, 2, 3, 4, 5, 6, 0] rfl ?_
  refine V_aload_n C 0 dX4_find_53 rfl rfl rfl ?_
  refine V_getR C cf4 rfl 4 rfl (by decide) w300 rfl dX4_find_54 rfl ?_
  refine V_aload C 6 dX4_find_57 rfl rfl ?_
  refine V_getI C cf0 (sCa h1 g6) 1 rfl (by decide) w172 rfl dX4_find_59 rfl ?_
  refine V_iconst C dX4_find_62 rfl (v := 0) rfl ?_
  obtain ⟨g7, hf⟩ := gd hf
  refine V_istJ C rfl g7 rfl dX4_find_63 rfl ?_
  refine V_iload_n C 3 dX4_find_64 rfl rfl rfl ?_
  refine V_aload C 6 dX4_find_65 rfl rfl ?_
  refine V_getI C cf0 (sCa h1 g6) 2 rfl (by decide) w177 rfl dX4_find_67 rfl ?_
  refine V_cSi C (As := [.int p3, .int ((mst q20_5.2 102 ((q20_5.2 (p1 + 12 + (p2).toNatClampNeg) 1).toNatClampNeg) 0) (p1 + 12 + (p2).toNatClampNeg) 2)]) (st := []) M_X3_canBear w643 ⟨by decide, by decide⟩ rfl rfl (Nat.le_of_ble_eq_true rfl) dX4_find_70 rfl (kX3_canBear rfl) ?_
  refine V_istore C (L' := [(0, .ref (ad 97)), (1, .ref (ad p1)), (2, .int p2), (3, .int p3), (4, .int p4), (5, .int (tPowers (q1 97 5).toNatClampNeg)), (6, .ref (ad (p1 + 12 + (p2).toNatClampNeg))), (7, .int (FX3_canBear p3 ((mst q20_5.2 102 ((q20_5.2 (p1 + 12 + (p2).toNatClampNeg) 1).toNatClampNeg) 0) (p1 + 12 + (p2).toNatClampNeg) 2)))]) dX4_find_73 rfl (by decide) hnL [1, 2, 3, 4, 5, 6, 7, 0] rfl ?_
  refine V_aload_n C 1 dX4_find_75 rfl rfl rfl ?_
  refine V_getR C cf2 (sF h1) 3 rfl (by decide) w254 rfl dX4_find_76 rfl ?_
  refine V_iload_n C 3 dX4_find_79 rfl rfl rfl ?_
  obtain ⟨q8, hq8, hf⟩ := obd hf
  refine V_cVr C (b := (p1 + 4)) (As := [.int p3]) (st := []) cf8 (sW (wF h1)) M_X8_tableFor w644 ⟨by decide, by decide⟩ rfl rfl (Nat.le_of_ble_eq_true rfl) dX4_find_80 rfl (kX8_tableFor (wF h1) hq8) ?_
  refine V_astore C (L' := [(0, .ref (ad 97)), (1, .ref (ad p1)), (2, .int p2), (3, .int p3), (4, .int p4), (5, .int (tPowers (q1 97 5).toNatClampNeg)), (6, .ref (ad (p1 + 12 + (p2).toNatClampNeg))), (7, .int (FX3_canBear p3 ((mst q20_5.2 102 ((q20_5.2 (p1 + 12 + (p2).toNatClampNeg) 1).toNatClampNeg) 0) (p1 + 12 + (p2).toNatClampNeg) 2))), (8, .ref (ad q8))]) dX4_find_83 rfl (by decide) hnL [1, 2, 3, 4, 5, 6, 7, 8, 0] rfl ?_
  refine V_iconst C dX4_find_85 rfl (v := 0) rfl ?_
  refine V_istore C (L' := [(0, .ref (ad 97)), (1, .ref (ad p1)), (2, .int p2), (3, .int p3), (4, .int p4), (5, .int (tPowers (q1 97 5).toNatClampNeg)), (6, .ref (ad (p1 + 12 + (p2).toNatClampNeg))), (7, .int (FX3_canBear p3 ((mst q20_5.2 102 ((q20_5.2 (p1 + 12 + (p2).toNatClampNeg) 1).toNatClampNeg) 0) (p1 + 12 + (p2).toNatClampNeg) 2))), (8, .ref (ad q8)), (9, .int 0)]) dX4_find_86 rfl (by decide) hnL [1, 2, 3, 4, 5, 6, 7, 8, 9, 0] rfl ?_
  obtain ⟨q88_11, hq88_11, hf⟩ := obd hf
  refine Lp88 (tPowers (q1 97 5).toNatClampNeg) (p1 + 12 + (p2).toNatClampNeg) (FX3_canBear p3 ((mst q20_5.2 102 ((q20_5.2 (p1 + 12 + (p2).toNatClampNeg) 1).toNatClampNeg) 0) (p1 + 12 + (p2).toNatClampNeg) 2)) q8 (sCa h1 g6) (sX8_tableFor (wF h1) hq8) (0, (mst q20_5.2 102 ((q20_5.2 (p1 + 12 + (p2).toNatClampNeg) 1).toNatClampNeg) 0)) q88_11 hq88_11 ?_
  obtain rfl := Option.some.inj hf
  exact K _ _ dX4_find_111 rfl
set_option maxHeartbeats 4000000 in
set_option maxRecDepth 100000 in
theorem kX4_yardsOfPart {ad : Nat → Nat} {G : Gh} {p1 : Int32} {u : Mem} {q : Int32} (hf : FX4_yardsOfPart p1 u = some q) : Ct shs ad G yX4_yardsOfPart cX4_yardsOfPart 5 (some .int) 1 21 [.ref (ad 97), .int p1] u (some (.int q)) u := by
  refine Ct_ofI (by decide) (Nat.le_of_ble_eq_true rfl) (fun X C hnL K => ?_)
  have C : Cx ad G X cX4_yardsOfPart "CarryFair$Rounds" 1 21 := C
  unfold FX4_yardsOfPart at hf
  have Lp4 : ∀ (x0 : (Int32 × Int32)) (q4 : (Int32 × Int32)), lp (BX4_yardsOfPart_4 p1 u) FU x0 = some q4 → V shs ad G X 41 [(0, .ref (ad 97)), (1, .int p1), (2, .int q4.1), (3, .int q4.2)] [] u → V shs ad G X 4 [(0, .ref (ad 97)), (1, .int p1), (2, .int x0.1), (3, .int x0.2)] [] u := by
    intro  x0 q4 hq hx4_0
    refine lp_V (BX4_yardsOfPart_4 p1 u) (fun x4 => V shs ad G X 4 [(0, .ref (ad 97)), (1, .int p1), (2, .int x4.1), (3, .int x4.2)] [] u) q4 (fun rec4 ih4 x4 hf => ?_) FU x0 hq
    unfold BX4_yardsOfPart_4 at hf
    refine V_iload_n C 3 dX4_yardsOfPart_4 rfl rfl rfl ?_
    refine V_aload_n C 0 dX4_yardsOfPart_5 rfl rfl rfl ?_
    refine V_getI C cf4 rfl 5 rfl (by decide) w301 rfl dX4_yardsOfPart_6 rfl ?_
    refine V_icmp_ge C dX4_yardsOfPart_9 (tgt := 41) rfl rfl (fun c4 => ?_) (fun c4 => ?_)
    · replace hf := ipos c4 hf
      obtain rfl := Option.some.inj hf
      exact hx4_0
    · replace hf := ineg c4 hf
      refine V_iload_n C 1 dX4_yardsOfPart_12 rfl rfl rfl ?_
      refine V_aload_n C 0 dX4_yardsOfPart_13 rfl rfl rfl ?_
      refine V_getR C cf4 rfl 0 rfl (by decide) w296 rfl dX4_yardsOfPart_14 rfl ?_
      refine V_iload_n C 3 dX4_yardsOfPart_17 rfl rfl rfl ?_
      obtain ⟨g1, hf⟩ := gd hf
      refine V_ildJ C rfl g1 rfl dX4_yardsOfPart_18 rfl ?_
      refine V_cNi C (As := [.int p1, .int (u 98 (x4.2).toNatClampNeg)]) (st := []) M_X9_has (host := "CarryFair") (by decide +kernel) ⟨by decide, by decide⟩ rfl rfl (Nat.le_of_ble_eq_true rfl) dX4_yardsOfPart_19 rfl (kX9_has rfl) ?_
      refine V_if_eq C dX4_yardsOfPart_22 (tgt := 35) rfl rfl (fun c3 => ?_) (fun c3 => ?_)
      · replace hf := ipos c3 hf
        refine V_iinc C (v := (x4.2 + 1)) (L' := [(0, .ref (ad 97)), (1, .int p1), (2, .int x4.1), (3, .int (x4.2 + 1))]) 3 dX4_yardsOfPart_35 rfl rfl rfl (by decide) hnL [1, 2, 3, 0] rfl ?_
        refine V_goto C dX4_yardsOfPart_38 (tgt := 4) rfl ?_
        exact ih4 (x4.1, (x4.2 + 1)) hf
      · replace hf := ineg c3 hf
        refine V_iload_n C 2 dX4_yardsOfPart_25 rfl rfl rfl ?_
        refine V_iconst C dX4_yardsOfPart_26 rfl (v := 2) rfl ?_
        refine V_powers C w640 dX4_yardsOfPart_27 rfl ?_
        refine V_iload_n C 3 dX4_yardsOfPart_30 rfl rfl rfl ?_
        obtain ⟨g2, hf⟩ := gd hf
        refine V_powers_ld C g2 dX4_yardsOfPart_31 rfl ?_
        refine V_imul C dX4_yardsOfPart_32 rfl ?_
        refine V_iadd C dX4_yardsOfPart_33 rfl ?_
        refine V_istore_n C (L' := [(0, .ref (ad 97)), (1, .int p1), (2, .int (x4.1 + (2 * (tPowers (x4.2).toNatClampNeg)))), (3, .int x4.2)]) dX4_yardsOfPart_34 rfl rfl (by decide) hnL [1, 2, 0, 3] rfl ?_
        refine V_iinc C (v := (x4.2 + 1)) (L' := [(0, .ref (ad 97)), (1, .int p1), (2, .int (x4.1 + (2 * (tPowers (x4.2).toNatClampNeg)))), (3, .int (x4.2 + 1))]) 3 dX4_yardsOfPart_35 rfl rfl rfl (by decide) hnL [1, 2, 3, 0] rfl ?_
        refine V_goto C dX4_yardsOfPart_38 (tgt := 4) rfl ?_
        exact ih4 ((x4.1 + (2 * (tPowers (x4.2).toNatClampNeg))), (x4.2 + 1)) hf
  have Lp47 : ∀ (v2 : Int32) (x0 : (Int32 × Int32)) (q47 : (Int32 × Int32)), lp (BX4_yardsOfPart_47 p1 u v2) FU x0 = some q47 → V shs ad G X 77 [(0, .ref (ad 97)), (1, .int p1), (2, .int v2), (3, .int q47.1), (4, .int q47.2)] [] u → V shs ad G X 47 [(0, .ref (ad 97)), (1, .int p1), (2, .int v2), (3, .int x0.1), (4, .int x0.2)] [] u := by
    intro v2 x0 q47 hq hx47_0
    refine lp_V (BX4_yardsOfPart_47 p1 u v2) (fun x47 => V shs ad G X 47 [(0, .ref (ad 97)), (1, .int p1), (2, .int v2), (3, .int x47.1), (4, .int x47.2)] [] u) q47 (fun rec47 ih47 x47 hf => ?_) FU x0 hq
    unfold BX4_yardsOfPart_47 at hf
    refine V_iload C 4 dX4_yardsOfPart_47 rfl rfl ?_
    refine V_bipush C dX4_yardsOfPart_49 rfl (v := 7) rfl ?_
    refine V_icmp_ge C dX4_yardsOfPart_51 (tgt := 77) rfl rfl (fun c7 => ?_) (fun c7 => ?_)
    · replace hf := ipos c7 hf
      obtain rfl := Option.some.inj hf
      exact hx47_0
    · replace hf := ineg c7 hf
      refine V_iload_n C 3 dX4_yardsOfPart_54 rfl rfl rfl ?_
      refine V_aload_n C 0 dX4_yardsOfPart_55 rfl rfl rfl ?_
      refine V_getR C cf4 rfl 4 rfl (by decide) w300 rfl dX4_yardsOfPart_56 rfl ?_
      refine V_iload_n C 2 dX4_yardsOfPart_59 rfl rfl rfl ?_
      refine V_bipush C dX4_yardsOfPart_60 rfl (v := 7) rfl ?_
      refine V_imul C dX4_yardsOfPart_62 rfl ?_
      refine V_iload C 4 dX4_yardsOfPart_63 rfl rfl ?_
      refine V_iadd C dX4_yardsOfPart_65 rfl ?_
      obtain ⟨g6, hf⟩ := gd hf
      refine V_ildJ C rfl g6 rfl dX4_yardsOfPart_66 rfl ?_
      refine V_mmin C w660 ⟨by decide, by decide⟩ (Nat.le_of_ble_eq_true rfl) dX4_yardsOfPart_67 rfl ?_
      refine V_istore_n C (L' := [(0, .ref (ad 97)), (1, .int p1), (2, .int v2), (3, .int (jmin x47.1 (u 102 ((v2 * 7) + x47.2).toNatClampNeg))), (4, .int x47.2)]) dX4_yardsOfPart_70 rfl rfl (by decide) hnL [1, 2, 3, 0, 4] rfl ?_
      refine V_iinc C (v := (x47.2 + 1)) (L' := [(0, .ref (ad 97)), (1, .int p1), (2, .int v2), (3, .int (jmin x47.1 (u 102 ((v2 * 7) + x47.2).toNatClampNeg))), (4, .int (x47.2 + 1))]) 4 dX4_yardsOfPart_71 rfl rfl rfl (by decide) hnL [1, 2, 3, 4, 0] rfl ?_
      refine V_goto C dX4_yardsOfPart_74 (tgt := 47) rfl ?_
      exact ih47 ((jmin x47.1 (u 102 ((v2 * 7) + x47.2).toNatClampNeg)), (x47.2 + 1)) hf
  refine V_iconst C dX4_yardsOfPart_0 rfl (v := 0) rfl ?_
  refine V_istore_n C (L' := [(0, .ref (ad 97)), (1, .int p1), (2, .int 0)]) dX4_yardsOfPart_1 rfl rfl (by decide) hnL [1, 2, 0] rfl ?_
  refine V_iconst C dX4_yardsOfPart_2 rfl (v := 0) rfl ?_
  refine V_istore_n C (L' := [(0, .ref (ad 97)), (1, .int p1), (2, .int 0), (3, .int 0)]) dX4_yardsOfPart_3 rfl rfl (by decide) hnL [1, 2, 3, 0] rfl ?_
  obtain ⟨q4_5, hq4_5, hf⟩ := obd hf
  refine Lp4  (0, 0) q4_5 hq4_5 ?_
  refine V_ldc C dX4_yardsOfPart_41 rfl w642 ?_
  refine V_istore_n C (L' := [(0, .ref (ad 97)), (1, .int p1), (2, .int q4_5.1), (3, .int 1000000)]) dX4_yardsOfPart_43 rfl rfl (by decide) hnL [1, 2, 3, 0] rfl ?_
  refine V_iconst C dX4_yardsOfPart_44 rfl (v := 0) rfl ?_
  refine V_istore C (L' := [(0, .ref (ad 97)), (1, .int p1), (2, .int q4_5.1), (3, .int 1000000), (4, .int 0)]) dX4_yardsOfPart_45 rfl (by decide) hnL [1, 2, 3, 4, 0] rfl ?_
  obtain ⟨q47_8, hq47_8, hf⟩ := obd hf
  refine Lp47 q4_5.1 (1000000, 0) q47_8 hq47_8 ?_
  refine V_iload_n C 3 dX4_yardsOfPart_77 rfl rfl rfl ?_
  obtain rfl := Option.some.inj hf
  exact K _ _ _ dX4_yardsOfPart_78 rfl rfl
set_option maxHeartbeats 4000000 in
set_option maxRecDepth 100000 in
theorem kX5_isMissing {ad : Nat → Nat} {G : Gh} {p0 : Nat} (h0 : isS p0) {u : Mem} {q : Int32} (hf : FX5_isMissing p0 u = q) : Ct shs ad G yX5_isMissing cX5_isMissing 1 (some .boolean) 0 0 [.ref (ad p0)] u (some (.int q)) u := by
  refine Ct_ofI (by decide) (Nat.le_of_ble_eq_true rfl) (fun X C hnL K => ?_)
  have C : Cx ad G X cX5_isMissing "CarryFair$Sheet" 0 0 := C
  unfold FX5_isMissing at hf
  refine V_aload_n C 0 dX5_isMissing_0 rfl rfl rfl ?_
  refine V_getI C cf5 (sS h0) 1 rfl (by decide) w350 rfl dX5_isMissing_1 rfl ?_
  refine V_if_ne C dX5_isMissing_4 (tgt := 11) rfl rfl (fun c1 => ?_) (fun c1 => ?_)
  · replace hf := ineg c1 hf
    refine V_iconst C dX5_isMissing_11 rfl (v := 0) rfl ?_
    subst hf
    exact K _ _ _ dX5_isMissing_12 rfl (by decide)
  · replace hf := ipos c1 hf
    refine V_iconst C dX5_isMissing_7 rfl (v := 1) rfl ?_
    refine V_goto C dX5_isMissing_8 (tgt := 12) rfl ?_
    subst hf
    exact K _ _ _ dX5_isMissing_12 rfl (by decide)
set_option maxHeartbeats 4000000 in
set_option maxRecDepth 100000 in
theorem kX5_begin {ad : Nat → Nat} {G : Gh} {p0 : Nat} (h0 : isS p0) {p1 : Int32} {p2 : Int32} {u : Mem} {q : Mem} (hf : FX5_begin p0 p1 p2 u = some q) : Ct shs ad G yX5_begin cX5_begin 4 none 0 0 [.ref (ad p0), .int p1, .int p2] u none q := by
  refine Ct_ofV (by decide) (Nat.le_of_ble_eq_true rfl) (fun X C hnL K => ?_)
  have C : Cx ad G X cX5_begin "CarryFair$Sheet" 0 0 := C
  unfold FX5_begin at hf
  have Lp20 : ∀ (x0 : (Int32 × Mem)) (q20 : (Int32 × Mem)), lp (BX5_begin_20 p0 p1 p2) FU x0 = some q20 → V shs ad G X 39 [(0, .ref (ad p0)), (1, .int p1), (2, .int p2), (3, .int q20.1)] [] q20.2 → V shs ad G X 20 [(0, .ref (ad p0)), (1, .int p1), (2, .int p2), (3, .int x0.1)] [] x0.2 := by
    intro  x0 q20 hq hx20_0
    refine lp_V (BX5_begin_20 p0 p1 p2) (fun x20 => V shs ad G X 20 [(0, .ref (ad p0)), (1, .int p1), (2, .int p2), (3, .int x20.1)] [] x20.2) q20 (fun rec20 ih20 x20 hf => ?_) FU x0 hq
    unfold BX5_begin_20 at hf
    refine V_iload_n C 3 dX5_begin_20 rfl rfl rfl ?_
    refine V_bipush C dX5_begin_21 rfl (v := 40) rfl ?_
    refine V_icmp_ge C dX5_begin_23 (tgt := 39) rfl rfl (fun c2 => ?_) (fun c2 => ?_)
    · replace hf := ipos c2 hf
      obtain rfl := Option.some.inj hf
      exact hx20_0
    · replace hf := ineg c2 hf
      refine V_aload_n C 0 dX5_begin_26 rfl rfl rfl ?_
      refine V_getR C cf5 (sS h0) 0 rfl (by decide) w348 rfl dX5_begin_27 rfl ?_
      refine V_iload_n C 3 dX5_begin_30 rfl rfl rfl ?_
      refine V_iconst C dX5_begin_31 rfl (v := 0) rfl ?_
      obtain ⟨g1, hf⟩ := gd hf
      refine V_istJ C (sSn h0) g1 rfl dX5_begin_32 rfl ?_
      refine V_iinc C (v := (x20.1 + 1)) (L' := [(0, .ref (ad p0)), (1, .int p1), (2, .int p2), (3, .int (x20.1 + 1))]) 3 dX5_begin_33 rfl rfl rfl (by decide) hnL [1, 2, 3, 0] rfl ?_
      refine V_goto C dX5_begin_36 (tgt := 20) rfl ?_
      exact ih20 ((x20.1 + 1), (mst x20.2 (p0 + 1) (x20.1).toNatClampNeg 0)) hf
  have JX5_begin_15 : ∀ (s0 : Nat) (s1 : Int32) (w : Mem) (hs0 : isS s0), JX5_begin_15 p0 p1 p2 s0 s1 w = some q → V shs ad G X 15 [(0, .ref (ad p0)), (1, .int p1), (2, .int p2)] [.int s1, .ref (ad s0)] w := by
    intro s0 s1 w hs0 hf
    unfold JX5_begin_15 at hf
    refine V_put C cf5 (sS hs0) 2 rfl (by decide) w352 rfl rfl rfl rfl dX5_begin_15 rfl ?_
    refine V_iconst C dX5_begin_18 rfl (v := 0) rfl ?_
    refine V_istore_n C (L' := [(0, .ref (ad p0)), (1, .int p1), (2, .int p2), (3, .int 0)]) dX5_begin_19 rfl rfl (by decide) hnL [1, 2, 3, 0] rfl ?_
    obtain ⟨q20_3, hq20_3, hf⟩ := obd hf
    refine Lp20  (0, (mst w s0 2 s1)) q20_3 hq20_3 ?_
    obtain rfl := Option.some.inj hf
    exact K _ _ dX5_begin_39 rfl
  refine V_aload_n C 0 dX5_begin_0 rfl rfl rfl ?_
  refine V_iload_n C 1 dX5_begin_1 rfl rfl rfl ?_
  refine V_put C cf5 (sS h0) 1 rfl (by decide) w350 rfl rfl rfl rfl dX5_begin_2 rfl ?_
  refine V_aload_n C 0 dX5_begin_5 rfl rfl rfl ?_
  refine V_iload_n C 1 dX5_begin_6 rfl rfl rfl ?_
  refine V_if_ne C dX5_begin_7 (tgt := 14) rfl rfl (fun c4 => ?_) (fun c4 => ?_)
  · replace hf := ineg c4 hf
    refine V_iload_n C 2 dX5_begin_14 rfl rfl rfl ?_
    exact JX5_begin_15 p0 p2 (mst u p0 1 p1) h0 hf
  · replace hf := ipos c4 hf
    refine V_iconst C dX5_begin_10 rfl (v := 0) rfl ?_
    refine V_goto C dX5_begin_11 (tgt := 15) rfl ?_
    exact JX5_begin_15 p0 0 (mst u p0 1 p1) h0 hf
set_option maxHeartbeats 4000000 in
set_option maxRecDepth 100000 in
theorem kX5_put {ad : Nat → Nat} {G : Gh} {p0 : Nat} (h0 : isS p0) {p1 : Int32} {p2 : Int32} {u : Mem} {q : Mem} (hf : FX5_put p0 p1 p2 u = some q) : Ct shs ad G yX5_put cX5_put 3 none 0 0 [.ref (ad p0), .int p1, .int p2] u none q := by
  refine Ct_ofV (by decide) (Nat.le_of_ble_eq_true rfl) (fun X C hnL K => ?_)
  have C : Cx ad G X cX5_put "CarryFair$Sheet" 0 0 := C
  unfold FX5_put at hf
  refine V_aload_n C 0 dX5_put_0 rfl rfl rfl ?_
  refine V_getI C cf5 (sS h0) 1 rfl (by decide) w350 rfl dX5_put_1 rfl ?_
  refine V_bipush C dX5_put_4 rfl (v := 8) rfl ?_
  refine V_icmp_ne C dX5_put_6 (tgt := 20) rfl rfl (fun c5 => ?_) (fun c5 => ?_)
  · replace hf := ineg c5 hf
    refine V_aload_n C 0 dX5_put_20 rfl rfl rfl ?_
    refine V_getI C cf5 (sS h0) 1 rfl (by decide) w350 rfl dX5_put_21 rfl ?_
    refine V_bipush C dX5_put_24 rfl (v := 16) rfl ?_
    refine V_icmp_ne C dX5_put_26 (tgt := 40) rfl rfl (fun c3 => ?_) (fun c3 => ?_)
    · replace hf := ineg c3 hf
      refine V_aload_n C 0 dX5_put_40 rfl rfl rfl ?_
      refine V_getR C cf5 (sS h0) 0 rfl (by decide) w348 rfl dX5_put_41 rfl ?_
      refine V_iload_n C 1 dX5_put_44 rfl rfl rfl ?_
      refine V_iload_n C 2 dX5_put_45 rfl rfl rfl ?_
      obtain ⟨g1, hf⟩ := gd hf
      refine V_istJ C (sSn h0) g1 rfl dX5_put_46 rfl ?_
      obtain rfl := Option.some.inj hf
      exact K _ _ dX5_put_47 rfl
    · replace hf := ipos c3 hf
      refine V_aload_n C 0 dX5_put_29 rfl rfl rfl ?_
      refine V_getR C cf5 (sS h0) 0 rfl (by decide) w348 rfl dX5_put_30 rfl ?_
      refine V_iload_n C 1 dX5_put_33 rfl rfl rfl ?_
      refine V_iload_n C 2 dX5_put_34 rfl rfl rfl ?_
      refine V_js C dX5_put_35 rfl ?_
      obtain ⟨g2, hf⟩ := gd hf
      refine V_istJ C (sSn h0) g2 rfl dX5_put_36 rfl ?_
      refine V_goto C dX5_put_37 (tgt := 47) rfl ?_
      obtain rfl := Option.some.inj hf
      exact K _ _ dX5_put_47 rfl
  · replace hf := ipos c5 hf
    refine V_aload_n C 0 dX5_put_9 rfl rfl rfl ?_
    refine V_getR C cf5 (sS h0) 0 rfl (by decide) w348 rfl dX5_put_10 rfl ?_
    refine V_iload_n C 1 dX5_put_13 rfl rfl rfl ?_
    refine V_iload_n C 2 dX5_put_14 rfl rfl rfl ?_
    refine V_jb C dX5_put_15 rfl ?_
    obtain ⟨g4, hf⟩ := gd hf
    refine V_istJ C (sSn h0) g4 rfl dX5_put_16 rfl ?_
    refine V_goto C dX5_put_17 (tgt := 47) rfl ?_
    obtain rfl := Option.some.inj hf
    exact K _ _ dX5_put_47 rfl
set_option maxHeartbeats 4000000 in
set_option maxRecDepth 100000 in
theorem kX5_hasFrom {ad : Nat → Nat} {G : Gh} {p0 : Nat} (h0 : isS p0) {p1 : Int32} {p2 : Int32} {u : Mem} {q : Int32} (hf : FX5_hasFrom p0 p1 p2 u = q) : Ct shs ad G yX5_hasFrom cX5_hasFrom 3 (some .boolean) 1 22 [.ref (ad p0), .int p1, .int p2] u (some (.int q)) u := by
  refine Ct_ofI (by decide) (Nat.le_of_ble_eq_true rfl) (fun X C hnL K => ?_)
  have C : Cx ad G X cX5_hasFrom "CarryFair$Sheet" 1 22 := C
  unfold FX5_hasFrom at hf
  refine V_iload_n C 2 dX5_hasFrom_0 rfl rfl rfl ?_
  refine V_iconst C dX5_hasFrom_1 rfl (v := 0) rfl ?_
  refine V_aload_n C 0 dX5_hasFrom_2 rfl rfl rfl ?_
  refine V_getI C cf5 (sS h0) 2 rfl (by decide) w352 rfl dX5_hasFrom_3 rfl ?_
  refine V_cNi C (As := [.int p2, .int 0, .int (u p0 2)]) (st := []) M_X9_within (host := "CarryFair") (by decide +kernel) ⟨by decide, by decide⟩ rfl rfl (Nat.le_of_ble_eq_true rfl) dX5_hasFrom_6 rfl (kX9_within rfl) ?_
  refine V_if_eq C dX5_hasFrom_9 (tgt := 30) rfl rfl (fun c2 => ?_) (fun c2 => ?_)
  · replace hf := ipos c2 hf
    refine V_iconst C dX5_hasFrom_30 rfl (v := 0) rfl ?_
    subst hf
    exact K _ _ _ dX5_hasFrom_31 rfl (by decide)
  · replace hf := ineg c2 hf
    refine V_iload_n C 1 dX5_hasFrom_12 rfl rfl rfl ?_
    refine V_iconst C dX5_hasFrom_13 rfl (v := 0) rfl ?_
    refine V_aload_n C 0 dX5_hasFrom_14 rfl rfl rfl ?_
    refine V_getI C cf5 (sS h0) 2 rfl (by decide) w352 rfl dX5_hasFrom_15 rfl ?_
    refine V_iload_n C 2 dX5_hasFrom_18 rfl rfl rfl ?_
    refine V_isub C dX5_hasFrom_19 rfl ?_
    refine V_cNi C (As := [.int p1, .int 0, .int ((u p0 2) - p2)]) (st := []) M_X9_within (host := "CarryFair") (by decide +kernel) ⟨by decide, by decide⟩ rfl rfl (Nat.le_of_ble_eq_true rfl) dX5_hasFrom_20 rfl (kX9_within rfl) ?_
    refine V_if_eq C dX5_hasFrom_23 (tgt := 30) rfl rfl (fun c1 => ?_) (fun c1 => ?_)
    · replace hf := ipos c1 hf
      refine V_iconst C dX5_hasFrom_30 rfl (v := 0) rfl ?_
      subst hf
      exact K _ _ _ dX5_hasFrom_31 rfl (by decide)
    · replace hf := ineg c1 hf
      refine V_iconst C dX5_hasFrom_26 rfl (v := 1) rfl ?_
      refine V_goto C dX5_hasFrom_27 (tgt := 31) rfl ?_
      subst hf
      exact K _ _ _ dX5_hasFrom_31 rfl (by decide)
set_option maxHeartbeats 4000000 in
set_option maxRecDepth 100000 in
theorem kX6_add {ad : Nat → Nat} {G : Gh} {p1 : Int32} {u : Mem} {q : Mem} (hf : FX6_add p1 u = some q) : Ct shs ad G yX6_add cX6_add 2 none 0 0 [.ref (ad 104), .int p1] u none q := by
  refine Ct_ofV (by decide) (Nat.le_of_ble_eq_true rfl) (fun X C hnL K => ?_)
  have C : Cx ad G X cX6_add "CarryFair$Tape" 0 0 := C
  unfold FX6_add at hf
  refine V_aload_n C 0 dX6_add_0 rfl rfl rfl ?_
  refine V_getR C cf6 rfl 0 rfl (by decide) w321 rfl dX6_add_1 rfl ?_
  refine V_aload_n C 0 dX6_add_4 rfl rfl rfl ?_
  refine V_getI C cf6 rfl 1 rfl (by decide) w322 rfl dX6_add_5 rfl ?_
  refine V_iload_n C 1 dX6_add_8 rfl rfl rfl ?_
  obtain ⟨g1, hf⟩ := gd hf
  refine V_istJ C rfl g1 rfl dX6_add_9 rfl ?_
  refine V_aload_n C 0 dX6_add_10 rfl rfl rfl ?_
  refine V_dup C dX6_add_11 rfl rfl ?_
  refine V_getI C cf6 rfl 1 rfl (by decide) w322 rfl dX6_add_12 rfl ?_
  refine V_iconst C dX6_add_15 rfl (v := 1) rfl ?_
  refine V_iadd C dX6_add_16 rfl ?_
  refine V_put C cf6 rfl 1 rfl (by decide) w322 rfl rfl rfl rfl dX6_add_17 rfl ?_
  obtain rfl := Option.some.inj hf
  exact K _ _ dX6_add_20 rfl
set_option maxHeartbeats 4000000 in
set_option maxRecDepth 100000 in
theorem kX6_sortOf {ad : Nat → Nat} {G : Gh} {p0 : Int32} {u : Mem} {q : Int32} (hf : FX6_sortOf p0 = q) : Ct shs ad G yX6_sortOf cX6_sortOf 1 (some .int) 0 0 [.int p0] u (some (.int q)) u := by
  refine Ct_ofI (by decide) (Nat.le_of_ble_eq_true rfl) (fun X C hnL K => ?_)
  have C : Cx ad G X cX6_sortOf "CarryFair$Tape" 0 0 := C
  unfold FX6_sortOf at hf
  refine V_iload_n C 0 dX6_sortOf_0 rfl rfl rfl ?_
  refine V_bipush C dX6_sortOf_1 rfl (v := 97) rfl ?_
  refine V_icmp_lt C dX6_sortOf_3 (tgt := 14) rfl rfl (fun c10 => ?_) (fun c10 => ?_)
  · replace hf := ipos c10 hf
    refine V_iload_n C 0 dX6_sortOf_14 rfl rfl rfl ?_
    refine V_bipush C dX6_sortOf_15 rfl (v := 48) rfl ?_
    refine V_icmp_lt C dX6_sortOf_17 (tgt := 28) rfl rfl (fun c4 => ?_) (fun c4 => ?_)
    · replace hf := ipos c4 hf
      refine V_iload_n C 0 dX6_sortOf_28 rfl rfl rfl ?_
      refine V_bipush C dX6_sortOf_29 rfl (v := 59) rfl ?_
      refine V_icmp_ne C dX6_sortOf_31 (tgt := 38) rfl rfl (fun c1 => ?_) (fun c1 => ?_)
      · replace hf := ineg c1 hf
        refine V_iconst C dX6_sortOf_38 rfl (v := 4) rfl ?_
        subst hf
        exact K _ _ _ dX6_sortOf_39 rfl rfl
      · replace hf := ipos c1 hf
        refine V_iconst C dX6_sortOf_34 rfl (v := 3) rfl ?_
        refine V_goto C dX6_sortOf_35 (tgt := 39) rfl ?_
        subst hf
        exact K _ _ _ dX6_sortOf_39 rfl rfl
    · replace hf := ineg c4 hf
      refine V_iload_n C 0 dX6_sortOf_20 rfl rfl rfl ?_
      refine V_bipush C dX6_sortOf_21 rfl (v := 57) rfl ?_
      refine V_icmp_gt C dX6_sortOf_23 (tgt := 28) rfl rfl (fun c3 => ?_) (fun c3 => ?_)
      · replace hf := ipos c3 hf
        refine V_iload_n C 0 dX6_sortOf_28 rfl rfl rfl ?_
        refine V_bipush C dX6_sortOf_29 rfl (v := 59) rfl ?_
        refine V_icmp_ne C dX6_sortOf_31 (tgt := 38) rfl rfl (fun c2 => ?_) (fun c2 => ?_)
        · replace hf := ineg c2 hf
          refine V_iconst C dX6_sortOf_38 rfl (v := 4) rfl ?_
          subst hf
          exact K _ _ _ dX6_sortOf_39 rfl rfl
        · replace hf := ipos c2 hf
          refine V_iconst C dX6_sortOf_34 rfl (v := 3) rfl ?_
          refine V_goto C dX6_sortOf_35 (tgt := 39) rfl ?_
          subst hf
          exact K _ _ _ dX6_sortOf_39 rfl rfl
      · replace hf := ineg c3 hf
        refine V_iconst C dX6_sortOf_26 rfl (v := 2) rfl ?_
        subst hf
        exact K _ _ _ dX6_sortOf_27 rfl rfl
  · replace hf := ineg c10 hf
    refine V_iload_n C 0 dX6_sortOf_6 rfl rfl rfl ?_
    refine V_bipush C dX6_sortOf_7 rfl (v := 122) rfl ?_
    refine V_icmp_gt C dX6_sortOf_9 (tgt := 14) rfl rfl (fun c9 => ?_) (fun c9 => ?_)
    · replace hf := ipos c9 hf
      refine V_iload_n C 0 dX6_sortOf_14 rfl rfl rfl ?_
      refine V_bipush C dX6_sortOf_15 rfl (v := 48) rfl ?_
      refine V_icmp_lt C dX6_sortOf_17 (tgt := 28) rfl rfl (fun c8 => ?_) (fun c8 => ?_)
      · replace hf := ipos c8 hf
        refine V_iload_n C 0 dX6_sortOf_28 rfl rfl rfl ?_
        refine V_bipush C dX6_sortOf_29 rfl (v := 59) rfl ?_
        refine V_icmp_ne C dX6_sortOf_31 (tgt := 38) rfl rfl (fun c5 => ?_) (fun c5 => ?_)
        · replace hf := ineg c5 hf
          refine V_iconst C dX6_sortOf_38 rfl (v := 4) rfl ?_
          subst hf
          exact K _ _ _ dX6_sortOf_39 rfl rfl
        · replace hf := ipos c5 hf
          refine V_iconst C dX6_sortOf_34 rfl (v := 3) rfl ?_
          refine V_goto C dX6_sortOf_35 (tgt := 39) rfl ?_
          subst hf
          exact K _ _ _ dX6_sortOf_39 rfl rfl
      · replace hf := ineg c8 hf
        refine V_iload_n C 0 dX6_sortOf_20 rfl rfl rfl ?_
        refine V_bipush C dX6_sortOf_21 rfl (v := 57) rfl ?_
        refine V_icmp_gt C dX6_sortOf_23 (tgt := 28) rfl rfl (fun c7 => ?_) (fun c7 => ?_)
        · replace hf := ipos c7 hf
          refine V_iload_n C 0 dX6_sortOf_28 rfl rfl rfl ?_
          refine V_bipush C dX6_sortOf_29 rfl (v := 59) rfl ?_
          refine V_icmp_ne C dX6_sortOf_31 (tgt := 38) rfl rfl (fun c6 => ?_) (fun c6 => ?_)
          · replace hf := ineg c6 hf
            refine V_iconst C dX6_sortOf_38 rfl (v := 4) rfl ?_
            subst hf
            exact K _ _ _ dX6_sortOf_39 rfl rfl
          · replace hf := ipos c6 hf
            refine V_iconst C dX6_sortOf_34 rfl (v := 3) rfl ?_
            refine V_goto C dX6_sortOf_35 (tgt := 39) rfl ?_
            subst hf
            exact K _ _ _ dX6_sortOf_39 rfl rfl
        · replace hf := ineg c7 hf
          refine V_iconst C dX6_sortOf_26 rfl (v := 2) rfl ?_
          subst hf
          exact K _ _ _ dX6_sortOf_27 rfl rfl
    · replace hf := ineg c9 hf
      refine V_iconst C dX6_sortOf_12 rfl (v := 1) rfl ?_
      subst hf
      exact K _ _ _ dX6_sortOf_13 rfl rfl
