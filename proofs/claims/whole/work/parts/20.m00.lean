set_option maxHeartbeats 4000000 in
set_option maxRecDepth 100000 in
theorem kX3_canBear {S : List Shp} {ad : Nat → Nat} {G : Gh} {p0 : Int32} {p1 : Int32} {u : Mem} {q : Int32} (hf : FX3_canBear p0 p1 = q) : Ct S ad G yX3_canBear cX3_canBear 2 (some .int) 0 0 [.int p0, .int p1] u (some (.int q)) u := by
  refine Ct_ofI (by decide) (Nat.le_of_ble_eq_true rfl) (fun X C hnL K => ?_)
  have C : Cx ad G X cX3_canBear "CarryFair$Kinds" 0 0 := C
  unfold FX3_canBear at hf
  refine V_iload_n C 0 dX3_canBear_0 rfl rfl rfl ?_
  by_cases c1 : p0 = 1
  · replace hf := ipos c1 hf
    refine V_tin C dX3_canBear_1 1 c1 (by decide) (by decide) rfl (tgt := 32) rfl ?_
    refine V_iload_n C 1 dX3_canBear_32 rfl rfl rfl ?_
    refine V_iconst C dX3_canBear_33 rfl (v := 2) rfl ?_
    refine V_idiv C dX3_canBear_34 rfl (by decide) ?_
    subst hf
    exact K _ _ _ dX3_canBear_35 rfl rfl
  replace hf := ineg c1 hf
  by_cases c2 : p0 = 2
  · replace hf := ipos c2 hf
    refine V_tin C dX3_canBear_1 2 c2 (by decide) (by decide) rfl (tgt := 36) rfl ?_
    refine V_iconst C dX3_canBear_36 rfl (v := 2) rfl ?_
    refine V_iload_n C 1 dX3_canBear_37 rfl rfl rfl ?_
    refine V_imul C dX3_canBear_38 rfl ?_
    subst hf
    exact K _ _ _ dX3_canBear_39 rfl rfl
  replace hf := ineg c2 hf
  by_cases c3 : p0 = 3
  · replace hf := ipos c3 hf
    refine V_tin C dX3_canBear_1 3 c3 (by decide) (by decide) rfl (tgt := 32) rfl ?_
    refine V_iload_n C 1 dX3_canBear_32 rfl rfl rfl ?_
    refine V_iconst C dX3_canBear_33 rfl (v := 2) rfl ?_
    refine V_idiv C dX3_canBear_34 rfl (by decide) ?_
    subst hf
    exact K _ _ _ dX3_canBear_35 rfl rfl
  replace hf := ineg c3 hf
  by_cases c4 : p0 = 4
  · replace hf := ipos c4 hf
    refine V_tin C dX3_canBear_1 4 c4 (by decide) (by decide) rfl (tgt := 36) rfl ?_
    refine V_iconst C dX3_canBear_36 rfl (v := 2) rfl ?_
    refine V_iload_n C 1 dX3_canBear_37 rfl rfl rfl ?_
    refine V_imul C dX3_canBear_38 rfl ?_
    subst hf
    exact K _ _ _ dX3_canBear_39 rfl rfl
  replace hf := ineg c4 hf
  refine V_tout C dX3_canBear_1 (by have nc1 := lv_neT (a := 1) c1 (by decide); have nc2 := lv_neT (a := 2) c2 (by decide); have nc3 := lv_neT (a := 3) c3 (by decide); have nc4 := lv_neT (a := 4) c4 (by decide); omega) (tgt := 40) rfl ?_
  refine V_iload_n C 1 dX3_canBear_40 rfl rfl rfl ?_
  subst hf
  exact K _ _ _ dX3_canBear_41 rfl rfl
set_option maxHeartbeats 4000000 in
set_option maxRecDepth 100000 in
theorem kX0_canBear {ad : Nat → Nat} {G : Gh} {p0 : Nat} (h0 : shs[p0]? = some (.inl (0, [none, none, none, none, none]))) {u : Mem} {q : Int32} (hf : FX0_canBear p0 u = q) : Ct shs ad G yX0_canBear cX0_canBear 1 (some .int) 1 21 [.ref (ad p0)] u (some (.int q)) u := by
  refine Ct_ofI (by decide) (Nat.le_of_ble_eq_true rfl) (fun X C hnL K => ?_)
  have C : Cx ad G X cX0_canBear "CarryFair$Carrier" 1 21 := C
  unfold FX0_canBear at hf
  refine V_aload_n C 0 dX0_canBear_0 rfl rfl rfl ?_
  refine V_getI C cf0 h0 0 rfl (by decide) w169 rfl dX0_canBear_1 rfl ?_
  refine V_aload_n C 0 dX0_canBear_4 rfl rfl rfl ?_
  refine V_getI C cf0 h0 2 rfl (by decide) w176 rfl dX0_canBear_5 rfl ?_
  refine V_cSi C (As := [.int (u p0 0), .int (u p0 2)]) (st := []) M_X3_canBear w419 ⟨by decide, by decide⟩ rfl rfl (Nat.le_of_ble_eq_true rfl) dX0_canBear_8 rfl (kX3_canBear rfl) ?_
  subst hf
  exact K _ _ _ dX0_canBear_11 rfl rfl
set_option maxHeartbeats 4000000 in
set_option maxRecDepth 100000 in
theorem kX0_become {ad : Nat → Nat} {G : Gh} {p0 : Nat} (h0 : shs[p0]? = some (.inl (0, [none, none, none, none, none]))) {p1 : Nat} (h1 : shs[p1]? = some (.inl (0, [none, none, none, none, none]))) {u : Mem} {q : Mem} (hf : FX0_become p0 p1 u = q) : Ct shs ad G yX0_become cX0_become 2 none 0 0 [.ref (ad p0), .ref (ad p1)] u none q := by
  refine Ct_ofV (by decide) (Nat.le_of_ble_eq_true rfl) (fun X C hnL K => ?_)
  have C : Cx ad G X cX0_become "CarryFair$Carrier" 0 0 := C
  unfold FX0_become at hf
  refine V_aload_n C 0 dX0_become_0 rfl rfl rfl ?_
  refine V_aload_n C 1 dX0_become_1 rfl rfl rfl ?_
  refine V_getI C cf0 h1 0 rfl (by decide) w169 rfl dX0_become_2 rfl ?_
  refine V_put C cf0 h0 0 rfl (by decide) w169 rfl rfl rfl rfl dX0_become_5 rfl ?_
  refine V_aload_n C 0 dX0_become_8 rfl rfl rfl ?_
  refine V_aload_n C 1 dX0_become_9 rfl rfl rfl ?_
  refine V_getI C cf0 h1 1 rfl (by decide) w173 rfl dX0_become_10 rfl ?_
  refine V_put C cf0 h0 1 rfl (by decide) w173 rfl rfl rfl rfl dX0_become_13 rfl ?_
  refine V_aload_n C 0 dX0_become_16 rfl rfl rfl ?_
  refine V_aload_n C 1 dX0_become_17 rfl rfl rfl ?_
  refine V_getI C cf0 h1 2 rfl (by decide) w176 rfl dX0_become_18 rfl ?_
  refine V_put C cf0 h0 2 rfl (by decide) w176 rfl rfl rfl rfl dX0_become_21 rfl ?_
  obtain ⟨w1, ew1, hf⟩ := nmd hf
  rw [← ew1]
  refine V_aload_n C 0 dX0_become_24 rfl rfl rfl ?_
  refine V_aload_n C 1 dX0_become_25 rfl rfl rfl ?_
  refine V_getI C cf0 h1 3 rfl (by decide) w180 rfl dX0_become_26 rfl ?_
  refine V_put C cf0 h0 3 rfl (by decide) w180 rfl rfl rfl rfl dX0_become_29 rfl ?_
  refine V_aload_n C 0 dX0_become_32 rfl rfl rfl ?_
  refine V_aload_n C 1 dX0_become_33 rfl rfl rfl ?_
  refine V_getI C cf0 h1 4 rfl (by decide) w183 rfl dX0_become_34 rfl ?_
  refine V_put C cf0 h0 4 rfl (by decide) w183 rfl rfl rfl rfl dX0_become_37 rfl ?_
  subst hf
  exact K _ _ dX0_become_40 rfl
set_option maxHeartbeats 4000000 in
set_option maxRecDepth 100000 in
theorem kX1_become {ad : Nat → Nat} {G : Gh} {p0 : Nat} (h0 : shs[p0]? = some (.inl (1, [none, none, none, none, none]))) {p1 : Nat} (h1 : shs[p1]? = some (.inl (1, [none, none, none, none, none]))) {u : Mem} {q : Mem} (hf : FX1_become p0 p1 u = q) : Ct shs ad G yX1_become cX1_become 2 none 0 0 [.ref (ad p0), .ref (ad p1)] u none q := by
  refine Ct_ofV (by decide) (Nat.le_of_ble_eq_true rfl) (fun X C hnL K => ?_)
  have C : Cx ad G X cX1_become "CarryFair$Errand" 0 0 := C
  unfold FX1_become at hf
  refine V_aload_n C 0 dX1_become_0 rfl rfl rfl ?_
  refine V_aload_n C 1 dX1_become_1 rfl rfl rfl ?_
  refine V_getI C cf1 h1 0 rfl (by decide) w202 rfl dX1_become_2 rfl ?_
  refine V_put C cf1 h0 0 rfl (by decide) w202 rfl rfl rfl rfl dX1_become_5 rfl ?_
  refine V_aload_n C 0 dX1_become_8 rfl rfl rfl ?_
  refine V_aload_n C 1 dX1_become_9 rfl rfl rfl ?_
  refine V_getI C cf1 h1 1 rfl (by decide) w206 rfl dX1_become_10 rfl ?_
  refine V_put C cf1 h0 1 rfl (by decide) w206 rfl rfl rfl rfl dX1_become_13 rfl ?_
  refine V_aload_n C 0 dX1_become_16 rfl rfl rfl ?_
  refine V_aload_n C 1 dX1_become_17 rfl rfl rfl ?_
  refine V_getI C cf1 h1 2 rfl (by decide) w210 rfl dX1_become_18 rfl ?_
  refine V_put C cf1 h0 2 rfl (by decide) w210 rfl rfl rfl rfl dX1_become_21 rfl ?_
  obtain ⟨w1, ew1, hf⟩ := nmd hf
  rw [← ew1]
  refine V_aload_n C 0 dX1_become_24 rfl rfl rfl ?_
  refine V_aload_n C 1 dX1_become_25 rfl rfl rfl ?_
  refine V_getI C cf1 h1 3 rfl (by decide) w214 rfl dX1_become_26 rfl ?_
  refine V_put C cf1 h0 3 rfl (by decide) w214 rfl rfl rfl rfl dX1_become_29 rfl ?_
  refine V_aload_n C 0 dX1_become_32 rfl rfl rfl ?_
  refine V_aload_n C 1 dX1_become_33 rfl rfl rfl ?_
  refine V_getI C cf1 h1 4 rfl (by decide) w217 rfl dX1_become_34 rfl ?_
  refine V_put C cf1 h0 4 rfl (by decide) w217 rfl rfl rfl rfl dX1_become_37 rfl ?_
  subst hf
  exact K _ _ dX1_become_40 rfl
set_option maxHeartbeats 4000000 in
set_option maxRecDepth 100000 in
theorem kX8_become {S : List Shp} {ad : Nat → Nat} {G : Gh} {p0 : Nat} (h0 : isW S p0) {p1 : Nat} (h1 : isW S p1) {u : Mem} {q : Mem} (hf : FX8_become p0 p1 u = some q) : Ct S ad G yX8_become cX8_become 3 none 1 30 [.ref (ad p0), .ref (ad p1)] u none q := by
  refine Ct_ofV (by decide) (Nat.le_of_ble_eq_true rfl) (fun X C hnL K => ?_)
  have C : Cx ad G X cX8_become "CarryFair$Ways" 1 30 := C
  unfold FX8_become at hf
  have Lp32 : ∀ (x0 : (Int32 × Mem)) (q32 : (Int32 × Mem)), lp (BX8_become_32 p0 p1) FU x0 = some q32 → V S ad G X 62 [(0, .ref (ad p0)), (1, .ref (ad p1)), (2, .int q32.1)] [] q32.2 → V S ad G X 32 [(0, .ref (ad p0)), (1, .ref (ad p1)), (2, .int x0.1)] [] x0.2 := by
    intro  x0 q32 hq hx32_0
    refine lp_V (BX8_become_32 p0 p1) (fun x32 => V S ad G X 32 [(0, .ref (ad p0)), (1, .ref (ad p1)), (2, .int x32.1)] [] x32.2) q32 (fun rec32 ih32 x32 hf => ?_) FU x0 hq
    unfold BX8_become_32 at hf
    refine V_iload_n C 2 dX8_become_32 rfl rfl rfl ?_
    refine V_iconst C dX8_become_33 rfl (v := 3) rfl ?_
    refine V_icmp_ge C dX8_become_34 (tgt := 62) rfl rfl (fun c3 => ?_) (fun c3 => ?_)
    · replace hf := ipos c3 hf
      obtain rfl := Option.some.inj hf
      exact hx32_0
    · replace hf := ineg c3 hf
      refine V_aload_n C 1 dX8_become_37 rfl rfl rfl ?_
      refine V_getR C cf8 (sW h1) 2 rfl (by decide) w155 rfl dX8_become_38 rfl ?_
      refine V_iload_n C 2 dX8_become_41 rfl rfl rfl ?_
      obtain ⟨g1, hf⟩ := gd hf
      refine V_aaldA C (sWt h1) (fun _ => rfl) g1 (sTag g1) dX8_become_42 rfl ?_
      refine V_iconst C dX8_become_43 rfl (v := 0) rfl ?_
      refine V_aload_n C 0 dX8_become_44 rfl rfl rfl ?_
      refine V_getR C cf8 (sW h0) 2 rfl (by decide) w155 rfl dX8_become_45 rfl ?_
      refine V_iload_n C 2 dX8_become_48 rfl rfl rfl ?_
      obtain ⟨g2, hf⟩ := gd hf
      refine V_aaldA C (sWt h0) (fun _ => rfl) g2 (sTag g2) dX8_become_49 rfl ?_
      refine V_iconst C dX8_become_50 rfl (v := 0) rfl ?_
      refine V_bipush C dX8_become_51 rfl (v := 49) rfl ?_
      refine V_acopy C (sTa h1 g1) (sTa h0 g2) (by decide) (by decide) (by decide) (by decide) (by decide) w777 ⟨by decide, by decide⟩ (Nat.le_of_ble_eq_true rfl) dX8_become_53 rfl ?_
      refine V_iinc C (v := (x32.1 + 1)) (L' := [(0, .ref (ad p0)), (1, .ref (ad p1)), (2, .int (x32.1 + 1))]) 2 dX8_become_56 rfl rfl rfl (by decide) hnL [1, 2, 0] rfl ?_
      refine V_goto C dX8_become_59 (tgt := 32) rfl ?_
      exact ih32 ((x32.1 + 1), (mcp x32.2 (p1 + 4 + (x32.1).toNatClampNeg) (p0 + 4 + (x32.1).toNatClampNeg) 0 0 49)) hf
  refine V_aload_n C 1 dX8_become_0 rfl rfl rfl ?_
  refine V_getR C cf8 (sW h1) 0 rfl (by decide) w153 rfl dX8_become_1 rfl ?_
  refine V_iconst C dX8_become_4 rfl (v := 0) rfl ?_
  refine V_aload_n C 0 dX8_become_5 rfl rfl rfl ?_
  refine V_getR C cf8 (sW h0) 0 rfl (by decide) w153 rfl dX8_become_6 rfl ?_
  refine V_iconst C dX8_become_9 rfl (v := 0) rfl ?_
  refine V_bipush C dX8_become_10 rfl (v := 49) rfl ?_
  refine V_acopy C (sWy h1) (sWy h0) (by decide) (by decide) (by decide) (by decide) (by decide) w777 ⟨by decide, by decide⟩ (Nat.le_of_ble_eq_true rfl) dX8_become_12 rfl ?_
  refine V_aload_n C 1 dX8_become_15 rfl rfl rfl ?_
  refine V_getR C cf8 (sW h1) 1 rfl (by decide) w154 rfl dX8_become_16 rfl ?_
  refine V_iconst C dX8_become_19 rfl (v := 0) rfl ?_
  refine V_aload_n C 0 dX8_become_20 rfl rfl rfl ?_
  refine V_getR C cf8 (sW h0) 1 rfl (by decide) w154 rfl dX8_become_21 rfl ?_
  refine V_iconst C dX8_become_24 rfl (v := 0) rfl ?_
  refine V_bipush C dX8_become_25 rfl (v := 49) rfl ?_
  refine V_acopy C (sWr h1) (sWr h0) (by decide) (by decide) (by decide) (by decide) (by decide) w777 ⟨by decide, by decide⟩ (Nat.le_of_ble_eq_true rfl) dX8_become_27 rfl ?_
  refine V_iconst C dX8_become_30 rfl (v := 0) rfl ?_
  refine V_istore_n C (L' := [(0, .ref (ad p0)), (1, .ref (ad p1)), (2, .int 0)]) dX8_become_31 rfl rfl (by decide) hnL [1, 2, 0] rfl ?_
  obtain ⟨q32_4, hq32_4, hf⟩ := obd hf
  refine Lp32  (0, (mcp (mcp u (p1 + 1) (p0 + 1) 0 0 49) (p1 + 2) (p0 + 2) 0 0 49)) q32_4 hq32_4 ?_
  obtain rfl := Option.some.inj hf
  exact K _ _ dX8_become_62 rfl
set_option maxHeartbeats 4000000 in
set_option maxRecDepth 100000 in
theorem kX2_become {ad : Nat → Nat} {G : Gh} {p0 : Nat} (h0 : isF p0) {p1 : Nat} (h1 : isF p1) {u : Mem} {q : Mem} (hf : FX2_become p0 p1 u = some q) : Ct shs ad G yX2_become cX2_become 3 none 2 52 [.ref (ad p0), .ref (ad p1)] u none q := by
  refine Ct_ofV (by decide) (Nat.le_of_ble_eq_true rfl) (fun X C hnL K => ?_)
  have C : Cx ad G X cX2_become "CarryFair$Fair" 2 52 := C
  unfold FX2_become at hf
  have Lp34 : ∀ (x0 : (Int32 × Mem)) (q34 : (Int32 × Mem)), lp (BX2_become_34 p0 p1) FU x0 = some q34 → V shs ad G X 63 [(0, .ref (ad p0)), (1, .ref (ad p1)), (2, .int q34.1)] [] q34.2 → V shs ad G X 34 [(0, .ref (ad p0)), (1, .ref (ad p1)), (2, .int x0.1)] [] x0.2 := by
    intro  x0 q34 hq hx34_0
    refine lp_V (BX2_become_34 p0 p1) (fun x34 => V shs ad G X 34 [(0, .ref (ad p0)), (1, .ref (ad p1)), (2, .int x34.1)] [] x34.2) q34 (fun rec34 ih34 x34 hf => ?_) FU x0 hq
    unfold BX2_become_34 at hf
    refine V_iload_n C 2 dX2_become_34 rfl rfl rfl ?_
    refine V_aload_n C 0 dX2_become_35 rfl rfl rfl ?_
    refine V_getI C cf2 (sF h0) 5 rfl (by decide) w259 rfl dX2_become_36 rfl ?_
    refine V_icmp_ge C dX2_become_39 (tgt := 63) rfl rfl (fun c4 => ?_) (fun c4 => ?_)
    · replace hf := ipos c4 hf
      obtain rfl := Option.some.inj hf
      exact hx34_0
    · replace hf := ineg c4 hf
      refine V_aload_n C 0 dX2_become_42 rfl rfl rfl ?_
      refine V_getR C cf2 (sF h0) 0 rfl (by decide) w245 rfl dX2_become_43 rfl ?_
      refine V_iload_n C 2 dX2_become_46 rfl rfl rfl ?_
      obtain ⟨g2, hf⟩ := gd hf
      refine V_aald C (sFc h0) (fun _ => rfl) g2 (sCag g2) dX2_become_47 rfl ?_
      refine V_aload_n C 1 dX2_become_48 rfl rfl rfl ?_
      refine V_getR C cf2 (sF h1) 0 rfl (by decide) w245 rfl dX2_become_49 rfl ?_
      refine V_iload_n C 2 dX2_become_52 rfl rfl rfl ?_
      obtain ⟨g3, hf⟩ := gd hf
      refine V_aald C (sFc h1) (fun _ => rfl) g3 (sCag g3) dX2_become_53 rfl ?_
      refine V_cVv C (b := (p0 + 12 + (x34.1).toNatClampNeg)) (As := [.ref (ad (p1 + 12 + (x34.1).toNatClampNeg))]) (st := []) cf0 (sCa h0 g2) M_X0_become w765 ⟨by decide, by decide⟩ rfl rfl (Nat.le_of_ble_eq_true rfl) dX2_become_54 rfl (kX0_become (sCa h0 g2) (sCa h1 g3) rfl) ?_
      refine V_iinc C (v := (x34.1 + 1)) (L' := [(0, .ref (ad p0)), (1, .ref (ad p1)), (2, .int (x34.1 + 1))]) 2 dX2_become_57 rfl rfl rfl (by decide) hnL [1, 2, 0] rfl ?_
      refine V_goto C dX2_become_60 (tgt := 34) rfl ?_
      exact ih34 ((x34.1 + 1), (FX0_become (p0 + 12 + (x34.1).toNatClampNeg) (p1 + 12 + (x34.1).toNatClampNeg) x34.2)) hf
  have Lp65 : ∀ (x0 : (Int32 × Mem)) (q65 : (Int32 × Mem)), lp (BX2_become_65 p0 p1) FU x0 = some q65 → V shs ad G X 94 [(0, .ref (ad p0)), (1, .ref (ad p1)), (2, .int q65.1)] [] q65.2 → V shs ad G X 65 [(0, .ref (ad p0)), (1, .ref (ad p1)), (2, .int x0.1)] [] x0.2 := by
    intro  x0 q65 hq hx65_0
    refine lp_V (BX2_become_65 p0 p1) (fun x65 => V shs ad G X 65 [(0, .ref (ad p0)), (1, .ref (ad p1)), (2, .int x65.1)] [] x65.2) q65 (fun rec65 ih65 x65 hf => ?_) FU x0 hq
    unfold BX2_become_65 at hf
    refine V_iload_n C 2 dX2_become_65 rfl rfl rfl ?_
    refine V_aload_n C 0 dX2_become_66 rfl rfl rfl ?_
    refine V_getI C cf2 (sF h0) 6 rfl (by decide) w262 rfl dX2_become_67 rfl ?_
    refine V_icmp_ge C dX2_become_70 (tgt := 94) rfl rfl (fun c8 => ?_) (fun c8 => ?_)
    · replace hf := ipos c8 hf
      obtain rfl := Option.some.inj hf
      exact hx65_0
    · replace hf := ineg c8 hf
      refine V_aload_n C 0 dX2_become_73 rfl rfl rfl ?_
      refine V_getR C cf2 (sF h0) 1 rfl (by decide) w248 rfl dX2_become_74 rfl ?_
      refine V_iload_n C 2 dX2_become_77 rfl rfl rfl ?_
      obtain ⟨g6, hf⟩ := gd hf
      refine V_aald C (sFe h0) (fun _ => rfl) g6 (sErg g6) dX2_become_78 rfl ?_
      refine V_aload_n C 1 dX2_become_79 rfl rfl rfl ?_
      refine V_getR C cf2 (sF h1) 1 rfl (by decide) w248 rfl dX2_become_80 rfl ?_
      refine V_iload_n C 2 dX2_become_83 rfl rfl rfl ?_
      obtain ⟨g7, hf⟩ := gd hf
      refine V_aald C (sFe h1) (fun _ => rfl) g7 (sErg g7) dX2_become_84 rfl ?_
      refine V_cVv C (b := (p0 + 18 + (x65.1).toNatClampNeg)) (As := [.ref (ad (p1 + 18 + (x65.1).toNatClampNeg))]) (st := []) cf1 (sEr h0 g6) M_X1_become w769 ⟨by decide, by decide⟩ rfl rfl (Nat.le_of_ble_eq_true rfl) dX2_become_85 rfl (kX1_become (sEr h0 g6) (sEr h1 g7) rfl) ?_
      refine V_iinc C (v := (x65.1 + 1)) (L' := [(0, .ref (ad p0)), (1, .ref (ad p1)), (2, .int (x65.1 + 1))]) 2 dX2_become_88 rfl rfl rfl (by decide) hnL [1, 2, 0] rfl ?_
      refine V_goto C dX2_become_91 (tgt := 65) rfl ?_
      exact ih65 ((x65.1 + 1), (FX1_become (p0 + 18 + (x65.1).toNatClampNeg) (p1 + 18 + (x65.1).toNatClampNeg) x65.2)) hf
  have Lp96 : ∀ (x0 : (Int32 × Mem)) (q96 : (Int32 × Mem)), lp (BX2_become_96 p0 p1) FU x0 = some q96 → V shs ad G X 146 [(0, .ref (ad p0)), (1, .ref (ad p1)), (2, .int q96.1)] [] q96.2 → V shs ad G X 96 [(0, .ref (ad p0)), (1, .ref (ad p1)), (2, .int x0.1)] [] x0.2 := by
    intro  x0 q96 hq hx96_0
    refine lp_V (BX2_become_96 p0 p1) (fun x96 => V shs ad G X 96 [(0, .ref (ad p0)), (1, .ref (ad p1)), (2, .int x96.1)] [] x96.2) q96 (fun rec96 ih96 x96 hf => ?_) FU x0 hq
    unfold BX2_become_96 at hf
    refine V_iload_n C 2 dX2_become_96 rfl rfl rfl ?_
    refine V_aload_n C 0 dX2_become_97 rfl rfl rfl ?_
    refine V_getI C cf2 (sF h0) 7 rfl (by decide) w266 rfl dX2_become_98 rfl ?_
    refine V_icmp_ge C dX2_become_101 (tgt := 146) rfl rfl (fun c15 => ?_) (fun c15 => ?_)
    · replace hf := ipos c15 hf
      obtain rfl := Option.some.inj hf
      exact hx96_0
    · replace hf := ineg c15 hf
      refine V_aload_n C 0 dX2_become_104 rfl rfl rfl ?_
      refine V_getR C cf2 (sF h0) 2 rfl (by decide) w251 rfl dX2_become_105 rfl ?_
      refine V_iload_n C 2 dX2_become_108 rfl rfl rfl ?_
      obtain ⟨g10, hf⟩ := gd hf
      refine V_aald C (sFw h0) (fun _ => rfl) g10 (sWag g10) dX2_become_109 rfl ?_
      refine V_aload_n C 1 dX2_become_110 rfl rfl rfl ?_
      refine V_getR C cf2 (sF h1) 2 rfl (by decide) w251 rfl dX2_become_111 rfl ?_
      refine V_iload_n C 2 dX2_become_114 rfl rfl rfl ?_
      obtain ⟨g11, hf⟩ := gd hf
      refine V_aald C (sFw h1) (fun _ => rfl) g11 (sWag g11) dX2_become_115 rfl ?_
      refine V_getI C cf7 (sWa h1 g11) 0 rfl (by decide) w236 rfl dX2_become_116 rfl ?_
      refine V_put C cf7 (sWa h0 g10) 0 rfl (by decide) w236 rfl rfl rfl rfl dX2_become_119 rfl ?_
      refine V_aload_n C 0 dX2_become_122 rfl rfl rfl ?_
      refine V_getR C cf2 (sF h0) 2 rfl (by decide) w251 rfl dX2_become_123 rfl ?_
      refine V_iload_n C 2 dX2_become_126 rfl rfl rfl ?_
      obtain ⟨g12, hf⟩ := gd hf
      refine V_aald C (sFw h0) (fun _ => rfl) g12 (sWag g12) dX2_become_127 rfl ?_
      refine V_aload_n C 1 dX2_become_128 rfl rfl rfl ?_
      refine V_getR C cf2 (sF h1) 2 rfl (by decide) w251 rfl dX2_become_129 rfl ?_
      refine V_iload_n C 2 dX2_become_132 rfl rfl rfl ?_
      obtain ⟨g13, hf⟩ := gd hf
      refine V_aald C (sFw h1) (fun _ => rfl) g13 (sWag g13) dX2_become_133 rfl ?_
      refine V_getI C cf7 (sWa h1 g13) 1 rfl (by decide) w238 rfl dX2_become_134 rfl ?_
      refine V_put C cf7 (sWa h0 g12) 1 rfl (by decide) w238 rfl rfl rfl rfl dX2_become_137 rfl ?_
      obtain ⟨w14, ew14, hf⟩ := nmd hf
      rw [← ew14]
      refine V_iinc C (v := (x96.1 + 1)) (L' := [(0, .ref (ad p0)), (1, .ref (ad p1)), (2, .int (x96.1 + 1))]) 2 dX2_become_140 rfl rfl rfl (by decide) hnL [1, 2, 0] rfl ?_
      refine V_goto C dX2_become_143 (tgt := 96) rfl ?_
      exact ih96 ((x96.1 + 1), w14) hf
  refine V_aload_n C 0 dX2_become_0 rfl rfl rfl ?_
  refine V_aload_n C 1 dX2_become_1 rfl rfl rfl ?_
  refine V_getI C cf2 (sF h1) 5 rfl (by decide) w259 rfl dX2_become_2 rfl ?_
  refine V_put C cf2 (sF h0) 5 rfl (by decide) w259 rfl rfl rfl rfl dX2_become_5 rfl ?_
  refine V_aload_n C 0 dX2_become_8 rfl rfl rfl ?_
  refine V_aload_n C 1 dX2_become_9 rfl rfl rfl ?_
  refine V_getI C cf2 (sF h1) 6 rfl (by decide) w262 rfl dX2_become_10 rfl ?_
  refine V_put C cf2 (sF h0) 6 rfl (by decide) w262 rfl rfl rfl rfl dX2_become_13 rfl ?_
  refine V_aload_n C 0 dX2_become_16 rfl rfl rfl ?_
  refine V_aload_n C 1 dX2_become_17 rfl rfl rfl ?_
  refine V_getI C cf2 (sF h1) 7 rfl (by decide) w266 rfl dX2_become_18 rfl ?_
  refine V_put C cf2 (sF h0) 7 rfl (by decide) w266 rfl rfl rfl rfl dX2_become_21 rfl ?_
  obtain ⟨w1, ew1, hf⟩ := nmd hf
  rw [← ew1]
  refine V_aload_n C 0 dX2_become_24 rfl rfl rfl ?_
  refine V_aload_n C 1 dX2_become_25 rfl rfl rfl ?_
  refine V_getI C cf2 (sF h1) 8 rfl (by decide) w269 rfl dX2_become_26 rfl ?_
  refine V_put C cf2 (sF h0) 8 rfl (by decide) w269 rfl rfl rfl rfl dX2_become_29 rfl ?_
  refine V_iconst C dX2_become_32 rfl (v := 0) rfl ?_
  refine V_istore_n C (L' := [(0, .ref (ad p0)), (1, .ref (ad p1)), (2, .int 0)]) dX2_become_33 rfl rfl (by decide) hnL [1, 2, 0] rfl ?_
  obtain ⟨q34_5, hq34_5, hf⟩ := obd hf
  refine Lp34  (0, (mst w1 p0 8 (w1 p1 8))) q34_5 hq34_5 ?_
  refine V_iconst C dX2_become_63 rfl (v := 0) rfl ?_
  refine V_istore_n C (L' := [(0, .ref (ad p0)), (1, .ref (ad p1)), (2, .int 0)]) dX2_become_64 rfl rfl (by decide) hnL [1, 2, 0] rfl ?_
  obtain ⟨q65_9, hq65_9, hf⟩ := obd hf
  refine Lp65  (0, q34_5.2) q65_9 hq65_9 ?_
  refine V_iconst C dX2_become_94 rfl (v := 0) rfl ?_
  refine V_istore_n C (L' := [(0, .ref (ad p0)), (1, .ref (ad p1)), (2, .int 0)]) dX2_become_95 rfl rfl (by decide) hnL [1, 2, 0] rfl ?_
  obtain ⟨q96_16, hq96_16, hf⟩ := obd hf
  refine Lp96  (0, q65_9.2) q96_16 hq96_16 ?_
  refine V_aload_n C 0 dX2_become_146 rfl rfl rfl ?_
  refine V_getR C cf2 (sF h0) 3 rfl (by decide) w253 rfl dX2_become_147 rfl ?_
  refine V_aload_n C 1 dX2_become_150 rfl rfl rfl ?_
  refine V_getR C cf2 (sF h1) 3 rfl (by decide) w253 rfl dX2_become_151 rfl ?_
  obtain ⟨q17, hq17, hf⟩ := obd hf
  refine V_cVv C (b := (p0 + 4)) (As := [.ref (ad (p1 + 4))]) (st := []) cf8 (sW (wF h0)) M_X8_become w773 ⟨by decide, by decide⟩ rfl rfl (Nat.le_of_ble_eq_true rfl) dX2_become_154 rfl (kX8_become (wF h0) (wF h1) hq17) ?_
  refine V_aload_n C 1 dX2_become_157 rfl rfl rfl ?_
  refine V_getR C cf2 (sF h1) 4 rfl (by decide) w257 rfl dX2_become_158 rfl ?_
  refine V_iconst C dX2_become_161 rfl (v := 0) rfl ?_
  refine V_aload_n C 0 dX2_become_162 rfl rfl rfl ?_
  refine V_getR C cf2 (sF h0) 4 rfl (by decide) w257 rfl dX2_become_163 rfl ?_
  refine V_iconst C dX2_become_166 rfl (v := 0) rfl ?_
  refine V_bipush C dX2_become_167 rfl (v := 10) rfl ?_
  refine V_acopy C (sFs h1) (sFs h0) (by decide) (by decide) (by decide) (by decide) (by decide) w780 ⟨by decide, by decide⟩ (Nat.le_of_ble_eq_true rfl) dX2_become_169 rfl ?_
  obtain rfl := Option.some.inj hf
  exact K _ _ dX2_become_172 rfl
set_option maxHeartbeats 4000000 in
set_option maxRecDepth 100000 in
theorem kX9_within {ad : Nat → Nat} {G : Gh} {p0 : Int32} {p1 : Int32} {p2 : Int32} {u : Mem} {q : Int32} (hf : FX9_within p0 p1 p2 = q) : Ct shs ad G yX9_within cX9_within 3 (some .boolean) 0 0 [.int p0, .int p1, .int p2] u (some (.int q)) u := by
  refine Ct_ofI (by decide) (Nat.le_of_ble_eq_true rfl) (fun X C hnL K => ?_)
  have C : Cx ad G X cX9_within "CarryFair" 0 0 := C
  unfold FX9_within at hf
  refine V_iload_n C 0 dX9_within_0 rfl rfl rfl ?_
  refine V_iload_n C 1 dX9_within_1 rfl rfl rfl ?_
  refine V_icmp_lt C dX9_within_2 (tgt := 14) rfl rfl (fun c2 => ?_) (fun c2 => ?_)
  · replace hf := ipos c2 hf
    refine V_iconst C dX9_within_14 rfl (v := 0) rfl ?_
    subst hf
    exact K _ _ _ dX9_within_15 rfl (by decide)
  · replace hf := ineg c2 hf
    refine V_iload_n C 0 dX9_within_5 rfl rfl rfl ?_
    refine V_iload_n C 2 dX9_within_6 rfl rfl rfl ?_
    refine V_icmp_gt C dX9_within_7 (tgt := 14) rfl rfl (fun c1 => ?_) (fun c1 => ?_)
    · replace hf := ipos c1 hf
      refine V_iconst C dX9_within_14 rfl (v := 0) rfl ?_
      subst hf
      exact K _ _ _ dX9_within_15 rfl (by decide)
    · replace hf := ineg c1 hf
      refine V_iconst C dX9_within_10 rfl (v := 1) rfl ?_
      refine V_goto C dX9_within_11 (tgt := 15) rfl ?_
      subst hf
      exact K _ _ _ dX9_within_15 rfl (by decide)
set_option maxHeartbeats 4000000 in
set_option maxRecDepth 100000 in
theorem kX2_hasCarrier {ad : Nat → Nat} {G : Gh} {p0 : Nat} (h0 : isF p0) {p1 : Int32} {u : Mem} {q : Int32} (hf : FX2_hasCarrier p0 p1 u = q) : Ct shs ad G yX2_hasCarrier cX2_hasCarrier 2 (some .boolean) 1 22 [.ref (ad p0), .int p1] u (some (.int q)) u := by
  refine Ct_ofI (by decide) (Nat.le_of_ble_eq_true rfl) (fun X C hnL K => ?_)
  have C : Cx ad G X cX2_hasCarrier "CarryFair$Fair" 1 22 := C
  unfold FX2_hasCarrier at hf
  refine V_iload_n C 1 dX2_hasCarrier_0 rfl rfl rfl ?_
  refine V_iconst C dX2_hasCarrier_1 rfl (v := 0) rfl ?_
  refine V_aload_n C 0 dX2_hasCarrier_2 rfl rfl rfl ?_
  refine V_getI C cf2 (sF h0) 5 rfl (by decide) w259 rfl dX2_hasCarrier_3 rfl ?_
  refine V_iconst C dX2_hasCarrier_6 rfl (v := 1) rfl ?_
  refine V_isub C dX2_hasCarrier_7 rfl ?_
  refine V_cNi C (As := [.int p1, .int 0, .int ((u p0 5) - 1)]) (st := []) M_X9_within (host := "CarryFair") (by decide +kernel) ⟨by decide, by decide⟩ rfl rfl (Nat.le_of_ble_eq_true rfl) dX2_hasCarrier_8 rfl (kX9_within rfl) ?_
  subst hf
  exact K _ _ _ dX2_hasCarrier_11 rfl (nzb (bX9_within))
set_option maxHeartbeats 4000000 in
set_option maxRecDepth 100000 in
theorem kX2_hasErrand {ad : Nat → Nat} {G : Gh} {p0 : Nat} (h0 : isF p0) {p1 : Int32} {u : Mem} {q : Int32} (hf : FX2_hasErrand p0 p1 u = q) : Ct shs ad G yX2_hasErrand cX2_hasErrand 2 (some .boolean) 1 22 [.ref (ad p0), .int p1] u (some (.int q)) u := by
  refine Ct_ofI (by decide) (Nat.le_of_ble_eq_true rfl) (fun X C hnL K => ?_)
  have C : Cx ad G X cX2_hasErrand "CarryFair$Fair" 1 22 := C
  unfold FX2_hasErrand at hf
  refine V_iload_n C 1 dX2_hasErrand_0 rfl rfl rfl ?_
  refine V_iconst C dX2_hasErrand_1 rfl (v := 0) rfl ?_
  refine V_aload_n C 0 dX2_hasErrand_2 rfl rfl rfl ?_
  refine V_getI C cf2 (sF h0) 6 rfl (by decide) w262 rfl dX2_hasErrand_3 rfl ?_
  refine V_iconst C dX2_hasErrand_6 rfl (v := 1) rfl ?_
  refine V_isub C dX2_hasErrand_7 rfl ?_
  refine V_cNi C (As := [.int p1, .int 0, .int ((u p0 6) - 1)]) (st := []) M_X9_within (host := "CarryFair") (by decide +kernel) ⟨by decide, by decide⟩ rfl rfl (Nat.le_of_ble_eq_true rfl) dX2_hasErrand_8 rfl (kX9_within rfl) ?_
  subst hf
  exact K _ _ _ dX2_hasErrand_11 rfl (nzb (bX9_within))
set_option maxHeartbeats 4000000 in
set_option maxRecDepth 100000 in
theorem kX2_hasWare {ad : Nat → Nat} {G : Gh} {p0 : Nat} (h0 : isF p0) {p1 : Int32} {u : Mem} {q : Int32} (hf : FX2_hasWare p0 p1 u = q) : Ct shs ad G yX2_hasWare cX2_hasWare 2 (some .boolean) 1 22 [.ref (ad p0), .int p1] u (some (.int q)) u := by
  refine Ct_ofI (by decide) (Nat.le_of_ble_eq_true rfl) (fun X C hnL K => ?_)
  have C : Cx ad G X cX2_hasWare "CarryFair$Fair" 1 22 := C
  unfold FX2_hasWare at hf
  refine V_iload_n C 1 dX2_hasWare_0 rfl rfl rfl ?_
  refine V_iconst C dX2_hasWare_1 rfl (v := 0) rfl ?_
  refine V_aload_n C 0 dX2_hasWare_2 rfl rfl rfl ?_
  refine V_getI C cf2 (sF h0) 7 rfl (by decide) w266 rfl dX2_hasWare_3 rfl ?_
  refine V_iconst C dX2_hasWare_6 rfl (v := 1) rfl ?_
  refine V_isub C dX2_hasWare_7 rfl ?_
  refine V_cNi C (As := [.int p1, .int 0, .int ((u p0 7) - 1)]) (st := []) M_X9_within (host := "CarryFair") (by decide +kernel) ⟨by decide, by decide⟩ rfl rfl (Nat.le_of_ble_eq_true rfl) dX2_hasWare_8 rfl (kX9_within rfl) ?_
  subst hf
  exact K _ _ _ dX2_hasWare_11 rfl (nzb (bX9_within))
set_option maxHeartbeats 4000000 in
set_option maxRecDepth 100000 in
theorem kX2_addCarrier {ad : Nat → Nat} {G : Gh} {p0 : Nat} (h0 : isF p0) {p1 : Int32} {p2 : Int32} {p3 : Int32} {u : Mem} {q : Int32 × Mem} (hf : FX2_addCarrier p0 p1 p2 p3 u = some q) : Ct shs ad G yX2_addCarrier cX2_addCarrier 5 (some .int) 0 0 [.ref (ad p0), .int p1, .int p2, .int p3] u (some (.int q.1)) q.2 := by
  refine Ct_ofI (by decide) (Nat.le_of_ble_eq_true rfl) (fun X C hnL K => ?_)
  have C : Cx ad G X cX2_addCarrier "CarryFair$Fair" 0 0 := C
  unfold FX2_addCarrier at hf
  refine V_aload_n C 0 dX2_addCarrier_0 rfl rfl rfl ?_
  refine V_getR C cf2 (sF h0) 0 rfl (by decide) w245 rfl dX2_addCarrier_1 rfl ?_
  refine V_aload_n C 0 dX2_addCarrier_4 rfl rfl rfl ?_
  refine V_getI C cf2 (sF h0) 5 rfl (by decide) w259 rfl dX2_addCarrier_5 rfl ?_
  obtain ⟨g1, hf⟩ := gd hf
  refine V_aald C (sFc h0) (fun _ => rfl) g1 (sCag g1) dX2_addCarrier_8 rfl ?_
  refine V_astore C (L' := [(0, .ref (ad p0)), (1, .int p1), (2, .int p2), (3, .int p3), (4, .ref (ad (p0 + 12 + (u p0 5).toNatClampNeg)))]) dX2_addCarrier_9 rfl (by decide) hnL [1, 2, 3, 4, 0] rfl ?_
  refine V_aload C 4 dX2_addCarrier_11 rfl rfl ?_
  refine V_iload_n C 1 dX2_addCarrier_13 rfl rfl rfl ?_
  refine V_put C cf0 (sCa h0 g1) 0 rfl (by decide) w171 rfl rfl rfl rfl dX2_addCarrier_14 rfl ?_
  refine V_aload C 4 dX2_addCarrier_17 rfl rfl ?_
  refine V_iload_n C 2 dX2_addCarrier_19 rfl rfl rfl ?_
  refine V_put C cf0 (sCa h0 g1) 1 rfl (by decide) w175 rfl rfl rfl rfl dX2_addCarrier_20 rfl ?_
  refine V_aload C 4 dX2_addCarrier_23 rfl rfl ?_
  refine V_iload_n C 3 dX2_addCarrier_25 rfl rfl rfl ?_
  refine V_put C cf0 (sCa h0 g1) 2 rfl (by decide) w179 rfl rfl rfl rfl dX2_addCarrier_26 rfl ?_
  obtain ⟨w2, ew2, hf⟩ := nmd hf
  rw [← ew2]
  refine V_aload C 4 dX2_addCarrier_29 rfl rfl ?_
  refine V_iconst C dX2_addCarrier_31 rfl (v := 0) rfl ?_
  refine V_put C cf0 (sCa h0 g1) 3 rfl (by decide) w182 rfl rfl rfl rfl dX2_addCarrier_32 rfl ?_
  refine V_aload C 4 dX2_addCarrier_35 rfl rfl ?_
  refine V_iconst C dX2_addCarrier_37 rfl (v := 0) rfl ?_
  refine V_put C cf0 (sCa h0 g1) 4 rfl (by decide) w185 rfl rfl rfl rfl dX2_addCarrier_38 rfl ?_
  refine V_aload_n C 0 dX2_addCarrier_41 rfl rfl rfl ?_
  refine V_dup C dX2_addCarrier_42 rfl rfl ?_
  refine V_getI C cf2 (sF h0) 5 rfl (by decide) w259 rfl dX2_addCarrier_43 rfl ?_
  refine V_dup_x1 C dX2_addCarrier_46 rfl rfl rfl ?_
  refine V_iconst C dX2_addCarrier_47 rfl (v := 1) rfl ?_
  refine V_iadd C dX2_addCarrier_48 rfl ?_
  refine V_put C cf2 (sF h0) 5 rfl (by decide) w259 rfl rfl rfl rfl dX2_addCarrier_49 rfl ?_
  obtain ⟨w3, ew3, hf⟩ := nmd hf
  rw [← ew3]
  obtain rfl := Option.some.inj hf
  exact K _ _ _ dX2_addCarrier_52 rfl rfl
set_option maxHeartbeats 4000000 in
set_option maxRecDepth 100000 in
theorem kX2_addErrand {ad : Nat → Nat} {G : Gh} {p0 : Nat} (h0 : isF p0) {p1 : Int32} {p2 : Int32} {p3 : Int32} {u : Mem} {q : Int32 × Mem} (hf : FX2_addErrand p0 p1 p2 p3 u = some q) : Ct shs ad G yX2_addErrand cX2_addErrand 5 (some .int) 0 0 [.ref (ad p0), .int p1, .int p2, .int p3] u (some (.int q.1)) q.2 := by
  refine Ct_ofI (by decide) (Nat.le_of_ble_eq_true rfl) (fun X C hnL K => ?_)
  have C : Cx ad G X cX2_addErrand "CarryFair$Fair" 0 0 := C
  unfold FX2_addErrand at hf
  refine V_aload_n C 0 dX2_addErrand_0 rfl rfl rfl ?_
  refine V_getR C cf2 (sF h0) 1 rfl (by decide) w248 rfl dX2_addErrand_1 rfl ?_
  refine V_aload_n C 0 dX2_addErrand_4 rfl rfl rfl ?_
  refine V_getI C cf2 (sF h0) 6 rfl (by decide) w262 rfl dX2_addErrand_5 rfl ?_
  obtain ⟨g1, hf⟩ := gd hf
  refine V_aald C (sFe h0) (fun _ => rfl) g1 (sErg g1) dX2_addErrand_8 rfl ?_
  refine V_astore C (L' := [(0, .ref (ad p0)), (1, .int p1), (2, .int p2), (3, .int p3), (4, .ref (ad (p0 + 18 + (u p0 6).toNatClampNeg)))]) dX2_addErrand_9 rfl (by decide) hnL [1, 2, 3, 4, 0] rfl ?_
  refine V_aload C 4 dX2_addErrand_11 rfl rfl ?_
  refine V_iload_n C 1 dX2_addErrand_13 rfl rfl rfl ?_
  refine V_put C cf1 (sEr h0 g1) 0 rfl (by decide) w204 rfl rfl rfl rfl dX2_addErrand_14 rfl ?_
  refine V_aload C 4 dX2_addErrand_17 rfl rfl ?_
  refine V_iload_n C 2 dX2_addErrand_19 rfl rfl rfl ?_
  refine V_put C cf1 (sEr h0 g1) 1 rfl (by decide) w208 rfl rfl rfl rfl dX2_addErrand_20 rfl ?_
  refine V_aload C 4 dX2_addErrand_23 rfl rfl ?_
  refine V_iload_n C 3 dX2_addErrand_25 rfl rfl rfl ?_
  refine V_put C cf1 (sEr h0 g1) 2 rfl (by decide) w212 rfl rfl rfl rfl dX2_addErrand_26 rfl ?_
  obtain ⟨w2, ew2, hf⟩ := nmd hf
  rw [← ew2]
  refine V_aload C 4 dX2_addErrand_29 rfl rfl ?_
  refine V_iconst C dX2_addErrand_31 rfl (v := 0) rfl ?_
  refine V_put C cf1 (sEr h0 g1) 3 rfl (by decide) w215 rfl rfl rfl rfl dX2_addErrand_32 rfl ?_
  refine V_aload C 4 dX2_addErrand_35 rfl rfl ?_
  refine V_iconst C dX2_addErrand_37 rfl (v := (-1)) (by decide) ?_
  refine V_put C cf1 (sEr h0 g1) 4 rfl (by decide) w218 rfl rfl rfl rfl dX2_addErrand_38 rfl ?_
  refine V_aload_n C 0 dX2_addErrand_41 rfl rfl rfl ?_
  refine V_dup C dX2_addErrand_42 rfl rfl ?_
  refine V_getI C cf2 (sF h0) 6 rfl (by decide) w262 rfl dX2_addErrand_43 rfl ?_
  refine V_dup_x1 C dX2_addErrand_46 rfl rfl rfl ?_
  refine V_iconst C dX2_addErrand_47 rfl (v := 1) rfl ?_
  refine V_iadd C dX2_addErrand_48 rfl ?_
  refine V_put C cf2 (sF h0) 6 rfl (by decide) w262 rfl rfl rfl rfl dX2_addErrand_49 rfl ?_
  obtain ⟨w3, ew3, hf⟩ := nmd hf
  rw [← ew3]
  obtain rfl := Option.some.inj hf
  exact K _ _ _ dX2_addErrand_52 rfl rfl
set_option maxHeartbeats 4000000 in
set_option maxRecDepth 100000 in
theorem kX2_addWare {ad : Nat → Nat} {G : Gh} {p0 : Nat} (h0 : isF p0) {p1 : Int32} {u : Mem} {q : Int32 × Mem} (hf : FX2_addWare p0 p1 u = some q) : Ct shs ad G yX2_addWare cX2_addWare 2 (some .int) 0 0 [.ref (ad p0), .int p1] u (some (.int q.1)) q.2 := by
  refine Ct_ofI (by decide) (Nat.le_of_ble_eq_true rfl) (fun X C hnL K => ?_)
  have C : Cx ad G X cX2_addWare "CarryFair$Fair" 0 0 := C
  unfold FX2_addWare at hf
  refine V_aload_n C 0 dX2_addWare_0 rfl rfl rfl ?_
  refine V_getR C cf2 (sF h0) 2 rfl (by decide) w251 rfl dX2_addWare_1 rfl ?_
  refine V_aload_n C 0 dX2_addWare_4 rfl rfl rfl ?_
  refine V_getI C cf2 (sF h0) 7 rfl (by decide) w266 rfl dX2_addWare_5 rfl ?_
  obtain ⟨g1, hf⟩ := gd hf
  refine V_aald C (sFw h0) (fun _ => rfl) g1 (sWag g1) dX2_addWare_8 rfl ?_
  refine V_iload_n C 1 dX2_addWare_9 rfl rfl rfl ?_
  refine V_put C cf7 (sWa h0 g1) 0 rfl (by decide) w236 rfl rfl rfl rfl dX2_addWare_10 rfl ?_
  refine V_aload_n C 0 dX2_addWare_13 rfl rfl rfl ?_
  refine V_getR C cf2 (sF h0) 2 rfl (by decide) w251 rfl dX2_addWare_14 rfl ?_
  refine V_aload_n C 0 dX2_addWare_17 rfl rfl rfl ?_
  refine V_getI C cf2 (sF h0) 7 rfl (by decide) w266 rfl dX2_addWare_18 rfl ?_
  obtain ⟨g2, hf⟩ := gd hf
  refine V_aald C (sFw h0) (fun _ => rfl) g2 (sWag g2) dX2_addWare_21 rfl ?_
  refine V_iconst C dX2_addWare_22 rfl (v := (-1)) (by decide) ?_
  refine V_put C cf7 (sWa h0 g2) 1 rfl (by decide) w238 rfl rfl rfl rfl dX2_addWare_23 rfl ?_
  obtain ⟨w3, ew3, hf⟩ := nmd hf
  rw [← ew3]
  refine V_aload_n C 0 dX2_addWare_26 rfl rfl rfl ?_
  refine V_dup C dX2_addWare_27 rfl rfl ?_
  refine V_getI C cf2 (sF h0) 7 rfl (by decide) w266 rfl dX2_addWare_28 rfl ?_
  refine V_dup_x1 C dX2_addWare_31 rfl rfl rfl ?_
  refine V_iconst C dX2_addWare_32 rfl (v := 1) rfl ?_
  refine V_iadd C dX2_addWare_33 rfl ?_
  refine V_put C cf2 (sF h0) 7 rfl (by decide) w266 rfl rfl rfl rfl dX2_addWare_34 rfl ?_
  obtain rfl := Option.some.inj hf
  exact K _ _ _ dX2_addWare_37 rfl rfl
set_option maxHeartbeats 4000000 in
set_option maxRecDepth 100000 in
theorem kX2_errandsThat {ad : Nat → Nat} {G : Gh} {p0 : Nat} (h0 : isF p0) {p1 : Int32} {u : Mem} {q : Int32} (hf : FX2_errandsThat p0 p1 u = some q) : Ct shs ad G yX2_errandsThat cX2_errandsThat 4 (some .int) 0 0 [.ref (ad p0), .int p1] u (some (.int q)) u := by
  refine Ct_ofI (by decide) (Nat.le_of_ble_eq_true rfl) (fun X C hnL K => ?_)
  have C : Cx ad G X cX2_errandsThat "CarryFair$Fair" 0 0 := C
  unfold FX2_errandsThat at hf
  have Lp4 : ∀ (x0 : (Int32 × Int32)) (q4 : (Int32 × Int32)), lp (BX2_errandsThat_4 p0 p1 u) FU x0 = some q4 → V shs ad G X 37 [(0, .ref (ad p0)), (1, .int p1), (2, .int q4.1), (3, .int q4.2)] [] u → V shs ad G X 4 [(0, .ref (ad p0)), (1, .int p1), (2, .int x0.1), (3, .int x0.2)] [] u := by
    intro  x0 q4 hq hx4_0
    refine lp_V (BX2_errandsThat_4 p0 p1 u) (fun x4 => V shs ad G X 4 [(0, .ref (ad p0)), (1, .int p1), (2, .int x4.1), (3, .int x4.2)] [] u) q4 (fun rec4 ih4 x4 hf => ?_) FU x0 hq
    unfold BX2_errandsThat_4 at hf
    refine V_iload_n C 3 dX2_errandsThat_4 rfl rfl rfl ?_
    refine V_aload_n C 0 dX2_errandsThat_5 rfl rfl rfl ?_
    refine V_getI C cf2 (sF h0) 6 rfl (by decide) w262 rfl dX2_errandsThat_6 rfl ?_
    refine V_icmp_ge C dX2_errandsThat_9 (tgt := 37) rfl rfl (fun c3 => ?_) (fun c3 => ?_)
    · replace hf := ipos c3 hf
      obtain rfl := Option.some.inj hf
      exact hx4_0
    · replace hf := ineg c3 hf
      refine V_aload_n C 0 dX2_errandsThat_12 rfl rfl rfl ?_
      refine V_getR C cf2 (sF h0) 1 rfl (by decide) w248 rfl dX2_errandsThat_13 rfl ?_
      refine V_iload_n C 3 dX2_errandsThat_16 rfl rfl rfl ?_
      obtain ⟨g1, hf⟩ := gd hf
      refine V_aald C (sFe h0) (fun _ => rfl) g1 (sErg g1) dX2_errandsThat_17 rfl ?_
      refine V_getI C cf1 (sEr h0 g1) 3 rfl (by decide) w215 rfl dX2_errandsThat_18 rfl ?_
      refine V_iload_n C 1 dX2_errandsThat_21 rfl rfl rfl ?_
      refine V_icmp_ne C dX2_errandsThat_22 (tgt := 31) rfl rfl (fun c2 => ?_) (fun c2 => ?_)
      · replace hf := ineg c2 hf
        refine V_iinc C (v := (x4.2 + 1)) (L' := [(0, .ref (ad p0)), (1, .int p1), (2, .int x4.1), (3, .int (x4.2 + 1))]) 3 dX2_errandsThat_31 rfl rfl rfl (by decide) hnL [1, 2, 3, 0] rfl ?_
        refine V_goto C dX2_errandsThat_34 (tgt := 4) rfl ?_
        exact ih4 (x4.1, (x4.2 + 1)) hf
      · replace hf := ipos c2 hf
        refine V_iload_n C 2 dX2_errandsThat_25 rfl rfl rfl ?_
        refine V_iconst C dX2_errandsThat_26 rfl (v := 1) rfl ?_
        refine V_iload_n C 3 dX2_errandsThat_27 rfl rfl rfl ?_
        refine V_jshl C dX2_errandsThat_28 rfl ?_
        refine V_ior C dX2_errandsThat_29 rfl ?_
        refine V_istore_n C (L' := [(0, .ref (ad p0)), (1, .int p1), (2, .int (x4.1 ||| (jshl 1 x4.2))), (3, .int x4.2)]) dX2_errandsThat_30 rfl rfl (by decide) hnL [1, 2, 0, 3] rfl ?_
        refine V_iinc C (v := (x4.2 + 1)) (L' := [(0, .ref (ad p0)), (1, .int p1), (2, .int (x4.1 ||| (jshl 1 x4.2))), (3, .int (x4.2 + 1))]) 3 dX2_errandsThat_31 rfl rfl rfl (by decide) hnL [1, 2, 3, 0] rfl ?_
        refine V_goto C dX2_errandsThat_34 (tgt := 4) rfl ?_
        exact ih4 ((x4.1 ||| (jshl 1 x4.2)), (x4.2 + 1)) hf
  refine V_iconst C dX2_errandsThat_0 rfl (v := 0) rfl ?_
  refine V_istore_n C (L' := [(0, .ref (ad p0)), (1, .int p1), (2, .int 0)]) dX2_errandsThat_1 rfl rfl (by decide) hnL [1, 2, 0] rfl ?_
  refine V_iconst C dX2_errandsThat_2 rfl (v := 0) rfl ?_
  refine V_istore_n C (L' := [(0, .ref (ad p0)), (1, .int p1), (2, .int 0), (3, .int 0)]) dX2_errandsThat_3 rfl rfl (by decide) hnL [1, 2, 3, 0] rfl ?_
  obtain ⟨q4_4, hq4_4, hf⟩ := obd hf
  refine Lp4  (0, 0) q4_4 hq4_4 ?_
  refine V_iload_n C 2 dX2_errandsThat_37 rfl rfl rfl ?_
  obtain rfl := Option.some.inj hf
  exact K _ _ _ dX2_errandsThat_38 rfl rfl
set_option maxHeartbeats 4000000 in
set_option maxRecDepth 100000 in
theorem kX2_allLie {ad : Nat → Nat} {G : Gh} {p0 : Nat} (h0 : isF p0) {p1 : Int32} {u : Mem} {q : Int32} (hf : FX2_allLie p0 p1 u = some q) : Ct shs ad G yX2_allLie cX2_allLie 2 (some .boolean) 1 23 [.ref (ad p0), .int p1] u (some (.int q)) u := by
  refine Ct_ofI (by decide) (Nat.le_of_ble_eq_true rfl) (fun X C hnL K => ?_)
  have C : Cx ad G X cX2_allLie "CarryFair$Fair" 1 23 := C
  unfold FX2_allLie at hf
  refine V_iload_n C 1 dX2_allLie_0 rfl rfl rfl ?_
  refine V_aload_n C 0 dX2_allLie_1 rfl rfl rfl ?_
  refine V_iconst C dX2_allLie_2 rfl (v := 0) rfl ?_
  obtain ⟨q1, hq1, hf⟩ := obd hf
  refine V_cVi C (b := p0) (As := [.int 0]) (st := [.int p1]) cf2 (sF h0) M_X2_errandsThat w626 ⟨by decide, by decide⟩ rfl rfl (Nat.le_of_ble_eq_true rfl) dX2_allLie_3 rfl (kX2_errandsThat h0 hq1) ?_
  refine V_iconst C dX2_allLie_6 rfl (v := (-1)) (by decide) ?_
  refine V_ixor C dX2_allLie_7 rfl ?_
  refine V_iand C dX2_allLie_8 rfl ?_
  refine V_if_ne C dX2_allLie_9 (tgt := 16) rfl rfl (fun c2 => ?_) (fun c2 => ?_)
  · replace hf := ineg c2 hf
    refine V_iconst C dX2_allLie_16 rfl (v := 0) rfl ?_
    obtain rfl := Option.some.inj hf
    exact K _ _ _ dX2_allLie_17 rfl (by decide)
  · replace hf := ipos c2 hf
    refine V_iconst C dX2_allLie_12 rfl (v := 1) rfl ?_
    refine V_goto C dX2_allLie_13 (tgt := 17) rfl ?_
    obtain rfl := Option.some.inj hf
    exact K _ _ _ dX2_allLie_17 rfl (by decide)
set_option maxHeartbeats 4000000 in
set_option maxRecDepth 100000 in
theorem kX2_carriedBy {ad : Nat → Nat} {G : Gh} {p0 : Nat} (h0 : isF p0) {p1 : Int32} {u : Mem} {q : Int32} (hf : FX2_carriedBy p0 p1 u = some q) : Ct shs ad G yX2_carriedBy cX2_carriedBy 4 (some .int) 0 0 [.ref (ad p0), .int p1] u (some (.int q)) u := by
  refine Ct_ofI (by decide) (Nat.le_of_ble_eq_true rfl) (fun X C hnL K => ?_)
  have C : Cx ad G X cX2_carriedBy "CarryFair$Fair" 0 0 := C
  unfold FX2_carriedBy at hf
  have Lp4 : ∀ (x0 : (Int32 × Int32)) (q4 : (Int32 × Int32)), lp (BX2_carriedBy_4 p0 p1 u) FU x0 = some q4 → V shs ad G X 50 [(0, .ref (ad p0)), (1, .int p1), (2, .int q4.1), (3, .int q4.2)] [] u → V shs ad G X 4 [(0, .ref (ad p0)), (1, .int p1), (2, .int x0.1), (3, .int x0.2)] [] u := by
    intro  x0 q4 hq hx4_0
    refine lp_V (BX2_carriedBy_4 p0 p1 u) (fun x4 => V shs ad G X 4 [(0, .ref (ad p0)), (1, .int p1), (2, .int x4.1), (3, .int x4.2)] [] u) q4 (fun rec4 ih4 x4 hf => ?_) FU x0 hq
    unfold BX2_carriedBy_4 at hf
    refine V_iload_n C 3 dX2_carriedBy_4 rfl rfl rfl ?_
    refine V_aload_n C 0 dX2_carriedBy_5 rfl rfl rfl ?_
    refine V_getI C cf2 (sF h0) 6 rfl (by decide) w262 rfl dX2_carriedBy_6 rfl ?_
    refine V_icmp_ge C dX2_carriedBy_9 (tgt := 50) rfl rfl (fun c5 => ?_) (fun c5 => ?_)
    · replace hf := ipos c5 hf
      obtain rfl := Option.some.inj hf
      exact hx4_0
    · replace hf := ineg c5 hf
      refine V_aload_n C 0 dX2_carriedBy_12 rfl rfl rfl ?_
      refine V_getR C cf2 (sF h0) 1 rfl (by decide) w248 rfl dX2_carriedBy_13 rfl ?_
      refine V_iload_n C 3 dX2_carriedBy_16 rfl rfl rfl ?_
      obtain ⟨g1, hf⟩ := gd hf
      refine V_aald C (sFe h0) (fun _ => rfl) g1 (sErg g1) dX2_carriedBy_17 rfl ?_
      refine V_getI C cf1 (sEr h0 g1) 3 rfl (by decide) w215 rfl dX2_carriedBy_18 rfl ?_
      refine V_iconst C dX2_carriedBy_21 rfl (v := 1) rfl ?_
      refine V_icmp_ne C dX2_carriedBy_22 (tgt := 44) rfl rfl (fun c4 => ?_) (fun c4 => ?_)
      · replace hf := ineg c4 hf
        refine V_iinc C (v := (x4.2 + 1)) (L' := [(0, .ref (ad p0)), (1, .int p1), (2, .int x4.1), (3, .int (x4.2 + 1))]) 3 dX2_carriedBy_44 rfl rfl rfl (by decide) hnL [1, 2, 3, 0] rfl ?_
        refine V_goto C dX2_carriedBy_47 (tgt := 4) rfl ?_
        exact ih4 (x4.1, (x4.2 + 1)) hf
      · replace hf := ipos c4 hf
        refine V_aload_n C 0 dX2_carriedBy_25 rfl rfl rfl ?_
        refine V_getR C cf2 (sF h0) 1 rfl (by decide) w248 rfl dX2_carriedBy_26 rfl ?_
        refine V_iload_n C 3 dX2_carriedBy_29 rfl rfl rfl ?_
        obtain ⟨g2, hf⟩ := gd hf
        refine V_aald C (sFe h0) (fun _ => rfl) g2 (sErg g2) dX2_carriedBy_30 rfl ?_
        refine V_getI C cf1 (sEr h0 g2) 4 rfl (by decide) w218 rfl dX2_carriedBy_31 rfl ?_
        refine V_iload_n C 1 dX2_carriedBy_34 rfl rfl rfl ?_
        refine V_icmp_ne C dX2_carriedBy_35 (tgt := 44) rfl rfl (fun c3 => ?_) (fun c3 => ?_)
        · replace hf := ineg c3 hf
          refine V_iinc C (v := (x4.2 + 1)) (L' := [(0, .ref (ad p0)), (1, .int p1), (2, .int x4.1), (3, .int (x4.2 + 1))]) 3 dX2_carriedBy_44 rfl rfl rfl (by decide) hnL [1, 2, 3, 0] rfl ?_
          refine V_goto C dX2_carriedBy_47 (tgt := 4) rfl ?_
          exact ih4 (x4.1, (x4.2 + 1)) hf
        · replace hf := ipos c3 hf
          refine V_iload_n C 2 dX2_carriedBy_38 rfl rfl rfl ?_
          refine V_iconst C dX2_carriedBy_39 rfl (v := 1) rfl ?_
          refine V_iload_n C 3 dX2_carriedBy_40 rfl rfl rfl ?_
          refine V_jshl C dX2_carriedBy_41 rfl ?_
          refine V_ior C dX2_carriedBy_42 rfl ?_
          refine V_istore_n C (L' := [(0, .ref (ad p0)), (1, .int p1), (2, .int (x4.1 ||| (jshl 1 x4.2))), (3, .int x4.2)]) dX2_carriedBy_43 rfl rfl (by decide) hnL [1, 2, 0, 3] rfl ?_
          refine V_iinc C (v := (x4.2 + 1)) (L' := [(0, .ref (ad p0)), (1, .int p1), (2, .int (x4.1 ||| (jshl 1 x4.2))), (3, .int (x4.2 + 1))]) 3 dX2_carriedBy_44 rfl rfl rfl (by decide) hnL [1, 2, 3, 0] rfl ?_
          refine V_goto C dX2_carriedBy_47 (tgt := 4) rfl ?_
          exact ih4 ((x4.1 ||| (jshl 1 x4.2)), (x4.2 + 1)) hf
  refine V_iconst C dX2_carriedBy_0 rfl (v := 0) rfl ?_
  refine V_istore_n C (L' := [(0, .ref (ad p0)), (1, .int p1), (2, .int 0)]) dX2_carriedBy_1 rfl rfl (by decide) hnL [1, 2, 0] rfl ?_
  refine V_iconst C dX2_carriedBy_2 rfl (v := 0) rfl ?_
  refine V_istore_n C (L' := [(0, .ref (ad p0)), (1, .int p1), (2, .int 0), (3, .int 0)]) dX2_carriedBy_3 rfl rfl (by decide) hnL [1, 2, 3, 0] rfl ?_
  obtain ⟨q4_6, hq4_6, hf⟩ := obd hf
  refine Lp4  (0, 0) q4_6 hq4_6 ?_
  refine V_iload_n C 2 dX2_carriedBy_50 rfl rfl rfl ?_
  obtain rfl := Option.some.inj hf
  exact K _ _ _ dX2_carriedBy_51 rfl rfl
set_option maxHeartbeats 4000000 in
set_option maxRecDepth 100000 in
theorem kX9_has {ad : Nat → Nat} {G : Gh} {p0 : Int32} {p1 : Int32} {u : Mem} {q : Int32} (hf : FX9_has p0 p1 = q) : Ct shs ad G yX9_has cX9_has 2 (some .boolean) 0 0 [.int p0, .int p1] u (some (.int q)) u := by
  refine Ct_ofI (by decide) (Nat.le_of_ble_eq_true rfl) (fun X C hnL K => ?_)
  have C : Cx ad G X cX9_has "CarryFair" 0 0 := C
  unfold FX9_has at hf
  refine V_iload_n C 0 dX9_has_0 rfl rfl rfl ?_
  refine V_iload_n C 1 dX9_has_1 rfl rfl rfl ?_
  refine V_jshr C dX9_has_2 rfl ?_
  refine V_iconst C dX9_has_3 rfl (v := 1) rfl ?_
  refine V_iand C dX9_has_4 rfl ?_
  refine V_if_eq C dX9_has_5 (tgt := 12) rfl rfl (fun c1 => ?_) (fun c1 => ?_)
  · replace hf := ipos c1 hf
    refine V_iconst C dX9_has_12 rfl (v := 0) rfl ?_
    subst hf
    exact K _ _ _ dX9_has_13 rfl (by decide)
  · replace hf := ineg c1 hf
    refine V_iconst C dX9_has_8 rfl (v := 1) rfl ?_
    refine V_goto C dX9_has_9 (tgt := 13) rfl ?_
    subst hf
    exact K _ _ _ dX9_has_13 rfl (by decide)
set_option maxHeartbeats 4000000 in
set_option maxRecDepth 100000 in
theorem kX2_weightOf {ad : Nat → Nat} {G : Gh} {p0 : Nat} (h0 : isF p0) {p1 : Int32} {u : Mem} {q : Int32} (hf : FX2_weightOf p0 p1 u = some q) : Ct shs ad G yX2_weightOf cX2_weightOf 4 (some .int) 1 21 [.ref (ad p0), .int p1] u (some (.int q)) u := by
  refine Ct_ofI (by decide) (Nat.le_of_ble_eq_true rfl) (fun X C hnL K => ?_)
  have C : Cx ad G X cX2_weightOf "CarryFair$Fair" 1 21 := C
  unfold FX2_weightOf at hf
  have Lp4 : ∀ (x0 : (Int32 × Int32)) (q4 : (Int32 × Int32)), lp (BX2_weightOf_4 p0 p1 u) FU x0 = some q4 → V shs ad G X 38 [(0, .ref (ad p0)), (1, .int p1), (2, .int q4.1), (3, .int q4.2)] [] u → V shs ad G X 4 [(0, .ref (ad p0)), (1, .int p1), (2, .int x0.1), (3, .int x0.2)] [] u := by
    intro  x0 q4 hq hx4_0
    refine lp_V (BX2_weightOf_4 p0 p1 u) (fun x4 => V shs ad G X 4 [(0, .ref (ad p0)), (1, .int p1), (2, .int x4.1), (3, .int x4.2)] [] u) q4 (fun rec4 ih4 x4 hf => ?_) FU x0 hq
    unfold BX2_weightOf_4 at hf
    refine V_iload_n C 3 dX2_weightOf_4 rfl rfl rfl ?_
    refine V_aload_n C 0 dX2_weightOf_5 rfl rfl rfl ?_
    refine V_getI C cf2 (sF h0) 6 rfl (by decide) w262 rfl dX2_weightOf_6 rfl ?_
    refine V_icmp_ge C dX2_weightOf_9 (tgt := 38) rfl rfl (fun c3 => ?_) (fun c3 => ?_)
    · replace hf := ipos c3 hf
      obtain rfl := Option.some.inj hf
      exact hx4_0
    · replace hf := ineg c3 hf
      refine V_iload_n C 1 dX2_weightOf_12 rfl rfl rfl ?_
      refine V_iload_n C 3 dX2_weightOf_13 rfl rfl rfl ?_
      refine V_cNi C (As := [.int p1, .int x4.2]) (st := []) M_X9_has (host := "CarryFair") (by decide +kernel) ⟨by decide, by decide⟩ rfl rfl (Nat.le_of_ble_eq_true rfl) dX2_weightOf_14 rfl (kX9_has rfl) ?_
      refine V_if_eq C dX2_weightOf_17 (tgt := 32) rfl rfl (fun c2 => ?_) (fun c2 => ?_)
      · replace hf := ipos c2 hf
        refine V_iinc C (v := (x4.2 + 1)) (L' := [(0, .ref (ad p0)), (1, .int p1), (2, .int x4.1), (3, .int (x4.2 + 1))]) 3 dX2_weightOf_32 rfl rfl rfl (by decide) hnL [1, 2, 3, 0] rfl ?_
        refine V_goto C dX2_weightOf_35 (tgt := 4) rfl ?_
        exact ih4 (x4.1, (x4.2 + 1)) hf
      · replace hf := ineg c2 hf
        refine V_iload_n C 2 dX2_weightOf_20 rfl rfl rfl ?_
        refine V_aload_n C 0 dX2_weightOf_21 rfl rfl rfl ?_
        refine V_getR C cf2 (sF h0) 1 rfl (by decide) w248 rfl dX2_weightOf_22 rfl ?_
        refine V_iload_n C 3 dX2_weightOf_25 rfl rfl rfl ?_
        obtain ⟨g1, hf⟩ := gd hf
        refine V_aald C (sFe h0) (fun _ => rfl) g1 (sErg g1) dX2_weightOf_26 rfl ?_
        refine V_getI C cf1 (sEr h0 g1) 0 rfl (by decide) w204 rfl dX2_weightOf_27 rfl ?_
        refine V_iadd C dX2_weightOf_30 rfl ?_
        refine V_istore_n C (L' := [(0, .ref (ad p0)), (1, .int p1), (2, .int (x4.1 + (u (p0 + 18 + (x4.2).toNatClampNeg) 0))), (3, .int x4.2)]) dX2_weightOf_31 rfl rfl (by decide) hnL [1, 2, 0, 3] rfl ?_
        refine V_iinc C (v := (x4.2 + 1)) (L' := [(0, .ref (ad p0)), (1, .int p1), (2, .int (x4.1 + (u (p0 + 18 + (x4.2).toNatClampNeg) 0))), (3, .int (x4.2 + 1))]) 3 dX2_weightOf_32 rfl rfl rfl (by decide) hnL [1, 2, 3, 0] rfl ?_
        refine V_goto C dX2_weightOf_35 (tgt := 4) rfl ?_
        exact ih4 ((x4.1 + (u (p0 + 18 + (x4.2).toNatClampNeg) 0)), (x4.2 + 1)) hf
  refine V_iconst C dX2_weightOf_0 rfl (v := 0) rfl ?_
  refine V_istore_n C (L' := [(0, .ref (ad p0)), (1, .int p1), (2, .int 0)]) dX2_weightOf_1 rfl rfl (by decide) hnL [1, 2, 0] rfl ?_
  refine V_iconst C dX2_weightOf_2 rfl (v := 0) rfl ?_
  refine V_istore_n C (L' := [(0, .ref (ad p0)), (1, .int p1), (2, .int 0), (3, .int 0)]) dX2_weightOf_3 rfl rfl (by decide) hnL [1, 2, 3, 0] rfl ?_
  obtain ⟨q4_4, hq4_4, hf⟩ := obd hf
  refine Lp4  (0, 0) q4_4 hq4_4 ?_
  refine V_iload_n C 2 dX2_weightOf_38 rfl rfl rfl ?_
  obtain rfl := Option.some.inj hf
  exact K _ _ _ dX2_weightOf_39 rfl rfl
set_option maxHeartbeats 4000000 in
set_option maxRecDepth 100000 in
theorem kX2_heaviestOf {ad : Nat → Nat} {G : Gh} {p0 : Nat} (h0 : isF p0) {p1 : Int32} {u : Mem} {q : Int32} (hf : FX2_heaviestOf p0 p1 u = some q) : Ct shs ad G yX2_heaviestOf cX2_heaviestOf 4 (some .int) 1 21 [.ref (ad p0), .int p1] u (some (.int q)) u := by
  refine Ct_ofI (by decide) (Nat.le_of_ble_eq_true rfl) (fun X C hnL K => ?_)
  have C : Cx ad G X cX2_heaviestOf "CarryFair$Fair" 1 21 := C
  unfold FX2_heaviestOf at hf
  have Lp4 : ∀ (x0 : (Int32 × Int32)) (q4 : (Int32 × Int32)), lp (BX2_heaviestOf_4 p0 p1 u) FU x0 = some q4 → V shs ad G X 40 [(0, .ref (ad p0)), (1, .int p1), (2, .int q4.1), (3, .int q4.2)] [] u → V shs ad G X 4 [(0, .ref (ad p0)), (1, .int p1), (2, .int x0.1), (3, .int x0.2)] [] u := by
    intro  x0 q4 hq hx4_0
    refine lp_V (BX2_heaviestOf_4 p0 p1 u) (fun x4 => V shs ad G X 4 [(0, .ref (ad p0)), (1, .int p1), (2, .int x4.1), (3, .int x4.2)] [] u) q4 (fun rec4 ih4 x4 hf => ?_) FU x0 hq
    unfold BX2_heaviestOf_4 at hf
    refine V_iload_n C 3 dX2_heaviestOf_4 rfl rfl rfl ?_
    refine V_aload_n C 0 dX2_heaviestOf_5 rfl rfl rfl ?_
    refine V_getI C cf2 (sF h0) 6 rfl (by decide) w262 rfl dX2_heaviestOf_6 rfl ?_
    refine V_icmp_ge C dX2_heaviestOf_9 (tgt := 40) rfl rfl (fun c3 => ?_) (fun c3 => ?_)
    · replace hf := ipos c3 hf
      obtain rfl := Option.some.inj hf
      exact hx4_0
    · replace hf := ineg c3 hf
      refine V_iload_n C 1 dX2_heaviestOf_12 rfl rfl rfl ?_
      refine V_iload_n C 3 dX2_heaviestOf_13 rfl rfl rfl ?_
      refine V_cNi C (As := [.int p1, .int x4.2]) (st := []) M_X9_has (host := "CarryFair") (by decide +kernel) ⟨by decide, by decide⟩ rfl rfl (Nat.le_of_ble_eq_true rfl) dX2_heaviestOf_14 rfl (kX9_has rfl) ?_
      refine V_if_eq C dX2_heaviestOf_17 (tgt := 34) rfl rfl (fun c2 => ?_) (fun c2 => ?_)
      · replace hf := ipos c2 hf
        refine V_iinc C (v := (x4.2 + 1)) (L' := [(0, .ref (ad p0)), (1, .int p1), (2, .int x4.1), (3, .int (x4.2 + 1))]) 3 dX2_heaviestOf_34 rfl rfl rfl (by decide) hnL [1, 2, 3, 0] rfl ?_
        refine V_goto C dX2_heaviestOf_37 (tgt := 4) rfl ?_
        exact ih4 (x4.1, (x4.2 + 1)) hf
      · replace hf := ineg c2 hf
        refine V_iload_n C 2 dX2_heaviestOf_20 rfl rfl rfl ?_
        refine V_aload_n C 0 dX2_heaviestOf_21 rfl rfl rfl ?_
        refine V_getR C cf2 (sF h0) 1 rfl (by decide) w248 rfl dX2_heaviestOf_22 rfl ?_
        refine V_iload_n C 3 dX2_heaviestOf_25 rfl rfl rfl ?_
        obtain ⟨g1, hf⟩ := gd hf
        refine V_aald C (sFe h0) (fun _ => rfl) g1 (sErg g1) dX2_heaviestOf_26 rfl ?_
        refine V_getI C cf1 (sEr h0 g1) 0 rfl (by decide) w204 rfl dX2_heaviestOf_27 rfl ?_
        refine V_mmax C w747 ⟨by decide, by decide⟩ (Nat.le_of_ble_eq_true rfl) dX2_heaviestOf_30 rfl ?_
        refine V_istore_n C (L' := [(0, .ref (ad p0)), (1, .int p1), (2, .int (jmax x4.1 (u (p0 + 18 + (x4.2).toNatClampNeg) 0))), (3, .int x4.2)]) dX2_heaviestOf_33 rfl rfl (by decide) hnL [1, 2, 0, 3] rfl ?_
        refine V_iinc C (v := (x4.2 + 1)) (L' := [(0, .ref (ad p0)), (1, .int p1), (2, .int (jmax x4.1 (u (p0 + 18 + (x4.2).toNatClampNeg) 0))), (3, .int (x4.2 + 1))]) 3 dX2_heaviestOf_34 rfl rfl rfl (by decide) hnL [1, 2, 3, 0] rfl ?_
        refine V_goto C dX2_heaviestOf_37 (tgt := 4) rfl ?_
        exact ih4 ((jmax x4.1 (u (p0 + 18 + (x4.2).toNatClampNeg) 0)), (x4.2 + 1)) hf
  refine V_iconst C dX2_heaviestOf_0 rfl (v := 0) rfl ?_
  refine V_istore_n C (L' := [(0, .ref (ad p0)), (1, .int p1), (2, .int 0)]) dX2_heaviestOf_1 rfl rfl (by decide) hnL [1, 2, 0] rfl ?_
  refine V_iconst C dX2_heaviestOf_2 rfl (v := 0) rfl ?_
  refine V_istore_n C (L' := [(0, .ref (ad p0)), (1, .int p1), (2, .int 0), (3, .int 0)]) dX2_heaviestOf_3 rfl rfl (by decide) hnL [1, 2, 3, 0] rfl ?_
  obtain ⟨q4_4, hq4_4, hf⟩ := obd hf
  refine Lp4  (0, 0) q4_4 hq4_4 ?_
  refine V_iload_n C 2 dX2_heaviestOf_40 rfl rfl rfl ?_
  obtain rfl := Option.some.inj hf
  exact K _ _ _ dX2_heaviestOf_41 rfl rfl
set_option maxHeartbeats 4000000 in
set_option maxRecDepth 100000 in
theorem kX2_soldWares {ad : Nat → Nat} {G : Gh} {p0 : Nat} (h0 : isF p0) {u : Mem} {q : Int32} (hf : FX2_soldWares p0 u = some q) : Ct shs ad G yX2_soldWares cX2_soldWares 3 (some .int) 0 0 [.ref (ad p0)] u (some (.int q)) u := by
  refine Ct_ofI (by decide) (Nat.le_of_ble_eq_true rfl) (fun X C hnL K => ?_)
  have C : Cx ad G X cX2_soldWares "CarryFair$Fair" 0 0 := C
  unfold FX2_soldWares at hf
  have Lp4 : ∀ (x0 : (Int32 × Int32)) (q4 : (Int32 × Int32)), lp (BX2_soldWares_4 p0 u) FU x0 = some q4 → V shs ad G X 37 [(0, .ref (ad p0)), (1, .int q4.1), (2, .int q4.2)] [] u → V shs ad G X 4 [(0, .ref (ad p0)), (1, .int x0.1), (2, .int x0.2)] [] u := by
    intro  x0 q4 hq hx4_0
    refine lp_V (BX2_soldWares_4 p0 u) (fun x4 => V shs ad G X 4 [(0, .ref (ad p0)), (1, .int x4.1), (2, .int x4.2)] [] u) q4 (fun rec4 ih4 x4 hf => ?_) FU x0 hq
    unfold BX2_soldWares_4 at hf
    refine V_iload_n C 2 dX2_soldWares_4 rfl rfl rfl ?_
    refine V_aload_n C 0 dX2_soldWares_5 rfl rfl rfl ?_
    refine V_getI C cf2 (sF h0) 7 rfl (by decide) w266 rfl dX2_soldWares_6 rfl ?_
    refine V_icmp_ge C dX2_soldWares_9 (tgt := 37) rfl rfl (fun c3 => ?_) (fun c3 => ?_)
    · replace hf := ipos c3 hf
      obtain rfl := Option.some.inj hf
      exact hx4_0
    · replace hf := ineg c3 hf
      refine V_aload_n C 0 dX2_soldWares_12 rfl rfl rfl ?_
      refine V_getR C cf2 (sF h0) 2 rfl (by decide) w251 rfl dX2_soldWares_13 rfl ?_
      refine V_iload_n C 2 dX2_soldWares_16 rfl rfl rfl ?_
      obtain ⟨g1, hf⟩ := gd hf
      refine V_aald C (sFw h0) (fun _ => rfl) g1 (sWag g1) dX2_soldWares_17 rfl ?_
      refine V_getI C cf7 (sWa h0 g1) 1 rfl (by decide) w238 rfl dX2_soldWares_18 rfl ?_
      refine V_iconst C dX2_soldWares_21 rfl (v := (-1)) (by decide) ?_
      refine V_icmp_eq C dX2_soldWares_22 (tgt := 31) rfl rfl (fun c2 => ?_) (fun c2 => ?_)
      · replace hf := ipos c2 hf
        refine V_iinc C (v := (x4.2 + 1)) (L' := [(0, .ref (ad p0)), (1, .int x4.1), (2, .int (x4.2 + 1))]) 2 dX2_soldWares_31 rfl rfl rfl (by decide) hnL [1, 2, 0] rfl ?_
        refine V_goto C dX2_soldWares_34 (tgt := 4) rfl ?_
        exact ih4 (x4.1, (x4.2 + 1)) hf
      · replace hf := ineg c2 hf
        refine V_iload_n C 1 dX2_soldWares_25 rfl rfl rfl ?_
        refine V_iconst C dX2_soldWares_26 rfl (v := 1) rfl ?_
        refine V_iload_n C 2 dX2_soldWares_27 rfl rfl rfl ?_
        refine V_jshl C dX2_soldWares_28 rfl ?_
        refine V_ior C dX2_soldWares_29 rfl ?_
        refine V_istore_n C (L' := [(0, .ref (ad p0)), (1, .int (x4.1 ||| (jshl 1 x4.2))), (2, .int x4.2)]) dX2_soldWares_30 rfl rfl (by decide) hnL [1, 0, 2] rfl ?_
        refine V_iinc C (v := (x4.2 + 1)) (L' := [(0, .ref (ad p0)), (1, .int (x4.1 ||| (jshl 1 x4.2))), (2, .int (x4.2 + 1))]) 2 dX2_soldWares_31 rfl rfl rfl (by decide) hnL [1, 2, 0] rfl ?_
        refine V_goto C dX2_soldWares_34 (tgt := 4) rfl ?_
        exact ih4 ((x4.1 ||| (jshl 1 x4.2)), (x4.2 + 1)) hf
  refine V_iconst C dX2_soldWares_0 rfl (v := 0) rfl ?_
  refine V_istore_n C (L' := [(0, .ref (ad p0)), (1, .int 0)]) dX2_soldWares_1 rfl rfl (by decide) hnL [1, 0] rfl ?_
  refine V_iconst C dX2_soldWares_2 rfl (v := 0) rfl ?_
  refine V_istore_n C (L' := [(0, .ref (ad p0)), (1, .int 0), (2, .int 0)]) dX2_soldWares_3 rfl rfl (by decide) hnL [1, 2, 0] rfl ?_
  obtain ⟨q4_4, hq4_4, hf⟩ := obd hf
  refine Lp4  (0, 0) q4_4 hq4_4 ?_
  refine V_iload_n C 1 dX2_soldWares_37 rfl rfl rfl ?_
  obtain rfl := Option.some.inj hf
  exact K _ _ _ dX2_soldWares_38 rfl rfl
set_option maxHeartbeats 4000000 in
set_option maxRecDepth 100000 in
theorem kX2_earnedByAll {ad : Nat → Nat} {G : Gh} {p0 : Nat} (h0 : isF p0) {u : Mem} {q : Int32} (hf : FX2_earnedByAll p0 u = some q) : Ct shs ad G yX2_earnedByAll cX2_earnedByAll 3 (some .int) 0 0 [.ref (ad p0)] u (some (.int q)) u := by
  refine Ct_ofI (by decide) (Nat.le_of_ble_eq_true rfl) (fun X C hnL K => ?_)
  have C : Cx ad G X cX2_earnedByAll "CarryFair$Fair" 0 0 := C
  unfold FX2_earnedByAll at hf
  have Lp4 : ∀ (x0 : (Int32 × Int32)) (q4 : (Int32 × Int32)), lp (BX2_earnedByAll_4 p0 u) FU x0 = some q4 → V shs ad G X 30 [(0, .ref (ad p0)), (1, .int q4.1), (2, .int q4.2)] [] u → V shs ad G X 4 [(0, .ref (ad p0)), (1, .int x0.1), (2, .int x0.2)] [] u := by
    intro  x0 q4 hq hx4_0
    refine lp_V (BX2_earnedByAll_4 p0 u) (fun x4 => V shs ad G X 4 [(0, .ref (ad p0)), (1, .int x4.1), (2, .int x4.2)] [] u) q4 (fun rec4 ih4 x4 hf => ?_) FU x0 hq
    unfold BX2_earnedByAll_4 at hf
    refine V_iload_n C 2 dX2_earnedByAll_4 rfl rfl rfl ?_
    refine V_aload_n C 0 dX2_earnedByAll_5 rfl rfl rfl ?_
    refine V_getI C cf2 (sF h0) 5 rfl (by decide) w259 rfl dX2_earnedByAll_6 rfl ?_
    refine V_icmp_ge C dX2_earnedByAll_9 (tgt := 30) rfl rfl (fun c2 => ?_) (fun c2 => ?_)
    · replace hf := ipos c2 hf
      obtain rfl := Option.some.inj hf
      exact hx4_0
    · replace hf := ineg c2 hf
      refine V_iload_n C 1 dX2_earnedByAll_12 rfl rfl rfl ?_
      refine V_aload_n C 0 dX2_earnedByAll_13 rfl rfl rfl ?_
      refine V_getR C cf2 (sF h0) 0 rfl (by decide) w245 rfl dX2_earnedByAll_14 rfl ?_
      refine V_iload_n C 2 dX2_earnedByAll_17 rfl rfl rfl ?_
      obtain ⟨g1, hf⟩ := gd hf
      refine V_aald C (sFc h0) (fun _ => rfl) g1 (sCag g1) dX2_earnedByAll_18 rfl ?_
      refine V_getI C cf0 (sCa h0 g1) 3 rfl (by decide) w182 rfl dX2_earnedByAll_19 rfl ?_
      refine V_iadd C dX2_earnedByAll_22 rfl ?_
      refine V_istore_n C (L' := [(0, .ref (ad p0)), (1, .int (x4.1 + (u (p0 + 12 + (x4.2).toNatClampNeg) 3))), (2, .int x4.2)]) dX2_earnedByAll_23 rfl rfl (by decide) hnL [1, 0, 2] rfl ?_
      refine V_iinc C (v := (x4.2 + 1)) (L' := [(0, .ref (ad p0)), (1, .int (x4.1 + (u (p0 + 12 + (x4.2).toNatClampNeg) 3))), (2, .int (x4.2 + 1))]) 2 dX2_earnedByAll_24 rfl rfl rfl (by decide) hnL [1, 2, 0] rfl ?_
      refine V_goto C dX2_earnedByAll_27 (tgt := 4) rfl ?_
      exact ih4 ((x4.1 + (u (p0 + 12 + (x4.2).toNatClampNeg) 3)), (x4.2 + 1)) hf
  refine V_iconst C dX2_earnedByAll_0 rfl (v := 0) rfl ?_
  refine V_istore_n C (L' := [(0, .ref (ad p0)), (1, .int 0)]) dX2_earnedByAll_1 rfl rfl (by decide) hnL [1, 0] rfl ?_
  refine V_iconst C dX2_earnedByAll_2 rfl (v := 0) rfl ?_
  refine V_istore_n C (L' := [(0, .ref (ad p0)), (1, .int 0), (2, .int 0)]) dX2_earnedByAll_3 rfl rfl (by decide) hnL [1, 2, 0] rfl ?_
  obtain ⟨q4_3, hq4_3, hf⟩ := obd hf
  refine Lp4  (0, 0) q4_3 hq4_3 ?_
  refine V_iload_n C 1 dX2_earnedByAll_30 rfl rfl rfl ?_
  obtain rfl := Option.some.inj hf
  exact K _ _ _ dX2_earnedByAll_31 rfl rfl
set_option maxHeartbeats 4000000 in
set_option maxRecDepth 100000 in
theorem kX2_walkedByAll {ad : Nat → Nat} {G : Gh} {p0 : Nat} (h0 : isF p0) {u : Mem} {q : Int32} (hf : FX2_walkedByAll p0 u = some q) : Ct shs ad G yX2_walkedByAll cX2_walkedByAll 3 (some .int) 0 0 [.ref (ad p0)] u (some (.int q)) u := by
  refine Ct_ofI (by decide) (Nat.le_of_ble_eq_true rfl) (fun X C hnL K => ?_)
  have C : Cx ad G X cX2_walkedByAll "CarryFair$Fair" 0 0 := C
  unfold FX2_walkedByAll at hf
  have Lp4 : ∀ (x0 : (Int32 × Int32)) (q4 : (Int32 × Int32)), lp (BX2_walkedByAll_4 p0 u) FU x0 = some q4 → V shs ad G X 30 [(0, .ref (ad p0)), (1, .int q4.1), (2, .int q4.2)] [] u → V shs ad G X 4 [(0, .ref (ad p0)), (1, .int x0.1), (2, .int x0.2)] [] u := by
    intro  x0 q4 hq hx4_0
    refine lp_V (BX2_walkedByAll_4 p0 u) (fun x4 => V shs ad G X 4 [(0, .ref (ad p0)), (1, .int x4.1), (2, .int x4.2)] [] u) q4 (fun rec4 ih4 x4 hf => ?_) FU x0 hq
    unfold BX2_walkedByAll_4 at hf
    refine V_iload_n C 2 dX2_walkedByAll_4 rfl rfl rfl ?_
    refine V_aload_n C 0 dX2_walkedByAll_5 rfl rfl rfl ?_
    refine V_getI C cf2 (sF h0) 5 rfl (by decide) w259 rfl dX2_walkedByAll_6 rfl ?_
    refine V_icmp_ge C dX2_walkedByAll_9 (tgt := 30) rfl rfl (fun c2 => ?_) (fun c2 => ?_)
    · replace hf := ipos c2 hf
      obtain rfl := Option.some.inj hf
      exact hx4_0
    · replace hf := ineg c2 hf
      refine V_iload_n C 1 dX2_walkedByAll_12 rfl rfl rfl ?_
      refine V_aload_n C 0 dX2_walkedByAll_13 rfl rfl rfl ?_
      refine V_getR C cf2 (sF h0) 0 rfl (by decide) w245 rfl dX2_walkedByAll_14 rfl ?_
      refine V_iload_n C 2 dX2_walkedByAll_17 rfl rfl rfl ?_
      obtain ⟨g1, hf⟩ := gd hf
      refine V_aald C (sFc h0) (fun _ => rfl) g1 (sCag g1) dX2_walkedByAll_18 rfl ?_
      refine V_getI C cf0 (sCa h0 g1) 4 rfl (by decide) w185 rfl dX2_walkedByAll_19 rfl ?_
      refine V_iadd C dX2_walkedByAll_22 rfl ?_
      refine V_istore_n C (L' := [(0, .ref (ad p0)), (1, .int (x4.1 + (u (p0 + 12 + (x4.2).toNatClampNeg) 4))), (2, .int x4.2)]) dX2_walkedByAll_23 rfl rfl (by decide) hnL [1, 0, 2] rfl ?_
      refine V_iinc C (v := (x4.2 + 1)) (L' := [(0, .ref (ad p0)), (1, .int (x4.1 + (u (p0 + 12 + (x4.2).toNatClampNeg) 4))), (2, .int (x4.2 + 1))]) 2 dX2_walkedByAll_24 rfl rfl rfl (by decide) hnL [1, 2, 0] rfl ?_
      refine V_goto C dX2_walkedByAll_27 (tgt := 4) rfl ?_
      exact ih4 ((x4.1 + (u (p0 + 12 + (x4.2).toNatClampNeg) 4)), (x4.2 + 1)) hf
  refine V_iconst C dX2_walkedByAll_0 rfl (v := 0) rfl ?_
  refine V_istore_n C (L' := [(0, .ref (ad p0)), (1, .int 0)]) dX2_walkedByAll_1 rfl rfl (by decide) hnL [1, 0] rfl ?_
  refine V_iconst C dX2_walkedByAll_2 rfl (v := 0) rfl ?_
  refine V_istore_n C (L' := [(0, .ref (ad p0)), (1, .int 0), (2, .int 0)]) dX2_walkedByAll_3 rfl rfl (by decide) hnL [1, 2, 0] rfl ?_
  obtain ⟨q4_3, hq4_3, hf⟩ := obd hf
  refine Lp4  (0, 0) q4_3 hq4_3 ?_
  refine V_iload_n C 1 dX2_walkedByAll_30 rfl rfl rfl ?_
  obtain rfl := Option.some.inj hf
  exact K _ _ _ dX2_walkedByAll_31 rfl rfl
set_option maxHeartbeats 4000000 in
set_option maxRecDepth 100000 in
theorem kX2_heldSpots {ad : Nat → Nat} {G : Gh} {p0 : Nat} (h0 : isF p0) {u : Mem} {q : Int32} (hf : FX2_heldSpots p0 u = some q) : Ct shs ad G yX2_heldSpots cX2_heldSpots 3 (some .int) 0 0 [.ref (ad p0)] u (some (.int q)) u := by
  refine Ct_ofI (by decide) (Nat.le_of_ble_eq_true rfl) (fun X C hnL K => ?_)
  have C : Cx ad G X cX2_heldSpots "CarryFair$Fair" 0 0 := C
  unfold FX2_heldSpots at hf
  have Lp4 : ∀ (x0 : (Int32 × Int32)) (q4 : (Int32 × Int32)), lp (BX2_heldSpots_4 p0 u) FU x0 = some q4 → V shs ad G X 29 [(0, .ref (ad p0)), (1, .int q4.1), (2, .int q4.2)] [] u → V shs ad G X 4 [(0, .ref (ad p0)), (1, .int x0.1), (2, .int x0.2)] [] u := by
    intro  x0 q4 hq hx4_0
    refine lp_V (BX2_heldSpots_4 p0 u) (fun x4 => V shs ad G X 4 [(0, .ref (ad p0)), (1, .int x4.1), (2, .int x4.2)] [] u) q4 (fun rec4 ih4 x4 hf => ?_) FU x0 hq
    unfold BX2_heldSpots_4 at hf
    refine V_iload_n C 2 dX2_heldSpots_4 rfl rfl rfl ?_
    refine V_bipush C dX2_heldSpots_5 rfl (v := 10) rfl ?_
    refine V_icmp_ge C dX2_heldSpots_7 (tgt := 29) rfl rfl (fun c3 => ?_) (fun c3 => ?_)
    · replace hf := ipos c3 hf
      obtain rfl := Option.some.inj hf
      exact hx4_0
    · replace hf := ineg c3 hf
      refine V_aload_n C 0 dX2_heldSpots_10 rfl rfl rfl ?_
      refine V_getR C cf2 (sF h0) 4 rfl (by decide) w257 rfl dX2_heldSpots_11 rfl ?_
      refine V_iload_n C 2 dX2_heldSpots_14 rfl rfl rfl ?_
      obtain ⟨g1, hf⟩ := gd hf
      refine V_ildJ C (sFs h0) g1 rfl dX2_heldSpots_15 rfl ?_
      refine V_iconst C dX2_heldSpots_16 rfl (v := (-1)) (by decide) ?_
      refine V_icmp_eq C dX2_heldSpots_17 (tgt := 23) rfl rfl (fun c2 => ?_) (fun c2 => ?_)
      · replace hf := ipos c2 hf
        refine V_iinc C (v := (x4.2 + 1)) (L' := [(0, .ref (ad p0)), (1, .int x4.1), (2, .int (x4.2 + 1))]) 2 dX2_heldSpots_23 rfl rfl rfl (by decide) hnL [1, 2, 0] rfl ?_
        refine V_goto C dX2_heldSpots_26 (tgt := 4) rfl ?_
        exact ih4 (x4.1, (x4.2 + 1)) hf
      · replace hf := ineg c2 hf
        refine V_iinc C (v := (x4.1 + 1)) (L' := [(0, .ref (ad p0)), (1, .int (x4.1 + 1)), (2, .int x4.2)]) 1 dX2_heldSpots_20 rfl rfl rfl (by decide) hnL [1, 0, 2] rfl ?_
        refine V_iinc C (v := (x4.2 + 1)) (L' := [(0, .ref (ad p0)), (1, .int (x4.1 + 1)), (2, .int (x4.2 + 1))]) 2 dX2_heldSpots_23 rfl rfl rfl (by decide) hnL [1, 2, 0] rfl ?_
        refine V_goto C dX2_heldSpots_26 (tgt := 4) rfl ?_
        exact ih4 ((x4.1 + 1), (x4.2 + 1)) hf
  refine V_iconst C dX2_heldSpots_0 rfl (v := 0) rfl ?_
  refine V_istore_n C (L' := [(0, .ref (ad p0)), (1, .int 0)]) dX2_heldSpots_1 rfl rfl (by decide) hnL [1, 0] rfl ?_
  refine V_iconst C dX2_heldSpots_2 rfl (v := 0) rfl ?_
  refine V_istore_n C (L' := [(0, .ref (ad p0)), (1, .int 0), (2, .int 0)]) dX2_heldSpots_3 rfl rfl (by decide) hnL [1, 2, 0] rfl ?_
  obtain ⟨q4_4, hq4_4, hf⟩ := obd hf
  refine Lp4  (0, 0) q4_4 hq4_4 ?_
  refine V_iload_n C 1 dX2_heldSpots_29 rfl rfl rfl ?_
  obtain rfl := Option.some.inj hf
  exact K _ _ _ dX2_heldSpots_30 rfl rfl
set_option maxHeartbeats 4000000 in
set_option maxRecDepth 100000 in
theorem kX8_yardsFor {S : List Shp} {ad : Nat → Nat} {G : Gh} {p0 : Nat} (h0 : isW S p0) {p1 : Int32} {p2 : Int32} {p3 : Int32} {u : Mem} {q : Int32} (hf : FX8_yardsFor p0 p1 p2 p3 u = some q) : Ct S ad G yX8_yardsFor cX8_yardsFor 4 (some .int) 0 0 [.ref (ad p0), .int p1, .int p2, .int p3] u (some (.int q)) u := by
  refine Ct_ofI (by decide) (Nat.le_of_ble_eq_true rfl) (fun X C hnL K => ?_)
  have C : Cx ad G X cX8_yardsFor "CarryFair$Ways" 0 0 := C
  unfold FX8_yardsFor at hf
  refine V_aload_n C 0 dX8_yardsFor_0 rfl rfl rfl ?_
  refine V_getR C cf8 (sW h0) 2 rfl (by decide) w155 rfl dX8_yardsFor_1 rfl ?_
  refine V_gait C w492 dX8_yardsFor_4 rfl ?_
  refine V_iload_n C 1 dX8_yardsFor_7 rfl rfl rfl ?_
  obtain ⟨g1, hf⟩ := gd hf
  refine V_gait_ld C g1 dX8_yardsFor_8 rfl ?_
  obtain ⟨g2, hf⟩ := gd hf
  refine V_aaldA C (sWt h0) (fun _ => rfl) g2 (sTag g2) dX8_yardsFor_9 rfl ?_
  refine V_iload_n C 2 dX8_yardsFor_10 rfl rfl rfl ?_
  refine V_bipush C dX8_yardsFor_11 rfl (v := 7) rfl ?_
  refine V_imul C dX8_yardsFor_13 rfl ?_
  refine V_iload_n C 3 dX8_yardsFor_14 rfl rfl rfl ?_
  refine V_iadd C dX8_yardsFor_15 rfl ?_
  obtain ⟨g3, hf⟩ := gd hf
  refine V_ildJ C (sTa h0 g2) g3 rfl dX8_yardsFor_16 rfl ?_
  obtain rfl := Option.some.inj hf
  exact K _ _ _ dX8_yardsFor_17 rfl rfl
set_option maxHeartbeats 4000000 in
set_option maxRecDepth 100000 in
theorem kX2_worthOf {ad : Nat → Nat} {G : Gh} {p0 : Nat} (h0 : isF p0) {p1 : Int32} {u : Mem} {q : Int32} (hf : FX2_worthOf p0 p1 u = some q) : Ct shs ad G yX2_worthOf cX2_worthOf 4 (some .int) 1 23 [.ref (ad p0), .int p1] u (some (.int q)) u := by
  refine Ct_ofI (by decide) (Nat.le_of_ble_eq_true rfl) (fun X C hnL K => ?_)
  have C : Cx ad G X cX2_worthOf "CarryFair$Fair" 1 23 := C
  unfold FX2_worthOf at hf
  refine V_aload_n C 0 dX2_worthOf_0 rfl rfl rfl ?_
  refine V_getR C cf2 (sF h0) 1 rfl (by decide) w248 rfl dX2_worthOf_1 rfl ?_
  refine V_iload_n C 1 dX2_worthOf_4 rfl rfl rfl ?_
  obtain ⟨g1, hf⟩ := gd hf
  refine V_aald C (sFe h0) (fun _ => rfl) g1 (sErg g1) dX2_worthOf_5 rfl ?_
  refine V_astore_n C (L' := [(0, .ref (ad p0)), (1, .int p1), (2, .ref (ad (p0 + 18 + (p1).toNatClampNeg)))]) dX2_worthOf_6 rfl rfl (by decide) hnL [1, 2, 0] rfl ?_
  refine V_aload_n C 0 dX2_worthOf_7 rfl rfl rfl ?_
  refine V_getR C cf2 (sF h0) 3 rfl (by decide) w253 rfl dX2_worthOf_8 rfl ?_
  refine V_iconst C dX2_worthOf_11 rfl (v := 0) rfl ?_
  refine V_aload_n C 2 dX2_worthOf_12 rfl rfl rfl ?_
  refine V_getI C cf1 (sEr h0 g1) 1 rfl (by decide) w208 rfl dX2_worthOf_13 rfl ?_
  refine V_aload_n C 2 dX2_worthOf_16 rfl rfl rfl ?_
  refine V_getI C cf1 (sEr h0 g1) 2 rfl (by decide) w212 rfl dX2_worthOf_17 rfl ?_
  obtain ⟨q2, hq2, hf⟩ := obd hf
  refine V_cVi C (b := (p0 + 4)) (As := [.int 0, .int (u (p0 + 18 + (p1).toNatClampNeg) 1), .int (u (p0 + 18 + (p1).toNatClampNeg) 2)]) (st := []) cf8 (sW (wF h0)) M_X8_yardsFor w488 ⟨by decide, by decide⟩ rfl rfl (Nat.le_of_ble_eq_true rfl) dX2_worthOf_20 rfl (kX8_yardsFor (wF h0) hq2) ?_
  refine V_istore_n C (L' := [(0, .ref (ad p0)), (1, .int p1), (2, .ref (ad (p0 + 18 + (p1).toNatClampNeg))), (3, .int q2)]) dX2_worthOf_23 rfl rfl (by decide) hnL [1, 2, 3, 0] rfl ?_
  refine V_iload_n C 3 dX2_worthOf_24 rfl rfl rfl ?_
  refine V_ldc C dX2_worthOf_25 rfl w494 ?_
  refine V_icmp_lt C dX2_worthOf_27 (tgt := 35) rfl rfl (fun c3 => ?_) (fun c3 => ?_)
  · replace hf := ipos c3 hf
    refine V_aload_n C 2 dX2_worthOf_35 rfl rfl rfl ?_
    refine V_getI C cf1 (sEr h0 g1) 0 rfl (by decide) w204 rfl dX2_worthOf_36 rfl ?_
    refine V_iload_n C 3 dX2_worthOf_39 rfl rfl rfl ?_
    refine V_imul C dX2_worthOf_40 rfl ?_
    obtain rfl := Option.some.inj hf
    exact K _ _ _ dX2_worthOf_41 rfl rfl
  · replace hf := ineg c3 hf
    refine V_ldc C dX2_worthOf_30 rfl w494 ?_
    refine V_goto C dX2_worthOf_32 (tgt := 41) rfl ?_
    obtain rfl := Option.some.inj hf
    exact K _ _ _ dX2_worthOf_41 rfl rfl
set_option maxHeartbeats 4000000 in
set_option maxRecDepth 100000 in
theorem kX3_payFor {S : List Shp} {ad : Nat → Nat} {G : Gh} {p0 : Int32} {p1 : Int32} {u : Mem} {q : Int32} (hf : FX3_payFor p0 p1 = q) : Ct S ad G yX3_payFor cX3_payFor 2 (some .int) 0 0 [.int p0, .int p1] u (some (.int q)) u := by
  refine Ct_ofI (by decide) (Nat.le_of_ble_eq_true rfl) (fun X C hnL K => ?_)
  have C : Cx ad G X cX3_payFor "CarryFair$Kinds" 0 0 := C
  unfold FX3_payFor at hf
  refine V_iload_n C 0 dX3_payFor_0 rfl rfl rfl ?_
  by_cases c1 : p0 = 2
  · replace hf := ipos c1 hf
    refine V_tin C dX3_payFor_1 2 c1 (by decide) (by decide) rfl (tgt := 28) rfl ?_
    refine V_iload_n C 1 dX3_payFor_28 rfl rfl rfl ?_
    refine V_iconst C dX3_payFor_29 rfl (v := 2) rfl ?_
    refine V_idiv C dX3_payFor_30 rfl (by decide) ?_
    subst hf
    exact K _ _ _ dX3_payFor_31 rfl rfl
  replace hf := ineg c1 hf
  by_cases c2 : p0 = 3
  · replace hf := ipos c2 hf
    refine V_tin C dX3_payFor_1 3 c2 (by decide) (by decide) rfl (tgt := 38) rfl ?_
    refine V_iload_n C 1 dX3_payFor_38 rfl rfl rfl ?_
    refine V_iload_n C 1 dX3_payFor_39 rfl rfl rfl ?_
    refine V_bipush C dX3_payFor_40 rfl (v := 10) rfl ?_
    refine V_idiv C dX3_payFor_42 rfl (by decide) ?_
    refine V_iadd C dX3_payFor_43 rfl ?_
    subst hf
    exact K _ _ _ dX3_payFor_44 rfl rfl
  replace hf := ineg c2 hf
  by_cases c3 : p0 = 4
  · replace hf := ipos c3 hf
    refine V_tin C dX3_payFor_1 4 c3 (by decide) (by decide) rfl (tgt := 32) rfl ?_
    refine V_iload_n C 1 dX3_payFor_32 rfl rfl rfl ?_
    refine V_iconst C dX3_payFor_33 rfl (v := 2) rfl ?_
    refine V_idiv C dX3_payFor_34 rfl (by decide) ?_
    refine V_iconst C dX3_payFor_35 rfl (v := 1) rfl ?_
    refine V_iadd C dX3_payFor_36 rfl ?_
    subst hf
    exact K _ _ _ dX3_payFor_37 rfl rfl
  replace hf := ineg c3 hf
  refine V_tout C dX3_payFor_1 (by have nc1 := lv_neT (a := 2) c1 (by decide); have nc2 := lv_neT (a := 3) c2 (by decide); have nc3 := lv_neT (a := 4) c3 (by decide); omega) (tgt := 45) rfl ?_
  refine V_iload_n C 1 dX3_payFor_45 rfl rfl rfl ?_
  subst hf
  exact K _ _ _ dX3_payFor_46 rfl rfl
set_option maxHeartbeats 4000000 in
set_option maxRecDepth 100000 in
theorem kX2_payFor {ad : Nat → Nat} {G : Gh} {p0 : Nat} (h0 : isF p0) {p1 : Int32} {p2 : Int32} {u : Mem} {q : Int32} (hf : FX2_payFor p0 p1 p2 u = some q) : Ct shs ad G yX2_payFor cX2_payFor 4 (some .int) 2 46 [.ref (ad p0), .int p1, .int p2] u (some (.int q)) u := by
  refine Ct_ofI (by decide) (Nat.le_of_ble_eq_true rfl) (fun X C hnL K => ?_)
  have C : Cx ad G X cX2_payFor "CarryFair$Fair" 2 46 := C
  unfold FX2_payFor at hf
  refine V_aload_n C 0 dX2_payFor_0 rfl rfl rfl ?_
  refine V_iload_n C 2 dX2_payFor_1 rfl rfl rfl ?_
  obtain ⟨q1, hq1, hf⟩ := obd hf
  refine V_cVi C (b := p0) (As := [.int p2]) (st := []) cf2 (sF h0) M_X2_worthOf w572 ⟨by decide, by decide⟩ rfl rfl (Nat.le_of_ble_eq_true rfl) dX2_payFor_2 rfl (kX2_worthOf h0 hq1) ?_
  refine V_istore_n C (L' := [(0, .ref (ad p0)), (1, .int p1), (2, .int p2), (3, .int q1)]) dX2_payFor_5 rfl rfl (by decide) hnL [1, 2, 3, 0] rfl ?_
  refine V_iload_n C 3 dX2_payFor_6 rfl rfl rfl ?_
  refine V_ldc C dX2_payFor_7 rfl w494 ?_
  refine V_icmp_lt C dX2_payFor_9 (tgt := 16) rfl rfl (fun c3 => ?_) (fun c3 => ?_)
  · replace hf := ipos c3 hf
    refine V_aload_n C 0 dX2_payFor_16 rfl rfl rfl ?_
    refine V_getR C cf2 (sF h0) 0 rfl (by decide) w245 rfl dX2_payFor_17 rfl ?_
    refine V_iload_n C 1 dX2_payFor_20 rfl rfl rfl ?_
    obtain ⟨g2, hf⟩ := gd hf
    refine V_aald C (sFc h0) (fun _ => rfl) g2 (sCag g2) dX2_payFor_21 rfl ?_
    refine V_getI C cf0 (sCa h0 g2) 0 rfl (by decide) w171 rfl dX2_payFor_22 rfl ?_
    refine V_iload_n C 3 dX2_payFor_25 rfl rfl rfl ?_
    refine V_cSi C (As := [.int (u (p0 + 12 + (p1).toNatClampNeg) 0), .int q1]) (st := []) M_X3_payFor w573 ⟨by decide, by decide⟩ rfl rfl (Nat.le_of_ble_eq_true rfl) dX2_payFor_26 rfl (kX3_payFor rfl) ?_
    obtain rfl := Option.some.inj hf
    exact K _ _ _ dX2_payFor_29 rfl rfl
  · replace hf := ineg c3 hf
    refine V_iconst C dX2_payFor_12 rfl (v := 0) rfl ?_
    refine V_goto C dX2_payFor_13 (tgt := 29) rfl ?_
    obtain rfl := Option.some.inj hf
    exact K _ _ _ dX2_payFor_29 rfl rfl
set_option maxHeartbeats 4000000 in
set_option maxRecDepth 100000 in
theorem kX2_payOf {ad : Nat → Nat} {G : Gh} {p0 : Nat} (h0 : isF p0) {p1 : Int32} {p2 : Int32} {u : Mem} {q : Int32} (hf : FX2_payOf p0 p1 p2 u = some q) : Ct shs ad G yX2_payOf cX2_payOf 5 (some .int) 3 69 [.ref (ad p0), .int p1, .int p2] u (some (.int q)) u := by
  refine Ct_ofI (by decide) (Nat.le_of_ble_eq_true rfl) (fun X C hnL K => ?_)
  have C : Cx ad G X cX2_payOf "CarryFair$Fair" 3 69 := C
  unfold FX2_payOf at hf
  have Lp5 : ∀ (x0 : (Int32 × Int32)) (q5 : (Int32 × Int32)), lp (BX2_payOf_5 p0 p1 p2 u) FU x0 = some q5 → V shs ad G X 39 [(0, .ref (ad p0)), (1, .int p1), (2, .int p2), (3, .int q5.1), (4, .int q5.2)] [] u → V shs ad G X 5 [(0, .ref (ad p0)), (1, .int p1), (2, .int p2), (3, .int x0.1), (4, .int x0.2)] [] u := by
    intro  x0 q5 hq hx5_0
    refine lp_V (BX2_payOf_5 p0 p1 p2 u) (fun x5 => V shs ad G X 5 [(0, .ref (ad p0)), (1, .int p1), (2, .int p2), (3, .int x5.1), (4, .int x5.2)] [] u) q5 (fun rec5 ih5 x5 hf => ?_) FU x0 hq
    unfold BX2_payOf_5 at hf
    refine V_iload C 4 dX2_payOf_5 rfl rfl ?_
    refine V_aload_n C 0 dX2_payOf_7 rfl rfl rfl ?_
    refine V_getI C cf2 (sF h0) 6 rfl (by decide) w262 rfl dX2_payOf_8 rfl ?_
    refine V_icmp_ge C dX2_payOf_11 (tgt := 39) rfl rfl (fun c3 => ?_) (fun c3 => ?_)
    · replace hf := ipos c3 hf
      obtain rfl := Option.some.inj hf
      exact hx5_0
    · replace hf := ineg c3 hf
      refine V_iload_n C 2 dX2_payOf_14 rfl rfl rfl ?_
      refine V_iload C 4 dX2_payOf_15 rfl rfl ?_
      refine V_cNi C (As := [.int p2, .int x5.2]) (st := []) M_X9_has (host := "CarryFair") (by decide +kernel) ⟨by decide, by decide⟩ rfl rfl (Nat.le_of_ble_eq_true rfl) dX2_payOf_17 rfl (kX9_has rfl) ?_
      refine V_if_eq C dX2_payOf_20 (tgt := 33) rfl rfl (fun c2 => ?_) (fun c2 => ?_)
      · replace hf := ipos c2 hf
        refine V_iinc C (v := (x5.2 + 1)) (L' := [(0, .ref (ad p0)), (1, .int p1), (2, .int p2), (3, .int x5.1), (4, .int (x5.2 + 1))]) 4 dX2_payOf_33 rfl rfl rfl (by decide) hnL [1, 2, 3, 4, 0] rfl ?_
        refine V_goto C dX2_payOf_36 (tgt := 5) rfl ?_
        exact ih5 (x5.1, (x5.2 + 1)) hf
      · replace hf := ineg c2 hf
        refine V_iload_n C 3 dX2_payOf_23 rfl rfl rfl ?_
        refine V_aload_n C 0 dX2_payOf_24 rfl rfl rfl ?_
        refine V_iload_n C 1 dX2_payOf_25 rfl rfl rfl ?_
        refine V_iload C 4 dX2_payOf_26 rfl rfl ?_
        obtain ⟨q1, hq1, hf⟩ := obd hf
        refine V_cVi C (b := p0) (As := [.int p1, .int x5.2]) (st := [.int x5.1]) cf2 (sF h0) M_X2_payFor w568 ⟨by decide, by decide⟩ rfl rfl (Nat.le_of_ble_eq_true rfl) dX2_payOf_28 rfl (kX2_payFor h0 hq1) ?_
        refine V_iadd C dX2_payOf_31 rfl ?_
        refine V_istore_n C (L' := [(0, .ref (ad p0)), (1, .int p1), (2, .int p2), (3, .int (x5.1 + q1)), (4, .int x5.2)]) dX2_payOf_32 rfl rfl (by decide) hnL [1, 2, 3, 0, 4] rfl ?_
        refine V_iinc C (v := (x5.2 + 1)) (L' := [(0, .ref (ad p0)), (1, .int p1), (2, .int p2), (3, .int (x5.1 + q1)), (4, .int (x5.2 + 1))]) 4 dX2_payOf_33 rfl rfl rfl (by decide) hnL [1, 2, 3, 4, 0] rfl ?_
        refine V_goto C dX2_payOf_36 (tgt := 5) rfl ?_
        exact ih5 ((x5.1 + q1), (x5.2 + 1)) hf
  refine V_iconst C dX2_payOf_0 rfl (v := 0) rfl ?_
  refine V_istore_n C (L' := [(0, .ref (ad p0)), (1, .int p1), (2, .int p2), (3, .int 0)]) dX2_payOf_1 rfl rfl (by decide) hnL [1, 2, 3, 0] rfl ?_
  refine V_iconst C dX2_payOf_2 rfl (v := 0) rfl ?_
  refine V_istore C (L' := [(0, .ref (ad p0)), (1, .int p1), (2, .int p2), (3, .int 0), (4, .int 0)]) dX2_payOf_3 rfl (by decide) hnL [1, 2, 3, 4, 0] rfl ?_
  obtain ⟨q5_4, hq5_4, hf⟩ := obd hf
  refine Lp5  (0, 0) q5_4 hq5_4 ?_
  refine V_iload_n C 3 dX2_payOf_39 rfl rfl rfl ?_
  obtain rfl := Option.some.inj hf
  exact K _ _ _ dX2_payOf_40 rfl rfl
set_option maxHeartbeats 4000000 in
set_option maxRecDepth 100000 in
theorem kX2_paysJust {ad : Nat → Nat} {G : Gh} {p0 : Nat} (h0 : isF p0) {p1 : Int32} {p2 : Int32} {p3 : Int32} {u : Mem} {q : Int32} (hf : FX2_paysJust p0 p1 p2 p3 u = some q) : Ct shs ad G yX2_paysJust cX2_paysJust 8 (some .boolean) 3 69 [.ref (ad p0), .int p1, .int p2, .int p3] u (some (.int q)) u := by
  refine Ct_ofI (by decide) (Nat.le_of_ble_eq_true rfl) (fun X C hnL K => ?_)
  have C : Cx ad G X cX2_paysJust "CarryFair$Fair" 3 69 := C
  unfold FX2_paysJust at hf
  have Lp24 : ∀ (x0 : (Int32 × Int32 × Int32)) (q24 : (Int32 × Int32 × Int32)), lp (BX2_paysJust_24 p0 p1 p2 p3 u) FU x0 = some q24 → V shs ad G X 73 [(0, .ref (ad p0)), (1, .int p1), (2, .int p2), (3, .int p3), (4, .int q24.1), (5, .int q24.2.1), (6, .int q24.2.2)] [] u → V shs ad G X 24 [(0, .ref (ad p0)), (1, .int p1), (2, .int p2), (3, .int p3), (4, .int x0.1), (5, .int x0.2.1), (6, .int x0.2.2)] [] u := by
    intro  x0 q24 hq hx24_0
    refine lp_V (BX2_paysJust_24 p0 p1 p2 p3 u) (fun x24 => V shs ad G X 24 [(0, .ref (ad p0)), (1, .int p1), (2, .int p2), (3, .int p3), (4, .int x24.1), (5, .int x24.2.1), (6, .int x24.2.2)] [] u) q24 (fun rec24 ih24 x24 hf => ?_) FU x0 hq
    unfold BX2_paysJust_24 at hf
    refine V_iload C 6 dX2_paysJust_24 rfl rfl ?_
    refine V_aload_n C 0 dX2_paysJust_26 rfl rfl rfl ?_
    refine V_getI C cf2 (sF h0) 6 rfl (by decide) w262 rfl dX2_paysJust_27 rfl ?_
    refine V_icmp_ge C dX2_paysJust_30 (tgt := 73) rfl rfl (fun c3 => ?_) (fun c3 => ?_)
    · replace hf := ipos c3 hf
      obtain rfl := Option.some.inj hf
      exact hx24_0
    · replace hf := ineg c3 hf
      refine V_iload_n C 2 dX2_paysJust_33 rfl rfl rfl ?_
      refine V_iload C 6 dX2_paysJust_34 rfl rfl ?_
      refine V_cNi C (As := [.int p2, .int x24.2.2]) (st := []) M_X9_has (host := "CarryFair") (by decide +kernel) ⟨by decide, by decide⟩ rfl rfl (Nat.le_of_ble_eq_true rfl) dX2_paysJust_36 rfl (kX9_has rfl) ?_
      refine V_if_eq C dX2_paysJust_39 (tgt := 67) rfl rfl (fun c2 => ?_) (fun c2 => ?_)
      · replace hf := ipos c2 hf
        refine V_iinc C (v := (x24.2.2 + 1)) (L' := [(0, .ref (ad p0)), (1, .int p1), (2, .int p2), (3, .int p3), (4, .int x24.1), (5, .int x24.2.1), (6, .int (x24.2.2 + 1))]) 6 dX2_paysJust_67 rfl rfl rfl (by decide) hnL [1, 2, 3, 4, 5, 6, 0] rfl ?_
        refine V_goto C dX2_paysJust_70 (tgt := 24) rfl ?_
        exact ih24 (x24.1, x24.2.1, (x24.2.2 + 1)) hf
      · replace hf := ineg c2 hf
        refine V_aload_n C 0 dX2_paysJust_42 rfl rfl rfl ?_
        refine V_iload_n C 1 dX2_paysJust_43 rfl rfl rfl ?_
        refine V_iload C 6 dX2_paysJust_44 rfl rfl ?_
        obtain ⟨q1, hq1, hf⟩ := obd hf
        refine V_cVi C (b := p0) (As := [.int p1, .int x24.2.2]) (st := []) cf2 (sF h0) M_X2_payFor w568 ⟨by decide, by decide⟩ rfl rfl (Nat.le_of_ble_eq_true rfl) dX2_paysJust_46 rfl (kX2_payFor h0 hq1) ?_
        refine V_istore C (L' := [(0, .ref (ad p0)), (1, .int p1), (2, .int p2), (3, .int p3), (4, .int x24.1), (5, .int x24.2.1), (6, .int x24.2.2), (7, .int q1)]) dX2_paysJust_49 rfl (by decide) hnL [1, 2, 3, 4, 5, 6, 7, 0] rfl ?_
        refine V_iload C 4 dX2_paysJust_51 rfl rfl ?_
        refine V_iload C 7 dX2_paysJust_53 rfl rfl ?_
        refine V_iadd C dX2_paysJust_55 rfl ?_
        refine V_istore C (L' := [(0, .ref (ad p0)), (1, .int p1), (2, .int p2), (3, .int p3), (4, .int (x24.1 + q1)), (5, .int x24.2.1), (6, .int x24.2.2), (7, .int q1)]) dX2_paysJust_56 rfl (by decide) hnL [1, 2, 3, 4, 0, 5, 6, 7] rfl ?_
        refine V_iload C 5 dX2_paysJust_58 rfl rfl ?_
        refine V_iload C 7 dX2_paysJust_60 rfl rfl ?_
        refine V_mmin C w701 ⟨by decide, by decide⟩ (Nat.le_of_ble_eq_true rfl) dX2_paysJust_62 rfl ?_
        refine V_istore C (L' := [(0, .ref (ad p0)), (1, .int p1), (2, .int p2), (3, .int p3), (4, .int (x24.1 + q1)), (5, .int (jmin x24.2.1 q1)), (6, .int x24.2.2), (7, .int q1)]) dX2_paysJust_65 rfl (by decide) hnL [1, 2, 3, 4, 5, 0, 6, 7] rfl ?_
        refine V_iinc C (v := (x24.2.2 + 1)) (L' := [(0, .ref (ad p0)), (1, .int p1), (2, .int p2), (3, .int p3), (4, .int (x24.1 + q1)), (5, .int (jmin x24.2.1 q1)), (6, .int (x24.2.2 + 1)), (7, .int q1)]) 6 dX2_paysJust_67 rfl rfl rfl (by decide) hnL [1, 2, 3, 4, 5, 6, 0, 7] rfl ?_
        refine V_goto C dX2_paysJust_70 (tgt := 24) rfl ?_
        refine V_sub (L' := [(0, .ref (ad p0)), (1, .int p1), (2, .int p2), (3, .int p3), (4, .int (x24.1 + q1)), (5, .int (jmin x24.2.1 q1)), (6, .int (x24.2.2 + 1))]) [0, 1, 2, 3, 4, 5, 6] rfl ?_
        exact ih24 ((x24.1 + q1), (jmin x24.2.1 q1), (x24.2.2 + 1)) hf
  refine V_iload_n C 3 dX2_paysJust_0 rfl rfl rfl ?_
  refine V_if_gt C dX2_paysJust_1 (tgt := 14) rfl rfl (fun c8 => ?_) (fun c8 => ?_)
  · replace hf := ipos c8 hf
    refine V_iconst C dX2_paysJust_14 rfl (v := 0) rfl ?_
    refine V_istore C (L' := [(0, .ref (ad p0)), (1, .int p1), (2, .int p2), (3, .int p3), (4, .int 0)]) dX2_paysJust_15 rfl (by decide) hnL [1, 2, 3, 4, 0] rfl ?_
    refine V_ldc C dX2_paysJust_17 rfl w494 ?_
    refine V_istore C (L' := [(0, .ref (ad p0)), (1, .int p1), (2, .int p2), (3, .int p3), (4, .int 0), (5, .int 1000000)]) dX2_paysJust_19 rfl (by decide) hnL [1, 2, 3, 4, 5, 0] rfl ?_
    refine V_iconst C dX2_paysJust_21 rfl (v := 0) rfl ?_
    refine V_istore C (L' := [(0, .ref (ad p0)), (1, .int p1), (2, .int p2), (3, .int p3), (4, .int 0), (5, .int 1000000), (6, .int 0)]) dX2_paysJust_22 rfl (by decide) hnL [1, 2, 3, 4, 5, 6, 0] rfl ?_
    obtain ⟨q24_4, hq24_4, hf⟩ := obd hf
    refine Lp24  (0, 1000000, 0) q24_4 hq24_4 ?_
    refine V_iload C 4 dX2_paysJust_73 rfl rfl ?_
    refine V_iload_n C 3 dX2_paysJust_75 rfl rfl rfl ?_
    refine V_icmp_lt C dX2_paysJust_76 (tgt := 92) rfl rfl (fun c6 => ?_) (fun c6 => ?_)
    · replace hf := ipos c6 hf
      refine V_iconst C dX2_paysJust_92 rfl (v := 0) rfl ?_
      obtain rfl := Option.some.inj hf
      exact K _ _ _ dX2_paysJust_93 rfl (by decide)
    · replace hf := ineg c6 hf
      refine V_iload C 4 dX2_paysJust_79 rfl rfl ?_
      refine V_iload C 5 dX2_paysJust_81 rfl rfl ?_
      refine V_isub C dX2_paysJust_83 rfl ?_
      refine V_iload_n C 3 dX2_paysJust_84 rfl rfl rfl ?_
      refine V_icmp_ge C dX2_paysJust_85 (tgt := 92) rfl rfl (fun c5 => ?_) (fun c5 => ?_)
      · replace hf := ipos c5 hf
        refine V_iconst C dX2_paysJust_92 rfl (v := 0) rfl ?_
        obtain rfl := Option.some.inj hf
        exact K _ _ _ dX2_paysJust_93 rfl (by decide)
      · replace hf := ineg c5 hf
        refine V_iconst C dX2_paysJust_88 rfl (v := 1) rfl ?_
        refine V_goto C dX2_paysJust_89 (tgt := 93) rfl ?_
        obtain rfl := Option.some.inj hf
        exact K _ _ _ dX2_paysJust_93 rfl (by decide)
  · replace hf := ineg c8 hf
    refine V_iload_n C 2 dX2_paysJust_4 rfl rfl rfl ?_
    refine V_if_ne C dX2_paysJust_5 (tgt := 12) rfl rfl (fun c7 => ?_) (fun c7 => ?_)
    · replace hf := ineg c7 hf
      refine V_iconst C dX2_paysJust_12 rfl (v := 0) rfl ?_
      obtain rfl := Option.some.inj hf
      exact K _ _ _ dX2_paysJust_13 rfl (by decide)
    · replace hf := ipos c7 hf
      refine V_iconst C dX2_paysJust_8 rfl (v := 1) rfl ?_
      refine V_goto C dX2_paysJust_9 (tgt := 13) rfl ?_
      obtain rfl := Option.some.inj hf
      exact K _ _ _ dX2_paysJust_13 rfl (by decide)
set_option maxHeartbeats 4000000 in
set_option maxRecDepth 100000 in
theorem kX2_yardsTo {ad : Nat → Nat} {G : Gh} {p0 : Nat} (h0 : isF p0) {p1 : Int32} {p2 : Int32} {u : Mem} {q : Int32} (hf : FX2_yardsTo p0 p1 p2 u = some q) : Ct shs ad G yX2_yardsTo cX2_yardsTo 3 (some .int) 1 23 [.ref (ad p0), .int p1, .int p2] u (some (.int q)) u := by
  refine Ct_ofI (by decide) (Nat.le_of_ble_eq_true rfl) (fun X C hnL K => ?_)
  have C : Cx ad G X cX2_yardsTo "CarryFair$Fair" 1 23 := C
  unfold FX2_yardsTo at hf
  refine V_aload_n C 0 dX2_yardsTo_0 rfl rfl rfl ?_
  refine V_getR C cf2 (sF h0) 3 rfl (by decide) w253 rfl dX2_yardsTo_1 rfl ?_
  refine V_aload_n C 0 dX2_yardsTo_4 rfl rfl rfl ?_
  refine V_getR C cf2 (sF h0) 0 rfl (by decide) w245 rfl dX2_yardsTo_5 rfl ?_
  refine V_iload_n C 1 dX2_yardsTo_8 rfl rfl rfl ?_
  obtain ⟨g1, hf⟩ := gd hf
  refine V_aald C (sFc h0) (fun _ => rfl) g1 (sCag g1) dX2_yardsTo_9 rfl ?_
  refine V_getI C cf0 (sCa h0 g1) 0 rfl (by decide) w171 rfl dX2_yardsTo_10 rfl ?_
  refine V_aload_n C 0 dX2_yardsTo_13 rfl rfl rfl ?_
  refine V_getR C cf2 (sF h0) 0 rfl (by decide) w245 rfl dX2_yardsTo_14 rfl ?_
  refine V_iload_n C 1 dX2_yardsTo_17 rfl rfl rfl ?_
  obtain ⟨g2, hf⟩ := gd hf
  refine V_aald C (sFc h0) (fun _ => rfl) g2 (sCag g2) dX2_yardsTo_18 rfl ?_
  refine V_getI C cf0 (sCa h0 g2) 1 rfl (by decide) w175 rfl dX2_yardsTo_19 rfl ?_
  refine V_iload_n C 2 dX2_yardsTo_22 rfl rfl rfl ?_
  obtain ⟨q3, hq3, hf⟩ := obd hf
  refine V_cVi C (b := (p0 + 4)) (As := [.int (u (p0 + 12 + (p1).toNatClampNeg) 0), .int (u (p0 + 12 + (p1).toNatClampNeg) 1), .int p2]) (st := []) cf8 (sW (wF h0)) M_X8_yardsFor w488 ⟨by decide, by decide⟩ rfl rfl (Nat.le_of_ble_eq_true rfl) dX2_yardsTo_23 rfl (kX8_yardsFor (wF h0) hq3) ?_
  obtain rfl := Option.some.inj hf
  exact K _ _ _ dX2_yardsTo_26 rfl rfl
set_option maxHeartbeats 4000000 in
set_option maxRecDepth 100000 in
theorem kX2_canComeToBoth {ad : Nat → Nat} {G : Gh} {p0 : Nat} (h0 : isF p0) {p1 : Int32} {p2 : Int32} {u : Mem} {q : Int32} (hf : FX2_canComeToBoth p0 p1 p2 u = some q) : Ct shs ad G yX2_canComeToBoth cX2_canComeToBoth 3 (some .boolean) 2 45 [.ref (ad p0), .int p1, .int p2] u (some (.int q)) u := by
  refine Ct_ofI (by decide) (Nat.le_of_ble_eq_true rfl) (fun X C hnL K => ?_)
  have C : Cx ad G X cX2_canComeToBoth "CarryFair$Fair" 2 45 := C
  unfold FX2_canComeToBoth at hf
  refine V_aload_n C 0 dX2_canComeToBoth_0 rfl rfl rfl ?_
  refine V_iload_n C 1 dX2_canComeToBoth_1 rfl rfl rfl ?_
  refine V_aload_n C 0 dX2_canComeToBoth_2 rfl rfl rfl ?_
  refine V_getR C cf2 (sF h0) 1 rfl (by decide) w248 rfl dX2_canComeToBoth_3 rfl ?_
  refine V_iload_n C 2 dX2_canComeToBoth_6 rfl rfl rfl ?_
  obtain ⟨g1, hf⟩ := gd hf
  refine V_aald C (sFe h0) (fun _ => rfl) g1 (sErg g1) dX2_canComeToBoth_7 rfl ?_
  refine V_getI C cf1 (sEr h0 g1) 1 rfl (by decide) w208 rfl dX2_canComeToBoth_8 rfl ?_
  obtain ⟨q2, hq2, hf⟩ := obd hf
  refine V_cVi C (b := p0) (As := [.int p1, .int (u (p0 + 18 + (p2).toNatClampNeg) 1)]) (st := []) cf2 (sF h0) M_X2_yardsTo w567 ⟨by decide, by decide⟩ rfl rfl (Nat.le_of_ble_eq_true rfl) dX2_canComeToBoth_11 rfl (kX2_yardsTo h0 hq2) ?_
  refine V_ldc C dX2_canComeToBoth_14 rfl w494 ?_
  refine V_icmp_ge C dX2_canComeToBoth_16 (tgt := 42) rfl rfl (fun c6 => ?_) (fun c6 => ?_)
  · replace hf := ipos c6 hf
    refine V_iconst C dX2_canComeToBoth_42 rfl (v := 0) rfl ?_
    obtain rfl := Option.some.inj hf
    exact K _ _ _ dX2_canComeToBoth_43 rfl (by decide)
  · replace hf := ineg c6 hf
    refine V_aload_n C 0 dX2_canComeToBoth_19 rfl rfl rfl ?_
    refine V_iload_n C 1 dX2_canComeToBoth_20 rfl rfl rfl ?_
    refine V_aload_n C 0 dX2_canComeToBoth_21 rfl rfl rfl ?_
    refine V_getR C cf2 (sF h0) 1 rfl (by decide) w248 rfl dX2_canComeToBoth_22 rfl ?_
    refine V_iload_n C 2 dX2_canComeToBoth_25 rfl rfl rfl ?_
    obtain ⟨g3, hf⟩ := gd hf
    refine V_aald C (sFe h0) (fun _ => rfl) g3 (sErg g3) dX2_canComeToBoth_26 rfl ?_
    refine V_getI C cf1 (sEr h0 g3) 2 rfl (by decide) w212 rfl dX2_canComeToBoth_27 rfl ?_
    obtain ⟨q4, hq4, hf⟩ := obd hf
    refine V_cVi C (b := p0) (As := [.int p1, .int (u (p0 + 18 + (p2).toNatClampNeg) 2)]) (st := []) cf2 (sF h0) M_X2_yardsTo w567 ⟨by decide, by decide⟩ rfl rfl (Nat.le_of_ble_eq_true rfl) dX2_canComeToBoth_30 rfl (kX2_yardsTo h0 hq4) ?_
    refine V_ldc C dX2_canComeToBoth_33 rfl w494 ?_
    refine V_icmp_ge C dX2_canComeToBoth_35 (tgt := 42) rfl rfl (fun c5 => ?_) (fun c5 => ?_)
    · replace hf := ipos c5 hf
      refine V_iconst C dX2_canComeToBoth_42 rfl (v := 0) rfl ?_
      obtain rfl := Option.some.inj hf
      exact K _ _ _ dX2_canComeToBoth_43 rfl (by decide)
    · replace hf := ineg c5 hf
      refine V_iconst C dX2_canComeToBoth_38 rfl (v := 1) rfl ?_
      refine V_goto C dX2_canComeToBoth_39 (tgt := 43) rfl ?_
      obtain rfl := Option.some.inj hf
      exact K _ _ _ dX2_canComeToBoth_43 rfl (by decide)
set_option maxHeartbeats 4000000 in
set_option maxRecDepth 100000 in
theorem kX2_canComeToAll {ad : Nat → Nat} {G : Gh} {p0 : Nat} (h0 : isF p0) {p1 : Int32} {p2 : Int32} {u : Mem} {q : Int32} (hf : FX2_canComeToAll p0 p1 p2 u = some q) : Ct shs ad G yX2_canComeToAll cX2_canComeToAll 4 (some .boolean) 3 67 [.ref (ad p0), .int p1, .int p2] u (some (.int q)) u := by
  refine Ct_ofI (by decide) (Nat.le_of_ble_eq_true rfl) (fun X C hnL K => ?_)
  have C : Cx ad G X cX2_canComeToAll "CarryFair$Fair" 3 67 := C
  unfold FX2_canComeToAll at hf
  have Lp2 : ∀ (x0 : (Int32)) (q2 : (Nat × Int32)), lp (BX2_canComeToAll_2 p0 p1 p2 u) FU x0 = some q2 → (q2.1 = 0 → V shs ad G X 27 [(0, .ref (ad p0)), (1, .int p1), (2, .int p2), (3, .int q2.2)] [] u) → (q2.1 = 1 → V shs ad G X 35 [(0, .ref (ad p0)), (1, .int p1), (2, .int p2), (3, .int q2.2)] [] u) → V shs ad G X 2 [(0, .ref (ad p0)), (1, .int p1), (2, .int p2), (3, .int x0)] [] u := by
    intro  x0 q2 hq hx2_0 hx2_1
    refine lp_V (BX2_canComeToAll_2 p0 p1 p2 u) (fun x2 => V shs ad G X 2 [(0, .ref (ad p0)), (1, .int p1), (2, .int p2), (3, .int x2)] [] u) q2 (fun rec2 ih2 x2 hf => ?_) FU x0 hq
    unfold BX2_canComeToAll_2 at hf
    refine V_iload_n C 3 dX2_canComeToAll_2 rfl rfl rfl ?_
    refine V_aload_n C 0 dX2_canComeToAll_3 rfl rfl rfl ?_
    refine V_getI C cf2 (sF h0) 6 rfl (by decide) w262 rfl dX2_canComeToAll_4 rfl ?_
    refine V_icmp_ge C dX2_canComeToAll_7 (tgt := 35) rfl rfl (fun c4 => ?_) (fun c4 => ?_)
    · replace hf := ipos c4 hf
      obtain rfl := Option.some.inj hf
      exact hx2_1 rfl
    · replace hf := ineg c4 hf
      refine V_iload_n C 2 dX2_canComeToAll_10 rfl rfl rfl ?_
      refine V_iload_n C 3 dX2_canComeToAll_11 rfl rfl rfl ?_
      refine V_cNi C (As := [.int p2, .int x2]) (st := []) M_X9_has (host := "CarryFair") (by decide +kernel) ⟨by decide, by decide⟩ rfl rfl (Nat.le_of_ble_eq_true rfl) dX2_canComeToAll_12 rfl (kX9_has rfl) ?_
      refine V_if_eq C dX2_canComeToAll_15 (tgt := 29) rfl rfl (fun c3 => ?_) (fun c3 => ?_)
      · replace hf := ipos c3 hf
        refine V_iinc C (v := (x2 + 1)) (L' := [(0, .ref (ad p0)), (1, .int p1), (2, .int p2), (3, .int (x2 + 1))]) 3 dX2_canComeToAll_29 rfl rfl rfl (by decide) hnL [1, 2, 3, 0] rfl ?_
        refine V_goto C dX2_canComeToAll_32 (tgt := 2) rfl ?_
        exact ih2 (x2 + 1) hf
      · replace hf := ineg c3 hf
        refine V_aload_n C 0 dX2_canComeToAll_18 rfl rfl rfl ?_
        refine V_iload_n C 1 dX2_canComeToAll_19 rfl rfl rfl ?_
        refine V_iload_n C 3 dX2_canComeToAll_20 rfl rfl rfl ?_
        obtain ⟨q1, hq1, hf⟩ := obd hf
        refine V_cVi C (b := p0) (As := [.int p1, .int x2]) (st := []) cf2 (sF h0) M_X2_canComeToBoth w692 ⟨by decide, by decide⟩ rfl rfl (Nat.le_of_ble_eq_true rfl) dX2_canComeToAll_21 rfl (kX2_canComeToBoth h0 hq1) ?_
        refine V_if_ne C dX2_canComeToAll_24 (tgt := 29) rfl rfl (fun c2 => ?_) (fun c2 => ?_)
        · replace hf := ineg c2 hf
          refine V_iinc C (v := (x2 + 1)) (L' := [(0, .ref (ad p0)), (1, .int p1), (2, .int p2), (3, .int (x2 + 1))]) 3 dX2_canComeToAll_29 rfl rfl rfl (by decide) hnL [1, 2, 3, 0] rfl ?_
          refine V_goto C dX2_canComeToAll_32 (tgt := 2) rfl ?_
          exact ih2 (x2 + 1) hf
        · replace hf := ipos c2 hf
          obtain rfl := Option.some.inj hf
          exact hx2_0 rfl
  refine V_iconst C dX2_canComeToAll_0 rfl (v := 0) rfl ?_
  refine V_istore_n C (L' := [(0, .ref (ad p0)), (1, .int p1), (2, .int p2), (3, .int 0)]) dX2_canComeToAll_1 rfl rfl (by decide) hnL [1, 2, 3, 0] rfl ?_
  obtain ⟨q2_5, hq2_5, hf⟩ := obd hf
  refine Lp2  0 q2_5 hq2_5 ?_ ?_
  · intro hk
    replace hf := ipos hk hf
    refine V_iconst C dX2_canComeToAll_27 rfl (v := 0) rfl ?_
    obtain rfl := Option.some.inj hf
    exact K _ _ _ dX2_canComeToAll_28 rfl (by decide)
  · intro hk
    replace hf := ineg (by rw [hk]; decide) hf
    refine V_iconst C dX2_canComeToAll_35 rfl (v := 1) rfl ?_
    obtain rfl := Option.some.inj hf
    exact K _ _ _ dX2_canComeToAll_36 rfl (by decide)
