/-! the constructor of the ways -/
def RI8 (B : Nat) : List Shp := ([Sum.inl (7, [some (some (B + 1)), some (some (B + 2)), some (some (B + 3))]), Sum.inr ((0, 49), none), Sum.inr ((0, 49), none), Sum.inr ((4, 3), some [some (B + 4), some (B + 5), some (B + 6)]), Sum.inr ((0, 49), none), Sum.inr ((0, 49), none), Sum.inr ((0, 49), none)] : List Shp)
theorem kX8_init {S0 : List Shp} {ad : Nat → Nat} {G : Gh} {B sz : Nat} {u u' : Mem} (hB : S0.length = B) (hB9 : B + 20 < 1000) (hz : ∀ k, B < k → u k = fun _ => 0) (had : ∀ k, B + 1 ≤ k → k < 1000 → ad k = sz + (k - (B + 1))) (hm : FX8_measure B u = some u') : CtN (S0 ++ [.inl (7, [some none, some none, some none])]) ad G yX8_init cX8_init 1 5 113 6 248 sz [.ref (ad B)] u (S0 ++ RI8 B) (u') := by
  refine Ct_ofN (n0 := B + 1) (by decide) rfl (Nat.le_of_ble_eq_true rfl) had (fun X C hnL E hnm K => ?_)
  have C : Cx ad G X cX8_init "CarryFair$Ways" 5 113 := C
  have CC : ∀ k n, k ≤ 6 → n ≤ 248 → Cx ad G (bmp X k n) cX8_init "CarryFair$Ways" 5 113 := fun k n h1 h2 => Cx_bmp C E h1 h2
  have hN : ∀ k n, (bmp X k n).2.2.2.2.2.2.2.2.2.2.2.2.2 = 1 := fun k n => (bmp_nL X k n).trans hnL
  have hBx := hB9
  refine V_aload_n (CC _ _ (by decide) (by decide)) 0 dX8_init_0 rfl rfl rfl ?_
  refine V_objInit (CC _ _ (by decide) (by decide)) (bw 131 (by decide +kernel) (by decide +kernel)) ⟨by decide, by decide⟩ (Nat.le_of_ble_eq_true rfl) dX8_init_1 rfl ?_
  refine V_aload_n (CC _ _ (by decide) (by decide)) 0 dX8_init_4 rfl rfl rfl ?_
  refine V_bipush (CC _ _ (by decide) (by decide)) dX8_init_5 rfl (v := 49) rfl ?_
  refine N_newa E C (k := (B + 1)) (B_len hB rfl) (by omega) (by omega) (by decide) (N := 49) (by decide) (hz _ (by omega)) (by decide) (by decide) (by decide) dX8_init_7 rfl (S' := S0 ++ ([Sum.inl (7, [some none, some none, some none]), Sum.inr ((0, 49), none)] : List Shp)) (List.append_assoc _ _ _) rfl rfl ?_
  refine N_putR (CC _ _ (by decide) (by decide)) (k := B) cf8 ((B_get hB _ 0).trans rfl) 0 (Nat.le_of_ble_eq_true rfl) (by decide) (Xname_bmp hnm) (bw 153 (by decide +kernel) (by decide +kernel)) rfl rfl rfl rfl rfl dX8_init_9 rfl (S' := S0 ++ ([Sum.inl (7, [some (some (B + 1)), some none, some none]), Sum.inr ((0, 49), none)] : List Shp)) (B_set hB _ 0 _) ?_
  refine V_aload_n (CC _ _ (by decide) (by decide)) 0 dX8_init_12 rfl rfl rfl ?_
  refine V_bipush (CC _ _ (by decide) (by decide)) dX8_init_13 rfl (v := 49) rfl ?_
  refine N_newa E C (k := (B + 2)) (B_len hB rfl) (by omega) (by omega) (by decide) (N := 49) (by decide) (hz _ (by omega)) (by decide) (by decide) (by decide) dX8_init_15 rfl (S' := S0 ++ ([Sum.inl (7, [some (some (B + 1)), some none, some none]), Sum.inr ((0, 49), none), Sum.inr ((0, 49), none)] : List Shp)) (List.append_assoc _ _ _) rfl rfl ?_
  refine N_putR (CC _ _ (by decide) (by decide)) (k := B) cf8 ((B_get hB _ 0).trans rfl) 1 (Nat.le_of_ble_eq_true rfl) (by decide) (Xname_bmp hnm) (bw 154 (by decide +kernel) (by decide +kernel)) rfl rfl rfl rfl rfl dX8_init_17 rfl (S' := S0 ++ ([Sum.inl (7, [some (some (B + 1)), some (some (B + 2)), some none]), Sum.inr ((0, 49), none), Sum.inr ((0, 49), none)] : List Shp)) (B_set hB _ 0 _) ?_
  refine V_aload_n (CC _ _ (by decide) (by decide)) 0 dX8_init_20 rfl rfl rfl ?_
  refine V_iconst (CC _ _ (by decide) (by decide)) dX8_init_21 rfl (v := 3) rfl ?_
  refine V_bipush (CC _ _ (by decide) (by decide)) dX8_init_22 rfl (v := 49) rfl ?_
  refine N_multi E C (k := (B + 3)) (B_len hB rfl) (by omega) (by omega) (by decide) (by decide) (bw 132 (by decide +kernel) (by decide +kernel)) (fun _ _ => hz _ (by omega)) dX8_init_24 rfl (S' := S0 ++ ([Sum.inl (7, [some (some (B + 1)), some (some (B + 2)), some none]), Sum.inr ((0, 49), none), Sum.inr ((0, 49), none), Sum.inr ((4, 3), some [some (B + 4), some (B + 5), some (B + 6)]), Sum.inr ((0, 49), none), Sum.inr ((0, 49), none), Sum.inr ((0, 49), none)] : List Shp)) (List.append_assoc _ _ _) rfl rfl ?_
  refine N_putR (CC _ _ (by decide) (by decide)) (k := B) cf8 ((B_get hB _ 0).trans rfl) 2 (Nat.le_of_ble_eq_true rfl) (by decide) (Xname_bmp hnm) (bw 155 (by decide +kernel) (by decide +kernel)) rfl rfl rfl rfl rfl dX8_init_28 rfl (S' := S0 ++ ([Sum.inl (7, [some (some (B + 1)), some (some (B + 2)), some (some (B + 3))]), Sum.inr ((0, 49), none), Sum.inr ((0, 49), none), Sum.inr ((4, 3), some [some (B + 4), some (B + 5), some (B + 6)]), Sum.inr ((0, 49), none), Sum.inr ((0, 49), none), Sum.inr ((0, 49), none)] : List Shp)) (B_set hB _ 0 _) ?_
  refine V_aload_n (CC _ _ (by decide) (by decide)) 0 dX8_init_31 rfl rfl rfl ?_
  refine V_cVv (CC _ _ (by decide) (by decide)) (b := B) (As := []) (st := []) cf8 ((B_get hB _ 0).trans rfl) M_X8_measure (bw 134 (by decide +kernel) (by decide +kernel)) ⟨by decide, by decide⟩ rfl rfl (Nat.le_of_ble_eq_true rfl) dX8_init_32 rfl (kX8_measure ⟨((B_get hB _ 0).trans rfl), ((B_get hB _ 1).trans rfl), ((B_get hB _ 2).trans rfl), ((B_get hB _ 3).trans rfl), ((B_get hB _ 4).trans rfl), ((B_get hB _ 5).trans rfl), ((B_get hB _ 6).trans rfl)⟩ hm) ?_
  exact K 6 248 _ _ (by decide) (by decide) dX8_init_35
/-! the constructor of a fair -/
/-- the row of a fair that is new -/
def r0 : Nat → Int32 := fun i => if i = 45 then 1 else if 46 ≤ i ∧ i < 56 then -1 else 0
theorem r0_low {i : Nat} (h : i < 45) : r0 i = 0 := by
  unfold r0
  rw [if_neg (by omega), if_neg (by omega)]
theorem In_0 {m : Nat} (h : m < 2147483648) : In 0 m := In_nI (n := 0) (Nat.zero_le m) h
theorem r0_Wf : Wf r0 := by
  have a : nc r0 = 0 := by decide
  have b : ne r0 = 0 := by decide
  have c : nw r0 = 0 := by decide
  refine ⟨⟨by rw [r0_low (by omega)]; exact In_0 (by omega), by rw [r0_low (by omega)]; exact In_0 (by omega), by rw [r0_low (by omega)]; exact In_0 (by omega)⟩, fun i j hi hj h => ?_, fun s hs => Or.inl ?_, fun c' h => absurd h (by omega), fun c' h => absurd h (by omega), fun c' h => absurd h (by omega)⟩
  · have := wy_lt hi hj h
    rw [r0_low (by omega), r0_low (by omega)]
    exact ⟨In_0 (by omega), In_0 (by omega)⟩
  · unfold r0
    rw [if_neg (by omega), if_pos (by omega)]
theorem fair_Y {u : Mem} {B : Nat} (hz : ∀ k, B < k → u k = fun _ => 0) : RepY u B r0 := by
  intro i j hi hj
  refine ⟨?_, fun h => ?_⟩
  · rw [hz _ (by omega)]
    split
    · rfl
    · rename_i h
      rw [r0_low (by have := wy_lt hi hj h; omega)]
  · rw [hz _ (by omega), r0_low (by have := wy_lt hi hj h; omega)]
theorem fair_measure {u : Mem} {B : Nat} (hz : ∀ k, B < k → u k = fun _ => 0) : FX8_measure (B + 4) u = some (msr u B r0 3) ∧ ∀ k, B + 10 < k → msr u B r0 3 k = fun _ => 0 := by
  refine ⟨c_measure (fair_Y hz) r0_Wf, fun k hk => ?_⟩
  rw [msr_ne (by omega)]
  exact hz k (by omega)
def uF (B : Nat) (u : Mem) : Mem := spt (mst (msr u B r0 3) B 8 1) (B + 11) 0 10
theorem uF_k {B k : Nat} {u : Mem} (h : k < B ∨ B + 12 ≤ k) : uF B u k = u k := by
  unfold uF
  rw [spt_k (by omega), mst_k (by omega), msr_ne (by omega)]
