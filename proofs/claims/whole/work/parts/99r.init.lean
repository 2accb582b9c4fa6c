/-! constructors: the rules in the form that the walks use -/
theorem B_get {S0 : List Shp} {B : Nat} (hB : S0.length = B) (R' : List Shp) (j : Nat) : (S0 ++ R')[B + j]? = R'[j]? := by
  rw [List.getElem?_append_right (by omega), hB, Nat.add_sub_cancel_left]
theorem B_set {S0 : List Shp} {B : Nat} (hB : S0.length = B) (R : List Shp) (j : Nat) (v : Shp) : (S0 ++ R).set (B + j) v = S0 ++ R.set j v := by
  rw [List.set_append_right _ _ (by omega), hB, Nat.add_sub_cancel_left]
theorem B_len {S0 R : List Shp} {B r : Nat} (hB : S0.length = B) (h : R.length = r) : (S0 ++ R).length = B + r := by
  rw [List.length_append, hB, h]
theorem B_spl {S0 R Rd T : List Shp} (h : R = Rd ++ T) : S0 ++ R = (S0 ++ Rd) ++ T := by rw [h, List.append_assoc]
theorem B_joi {S0 R Rd T : List Shp} (h : Rd ++ T = R) : (S0 ++ Rd) ++ T = S0 ++ R := by rw [← h, List.append_assoc]
theorem bmp_nL (X : Amb) (k n : Nat) : (bmp X k n).2.2.2.2.2.2.2.2.2.2.2.2.2 = X.2.2.2.2.2.2.2.2.2.2.2.2.2 := by
  obtain ⟨p, e, R, s, m, args, below, meth, c, cells, slots, Q, A, nL⟩ := X
  rfl
def spt (u : Mem) (k o n : Nat) : Mem := fun a => if a = k then (fun i => if o ≤ i ∧ i < o + n then -1 else u k i) else u a
theorem spt_0 (u : Mem) (k o : Nat) : u = spt u k o 0 := by
  funext a i
  unfold spt
  split
  · dsimp only
    rw [if_neg (by omega)]; subst a; rfl
  · rfl
theorem spt_s (u : Mem) (k o n : Nat) : mst (spt u k o n) k (o + n) (-1) = spt u k o (n + 1) := by
  funext a i
  unfold mst spt
  by_cases h : a = k
  · rw [if_pos h, if_pos rfl, if_pos h]
    unfold upd
    by_cases q : i = o + n
    · rw [if_pos q, if_pos (by omega)]
    · rw [if_neg q]
      dsimp only
      by_cases z : o ≤ i ∧ i < o + n
      · rw [if_pos z, if_pos (by omega)]
      · rw [if_neg z, if_neg (by omega)]
  · rw [if_neg h, if_neg h, if_neg h]
theorem spt_k {u : Mem} {k o n a : Nat} (h : a ≠ k) : spt u k o n a = u a := if_neg h
def pwr (u : Mem) (k : Nat) : Mem := mst (mst (mst (mst (mst (mst u k 0 1) k 1 3) k 2 9) k 3 27) k 4 81) k 5 243
theorem pwr_k {u : Mem} {k a : Nat} (h : a ≠ k) : pwr u k a = u a := by
  unfold pwr
  rw [mst_k h, mst_k h, mst_k h, mst_k h, mst_k h, mst_k h]
theorem w_int : Cond.arrayClass .int ∈ BW := bw 163 (by decide +kernel) (by decide +kernel)
section NR
variable {S S' : List Shp} {ad : Nat → Nat} {G : Gh} {X : Amb} {cc : ByteArray} {own : String} {fr lo pc pc' n0 mc ms sz c c' s0 s1 k : Nat} {L : List (Nat × Value)} {st : List Value} {u u' : Mem}
theorem V_S (h : S = S') (kk : V S' ad G X pc L st u) : V S ad G X pc L st u := by subst h; exact kk
theorem V_mem (h : u = u') (kk : V S ad G X pc L st u') : V S ad G X pc L st u := by subst h; exact kk
theorem N_newa (E : En ad X n0 mc ms sz) (C0 : Cx ad G X cc own fr lo) (hl : S.length = k) (hk : k = n0 + c) (hlt : n0 + mc < 1000) (hc : c + 1 ≤ mc) {n : Int32} {N : Nat} (hs : s0 + N ≤ ms) (hu : u k = fun _ => 0) (hn : ¬ n < 0) (hN : n.toNatClampNeg = N) (hb4 : N * 4 ≤ 536870912) (hd : decode cc pc = .ok (.newarray .int, 2)) (hp : pc + 2 = pc') (hS : S ++ [.inr ((0, N), none)] = S') (hc' : c + 1 = c') (hs' : s0 + N = s1) (h : V S' ad G (bmp X c' s1) pc' L (.ref (ad k) :: st) u) : V S ad G (bmp X c s0) pc L (.int n :: st) u := by
  subst hl; subst hS; subst hc'; subst hs'
  exact V_newa E C0 hk hlt hc hs w_int hu hn hN hb4 hd hp h
theorem N_newq (E : En ad X n0 mc ms sz) (C0 : Cx ad G X cc own fr lo) (hl : S.length = k) (hk : k = n0 + c) (hlt : n0 + mc < 1000) (hc : c + 1 ≤ mc) {n : Int32} {t idx : Nat} {Cn : String} (ht : ∀ cy : Nat → ClassId, (tyl cy)[t]? = some (cy t, .object Cn)) {N : Nat} (hs : s0 + N ≤ ms) (w1 : Cond.classLink own idx Cn ∈ BW) (w2 : Cn ∈ aoC) (hn : ¬ n < 0) (hN : n.toNatClampNeg = N) (hb4 : N * 4 ≤ 536870912) (hd : decode cc pc = .ok (.anewarray idx, 3)) (hp : pc + 3 = pc') (hS : S ++ [.inr ((t, N), some (List.replicate N none))] = S') (hc' : c + 1 = c') (hs' : s0 + N = s1) (h : V S' ad G (bmp X c' s1) pc' L (.ref (ad k) :: st) u) : V S ad G (bmp X c s0) pc L (.int n :: st) u := by
  subst hl; subst hS; subst hc'; subst hs'
  exact V_newq E C0 hk hlt hc ht hs w1 w2 hn hN hb4 hd hp h
theorem N_multi {idx : Nat} (E : En ad X n0 mc ms sz) (C0 : Cx ad G X cc own fr lo) (hl : S.length = k) (hk : k = n0 + c) (hlt : n0 + mc < 1000) (hc : c + 4 ≤ mc) (hs : s0 + 150 ≤ ms) (w1 : Cond.classLink own idx "[[I" ∈ BW) (hu : ∀ i, i < 3 → u (k + 1 + i) = fun _ => 0) (hd : decode cc pc = .ok (.multianewarray idx 2, 4)) (hp : pc + 4 = pc') (hS : S ++ [.inr ((4, 3), some [some (k + 1), some (k + 2), some (k + 3)]), i49, i49, i49] = S') (hc' : c + 4 = c') (hs' : s0 + 150 = s1) (h : V S' ad G (bmp X c' s1) pc' L (.ref (ad k) :: st) u) : V S ad G (bmp X c s0) pc L (.int 49 :: .int 3 :: st) u := by
  subst hl; subst hS; subst hc'; subst hs'
  exact V_multi E C0 hk hlt hc hs w1 hu hd hp h
theorem N_new {ci N idx : Nat} {Cn : String} {T : u_T} {ty : Nat → FieldType} (F : CF ci Cn T N ty) (E : En ad X n0 mc ms sz) (C0 : Cx ad G X cc own fr lo) (hl : S.length = k) (hk : k = n0 + c) (hlt : n0 + mc < 1000) (hc : c + 1 ≤ mc) (hs : s0 + N ≤ ms) (w1 : Cond.classLink own idx Cn ∈ BW) (w2 : Cond.instantiable Cn N ∈ BW) (w3 : Cond.initialized Cn ∈ BW) (fsh : List (Option (Option Nat))) (hu : u k = fun _ => 0) (hfs : ∀ j, j < N → defaultValue (ty j) = vp_V (flds ad (fun _ => 0) 0 fsh) j) (hd : decode cc pc = .ok (.new idx, 3)) (hp : pc + 3 = pc') (hS : S ++ [.inl (ci, fsh)] = S') (hc' : c + 1 = c') (hs' : s0 + N = s1) (h : V S' ad G (bmp X c' s1) pc' L (.ref (ad k) :: st) u) : V S ad G (bmp X c s0) pc L st u := by
  subst hl; subst hS; subst hc'; subst hs'
  exact V_new F E C0 hk hlt hc hs w1 w2 w3 fsh hu hfs hd hp h
theorem N_putR (C : Cx ad G X cc own fr lo) {ci N q idx : Nat} {Cn ref : String} {T : u_T} {ty : Nat → FieldType} {fs : List (Option (Option Nat))} (F : CF ci Cn T N ty) (hsh : S[k]? = some (.inl (ci, fs))) (j : Nat) (hjl : j < fs.length) (hjN : j < N) (hname : Xname X) (hw : Cond.fieldLink own idx ref (T j).2.1 (T j).2.2.1 ∈ BW) (hsame : (T j).1 = ref) (hdecl : (T j).1 = own) (hfin : (T j).2.2.2 = true) (hn : narrow (ty j) (.ref (ad q)) = .ref (ad q)) (hfit : fits (ty j) (.ref (ad q)) = true) (hd : decode cc pc = .ok (.putfield idx, 3)) (hp : pc + 3 = pc') (hS : S.set k (.inl (ci, fs.set j (some (some q)))) = S') (h : V S' ad G X pc' L st u) : V S ad G X pc L (.ref (ad q) :: .ref (ad k) :: st) u := by
  subst hS
  exact V_putR C F hsh j hjl hjN hname hw hsame hdecl hfin hn hfit hd hp h
theorem N_aast (C : Cx ad G X cc own fr lo) {t n q i' ci : Nat} {lst : List (Option Nat)} {Cn : String} {T : u_T} {N : Nat} {ty : Nat → FieldType} {vs : List (Option (Option Nat))} (F : CF ci Cn T N ty) (hsh : S[k]? = some (.inr ((t, n), some lst))) (ht : ∀ cy : Nat → ClassId, (tyl cy)[t]? = some (cy t, .object Cn)) (hq : S[q]? = some (.inl (ci, vs))) {i : Int32} (hin : inb i n) (hi' : i.toNatClampNeg = i') (hll : lst.length = n) (hd : decode cc pc = .ok (.aastore, 1)) (hp : pc + 1 = pc') (hS : S.set k (.inr ((t, n), some (lst.set i' (some q)))) = S') (h : V S' ad G X pc' L st u) : V S ad G X pc L (.ref (ad q) :: .int i :: .ref (ad k) :: st) u := by
  subst hS
  exact V_aast C F hsh ht hq hin hi' hll hd hp h
theorem N_aastS (C : Cx ad G X cc own fr lo) {t n q i' : Nat} {lst : List (Option Nat)} (hsh : S[k]? = some (.inr ((t, n), some lst))) (ht : ∀ cy : Nat → ClassId, (tyl cy)[t]? = some (cy t, .object "java/lang/String")) (hq : q < 16) {i : Int32} (hin : inb i n) (hi' : i.toNatClampNeg = i') (hll : lst.length = n) (hd : decode cc pc = .ok (.aastore, 1)) (hp : pc + 1 = pc') (hS : S.set k (.inr ((t, n), some (lst.set i' (some (1000 + q))))) = S') (h : V S' ad G X pc' L st u) : V S ad G X pc L (.ref (ad (1000 + q)) :: .int i :: .ref (ad k) :: st) u := by
  subst hS
  exact V_aastS C hsh ht hq hin hi' hll hd hp h
end NR

theorem I_X0 : MFi yX0_init cX0_init 1 := ⟨(bw 166 (by decide +kernel) (by decide +kernel)), (bw 93 (by decide +kernel) (by decide +kernel)), bw 167 (by decide +kernel) (by decide +kernel), by decide +kernel, by decide +kernel, by decide +kernel, rfl⟩
theorem I_X1 : MFi yX1_init cX1_init 1 := ⟨(bw 199 (by decide +kernel) (by decide +kernel)), (bw 94 (by decide +kernel) (by decide +kernel)), bw 200 (by decide +kernel) (by decide +kernel), by decide +kernel, by decide +kernel, by decide +kernel, rfl⟩
theorem I_X7 : MFi yX7_init cX7_init 1 := ⟨(bw 233 (by decide +kernel) (by decide +kernel)), (bw 95 (by decide +kernel) (by decide +kernel)), bw 234 (by decide +kernel) (by decide +kernel), by decide +kernel, by decide +kernel, by decide +kernel, rfl⟩
theorem I_X5 : MFi yX5_init cX5_init 1 := ⟨(bw 345 (by decide +kernel) (by decide +kernel)), (bw 98 (by decide +kernel) (by decide +kernel)), bw 346 (by decide +kernel) (by decide +kernel), by decide +kernel, by decide +kernel, by decide +kernel, rfl⟩
theorem I_X6 : MFi yX6_init cX6_init 1 := ⟨(bw 318 (by decide +kernel) (by decide +kernel)), (bw 97 (by decide +kernel) (by decide +kernel)), bw 319 (by decide +kernel) (by decide +kernel), by decide +kernel, by decide +kernel, by decide +kernel, rfl⟩
theorem I_X4 : MFi yX4_init cX4_init 1 := ⟨(bw 293 (by decide +kernel) (by decide +kernel)), (bw 96 (by decide +kernel) (by decide +kernel)), bw 294 (by decide +kernel) (by decide +kernel), by decide +kernel, by decide +kernel, by decide +kernel, rfl⟩
theorem I_X8 : MFi yX8_init cX8_init 1 := ⟨(bw 129 (by decide +kernel) (by decide +kernel)), (bw 90 (by decide +kernel) (by decide +kernel)), bw 130 (by decide +kernel) (by decide +kernel), by decide +kernel, by decide +kernel, by decide +kernel, rfl⟩
theorem I_X2 : MFi yX2_init cX2_init 2 := ⟨(bw 117 (by decide +kernel) (by decide +kernel)), (bw 89 (by decide +kernel) (by decide +kernel)), bw 118 (by decide +kernel) (by decide +kernel), by decide +kernel, by decide +kernel, by decide +kernel, rfl⟩
theorem I_X9 : MFi yX9_init cX9_init 2 := ⟨(bw 109 (by decide +kernel) (by decide +kernel)), (bw 88 (by decide +kernel) (by decide +kernel)), bw 110 (by decide +kernel) (by decide +kernel), by decide +kernel, by decide +kernel, by decide +kernel, rfl⟩
theorem I_X10 : MFi yX10_init cX10_init 2 := ⟨(bw 1070 (by decide +kernel) (by decide +kernel)), (bw 99 (by decide +kernel) (by decide +kernel)), bw 1071 (by decide +kernel) (by decide +kernel), by decide +kernel, by decide +kernel, by decide +kernel, rfl⟩
theorem dfX0 (ad : Nat → Nat) : ∀ j, j < 5 → defaultValue (tyX0 j) = vp_V (flds ad (fun _ => 0) 0 [none, none, none, none, none]) j := by
  intro j hj
  rcases (show j = 0 ∨ j = 1 ∨ j = 2 ∨ j = 3 ∨ j = 4 by omega) with rfl | rfl | rfl | rfl | rfl <;> rfl
theorem dfX1 (ad : Nat → Nat) : ∀ j, j < 5 → defaultValue (tyX1 j) = vp_V (flds ad (fun _ => 0) 0 [none, none, none, none, none]) j := by
  intro j hj
  rcases (show j = 0 ∨ j = 1 ∨ j = 2 ∨ j = 3 ∨ j = 4 by omega) with rfl | rfl | rfl | rfl | rfl <;> rfl
theorem dfX7 (ad : Nat → Nat) : ∀ j, j < 2 → defaultValue (tyX7 j) = vp_V (flds ad (fun _ => 0) 0 [none, none]) j := by
  intro j hj
  rcases (show j = 0 ∨ j = 1 by omega) with rfl | rfl <;> rfl
theorem dfX5 (ad : Nat → Nat) : ∀ j, j < 3 → defaultValue (tyX5 j) = vp_V (flds ad (fun _ => 0) 0 [some none, none, none]) j := by
  intro j hj
  rcases (show j = 0 ∨ j = 1 ∨ j = 2 by omega) with rfl | rfl | rfl <;> rfl
theorem dfX6 (ad : Nat → Nat) : ∀ j, j < 6 → defaultValue (tyX6 j) = vp_V (flds ad (fun _ => 0) 0 [some none, none, none, none, none, none]) j := by
  intro j hj
  rcases (show j = 0 ∨ j = 1 ∨ j = 2 ∨ j = 3 ∨ j = 4 ∨ j = 5 by omega) with rfl | rfl | rfl | rfl | rfl | rfl <;> rfl
theorem dfX4 (ad : Nat → Nat) : ∀ j, j < 6 → defaultValue (tyX4 j) = vp_V (flds ad (fun _ => 0) 0 [some none, some none, some none, some none, some none, none]) j := by
  intro j hj
  rcases (show j = 0 ∨ j = 1 ∨ j = 2 ∨ j = 3 ∨ j = 4 ∨ j = 5 by omega) with rfl | rfl | rfl | rfl | rfl | rfl <;> rfl
theorem dfX8 (ad : Nat → Nat) : ∀ j, j < 3 → defaultValue (tyX8 j) = vp_V (flds ad (fun _ => 0) 0 [some none, some none, some none]) j := by
  intro j hj
  rcases (show j = 0 ∨ j = 1 ∨ j = 2 by omega) with rfl | rfl | rfl <;> rfl
theorem dfX2 (ad : Nat → Nat) : ∀ j, j < 9 → defaultValue (tyX2 j) = vp_V (flds ad (fun _ => 0) 0 [some none, some none, some none, some none, some none, none, none, none, none]) j := by
  intro j hj
  rcases (show j = 0 ∨ j = 1 ∨ j = 2 ∨ j = 3 ∨ j = 4 ∨ j = 5 ∨ j = 6 ∨ j = 7 ∨ j = 8 by omega) with rfl | rfl | rfl | rfl | rfl | rfl | rfl | rfl | rfl <;> rfl
theorem dfX9 (ad : Nat → Nat) : ∀ j, j < 9 → defaultValue (tyX9 j) = vp_V (flds ad (fun _ => 0) 0 [some none, some none, some none, some none, some none, some none, some none, some none, none]) j := by
  intro j hj
  rcases (show j = 0 ∨ j = 1 ∨ j = 2 ∨ j = 3 ∨ j = 4 ∨ j = 5 ∨ j = 6 ∨ j = 7 ∨ j = 8 by omega) with rfl | rfl | rfl | rfl | rfl | rfl | rfl | rfl | rfl <;> rfl
theorem dfX10 (ad : Nat → Nat) : ∀ j, j < 30 → defaultValue (tyX10 j) = vp_V (flds ad (fun _ => 0) 0 [some none, some none, some none, none, some none, some none, none, some none, some none, some none, none, none, none, some none, none, none, none, none, none, none, some none, some none, none, none, none, none, some none, some none, some none, some none]) j := by
  intro j hj
  rcases (show j = 0 ∨ j = 1 ∨ j = 2 ∨ j = 3 ∨ j = 4 ∨ j = 5 ∨ j = 6 ∨ j = 7 ∨ j = 8 ∨ j = 9 ∨ j = 10 ∨ j = 11 ∨ j = 12 ∨ j = 13 ∨ j = 14 ∨ j = 15 ∨ j = 16 ∨ j = 17 ∨ j = 18 ∨ j = 19 ∨ j = 20 ∨ j = 21 ∨ j = 22 ∨ j = 23 ∨ j = 24 ∨ j = 25 ∨ j = 26 ∨ j = 27 ∨ j = 28 ∨ j = 29 by omega) with rfl | rfl | rfl | rfl | rfl | rfl | rfl | rfl | rfl | rfl | rfl | rfl | rfl | rfl | rfl | rfl | rfl | rfl | rfl | rfl | rfl | rfl | rfl | rfl | rfl | rfl | rfl | rfl | rfl | rfl <;> rfl
theorem kX0_init {S : List Shp} {ad : Nat → Nat} {G : Gh} {sz n0 k : Nat} {u : Mem} (had : ∀ j, n0 ≤ j → j < 1000 → ad j = sz + (j - n0)) : CtN S ad G yX0_init cX0_init 1 1 20 0 0 sz [.ref (ad k)] u S u := by
  refine Ct_ofN (n0 := n0) (by decide) rfl (Nat.le_of_ble_eq_true rfl) had (fun X C hnL E hnm K => ?_)
  have C : Cx ad G X cX0_init "CarryFair$Carrier" 1 20 := C
  have CC := Cx_bmp C E (k := 0) (n := 0) (Nat.le_refl _) (Nat.le_refl _)
  refine V_aload_n CC 0 dX0_init_0 rfl rfl rfl ?_
  refine V_objInit CC (bw 168 (by decide +kernel) (by decide +kernel)) ⟨by decide, by decide⟩ (Nat.le_of_ble_eq_true rfl) dX0_init_1 rfl ?_
  exact K 0 0 _ _ (by decide) (by decide) dX0_init_4
theorem kX1_init {S : List Shp} {ad : Nat → Nat} {G : Gh} {sz n0 k : Nat} {u : Mem} (had : ∀ j, n0 ≤ j → j < 1000 → ad j = sz + (j - n0)) : CtN S ad G yX1_init cX1_init 1 1 20 0 0 sz [.ref (ad k)] u S u := by
  refine Ct_ofN (n0 := n0) (by decide) rfl (Nat.le_of_ble_eq_true rfl) had (fun X C hnL E hnm K => ?_)
  have C : Cx ad G X cX1_init "CarryFair$Errand" 1 20 := C
  have CC := Cx_bmp C E (k := 0) (n := 0) (Nat.le_refl _) (Nat.le_refl _)
  refine V_aload_n CC 0 dX1_init_0 rfl rfl rfl ?_
  refine V_objInit CC (bw 201 (by decide +kernel) (by decide +kernel)) ⟨by decide, by decide⟩ (Nat.le_of_ble_eq_true rfl) dX1_init_1 rfl ?_
  exact K 0 0 _ _ (by decide) (by decide) dX1_init_4
theorem kX7_init {S : List Shp} {ad : Nat → Nat} {G : Gh} {sz n0 k : Nat} {u : Mem} (had : ∀ j, n0 ≤ j → j < 1000 → ad j = sz + (j - n0)) : CtN S ad G yX7_init cX7_init 1 1 20 0 0 sz [.ref (ad k)] u S u := by
  refine Ct_ofN (n0 := n0) (by decide) rfl (Nat.le_of_ble_eq_true rfl) had (fun X C hnL E hnm K => ?_)
  have C : Cx ad G X cX7_init "CarryFair$Ware" 1 20 := C
  have CC := Cx_bmp C E (k := 0) (n := 0) (Nat.le_refl _) (Nat.le_refl _)
  refine V_aload_n CC 0 dX7_init_0 rfl rfl rfl ?_
  refine V_objInit CC (bw 235 (by decide +kernel) (by decide +kernel)) ⟨by decide, by decide⟩ (Nat.le_of_ble_eq_true rfl) dX7_init_1 rfl ?_
  exact K 0 0 _ _ (by decide) (by decide) dX7_init_4
def RI5 (B : Nat) : List Shp := ([Sum.inl (4, [some (some (B + 1)), none, none]), Sum.inr ((0, 40), none)] : List Shp)
theorem kX5_init {S0 : List Shp} {ad : Nat → Nat} {G : Gh} {B sz : Nat} {u : Mem} (hB : S0.length = B) (hB9 : B + 20 < 1000) (hz : ∀ k, B < k → u k = fun _ => 0) (had : ∀ k, B + 1 ≤ k → k < 1000 → ad k = sz + (k - (B + 1))) : CtN (S0 ++ [.inl (4, [some none, none, none])]) ad G yX5_init cX5_init 1 1 20 1 40 sz [.ref (ad B)] u (S0 ++ RI5 B) (u) := by
  refine Ct_ofN (n0 := B + 1) (by decide) rfl (Nat.le_of_ble_eq_true rfl) had (fun X C hnL E hnm K => ?_)
  have C : Cx ad G X cX5_init "CarryFair$Sheet" 1 20 := C
  have CC : ∀ k n, k ≤ 1 → n ≤ 40 → Cx ad G (bmp X k n) cX5_init "CarryFair$Sheet" 1 20 := fun k n h1 h2 => Cx_bmp C E h1 h2
  have hN : ∀ k n, (bmp X k n).2.2.2.2.2.2.2.2.2.2.2.2.2 = 1 := fun k n => (bmp_nL X k n).trans hnL
  have hBx := hB9
  refine V_aload_n (CC _ _ (by decide) (by decide)) 0 dX5_init_0 rfl rfl rfl ?_
  refine V_objInit (CC _ _ (by decide) (by decide)) (bw 347 (by decide +kernel) (by decide +kernel)) ⟨by decide, by decide⟩ (Nat.le_of_ble_eq_true rfl) dX5_init_1 rfl ?_
  refine V_aload_n (CC _ _ (by decide) (by decide)) 0 dX5_init_4 rfl rfl rfl ?_
  refine V_bipush (CC _ _ (by decide) (by decide)) dX5_init_5 rfl (v := 40) rfl ?_
  refine N_newa E C (k := (B + 1)) (B_len hB rfl) (by omega) (by omega) (by decide) (N := 40) (by decide) (hz _ (by omega)) (by decide) (by decide) (by decide) dX5_init_7 rfl (S' := S0 ++ ([Sum.inl (4, [some none, none, none]), Sum.inr ((0, 40), none)] : List Shp)) (List.append_assoc _ _ _) rfl rfl ?_
  refine N_putR (CC _ _ (by decide) (by decide)) (k := B) cf5 ((B_get hB _ 0).trans rfl) 0 (Nat.le_of_ble_eq_true rfl) (by decide) (Xname_bmp hnm) (bw 348 (by decide +kernel) (by decide +kernel)) rfl rfl rfl rfl rfl dX5_init_9 rfl (S' := S0 ++ ([Sum.inl (4, [some (some (B + 1)), none, none]), Sum.inr ((0, 40), none)] : List Shp)) (B_set hB _ 0 _) ?_
  exact K 1 40 _ _ (by decide) (by decide) dX5_init_12
def RI6 (B : Nat) : List Shp := ([Sum.inl (5, [some (some (B + 1)), none, none, none, none, none]), Sum.inr ((0, 120), none)] : List Shp)
theorem kX6_init {S0 : List Shp} {ad : Nat → Nat} {G : Gh} {B sz : Nat} {u : Mem} (hB : S0.length = B) (hB9 : B + 20 < 1000) (hz : ∀ k, B < k → u k = fun _ => 0) (had : ∀ k, B + 1 ≤ k → k < 1000 → ad k = sz + (k - (B + 1))) : CtN (S0 ++ [.inl (5, [some none, none, none, none, none, none])]) ad G yX6_init cX6_init 1 1 20 1 120 sz [.ref (ad B)] u (S0 ++ RI6 B) (u) := by
  refine Ct_ofN (n0 := B + 1) (by decide) rfl (Nat.le_of_ble_eq_true rfl) had (fun X C hnL E hnm K => ?_)
  have C : Cx ad G X cX6_init "CarryFair$Tape" 1 20 := C
  have CC : ∀ k n, k ≤ 1 → n ≤ 120 → Cx ad G (bmp X k n) cX6_init "CarryFair$Tape" 1 20 := fun k n h1 h2 => Cx_bmp C E h1 h2
  have hN : ∀ k n, (bmp X k n).2.2.2.2.2.2.2.2.2.2.2.2.2 = 1 := fun k n => (bmp_nL X k n).trans hnL
  have hBx := hB9
  refine V_aload_n (CC _ _ (by decide) (by decide)) 0 dX6_init_0 rfl rfl rfl ?_
  refine V_objInit (CC _ _ (by decide) (by decide)) (bw 320 (by decide +kernel) (by decide +kernel)) ⟨by decide, by decide⟩ (Nat.le_of_ble_eq_true rfl) dX6_init_1 rfl ?_
  refine V_aload_n (CC _ _ (by decide) (by decide)) 0 dX6_init_4 rfl rfl rfl ?_
  refine V_bipush (CC _ _ (by decide) (by decide)) dX6_init_5 rfl (v := 120) rfl ?_
  refine N_newa E C (k := (B + 1)) (B_len hB rfl) (by omega) (by omega) (by decide) (N := 120) (by decide) (hz _ (by omega)) (by decide) (by decide) (by decide) dX6_init_7 rfl (S' := S0 ++ ([Sum.inl (5, [some none, none, none, none, none, none]), Sum.inr ((0, 120), none)] : List Shp)) (List.append_assoc _ _ _) rfl rfl ?_
  refine N_putR (CC _ _ (by decide) (by decide)) (k := B) cf6 ((B_get hB _ 0).trans rfl) 0 (Nat.le_of_ble_eq_true rfl) (by decide) (Xname_bmp hnm) (bw 321 (by decide +kernel) (by decide +kernel)) rfl rfl rfl rfl rfl dX6_init_9 rfl (S' := S0 ++ ([Sum.inl (5, [some (some (B + 1)), none, none, none, none, none]), Sum.inr ((0, 120), none)] : List Shp)) (B_set hB _ 0 _) ?_
  exact K 1 120 _ _ (by decide) (by decide) dX6_init_12
def RI4 (B : Nat) : List Shp := ([Sum.inl (3, [some (some (B + 1)), some (some (B + 2)), some (some (B + 3)), some (some (B + 4)), some (some (B + 5)), none]), Sum.inr ((0, 5), none), Sum.inr ((0, 5), none), Sum.inr ((0, 5), none), Sum.inr ((0, 5), none), Sum.inr ((0, 1701), none)] : List Shp)
theorem kX4_init {S0 : List Shp} {ad : Nat → Nat} {G : Gh} {B sz : Nat} {u : Mem} (hB : S0.length = B) (hB9 : B + 20 < 1000) (hz : ∀ k, B < k → u k = fun _ => 0) (had : ∀ k, B + 1 ≤ k → k < 1000 → ad k = sz + (k - (B + 1))) : CtN (S0 ++ [.inl (3, [some none, some none, some none, some none, some none, none])]) ad G yX4_init cX4_init 1 1 20 5 1721 sz [.ref (ad B)] u (S0 ++ RI4 B) (u) := by
  refine Ct_ofN (n0 := B + 1) (by decide) rfl (Nat.le_of_ble_eq_true rfl) had (fun X C hnL E hnm K => ?_)
  have C : Cx ad G X cX4_init "CarryFair$Rounds" 1 20 := C
  have CC : ∀ k n, k ≤ 5 → n ≤ 1721 → Cx ad G (bmp X k n) cX4_init "CarryFair$Rounds" 1 20 := fun k n h1 h2 => Cx_bmp C E h1 h2
  have hN : ∀ k n, (bmp X k n).2.2.2.2.2.2.2.2.2.2.2.2.2 = 1 := fun k n => (bmp_nL X k n).trans hnL
  have hBx := hB9
  refine V_aload_n (CC _ _ (by decide) (by decide)) 0 dX4_init_0 rfl rfl rfl ?_
  refine V_objInit (CC _ _ (by decide) (by decide)) (bw 295 (by decide +kernel) (by decide +kernel)) ⟨by decide, by decide⟩ (Nat.le_of_ble_eq_true rfl) dX4_init_1 rfl ?_
  refine V_aload_n (CC _ _ (by decide) (by decide)) 0 dX4_init_4 rfl rfl rfl ?_
  refine V_iconst (CC _ _ (by decide) (by decide)) dX4_init_5 rfl (v := 5) rfl ?_
  refine N_newa E C (k := (B + 1)) (B_len hB rfl) (by omega) (by omega) (by decide) (N := 5) (by decide) (hz _ (by omega)) (by decide) (by decide) (by decide) dX4_init_6 rfl (S' := S0 ++ ([Sum.inl (3, [some none, some none, some none, some none, some none, none]), Sum.inr ((0, 5), none)] : List Shp)) (List.append_assoc _ _ _) rfl rfl ?_
  refine N_putR (CC _ _ (by decide) (by decide)) (k := B) cf4 ((B_get hB _ 0).trans rfl) 0 (Nat.le_of_ble_eq_true rfl) (by decide) (Xname_bmp hnm) (bw 296 (by decide +kernel) (by decide +kernel)) rfl rfl rfl rfl rfl dX4_init_8 rfl (S' := S0 ++ ([Sum.inl (3, [some (some (B + 1)), some none, some none, some none, some none, none]), Sum.inr ((0, 5), none)] : List Shp)) (B_set hB _ 0 _) ?_
  refine V_aload_n (CC _ _ (by decide) (by decide)) 0 dX4_init_11 rfl rfl rfl ?_
  refine V_iconst (CC _ _ (by decide) (by decide)) dX4_init_12 rfl (v := 5) rfl ?_
  refine N_newa E C (k := (B + 2)) (B_len hB rfl) (by omega) (by omega) (by decide) (N := 5) (by decide) (hz _ (by omega)) (by decide) (by decide) (by decide) dX4_init_13 rfl (S' := S0 ++ ([Sum.inl (3, [some (some (B + 1)), some none, some none, some none, some none, none]), Sum.inr ((0, 5), none), Sum.inr ((0, 5), none)] : List Shp)) (List.append_assoc _ _ _) rfl rfl ?_
  refine N_putR (CC _ _ (by decide) (by decide)) (k := B) cf4 ((B_get hB _ 0).trans rfl) 1 (Nat.le_of_ble_eq_true rfl) (by decide) (Xname_bmp hnm) (bw 297 (by decide +kernel) (by decide +kernel)) rfl rfl rfl rfl rfl dX4_init_15 rfl (S' := S0 ++ ([Sum.inl (3, [some (some (B + 1)), some (some (B + 2)), some none, some none, some none, none]), Sum.inr ((0, 5), none), Sum.inr ((0, 5), none)] : List Shp)) (B_set hB _ 0 _) ?_
  refine V_aload_n (CC _ _ (by decide) (by decide)) 0 dX4_init_18 rfl rfl rfl ?_
  refine V_iconst (CC _ _ (by decide) (by decide)) dX4_init_19 rfl (v := 5) rfl ?_
  refine N_newa E C (k := (B + 3)) (B_len hB rfl) (by omega) (by omega) (by decide) (N := 5) (by decide) (hz _ (by omega)) (by decide) (by decide) (by decide) dX4_init_20 rfl (S' := S0 ++ ([Sum.inl (3, [some (some (B + 1)), some (some (B + 2)), some none, some none, some none, none]), Sum.inr ((0, 5), none), Sum.inr ((0, 5), none), Sum.inr ((0, 5), none)] : List Shp)) (List.append_assoc _ _ _) rfl rfl ?_
  refine N_putR (CC _ _ (by decide) (by decide)) (k := B) cf4 ((B_get hB _ 0).trans rfl) 2 (Nat.le_of_ble_eq_true rfl) (by decide) (Xname_bmp hnm) (bw 298 (by decide +kernel) (by decide +kernel)) rfl rfl rfl rfl rfl dX4_init_22 rfl (S' := S0 ++ ([Sum.inl (3, [some (some (B + 1)), some (some (B + 2)), some (some (B + 3)), some none, some none, none]), Sum.inr ((0, 5), none), Sum.inr ((0, 5), none), Sum.inr ((0, 5), none)] : List Shp)) (B_set hB _ 0 _) ?_
  refine V_aload_n (CC _ _ (by decide) (by decide)) 0 dX4_init_25 rfl rfl rfl ?_
  refine V_iconst (CC _ _ (by decide) (by decide)) dX4_init_26 rfl (v := 5) rfl ?_
  refine N_newa E C (k := (B + 4)) (B_len hB rfl) (by omega) (by omega) (by decide) (N := 5) (by decide) (hz _ (by omega)) (by decide) (by decide) (by decide) dX4_init_27 rfl (S' := S0 ++ ([Sum.inl (3, [some (some (B + 1)), some (some (B + 2)), some (some (B + 3)), some none, some none, none]), Sum.inr ((0, 5), none), Sum.inr ((0, 5), none), Sum.inr ((0, 5), none), Sum.inr ((0, 5), none)] : List Shp)) (List.append_assoc _ _ _) rfl rfl ?_
  refine N_putR (CC _ _ (by decide) (by decide)) (k := B) cf4 ((B_get hB _ 0).trans rfl) 3 (Nat.le_of_ble_eq_true rfl) (by decide) (Xname_bmp hnm) (bw 299 (by decide +kernel) (by decide +kernel)) rfl rfl rfl rfl rfl dX4_init_29 rfl (S' := S0 ++ ([Sum.inl (3, [some (some (B + 1)), some (some (B + 2)), some (some (B + 3)), some (some (B + 4)), some none, none]), Sum.inr ((0, 5), none), Sum.inr ((0, 5), none), Sum.inr ((0, 5), none), Sum.inr ((0, 5), none)] : List Shp)) (B_set hB _ 0 _) ?_
  refine V_aload_n (CC _ _ (by decide) (by decide)) 0 dX4_init_32 rfl rfl rfl ?_
  refine V_sipush (CC _ _ (by decide) (by decide)) dX4_init_33 rfl (v := 1701) rfl ?_
  refine N_newa E C (k := (B + 5)) (B_len hB rfl) (by omega) (by omega) (by decide) (N := 1701) (by decide) (hz _ (by omega)) (by decide) (by decide) (by decide) dX4_init_36 rfl (S' := S0 ++ ([Sum.inl (3, [some (some (B + 1)), some (some (B + 2)), some (some (B + 3)), some (some (B + 4)), some none, none]), Sum.inr ((0, 5), none), Sum.inr ((0, 5), none), Sum.inr ((0, 5), none), Sum.inr ((0, 5), none), Sum.inr ((0, 1701), none)] : List Shp)) (List.append_assoc _ _ _) rfl rfl ?_
  refine N_putR (CC _ _ (by decide) (by decide)) (k := B) cf4 ((B_get hB _ 0).trans rfl) 4 (Nat.le_of_ble_eq_true rfl) (by decide) (Xname_bmp hnm) (bw 300 (by decide +kernel) (by decide +kernel)) rfl rfl rfl rfl rfl dX4_init_38 rfl (S' := S0 ++ ([Sum.inl (3, [some (some (B + 1)), some (some (B + 2)), some (some (B + 3)), some (some (B + 4)), some (some (B + 5)), none]), Sum.inr ((0, 5), none), Sum.inr ((0, 5), none), Sum.inr ((0, 5), none), Sum.inr ((0, 5), none), Sum.inr ((0, 1701), none)] : List Shp)) (B_set hB _ 0 _) ?_
  exact K 5 1721 _ _ (by decide) (by decide) dX4_init_41
