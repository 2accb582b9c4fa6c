/-! bridges -/
theorem mst_self (m : Mem) (k j : Nat) : mst m k j (m k j) = m := by
  rw [mst_as_mrow m, upd_self, mrow_self]
theorem skip_b {P : Nat → Bool} {v t : Nat → Nat} (x : Nat) : ∀ d, (∀ k, x ≤ k → k < x + d → P k = false) → bm P v t (x + d) = bm P v t x ∧ bv P v (x + d) = bv P v x ∧ ba P v t (x + d) = ba P v t x
  | 0, _ => ⟨rfl, rfl, rfl⟩
  | d + 1, h => by
    obtain ⟨h1, h2, h3⟩ := skip_b (P := P) (v := v) (t := t) x d (fun k a b => h k a (by omega))
    have hp : ¬ P (x + d) = true := by rw [h (x + d) (by omega) (by omega)]; decide
    have e1 : bm P v t (x + (d + 1)) = bm P v t (x + d) := by
      show bm P v t ((x + d) + 1) = _
      rw [bm_up, if_neg hp]
    have e2 : bv P v (x + (d + 1)) = bv P v (x + d) := by
      show bv P v ((x + d) + 1) = _
      rw [bv_up, if_neg hp]
    have e3 : ba P v t (x + (d + 1)) = ba P v t (x + d) := if_neg (fun z => hp z.1)
    rw [e1, e2, e3]
    exact ⟨h1, h2, h3⟩
section BRIDGE
variable {u m : Mem} {r : Nat → Int32} {B : Nat}
def brR (r : Nat → Int32) (a b : Nat) : Nat → Int32 := upd r (wy a b + 1) 0
theorem brR_lay {a b : Nat} : layR r a b (r (wy a b)) 0 = brR r a b := by
  unfold layR brR
  have : r (wy a b) = upd r (wy a b + 1) 0 (wy a b) := (pk_un (by omega)).symm
  rw [this]
  exact upd_self _ _
theorem brR_back {a b : Nat} (h : r (wy a b + 1) = 1) : layR (brR r a b) a b (r (wy a b)) 1 = r := by
  unfold layR brR
  rw [upd_upd, ← h, upd_self, upd_self]
def brP (r : Nat → Int32) (j : Nat) : Bool := decide (j / 7 < j % 7) && (decide (tn (r (wy (j / 7) (j % 7))) ≠ 0) && decide (r (wy (j / 7) (j % 7) + 1) = 1))
def brT (j : Nat) : Nat := 10 * (j / 7) + j % 7
noncomputable def brV (r : Nat → Int32) (c s j : Nat) : Nat := RC (brR r (j / 7) (j % 7)) c s
theorem brV_le (r : Nat → Int32) (c s j : Nat) : brV r c s j ≤ 1000000 := RC_le _ _ _
theorem brP_iff {a b : Nat} (hb : b < 7) : brP r (7 * a + b) = true ↔ a < b ∧ tn (r (wy a b)) ≠ 0 ∧ r (wy a b + 1) = 1 := by
  unfold brP
  rw [(dm7 hb).1, (dm7 hb).2]
  simp only [Bool.and_eq_true, decide_eq_true_eq]
theorem brP_lo {a b : Nat} (hb : b < 7) (h : b ≤ a) : brP r (7 * a + b) = false := by
  by_cases c : brP r (7 * a + b) = true
  · have := ((brP_iff hb).mp c).1; omega
  · simpa using c
theorem brR_wf (hw : Wf r) {a b : Nat} (ha : a < 7) (hb : b < 7) (hab : a ≠ b) : Wf (brR r a b) := by
  rw [← brR_lay]
  exact layR_wf hw ha hb hab (hw.2.1 a b ha hb hab).1 (In_nI (n := 0) (by omega) (by omega))
theorem c_bridge35 (h : Rep u 1 r) (hw : Wf r) {c s a : Nat} (hc : c < nc r) (hs1 : s < 2 ^ ne r) (hs2 : s < 256) (hp : pcn s ≤ 5) (ha : a < 7) {u1 : Mem} (q1 : Qc u u1) (R1 : Rep0 u1 65 r) : ∃ o, (o.1 = nI (bm (brP r) (brV r c s) brT (7 * (a + 1))) ∧ Qc u o.2.2 ∧ Rep0 o.2.2 65 r) ∧ lp (BX9_shortestByBridge_31 (nI c) (nI s) (nI a)) FU (nI (bm (brP r) (brV r c s) brT (7 * a)), nI (a + 1), u1) = some o := by
  have sk := (skip_b (P := brP r) (v := brV r c s) (t := brT) (7 * a) (a + 1) (fun k k1 k2 => by
    have : k = 7 * a + (k - 7 * a) := by omega
    rw [this]
    exact brP_lo (by omega) (by omega))).1
  refine lp_inv (Bf := BX9_shortestByBridge_31 (nI c) (nI s) (nI a)) (fun k st => st.1 = nI (bm (brP r) (brV r c s) brT (7 * a + (a + 1 + k))) ∧ st.2.1 = nI (a + 1 + k) ∧ Qc u st.2.2 ∧ Rep0 st.2.2 65 r) (fun o => o.1 = nI (bm (brP r) (brV r c s) brT (7 * (a + 1))) ∧ Qc u o.2.2 ∧ Rep0 o.2.2 65 r) (N := 6 - a) (by omega) (fun k hk st hI rec => ?_) (fun st hI rec => ?_) ⟨by rw [Nat.add_zero, sk], rfl, q1, R1⟩
  · obtain ⟨s1, s2, s3⟩ := st
    obtain ⟨i1, i2, i3, i4⟩ := hI
    have hb : a + 1 + k < 7 := by omega
    generalize hbk : a + 1 + k = b at *
    have hk1 : a + 1 + (k + 1) = b + 1 := by omega
    rw [hk1]
    have hab : a ≠ b := by omega
    have i1 : s1 = nI (bm (brP r) (brV r c s) brT (7 * a + b)) := i1
    have i2 : s2 = nI b := i2
    subst i1
    subst i2
    have i3 : Qc u s3 := i3
    have i4 : Rep0 s3 65 r := i4
    have F1 : Rep s3 1 r := Rep_congr (fun x _ _ => i3.1 x (by omega)) hw h
    have hbl := bm_le (brP r) (brV r c s) brT (7 * a + b)
    have hvl := brV_le r c s (7 * a + b)
    have hy := yY hw ha hb hab
    have cx : (nI (7 * a + b)).toNatClampNeg = 7 * a + b := ncl (by omega)
    obtain ⟨Y1, Y2⟩ := F1.2.2.2.2.2.1 a b ha hb
    rw [if_neg hab] at Y1
    have eY : FX8_yardsOf (1 + 4) (nI a) (nI b) s3 = some (r (wy a b)) := by
      unfold FX8_yardsOf
      simp only [i7, cx, Y1]
      rw [if_pos (inb_t (by omega) (by omega))]
    have eV : FX8_riverOf (1 + 4) (nI a) (nI b) s3 = some (r (wy a b + 1)) := by
      unfold FX8_riverOf
      simp only [i7, cx, Y2 hab]
      rw [if_pos (inb_t (by omega) (by omega))]
    have eup : ∀ q : Bool, brP r (7 * a + b) = q → bm (brP r) (brV r c s) brT (7 * a + (b + 1)) = if q = true then min (bm (brP r) (brV r c s) brT (7 * a + b)) (brV r c s (7 * a + b) * 256 + brT (7 * a + b)) else bm (brP r) (brV r c s) brT (7 * a + b) := fun q hq => by
      show bm (brP r) (brV r c s) brT ((7 * a + b) + 1) = _
      rw [bm_up, hq]
    left
    by_cases y : brP r (7 * a + b) = true
    · obtain ⟨y1, y2, y3⟩ := (brP_iff hb).mp y
      have W1 := brR_wf hw ha hb hab
      have L1 : Rep0 (layM s3 65 a b (r (wy a b)) 0) 65 (brR r a b) := by rw [← brR_lay]; exact c_layR i4 hw ha hb hab _ _
      have Q1 : Qc u (layM s3 65 a b (r (wy a b)) 0) := Qc_trans i3 (Fr_Qc (Fr_lay _ _ _ _ _ _))
      have M1 := msr_Rep L1 W1
      have Q2 : Qc u (msr (layM s3 65 a b (r (wy a b)) 0) 65 (brR r a b) 3) := Qc_trans Q1 (Fr_Qc (Fr_msr _ _ _))
      have e43 : ne (brR r a b) = ne r := congrArg tn (pk_un (by have := wy_lt ha hb hab; omega))
      have e42 : nc (brR r a b) = nc r := congrArg tn (pk_un (by have := wy_lt ha hb hab; omega))
      obtain ⟨u3, f1, f2, f3⟩ := c_RC M1 W1 (by omega) (by rw [e42]; exact hc) (by rw [e43]; exact hs1) hs2 hp
      have L3 : Rep0 u3 65 (brR r a b) := Rep_0 (RQ_Rep (by omega) f2 W1 M1)
      have L4 : Rep0 (layM u3 65 a b (r (wy a b)) 1) 65 r := by
        have := c_layR L3 W1 ha hb hab (r (wy a b)) 1
        rw [brR_back y3] at this
        exact this
      have eRC : RC (brR r a b) c s = brV r c s (7 * a + b) := by unfold brV; rw [(dm7 hb).1, (dm7 hb).2]
      have eT : brT (7 * a + b) = 10 * a + b := by unfold brT; rw [(dm7 hb).1, (dm7 hb).2]
      rw [eRC] at f1
      refine ⟨(nI (bm (brP r) (brV r c s) brT (7 * a + (b + 1))), nI (b + 1), layM u3 65 a b (r (wy a b)) 1), ⟨rfl, rfl, Qc_trans Q2 (Qc_trans (RQ_Qc f2) (Fr_Qc (Fr_lay _ _ _ _ _ _))), L4⟩, ?_⟩
      dsimp only [BX9_shortestByBridge_31]
      rw [L7, if_neg (n_ngt hb (by omega)), eY, bs, if_neg (by rw [hy.1, L0, nle (by omega) (by omega)]; omega), eV, bs, if_pos y3, c_lay ha hb, bs, c_measure L1.2.2.2.2.2 W1, bs, f1, bs, c_lay ha hb, bs]
      dsimp only
      rw [L256, L10, nmul, nmul, nadd, nadd, nmin (by omega) (by omega), nI_1, eup true y, if_pos rfl, eT, Nat.add_assoc]
    · have yf : brP r (7 * a + b) = false := by simpa using y
      refine ⟨(nI (bm (brP r) (brV r c s) brT (7 * a + (b + 1))), nI (b + 1), s3), ⟨rfl, rfl, i3, i4⟩, ?_⟩
      dsimp only [BX9_shortestByBridge_31]
      rw [L7, if_neg (n_ngt hb (by omega)), eY, bs, eup false yf, if_neg (show ¬ false = true by decide)]
      by_cases z : tn (r (wy a b)) = 0
      · rw [if_pos (by rw [hy.1, z]; decide), nI_1]
      · rw [if_neg (by rw [hy.1, L0, nle (by omega) (by omega)]; omega), eV, bs, if_neg (fun q => y ((brP_iff hb).mpr ⟨by omega, z, q⟩)), nI_1]
  · obtain ⟨s1, s2, s3⟩ := st
    obtain ⟨i1, i2, i3, i4⟩ := hI
    have e7 : a + 1 + (6 - a) = 7 := by omega
    rw [e7] at i1 i2
    have i2 : s2 = nI 7 := i2
    subst i2
    refine ⟨(s1, nI 7, s3), ⟨i1, i3, i4⟩, ?_⟩
    dsimp only [BX9_shortestByBridge_31]
    rw [L7, if_pos (n_ge (Nat.le_refl _) (by omega))]
theorem c_bridge (h : Rep u 1 r) (hw : Wf r) {c s : Nat} (hc : c < nc r) (hs1 : s < 2 ^ ne r) (hs2 : s < 256) (hp : pcn s ≤ 5) : ∃ u', FX9_shortestByBridge (nI c) (nI s) u = some (nI (bm (brP r) (brV r c s) brT 49), u') ∧ Qc u u' := by
  obtain ⟨ub, b1, b2, b3⟩ := c_become (p := 65) h hw (by omega)
  obtain ⟨o, ⟨o1, o2⟩, e⟩ := lp_inv (Bf := BX9_shortestByBridge_18 (nI c) (nI s)) (s0 := (256000000, 0, ub)) (fun a st => st.1 = nI (bm (brP r) (brV r c s) brT (7 * a)) ∧ st.2.1 = nI a ∧ Qc u st.2.2 ∧ Rep0 st.2.2 65 r) (fun o => o.1 = nI (bm (brP r) (brV r c s) brT 49) ∧ Qc u o.2.2) (N := 7) (by omega) (fun a ha st hI rec => by
      obtain ⟨s1, s2, s3⟩ := st
      obtain ⟨i1, i2, i3, i4⟩ := hI
      have i1 : s1 = nI (bm (brP r) (brV r c s) brT (7 * a)) := i1
      have i2 : s2 = nI a := i2
      subst i1
      subst i2
      left
      obtain ⟨o, ⟨k1, k2, k3⟩, ke⟩ := c_bridge35 h hw hc hs1 hs2 hp ha i3 i4
      refine ⟨(nI (bm (brP r) (brV r c s) brT (7 * (a + 1))), nI (a + 1), o.2.2), ⟨rfl, rfl, k2, k3⟩, ?_⟩
      dsimp only [BX9_shortestByBridge_18]
      rw [L7, if_neg (n_ngt ha (by omega)), nI_1, ke, bs, k1])
    (fun st hI rec => by
      obtain ⟨s1, s2, s3⟩ := st
      obtain ⟨i1, i2, i3, i4⟩ := hI
      have i2 : s2 = nI 7 := i2
      subst i2
      refine ⟨(s1, nI 7, s3), ⟨i1, i3⟩, ?_⟩
      dsimp only [BX9_shortestByBridge_18]
      rw [L7, if_pos (n_ge (Nat.le_refl _) (by omega))])
    ⟨rfl, rfl, Fr_Qc b3, Rep_0 b2⟩
  refine ⟨o.2.2, ?_, o2⟩
  unfold FX9_shortestByBridge
  rw [b1, bs, e, bs, o1]
theorem BQ_yes' {m m1 m2 : Mem} {P : Nat → Bool} {v t : Nat → Nat} {n : Nat} (h : BQ m m1 P v t n 12) (hq : Q3 m1 m2) (hn : P n = true ∧ v n < bv P v n) : BQ m (mst (mst m2 116 12 (nI (t n))) 116 11 (nI (v n))) P v t (n + 1) 12 := by
  obtain ⟨h1, h2, h3⟩ := h
  have e1 : bv P v (n + 1) = v n := by
    rw [bv_up, if_pos hn.1]
    exact Nat.min_eq_right (by have := hn.2; omega)
  have e2 : ba P v t (n + 1) = t n := if_pos hn
  unfold BQ
  rw [e1, e2]
  refine ⟨Q3_trans h1 (Q3_trans hq (Q3_trans (Q3_mst (by omega) _ _) (Q3_mst (by omega) _ _))), mst_s _ _ _ _, fun _ => ?_⟩
  rw [mst_j (by omega), mst_s]
theorem m_bridge35 (hI : Inv u) (hm : m 117 = u 117) (h4 : m 124 = u 124) {c s a : Nat} (hc : c < nc (u 117)) (hs1 : s < 2 ^ ne (u 117)) (hs2 : s < 256) (hp : pcn s ≤ 5) (ha : a < 7) {m1 : Mem} (q1 : BQ m m1 (brP (u 117)) (brV (u 117) c s) brT (7 * a) 12) (p3 : Int32) : ∃ o, BQ m o.2 (brP (u 117)) (brV (u 117) c s) brT (7 * (a + 1)) 12 ∧ lp (BX10_refusesBridge_35 (nI c) (nI s) p3 (nI a)) FU (nI (a + 1), m1) = some o := by
  have hW := hI.2.1
  obtain ⟨sk1, sk2, sk3⟩ := skip_b (P := brP (u 117)) (v := brV (u 117) c s) (t := brT) (7 * a) (a + 1) (fun k k1 k2 => by
    have : k = 7 * a + (k - 7 * a) := by omega
    rw [this]
    exact brP_lo (by omega) (by omega))
  refine lp_inv (Bf := BX10_refusesBridge_35 (nI c) (nI s) p3 (nI a)) (fun k st => st.1 = nI (a + 1 + k) ∧ BQ m st.2 (brP (u 117)) (brV (u 117) c s) brT (7 * a + (a + 1 + k)) 12) (fun o => BQ m o.2 (brP (u 117)) (brV (u 117) c s) brT (7 * (a + 1)) 12) (N := 6 - a) (by omega) (fun k hk st hIn rec => ?_) (fun st hIn rec => ?_) ⟨rfl, by
    unfold BQ at q1 ⊢
    rw [Nat.add_zero, sk2, sk3]
    exact q1⟩
  · obtain ⟨s1, s2⟩ := st
    obtain ⟨i1, i2⟩ := hIn
    have hb : a + 1 + k < 7 := by omega
    generalize hbk : a + 1 + k = b at *
    have hk1 : a + 1 + (k + 1) = b + 1 := by omega
    rw [hk1]
    have hab : a ≠ b := by omega
    have i1 : s1 = nI b := i1
    subst i1
    have i2 : BQ m s2 (brP (u 117)) (brV (u 117) c s) brT (7 * a + b) 12 := i2
    have q7 : s2 117 = u 117 := (Q3_7 i2.1).trans hm
    have q4 : s2 124 = u 124 := (Q3_4 i2.1).trans h4
    have hbl := bv_le (brP (u 117)) (brV (u 117) c s) (7 * a + b)
    have hvl := brV_le (u 117) c s (7 * a + b)
    have hl := wy_lt ha hb hab
    have hy := yY hW ha hb hab
    have cx : (nI (wy a b)).toNatClampNeg = wy a b := ncl (by omega)
    have cx1 : (nI (wy a b + 1)).toNatClampNeg = wy a b + 1 := ncl (by omega)
    left
    by_cases y : brP (u 117) (7 * a + b) = true
    · obtain ⟨y1, y2, y3⟩ := (brP_iff hb).mp y
      have W1 := brR_wf hW ha hb hab
      have e43 : ne (brR (u 117) a b) = ne (u 117) := congrArg tn (pk_un (by omega))
      have e42 : nc (brR (u 117) a b) = nc (u 117) := congrArg tn (pk_un (by omega))
      have hmem : mst s2 117 (wy a b + 1) 0 = mrow s2 117 (brR (u 117) a b) := by rw [mst_as_mrow s2, q7]; rfl
      obtain ⟨m2, f1, f2, f3⟩ := m_RC (m := mrow s2 117 (brR (u 117) a b)) (c := c) (s := s) (mrow_at _ _ _) W1 (Ms_pw hI (by rw [mrow_ne (by omega)]; exact q4)) (by rw [e42]; exact hc) (by rw [e43]; exact hs1) hs2 hp
      have m27 : m2 117 = brR (u 117) a b := (Q3_7 f2).trans (mrow_at _ _ _)
      have hback : mst m2 117 (wy a b + 1) 1 = mrow m2 117 (u 117) := by
        rw [mst_as_mrow m2, m27]
        unfold brR
        rw [upd_upd, ← y3, upd_self]
      have hQ : Q3 s2 (mrow m2 117 (u 117)) := by
        have := Q3_117 (ρ' := u 117) f2
        rw [← q7, mrow_self] at this
        rw [← q7]
        exact this
      have e16 : mrow m2 117 (u 117) 116 = s2 116 := by rw [mrow_ne (by omega), f3, mrow_ne (by omega)]
      have e11 : mrow m2 117 (u 117) 116 11 = nI (bv (brP (u 117)) (brV (u 117) c s) (7 * a + b)) := by rw [e16]; exact i2.2.1
      have eRC : RC (brR (u 117) a b) c s = brV (u 117) c s (7 * a + b) := by unfold brV; rw [(dm7 hb).1, (dm7 hb).2]
      have eT : brT (7 * a + b) = 10 * a + b := by unfold brT; rw [(dm7 hb).1, (dm7 hb).2]
      rw [eRC] at f1
      have pre : BX10_refusesBridge_35 (nI c) (nI s) p3 (nI a) rec (nI b, s2) = if nI (bv (brP (u 117)) (brV (u 117) c s) (7 * a + b)) ≤ nI (brV (u 117) c s (7 * a + b)) then rec (nI (b + 1), mst (mst (mrow m2 117 (u 117)) 116 12 (mrow m2 117 (u 117) 116 12)) 116 11 (jmin (mst (mrow m2 117 (u 117)) 116 12 (mrow m2 117 (u 117) 116 12) 116 11) (nI (brV (u 117) c s (7 * a + b))))) else rec (nI (b + 1), mst (mst (mrow m2 117 (u 117)) 116 12 (nI (10 * a + b))) 116 11 (jmin (mst (mrow m2 117 (u 117)) 116 12 (nI (10 * a + b)) 116 11) (nI (brV (u 117) c s (7 * a + b))))) := by
        dsimp only [BX10_refusesBridge_35, nm]
        simp only [wayAt_eq ha hb hab, nI_1, cx, cx1, q7, hmem]
        rw [if_neg (by rw [L7]; exact n_ngt hb (by omega)), if_pos (inb_t (by omega) (by omega)), if_neg (by rw [hy.1, L0, nle (by omega) (by omega)]; omega), if_pos (inb_t (by omega) (by omega)), if_pos y3, if_pos (inb_t (by omega) (by omega)), f1, bs]
        dsimp only
        simp only [hback, e11]
        rw [if_pos (inb_t (by omega) (by omega)), L10, nmul, nadd]
      by_cases z : brV (u 117) c s (7 * a + b) < bv (brP (u 117)) (brV (u 117) c s) (7 * a + b)
      · refine ⟨(nI (b + 1), mst (mst (mrow m2 117 (u 117)) 116 12 (nI (brT (7 * a + b)))) 116 11 (nI (brV (u 117) c s (7 * a + b)))), ⟨rfl, BQ_yes' i2 hQ ⟨y, z⟩⟩, ?_⟩
        rw [pre, if_neg (n_ngt z (by omega)), mst_j (show 11 ≠ 12 by omega), e11, nmin (by omega) (by omega), Nat.min_eq_right (by omega), eT]
      · refine ⟨(nI (b + 1), mrow m2 117 (u 117)), ⟨rfl, BQ_no i2 hQ e16 (fun q => z q.2)⟩, ?_⟩
        rw [pre, if_pos (n_ge (by omega) (by omega)), mst_self, e11, nmin (by omega) (by omega), Nat.min_eq_left (by omega), ← e11, mst_self]
    · refine ⟨(nI (b + 1), s2), ⟨rfl, BQ_no i2 (Q3_refl _) rfl (fun q => y q.1)⟩, ?_⟩
      dsimp only [BX10_refusesBridge_35, nm]
      simp only [wayAt_eq ha hb hab, nI_1, cx, cx1, q7]
      rw [if_neg (by rw [L7]; exact n_ngt hb (by omega)), if_pos (inb_t (by omega) (by omega))]
      by_cases z : tn (u 117 (wy a b)) = 0
      · rw [if_pos (by rw [hy.1, z]; decide)]
      · rw [if_neg (by rw [hy.1, L0, nle (by omega) (by omega)]; omega), if_pos (inb_t (by omega) (by omega)), if_neg (fun q => y ((brP_iff hb).mpr ⟨by omega, z, q⟩))]
  · obtain ⟨s1, s2⟩ := st
    obtain ⟨i1, i2⟩ := hIn
    have e7 : a + 1 + (6 - a) = 7 := by omega
    rw [e7] at i1 i2
    have i1 : s1 = nI 7 := i1
    subst i1
    refine ⟨(nI 7, s2), i2, ?_⟩
    dsimp only [BX10_refusesBridge_35]
    rw [L7, if_pos (n_ge (Nat.le_refl _) (by omega))]
theorem m_bridge (hI : Inv u) (hm : m 117 = u 117) (h4 : m 124 = u 124) {c s : Nat} (hc : c < nc (u 117)) (hs1 : s < 2 ^ ne (u 117)) (hs2 : s < 256) (hp : pcn s ≤ 5) (p3 : Int32) : ∃ o, BQ m o.2 (brP (u 117)) (brV (u 117) c s) brT 49 12 ∧ lp (BX10_refusesBridge_22 (nI c) (nI s) p3) FU (0, (mst m 116 11 1000000)) = some o := by
  refine lp_inv (Bf := BX10_refusesBridge_22 (nI c) (nI s) p3) (fun a st => st.1 = nI a ∧ BQ m st.2 (brP (u 117)) (brV (u 117) c s) brT (7 * a) 12) (fun o => BQ m o.2 (brP (u 117)) (brV (u 117) c s) brT 49 12) (N := 7) (by omega) (fun a ha st hIn rec => ?_) (fun st hIn rec => ?_) ⟨rfl, BQ_0 _ _ _ _ _⟩
  · obtain ⟨s1, s2⟩ := st
    obtain ⟨i1, i2⟩ := hIn
    have i1 : s1 = nI a := i1
    subst i1
    left
    obtain ⟨o, k1, ke⟩ := m_bridge35 hI hm h4 hc hs1 hs2 hp ha i2 p3
    refine ⟨(nI (a + 1), o.2), ⟨rfl, k1⟩, ?_⟩
    dsimp only [BX10_refusesBridge_22]
    rw [L7, if_neg (n_ngt ha (by omega)), nI_1, ke, bs]
  · obtain ⟨s1, s2⟩ := st
    obtain ⟨i1, i2⟩ := hIn
    have i1 : s1 = nI 7 := i1
    subst i1
    refine ⟨(nI 7, s2), i2, ?_⟩
    dsimp only [BX10_refusesBridge_22]
    rw [L7, if_pos (n_ge (Nat.le_refl _) (by omega))]
theorem br_end (c s : Nat) : (bv (brP r) (brV r c s) 49 = 1000000 ∧ bm (brP r) (brV r c s) brT 49 = 256000000) ∨ (bv (brP r) (brV r c s) 49 < 1000000 ∧ bm (brP r) (brV r c s) brT 49 < 256000000 ∧ bm (brP r) (brV r c s) brT 49 / 256 = bv (brP r) (brV r c s) 49 ∧ bm (brP r) (brV r c s) brT 49 % 256 = ba (brP r) (brV r c s) brT 49) :=
  best_end (fun k hk _ => by unfold brT; omega) (fun j k hj hk _ _ => by unfold brT; omega)
theorem s_bridge (h : Inv u) (p1 p2 : Int32) : Same (FX9_bridge p1 p2) (FX10_bridge p1 p2) u := by
  rcases lack_cases h p1 p2 with ⟨i, hi, e1, e2⟩ | ⟨c, s, hc, hs1, hs2, rfl, rfl, hp, hl, e1, e2⟩
  · refine same_fin i hi rfl h (Qc_refl u) ?_ (fun m hm => ⟨m, Qm_refl m, ?_⟩)
    · unfold FX9_bridge; rw [e1, bs, if_neg (wv_ne i hi), bind_eta]
    · unfold FX10_bridge FX10_refusesBridge; rw [e2 m (hm117 hm), bs, if_neg (wv_ne i hi), bs, if_neg (wv_ne i hi), bind_eta]
  obtain ⟨u', f1, f2⟩ := c_bridge h.1.1 h.2.1 hc hs1 hs2 hp
  have hbm := bm_le (brP (u 117)) (brV (u 117) c s) brT 49
  have hbe := br_end (r := u 117) c s
  refine same_if (c := bv (brP (u 117)) (brV (u 117) c s) 49 < 1000000) (x := nI (ba (brP (u 117)) (brV (u 117) c s) brT 49)) 3 (by omega) w3 h f2 ?_ (fun m hm => ?_)
  · unfold FX9_bridge
    rw [e1, bs, if_pos rfl, f1, bs]
    dsimp only
    rw [bind_eta, c_second hbm]
    rcases hbe with ⟨b1, b2⟩ | ⟨b1, b2, b3, b4⟩
    · rw [b1, b2, if_neg (show ¬ 256000000 < 256000000 by omega), if_neg (show ¬ 1000000 < 1000000 by omega)]
    · rw [b4, if_pos b2, if_pos b1]
  · obtain ⟨o, o1, oe⟩ := m_bridge h (hm117 hm) (hm 124 (by omega)) hc hs1 hs2 hp 0
    refine ⟨o.2, Q3_Qm o1.1, ?_⟩
    unfold FX10_bridge FX10_refusesBridge
    rw [e2 m (hm117 hm), bs, if_pos rfl, oe, bs, o1.2.1]
    by_cases z : bv (brP (u 117)) (brV (u 117) c s) 49 < 1000000
    · rw [if_pos (by rw [LM, nlt (by omega) (by omega)]; exact z), if_pos z, bs, if_pos rfl, o1.2.2 z]
    · have := bv_le (brP (u 117)) (brV (u 117) c s) 49
      rw [if_neg (by rw [LM, nlt (by omega) (by omega)]; exact z), if_neg z, bs]
      dsimp only
      rw [if_neg (by decide), bind_eta]
theorem s_worth (h : Inv u) (p1 p2 : Int32) : Same (FX9_worth p1 p2) (FX10_worth p1 p2) u := by
  have hW := h.2.1
  rcases lack_cases h p1 p2 with ⟨i, hi, e1, e2⟩ | ⟨c, s, hc, hs1, hs2, rfl, rfl, hp, hl, e1, e2⟩
  · refine same_fin i hi rfl h (Qc_refl u) ?_ (fun m hm => ⟨m, Qm_refl m, ?_⟩)
    · unfold FX9_worth; rw [e1, bs, if_neg (wv_ne i hi), bind_eta]
    · unfold FX10_worth FX10_refusesBridge; rw [e2 m (hm117 hm), bs, if_neg (wv_ne i hi), bs, if_neg (wv_ne i hi), bind_eta]
  obtain ⟨u', f1, f2⟩ := c_bridge h.1.1 h.2.1 hc hs1 hs2 hp
  have F1 : Rep u' 1 (u 117) := Rep_congr (fun x _ _ => f2.1 x (by omega)) hW h.1.1
  obtain ⟨u2, g1, g2, g3⟩ := c_RC F1 hW (by omega) hc hs1 hs2 hp
  have hrl := RC_le (u 117) c s
  have hbm := bm_le (brP (u 117)) (brV (u 117) c s) brT 49
  have hbe := br_end (r := u 117) c s
  have hbl := bv_le (brP (u 117)) (brV (u 117) c s) 49
  refine same_if (c := bv (brP (u 117)) (brV (u 117) c s) 49 < 1000000 ∧ RC (u 117) c s < 1000000) (x := nI (RC (u 117) c s) - nI (bv (brP (u 117)) (brV (u 117) c s) 49)) 3 (by omega) w3 h (Qc_trans f2 (RQ_Qc g2)) ?_ (fun m hm => ?_)
  · unfold FX9_worth
    rw [e1, bs, if_pos rfl, f1, bs]
    dsimp only
    rw [g1, bs, L256, ndiv (by omega) (by omega) (by omega)]
    dsimp only
    rw [bind_eta]
    rcases hbe with ⟨b1, b2⟩ | ⟨b1, b2, b3, b4⟩
    · rw [b1, b2, if_pos (by decide), if_neg (fun q => absurd q.1 (Nat.lt_irrefl _))]
    · rw [b3, if_neg (by rw [LM]; exact n_ngt b1 (by omega))]
      by_cases z : RC (u 117) c s < 1000000
      · rw [if_pos (by rw [LM, nlt (by omega) (by omega)]; exact z), if_pos ⟨b1, z⟩]
      · rw [if_neg (by rw [LM, nlt (by omega) (by omega)]; exact z), if_neg (fun q => z q.2)]
  · obtain ⟨o, o1, oe⟩ := m_bridge h (hm117 hm) (hm 124 (by omega)) hc hs1 hs2 hp 0
    have q7 : o.2 117 = u 117 := (Q3_7 o1.1).trans (hm117 hm)
    have q4 : o.2 124 = u 124 := (Q3_4 o1.1).trans (hm 124 (by omega))
    obtain ⟨m2, k1, k2, k3⟩ := m_RC q7 hW (Ms_pw h q4) hc hs1 hs2 hp
    by_cases z : bv (brP (u 117)) (brV (u 117) c s) 49 < 1000000
    · refine ⟨m2, Q3_Qm (Q3_trans o1.1 k2), ?_⟩
      unfold FX10_worth FX10_refusesBridge
      rw [e2 m (hm117 hm), bs, if_pos rfl, oe, bs, o1.2.1, if_pos (by rw [LM, nlt (by omega) (by omega)]; exact z), bs, if_pos rfl, k1, bs]
      dsimp only
      rw [k3, o1.2.1, bind_eta]
      by_cases y : RC (u 117) c s < 1000000
      · rw [if_pos (by rw [LM, nlt (by omega) (by omega)]; exact y), if_pos ⟨z, y⟩]
      · rw [if_neg (by rw [LM, nlt (by omega) (by omega)]; exact y), if_neg (fun q => y q.2)]
    · refine ⟨o.2, Q3_Qm o1.1, ?_⟩
      unfold FX10_worth FX10_refusesBridge
      rw [e2 m (hm117 hm), bs, if_pos rfl, oe, bs, o1.2.1, if_neg (by rw [LM, nlt (by omega) (by omega)]; exact z), bs]
      dsimp only
      rw [if_neg (show ¬ ((-1000004 : Int32) = 0) by decide), bind_eta, if_neg (show ¬ (bv (brP (u 117)) (brV (u 117) c s) 49 < 1000000 ∧ RC (u 117) c s < 1000000) from fun q => z q.1)]
end BRIDGE
