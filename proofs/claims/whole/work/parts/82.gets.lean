/-! what a set of errands pays -/
section GETS
variable {u m : Mem} {r : Nat → Int32} {B : Nat}
def paS (r : Nat → Int32) (k s : Nat) : Nat := sumS (hs s) (payE r k) (ne r)
def woOk (r : Nat → Int32) (s : Nat) : Prop := ∀ e, e < ne r → hs s e = true → wo r e < 1000000
theorem paS_le (hw : Wf r) (k s : Nat) : paS r k s ≤ 627264 := by
  have h8 := (ne_eq hw).2
  have key : ∀ n, n ≤ ne r → sumS (hs s) (payE r k) n ≤ n * 78408 := by
    intro n
    induction n with
    | zero => intro _; exact Nat.le_refl _
    | succ n ih =>
      intro hn
      have i := ih (by omega)
      have := payE_le hw (k := k) (show n < ne r by omega)
      rw [Nat.add_mul, Nat.one_mul]
      by_cases y : hs s n = true
      · rw [show sumS (hs s) (payE r k) (n + 1) = sumS (hs s) (payE r k) n + payE r k n from if_pos y]; omega
      · rw [show sumS (hs s) (payE r k) (n + 1) = sumS (hs s) (payE r k) n from if_neg y]; exact Nat.le_trans i (Nat.le_add_right _ _)
  have := key (ne r) (Nat.le_refl _)
  unfold paS
  omega
theorem c_payOf (h : Rep u B r) (hw : Wf r) {c s : Nat} (hc : c < nc r) (hs' : s < 256) : FX2_payOf B (nI c) (nI s) u = some (nI (paS r (cF r c 0) s)) := by
  have hn := ne_eq hw
  refine lp_bind (sum_loop (hs s) (payE r (cF r c 0)) (n := ne r) (by omega) (fun k hk a rec => ?_) (fun a rec => ?_)) rfl
  · dsimp only [BX2_payOf_5]
    rw [q6 h hw, if_neg (n_ngt hk (by omega)), nhas hs' (by omega), b2]
    by_cases y : hs s k = true
    · rw [if_pos y, if_pos y, c_payFor h hw hc hk, bs]
    · rw [if_neg y, if_neg y]
  · dsimp only [BX2_payOf_5]
    rw [q6 h hw, if_pos (n_ge (Nat.le_refl _) (by omega))]
theorem m_getsOf (hm : m 117 = r) (hw : Wf r) {c s : Nat} (hc : c < nc r) (hs' : s < 256) : ∃ ρ, (woOk r s ∧ FX10_getsOf (nI c) (nI s) m = some (nI (paS r (cF r c 0) s), mrow m 121 ρ)) ∨ (¬ woOk r s ∧ FX10_getsOf (nI c) (nI s) m = some (-1, mrow m 121 ρ)) := by
  have hn := ne_eq hw
  obtain ⟨N, N1, N2, N3⟩ := first_not (fun e => hs s e = true → wo r e < 1000000) (ne r)
  obtain ⟨o, ⟨o1, o2, ρ, o3⟩, oe⟩ := lp_inv (Bf := BX10_getsOf_5 (nI c) (nI s)) (s0 := (0, 0, m)) (fun k st => st.1 = nI (sumS (hs s) (payE r (cF r c 0)) k) ∧ st.2.1 = nI k ∧ ∃ ρ, st.2.2 = mrow m 121 ρ) (fun o => o.1 = (if N = ne r then 1 else 0) ∧ o.2.1 = nI (sumS (hs s) (payE r (cF r c 0)) N) ∧ ∃ ρ, o.2.2.2 = mrow m 121 ρ) (N := N) (by omega) (fun k hk st hI rec => by
      obtain ⟨s1, s2, s3⟩ := st
      obtain ⟨i1, i2, ρ, i3⟩ := hI
      have i1 : s1 = nI (sumS (hs s) (payE r (cF r c 0)) k) := i1
      have i2 : s2 = nI k := i2
      have i3 : s3 = mrow m 121 ρ := i3
      subst i1
      subst i2
      subst i3
      have e7 : mrow m 121 ρ 117 = r := by rw [mrow_ne (by omega)]; exact hm
      have hke : k < ne r := by omega
      left
      by_cases y : hs s k = true
      · have hk1 := N2 k hk y
        have hwf := wo_fin hw hke hk1
        have es : sumS (hs s) (payE r (cF r c 0)) (k + 1) = sumS (hs s) (payE r (cF r c 0)) k + payE r (cF r c 0) k := if_pos y
        have ep : payE r (cF r c 0) k = pk' (cF r c 0) (eF r k 0 * wo r k) := if_pos hk1
        refine ⟨(nI (sumS (hs s) (payE r (cF r c 0)) (k + 1)), nI (k + 1), mrow m 121 (tb 49 (flat (Ds r 0)) (mrow m 121 ρ 121))), ⟨rfl, rfl, _, rfl⟩, ?_⟩
        have e7b : ∀ ρ', mrow m 121 ρ' 117 = r := fun ρ' => by rw [mrow_ne (by omega)]; exact hm
        dsimp only [BX10_getsOf_5]
        rw [if_neg (by rw [e7, hn.1]; exact n_ngt hke (by omega)), nhas2 hs' (by omega), b2, if_pos y, m_worthOf e7 hw hke, bs]
        dsimp only
        rw [if_pos hk1, if_pos (nI_pos' (by omega)), mrow_mrow, m_getsFor (e7b _) hw hc hwf.1, bs, nadd, nI_1, es, ep]
      · have es : sumS (hs s) (payE r (cF r c 0)) (k + 1) = sumS (hs s) (payE r (cF r c 0)) k := if_neg y
        refine ⟨(nI (sumS (hs s) (payE r (cF r c 0)) (k + 1)), nI (k + 1), mrow m 121 ρ), ⟨rfl, rfl, _, rfl⟩, ?_⟩
        dsimp only [BX10_getsOf_5]
        rw [if_neg (by rw [e7, hn.1]; exact n_ngt hke (by omega)), nhas2 hs' (by omega), b2, if_neg y, nI_1, es])
    (fun st hI rec => by
      obtain ⟨s1, s2, s3⟩ := st
      obtain ⟨i1, i2, ρ, i3⟩ := hI
      have i1 : s1 = nI (sumS (hs s) (payE r (cF r c 0)) N) := i1
      have i2 : s2 = nI N := i2
      have i3 : s3 = mrow m 121 ρ := i3
      subst i1
      subst i2
      subst i3
      have e7 : mrow m 121 ρ 117 = r := by rw [mrow_ne (by omega)]; exact hm
      rcases N3 with y | ⟨y1, y2⟩
      · refine ⟨(1, nI (sumS (hs s) (payE r (cF r c 0)) N), nI N, mrow m 121 ρ), ⟨(if_pos y).symm, rfl, _, rfl⟩, ?_⟩
        dsimp only [BX10_getsOf_5]
        rw [if_pos (by rw [e7, hn.1]; exact n_ge (by omega) (by omega))]
      · have y3 : hs s N = true := by
          by_cases q : hs s N = true
          · exact q
          · exact absurd (fun z => absurd z q) y2
        have y4 : ¬ wo r N < 1000000 := fun z => y2 (fun _ => z)
        refine ⟨(0, nI (sumS (hs s) (payE r (cF r c 0)) N), nI N, mrow m 121 (tb 49 (flat (Ds r 0)) (mrow m 121 ρ 121))), ⟨(if_neg (by omega)).symm, rfl, _, rfl⟩, ?_⟩
        dsimp only [BX10_getsOf_5]
        rw [if_neg (by rw [e7, hn.1]; exact n_ngt y1 (by omega)), nhas2 hs' (by omega), b2, if_pos y3, m_worthOf e7 hw y1, bs]
        dsimp only
        rw [if_neg y4, if_neg (by decide), mrow_mrow])
    ⟨rfl, rfl, m 121, (mrow_self m 121).symm⟩
  refine ⟨ρ, ?_⟩
  by_cases y : N = ne r
  · left
    refine ⟨fun e he hh => N2 e (by omega) hh, ?_⟩
    unfold FX10_getsOf
    rw [oe, bs, o1, if_pos y, if_neg (by decide), o2, o3, y]
    rfl
  · right
    rcases N3 with z | ⟨z1, z2⟩
    · exact absurd z y
    refine ⟨fun z => z2 (fun hh => z N z1 hh), ?_⟩
    unfold FX10_getsOf
    rw [oe, bs, o1, if_neg y, if_pos rfl, o3]
theorem few_cases (h : Inv u) (p : Int32) : (FX9_isFewErrands p u = 0 ∧ ∀ m, m 117 = u 117 → FX10_isSet p 5 m = some 0) ∨ ∃ s, s < 2 ^ ne (u 117) ∧ s < 256 ∧ p = nI s ∧ pcn s ≤ 5 ∧ FX9_isFewErrands p u = 1 ∧ ∀ m, m 117 = u 117 → FX10_isSet p 5 m = some 1 := by
  have hR := h.1.1
  have hW := h.2.1
  rcases set_cases hW p with k0 | ⟨s, hs1, hs2, rfl, k1⟩
  · left
    exact ⟨c_isFew0 hR hW k0, fun m hm => m_isSet0 hm hW _ k0⟩
  · by_cases z : pcn s ≤ 5
    · right
      refine ⟨s, hs1, hs2, rfl, z, ?_, fun m hm => ?_⟩
      · rw [c_isFew hR hW hs2 k1, if_pos z]
      · rw [L5, m_isSet1 hm hW hs2 (by omega) k1, if_pos z]
    · left
      refine ⟨?_, fun m hm => ?_⟩
      · rw [c_isFew hR hW hs2 k1, if_neg z]
      · rw [L5, m_isSet1 hm hW hs2 (by omega) k1, if_neg z]
theorem s_gets (h : Inv u) (p1 p2 : Int32) : Same (FX9_gets p1 p2) (FX10_gets p1 p2) u := by
  have hR := h.1.1
  have hW := h.2.1
  have h6 := nc_eq hW
  have h8 := ne_eq hW
  rcases wi_cases p1 (n := nc (u 117)) (by omega) with ⟨g0, -⟩ | ⟨c, hc, rfl, g1⟩
  · refine same_fin 0 (by omega) w0 h (Qc_refl u) ?_ (fun m hm => ⟨m, Qm_refl m, ?_⟩)
    · unfold FX9_gets; rw [c_has hR hW, g0, if_pos rfl, bind_eta]
    · unfold FX10_gets; rw [m_isC (hm117 hm) hW, g0, if_pos rfl, bind_eta]
  rcases few_cases h p2 with ⟨k0, k1⟩ | ⟨s, hs1, hs2, rfl, hpc, k1, k2⟩
  · refine same_fin 0 (by omega) w0 h (Qc_refl u) ?_ (fun m hm => ⟨m, Qm_refl m, ?_⟩)
    · unfold FX9_gets; rw [c_has hR hW, g1, if_neg (by decide), k0, if_pos rfl, bind_eta]
    · unfold FX10_gets; rw [m_isC (hm117 hm) hW, g1, if_neg (by decide), k1 m (hm117 hm), bs, if_pos rfl, bind_eta]
  have fl := find_loop (Bf := BX9_gets_28 (nI c) (nI s) u) (fun e => hs s e && decide (¬ wo (u 117) e < 1000000)) (n := ne (u 117)) (fo := fun e => (0, nI e)) (fe := (1, nI (ne (u 117)))) (by omega) (fun e he rec => by
      have hv : woV (u 117) e ≤ 1000000 := by
        unfold woV
        split
        · next z => have := (wo_fin hW he z).1; omega
        · omega
      dsimp only [BX9_gets_28]
      rw [q6 hR hW, if_neg (n_ngt he (by omega)), nhas hs2 (by omega), b2]
      by_cases y : hs s e = true
      · rw [if_pos y, c_worthOf hR hW he, bs]
        by_cases z : wo (u 117) e < 1000000
        · have := (wo_fin hW he z).1
          rw [if_pos (by rw [LM, nlt (by omega) (by omega)]; unfold woV; rw [if_pos z]; omega), if_neg (by simp [z])]
        · rw [if_neg (by rw [LM, nlt (by omega) (by omega)]; unfold woV; rw [if_neg z]; omega), if_pos (by simp [y, z])]
      · rw [if_neg y, if_neg (by simp [y])])
    (fun rec => by
      dsimp only [BX9_gets_28]
      rw [q6 hR hW, if_pos (n_ge (Nat.le_refl _) (by omega))])
  rcases fl with ⟨e, e1, e2, e3, e4⟩ | ⟨e1, e2⟩
  · have hno : ¬ woOk (u 117) s := fun z => by
      have e2 : (hs s e && decide (¬ wo (u 117) e < 1000000)) = true := e2
      rw [Bool.and_eq_true] at e2
      exact (of_decide_eq_true e2.2) (z e e1 e2.1)
    refine same_fin 3 (by omega) w3 h (Qc_refl u) ?_ (fun m hm => ?_)
    · unfold FX9_gets; rw [c_has hR hW, g1, if_neg (by decide), k1, if_neg (by decide), e4, bs, if_pos rfl, bind_eta]
    · obtain ⟨ρ, ⟨z, -⟩ | ⟨z, ge⟩⟩ := m_getsOf (hm117 hm) hW hc hs2
      · exact absurd z hno
      · refine ⟨mrow m 121 ρ, Qm_mrow (by omega) _, ?_⟩
        unfold FX10_gets; rw [m_isC (hm117 hm) hW, g1, if_neg (by decide), k2 m (hm117 hm), bs, if_neg (by decide), ge, bs]
        dsimp only
        rw [if_neg (by decide), bind_eta]
  · have hyes : woOk (u 117) s := fun e he hh => by
      have := e1 e he
      by_cases z : wo (u 117) e < 1000000
      · exact z
      · rw [hh, decide_eq_true z] at this; cases this
    have hp := paS_le hW (cF (u 117) c 0) s
    obtain ⟨ρ, ⟨z, ge⟩ | ⟨z, ge⟩⟩ := m_getsOf (m := u) rfl hW hc hs2
    · refine same_val (x := nI (paS (u 117) (cF (u 117) c 0) s)) (u2 := mrow u 121 ρ) h (Qc_refl u) ?_ ?_ (Qm_mrow (by omega) _)
      · unfold FX9_gets; rw [c_has hR hW, g1, if_neg (by decide), k1, if_neg (by decide), e2, bs]
        dsimp only
        rw [if_neg (by decide), c_payOf hR hW hc hs2, bs]
      · unfold FX10_gets; rw [m_isC rfl hW, g1, if_neg (by decide), k2 u rfl, bs, if_neg (by decide), ge, bs]
        dsimp only
        rw [if_pos (nI_pos' (by omega))]
    · exact absurd hyes z
end GETS
