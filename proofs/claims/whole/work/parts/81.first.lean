/-! the first place of a shortest row of ways -/
section FIRST
variable {u m : Mem} {r : Nat → Int32} {B : Nat}
def fiP (r : Nat → Int32) (k i j p : Nat) : Bool := decide (p ≠ i) && (decide (eg r (gt k) i p < 1000000) && decide (eg r (gt k) i p + Ds r k p j = Ds r k i j))
theorem fi_ex (hw : Wf r) {k i j : Nat} (hi : i < 7) (hj : j < 7) (hij : i ≠ j) (h : Ds r k i j < 1000000) : ∃ p, p < 7 ∧ fiP r k i j p = true := by
  have hE := eg_Eg hw (gt k)
  obtain ⟨x, x1, x2, x3, x4⟩ := fw_step hE 7 i j (Nat.le_refl _) hi hj hij h
  refine ⟨x, x1, ?_⟩
  have t := fw_tri hE 7 i j x x1
  have ed := fw_edge (eg r (gt k)) i x 7
  have e1 : Ds r k i j = fw (eg r (gt k)) 7 i j := rfl
  have e2 : Ds r k x j = fw (eg r (gt k)) 7 x j := rfl
  have x3 : eg r (gt k) i x < 1000000 := x3
  unfold fiP
  rw [decide_eq_true x2, decide_eq_true x3, decide_eq_true (by omega)]
  rfl
theorem c_stepD (h : RepY u B r) {g i : Nat} (hi : i < 7) : FX8_stepAt (B + 4) (nI g) (nI (7 * i + i)) u = some 1000000 := by
  obtain ⟨h1, -⟩ := h i i hi hi
  rw [if_pos rfl] at h1
  unfold FX8_stepAt
  have ci : (nI (7 * i + i)).toNatClampNeg = 7 * i + i := ncl (by omega)
  simp only [ci, h1]
  rw [if_pos (inb_t (by omega) (by omega)), if_pos trivial]
theorem c_nextPlace (h : Rep u B r) (hw : Wf r) {k i j : Nat} (hk : k < 7) (hi : i < 7) (hj : j < 7) (hij : i ≠ j) (hf : Ds r k i j < 1000000) : ∃ p, p < 7 ∧ fiP r k i j p = true ∧ (∀ q, q < p → fiP r k i j q = false) ∧ FX8_nextPlace (B + 4) (nI k) (nI i) (nI j) u = some (nI p) := by
  have hg : ∀ k, k < 7 → tGait k = nI (gt k) := by decide +kernel
  have hl := gt_lt k
  have hT := h.2.2.2.2.2.2
  rcases find_loop (Bf := BX8_nextPlace_12 (B + 4) (nI k) (nI i) (nI j) u (nI (Ds r k i j))) (fiP r k i j) (n := 7) (fo := fun p => (0, nI p)) (fe := (1, nI 7)) (by omega) (fun p hp rec => by
      dsimp only [BX8_nextPlace_12]
      rw [L7, if_neg (n_ngt hp (by omega)), if_neg (by rw [neq (by omega) (by omega)]; exact hij), if_pos (inb_t (by omega) (by omega)), ncl (by omega), hg k hk, ← L7, i7]
      by_cases c : i = p
      · subst c
        rw [c_stepD h.2.2.2.2.2.1 hi, bs, if_pos (by decide), if_neg (by simp [fiP])]
      · have hb := (eg_Eg hw (gt k)).2.2 i p
        have hNW : NW = 1000000 := rfl
        have hd := Ds_le hw k p j
        have hd2 := Ds_le hw k i j
        rw [c_stepAt h.2.2.2.2.2.1 hw hl hi hp c, bs]
        by_cases d : eg r (gt k) i p < 1000000
        · rw [if_neg (by rw [LM, nle (by omega) (by omega)]; omega), c_yardsFor hT hk hp hj, bs, nadd]
          by_cases e : eg r (gt k) i p + Ds r k p j = Ds r k i j
          · rw [if_pos (by rw [e]), if_pos (by unfold fiP; simp [d, e]; omega)]
          · rw [if_neg (by rw [neq (by omega) (by omega)]; exact e), if_neg (by unfold fiP; simp [e])]
        · rw [if_pos (by rw [LM, nle (by omega) (by omega)]; omega), if_neg (by unfold fiP; simp [d])])
    (fun rec => by
      dsimp only [BX8_nextPlace_12]
      rw [L7, if_pos (n_ge (Nat.le_refl _) (by omega))]) with ⟨p, p1, p2, p3, p4⟩ | ⟨p1, p2⟩
  · refine ⟨p, p1, p2, p3, ?_⟩
    unfold FX8_nextPlace
    rw [c_yardsFor hT hk hi hj, bs, p4, bs]
    rfl
  · obtain ⟨p, q1, q2⟩ := fi_ex hw (k := k) hi hj hij hf
    rw [p1 p q1] at q2
    cases q2
theorem m_firstL (hm : m 117 = r) (hw : Wf r) {k i j p : Nat} (hk : k < 7) (hi : i < 7) (hj : j < 7) (h21 : ∀ p, p < 7 → m 121 (7 * p + j) = nI (Ds r k p j)) (hp : p < 7) (y1 : fiP r k i j p = true) (y2 : ∀ q, q < p → fiP r k i j q = false) (p1 : Int32) : ∃ x, lp (BX10_first_76 p1 (nI j) (nI i) (nI k) (nI (Ds r k i j)) m) FU (-1, 0) = some (nI p, x) := by
  have step : ∀ q, q < 7 → ∀ rec, BX10_first_76 p1 (nI j) (nI i) (nI k) (nI (Ds r k i j)) m rec (-1, nI q) = if fiP r k i j q = true then rec (nI q, nI (q + 1)) else rec (-1, nI (q + 1)) := by
    intro q hq rec
    have n1 : ¬ (0 : Int32) ≤ -1 := by decide
    dsimp only [BX10_first_76]
    rw [L7, if_neg (n_ngt hq (by omega)), if_neg n1]
    by_cases c : q = i
    · subst c
      rw [if_pos rfl]
      unfold JX10_first_112_76 JX10_first_113_76
      rw [if_pos rfl, nI_1, if_neg (by simp [fiP])]
    · have hl := wy_lt hq hi c
      have hy := yY hw hq hi c
      rw [if_neg (by rw [neq (by omega) (by omega)]; exact c), wayAt_eq hq hi c, if_pos (inb_t (by omega) (by omega)), ncl (by omega), hm]
      have eE : eg r (gt k) i q = if tn (r (wy q i)) = 0 then NW else gy (gt k) (tn (r (wy q i))) (tn (r (wy q i + 1))) := by
        unfold eg
        rw [if_neg (fun z => c z.symm), if_pos ⟨hi, hq⟩, wy_sym i q]
      by_cases z : tn (r (wy q i)) = 0
      · rw [if_pos (by rw [hy.1, z]; decide)]
        unfold JX10_first_112_76 JX10_first_113_76
        rw [if_pos rfl, nI_1, if_neg]
        rw [if_pos z] at eE
        unfold fiP
        rw [eE]
        simp
      · rw [if_neg (by rw [hy.1, L0, nle (by omega) (by omega)]; omega)]
        rw [if_neg z] at eE
        have hgl : gy (gt k) (tn (r (wy q i))) (tn (r (wy q i + 1))) ≤ 198 := gy_le hy.2
        have hd := Ds_le hw k q j
        have hd2 := Ds_le hw k i j
        have hc := m_counts hm hw hk hi hq (fun z => c z.symm)
        rw [wy_sym i q] at hc
        unfold JX10_first_113_76
        have cq : (nI (7 * q + j)).toNatClampNeg = 7 * q + j := ncl (by omega)
        rw [if_neg (by decide), hc, bs]
        simp only [j7, cq, h21 q hq, nadd]
        rw [if_pos (inb_t (by omega) (by omega)), nI_1]
        simp only [← eE]
        rw [← eE] at hgl
        by_cases e : eg r (gt k) i q + Ds r k q j = Ds r k i j
        · rw [if_pos (by rw [e]), if_pos (by unfold fiP; simp [e, c]; omega)]
        · rw [if_neg (by rw [neq (by omega) (by omega)]; exact e), if_neg (by unfold fiP; simp [e])]
  obtain ⟨o, o1, oe⟩ := lp_inv (Bf := BX10_first_76 p1 (nI j) (nI i) (nI k) (nI (Ds r k i j)) m) (s0 := (-1, 0)) (fun q s => (if q ≤ p then s.1 = -1 else s.1 = nI p) ∧ s.2 = nI q) (fun o => o.1 = nI p) (N := p + 1) (by omega) (fun q hq s hI rec => by
      obtain ⟨s1, s2⟩ := s
      obtain ⟨i1, i2⟩ := hI
      have i2 : s2 = nI q := i2
      rw [if_pos (by omega)] at i1
      have i1 : s1 = -1 := i1
      subst i1
      subst i2
      left
      by_cases c : q = p
      · subst c
        exact ⟨(nI q, nI (q + 1)), ⟨by rw [if_neg (by omega)], rfl⟩, by rw [step q hp rec, if_pos y1]⟩
      · exact ⟨(-1, nI (q + 1)), ⟨by rw [if_pos (by omega)], rfl⟩, by rw [step q (by omega) rec, if_neg (by rw [y2 q (by omega)]; decide)]⟩)
    (fun s hI rec => by
      obtain ⟨s1, s2⟩ := s
      obtain ⟨i1, i2⟩ := hI
      rw [if_neg (by omega)] at i1
      have i1 : s1 = nI p := i1
      have i2 : s2 = nI (p + 1) := i2
      subst i1
      subst i2
      refine ⟨(nI p, nI (p + 1)), rfl, ?_⟩
      dsimp only [BX10_first_76]
      by_cases c : 7 ≤ p + 1
      · rw [L7, if_pos (n_ge c (by omega))]
      · rw [L7, if_neg (n_ngt (by omega) (by omega)), if_pos (nI_pos' (by omega))])
    ⟨by rw [if_pos (Nat.zero_le _)], rfl⟩
  exact ⟨o.2, by rw [oe]; show some (o.1, o.2) = _; rw [o1]⟩
theorem s_first (h : Inv u) (p1 p2 : Int32) : Same (FX9_first p1 p2) (FX10_first p1 p2) u := by
  have hR := h.1.1
  have hW := h.2.1
  have h6 := nc_eq hW
  rcases wi_cases p1 (n := nc (u 117)) (by omega) with ⟨g0, -⟩ | ⟨c, hc, rfl, g1⟩
  · refine same_fin 0 (by omega) w0 h (Qc_refl u) ?_ (fun m hm => ⟨m, Qm_refl m, ?_⟩)
    · unfold FX9_first; rw [c_has hR hW, g0, if_pos rfl, bind_eta]
    · unfold FX10_first; rw [m_isC (hm117 hm) hW, g0, if_pos rfl, bind_eta]
  rcases pl_cases p2 with ⟨k0, -⟩ | ⟨t, ht, rfl, k1⟩
  · refine same_fin 0 (by omega) w0 h (Qc_refl u) ?_ (fun m hm => ⟨m, Qm_refl m, ?_⟩)
    · unfold FX9_first; rw [c_has hR hW, g1, if_neg (by decide), np9, k0, if_pos rfl, bind_eta]
    · unfold FX10_first; rw [m_isC (hm117 hm) hW, g1, if_neg (by decide), np10, k0, if_pos rfl, bind_eta]
  have hk := (cK hW hc).2
  have hp := (cP hW hc).2
  have hl := Ds_le hW (cF (u 117) c 0) (cF (u 117) c 1) t
  have pre : FX9_first (nI c) (nI t) u = if Ds (u 117) (cF (u 117) c 0) (cF (u 117) c 1) t < 1000000 then Option.bind (FX8_nextPlace (1 + 4) (nI (cF (u 117) c 0)) (nI (cF (u 117) c 1)) (nI t) u) (fun q4 => some (q4, u)) else FX9_finding (-1000004) u := by
    unfold FX9_first
    rw [c_has hR hW, g1, if_neg (by decide), np9, k1, if_neg (by decide), if_pos (inb_t (by omega) (by omega)), ncl (by omega), qK hR hW hc, qP hR hW hc, c_yardsFor hR.2.2.2.2.2.2 hk hp ht, bs, bind_eta]
    by_cases z : Ds (u 117) (cF (u 117) c 0) (cF (u 117) c 1) t < 1000000
    · rw [if_pos (by rw [LM, nlt (by omega) (by omega)]; exact z), if_pos z]
    · rw [if_neg (by rw [LM, nlt (by omega) (by omega)]; exact z), if_neg z]
  have prem : ∀ m, m 117 = u 117 → FX10_first (nI c) (nI t) m = if Ds (u 117) (cF (u 117) c 0) (cF (u 117) c 1) t < 1000000 then (if cF (u 117) c 1 = t then JX10_first_71 (nI c) (nI t) (nI (cF (u 117) c 1)) (nI (cF (u 117) c 0)) (nI (Ds (u 117) (cF (u 117) c 0) (cF (u 117) c 1) t)) (nI t) (mrow m 121 (tb 49 (flat (Ds (u 117) (cF (u 117) c 0))) (m 121))) else JX10_first_71 (nI c) (nI t) (nI (cF (u 117) c 1)) (nI (cF (u 117) c 0)) (nI (Ds (u 117) (cF (u 117) c 0) (cF (u 117) c 1) t)) (-1) (mrow m 121 (tb 49 (flat (Ds (u 117) (cF (u 117) c 0))) (m 121)))) else FX10_finding (-1000004) (mrow m 121 (tb 49 (flat (Ds (u 117) (cF (u 117) c 0))) (m 121))) := by
    intro m hm
    unfold FX10_first
    rw [m_isC hm hW, g1, if_neg (by decide), np10, k1, if_neg (by decide), mP hm hW hc, bs, mK hm hW hc, bs, m_farFor hm hW hk hp ht, bs]
    dsimp only
    rw [bind_eta]
    by_cases z : Ds (u 117) (cF (u 117) c 0) (cF (u 117) c 1) t < 1000000
    · rw [if_pos (by rw [LM, nlt (by omega) (by omega)]; exact z), if_pos z]
      by_cases y : cF (u 117) c 1 = t
      · rw [if_pos (by rw [y]), if_pos y]
      · rw [if_neg (by rw [neq (by omega) (by omega)]; exact y), if_neg y]
    · rw [if_neg (by rw [LM, nlt (by omega) (by omega)]; exact z), if_neg z]
  by_cases z : Ds (u 117) (cF (u 117) c 0) (cF (u 117) c 1) t < 1000000
  · rw [if_pos z] at pre
    have pm := prem u rfl
    rw [if_pos z] at pm
    by_cases y : cF (u 117) c 1 = t
    · rw [if_pos y] at pm
      refine same_val (x := nI t) (u2 := mrow u 121 (tb 49 (flat (Ds (u 117) (cF (u 117) c 0))) (u 121))) h (Qc_refl u) ?_ ?_ (Qm_mrow (by omega) _)
      · rw [pre]
        unfold FX8_nextPlace
        rw [c_yardsFor hR.2.2.2.2.2.2 hk hp ht, bs]
        have : lp (BX8_nextPlace_12 (1 + 4) (nI (cF (u 117) c 0)) (nI (cF (u 117) c 1)) (nI t) u (nI (Ds (u 117) (cF (u 117) c 0) (cF (u 117) c 1) t))) FU 0 = some (1, 0) := by
          show BX8_nextPlace_12 (1 + 4) (nI (cF (u 117) c 0)) (nI (cF (u 117) c 1)) (nI t) u (nI (Ds (u 117) (cF (u 117) c 0) (cF (u 117) c 1) t)) (lp (BX8_nextPlace_12 (1 + 4) (nI (cF (u 117) c 0)) (nI (cF (u 117) c 1)) (nI t) u (nI (Ds (u 117) (cF (u 117) c 0) (cF (u 117) c 1) t))) 4095) 0 = _
          dsimp only [BX8_nextPlace_12]
          rw [if_neg (by decide), if_pos (by rw [y])]
        rw [this, bs, if_neg (by decide), bs, y]
      · rw [pm]
        unfold JX10_first_71
        have : ∀ w, lp (BX10_first_76 (nI c) (nI t) (nI (cF (u 117) c 1)) (nI (cF (u 117) c 0)) (nI (Ds (u 117) (cF (u 117) c 0) (cF (u 117) c 1) t)) w) FU (nI t, 0) = some (nI t, 0) := fun w => by
          show BX10_first_76 (nI c) (nI t) (nI (cF (u 117) c 1)) (nI (cF (u 117) c 0)) (nI (Ds (u 117) (cF (u 117) c 0) (cF (u 117) c 1) t)) w (lp (BX10_first_76 (nI c) (nI t) (nI (cF (u 117) c 1)) (nI (cF (u 117) c 0)) (nI (Ds (u 117) (cF (u 117) c 0) (cF (u 117) c 1) t)) w) 4095) (nI t, 0) = _
          dsimp only [BX10_first_76]
          rw [if_neg (by decide), if_pos (nI_pos' (by omega))]
        rw [this, bs]
    · rw [if_neg y] at pm
      obtain ⟨p, p1, p2, p3, p4⟩ := c_nextPlace hR hW hk hp ht y z
      have h7 : mrow u 121 (tb 49 (flat (Ds (u 117) (cF (u 117) c 0))) (u 121)) 117 = u 117 := mrow_ne (by omega) _
      obtain ⟨x, hx⟩ := m_firstL h7 hW hk hp ht (fun p hp => by
        rw [mrow_at, tb_get (by omega)]
        unfold flat
        rw [(dm7 ht).1, (dm7 ht).2]) p1 p2 p3 (nI c)
      refine same_val (x := nI p) (u2 := mrow u 121 (tb 49 (flat (Ds (u 117) (cF (u 117) c 0))) (u 121))) h (Qc_refl u) ?_ ?_ (Qm_mrow (by omega) _)
      · rw [pre, p4, bs]
      · rw [pm]
        unfold JX10_first_71
        rw [hx, bs]
  · rw [if_neg z] at pre
    refine same_fin 3 (by omega) w3 h (Qc_refl u) pre (fun m hm => ⟨_, Qm_mrow (F := 121) (by omega) (tb 49 (flat (Ds (u 117) (cF (u 117) c 0))) (m 121)), ?_⟩)
    rw [prem m (hm117 hm), if_neg z]
end FIRST
