/-! turns of the reference; how many are done -/
section DAYS
variable {u m : Mem} {r : Nat → Int32} {B : Nat}
def itR (r : Nat → Int32) : Nat → Nat → Int32
  | 0 => r
  | k + 1 => turR (itR r k)
theorem itR_ok (hw : Wf r) (h0 : 0 < nc r) : ∀ k, Wf (itR r k) ∧ nc (itR r k) = nc r ∧ ne (itR r k) = ne r ∧ dnc r ≤ dnc (itR r k)
  | 0 => ⟨hw, rfl, rfl, Nat.le_refl _⟩
  | k + 1 => by
    obtain ⟨i1, i2, i3, i4⟩ := itR_ok hw h0 k
    obtain ⟨j1, j2, j3, j4⟩ := turR_ok i1 (by rw [i2]; exact h0)
    exact ⟨j1, j2.trans i2, j3.trans i3, by show dnc r ≤ dnc (turR (itR r k)); omega⟩
theorem m_turn (hm : m 117 = r) (hw : Wf r) (h0 : 0 < nc r) : ∃ (x : Int32) (m' : Mem), (∀ (p1 : Int32) rec (a k : Int32), ¬ p1 ≤ k → BX10_days_9 p1 rec (a, k, m) = rec (jmax a x, k + 1, m')) ∧ (x = -1 ∨ ∃ g, g ≤ 1000000 ∧ x = nI g) ∧ Qm (mrow m 117 (turR r)) m' ∧ m' 119 = m 119 ∧ m' 116 6 = m 116 6 + nI (turN r) := by
  have h6 := nc_eq hw
  have h8 := ne_eq hw
  have WA := zN_wf hw
  have hc : tuC r < nc r := Nat.mod_lt _ h0
  obtain ⟨v1, v2⟩ := dv_eq r
  have W2 := tu2_wf hw
  have WB := zN_wf W2
  obtain ⟨x1, x2⟩ := dv_eq (tu2 r)
  have ht : tuT r < 7 := Nat.mod_lt _ (by omega)
  have hcB : tuC r < nc (zN (tu2 r)) := by rw [nc_zN, nc_tu2]; exact hc
  have ec : jrem (nI (dv r)) (nI (nc r)) = nI (tuC r) := nrem (by omega) h0 (by omega)
  have et : jrem (nI (dv (tu2 r))) (nI 7) = nI (tuT r) := nrem (by omega) (by omega) (by omega)
  have hT := m_takesAll (m := mrow m 117 (zN r)) (mrow_at _ _ _) WA (c := tuC r) (by rw [nc_zN]; exact hc)
  rw [ne_zN, mrow_mrow] at hT
  have hT : FX10_takesAll (nI (tuC r)) (mrow m 117 (zN r)) = some (mrow m 117 (tu2 r)) := hT
  have hD := m_drawn (m := mrow m 117 (tu2 r)) (mrow_at _ _ _) (n := 7) (by omega) (by omega)
  rw [mrow_mrow, x1, et] at hD
  have e7 : mrow m 117 (zN (tu2 r)) 117 = zN (tu2 r) := mrow_at _ _ _
  have pre : ∀ (p1 : Int32) rec (a k : Int32), ¬ p1 ≤ k → BX10_days_9 p1 rec (a, k, m) = Option.bind (FX10_walked (nI (tuC r)) (nI (tuT r)) (mrow m 117 (zN (tu2 r)))) (fun q4 => rec (jmax a q4.1, k + 1, q4.2)) := by
    intro p1 rec a k hk
    dsimp only [BX10_days_9]
    rw [if_neg hk, hm, h6.1, m_drawn hm h0 (by omega), bs]
    dsimp only
    rw [v1, ec, hT, bs, L7, hD, bs]
  have en : turR r = if tuY r < 1000000 then fiR (zN (tu2 r)) (tuC r) (tuT r) else zN (tu2 r) := rfl
  have eN : turN r = if tuY r < 1000000 then cntS (gB (stR (zN (tu2 r)) (tuC r) (tuT r)) (tuC r) (tuT r)) (ne r) else 0 := rfl
  have hnB : ne (zN (tu2 r)) = ne r := ne_zN.trans ne_tu2
  by_cases z : tuY r < 1000000
  · obtain ⟨m', q1, q2, q3, q4⟩ := m_walk_yes e7 WB hcB ht z
    have W1 := stR_wf WB (c := tuC r) (t := tuT r) (by omega) ht
    have hg := (gS_le W1 (tuC r) (tuT r) (ne (zN (tu2 r))) (by rw [stR_ne]; exact Nat.le_refl _)).2
    rw [hnB] at hg q4
    refine ⟨_, m', fun p1 rec a k hk => ?_, Or.inr ⟨gS (stR (zN (tu2 r)) (tuC r) (tuT r)) (tuC r) (tuT r) (ne r), by omega, rfl⟩, ?_, ?_, ?_⟩
    · rw [pre p1 rec a k hk, q1, bs, hnB]
    · rw [en, if_pos z]
      rw [mrow_mrow] at q2
      exact q2
    · rw [q3, mrow_ne (by omega)]
    · rw [q4, mrow_ne (by omega), eN, if_pos z]
  · refine ⟨_, _, fun p1 rec a k hk => by rw [pre p1 rec a k hk, m_walk_no e7 WB hcB ht z, bs], Or.inl rfl, ?_, ?_, ?_⟩
    · rw [en, if_neg z]
      exact Qm_mrow (by omega) _
    · dsimp only
      rw [mrow_ne (by omega), mrow_ne (by omega)]
    · dsimp only
      rw [mrow_ne (by omega), mrow_ne (by omega), eN, if_neg z]
      exact (add0 _).symm
theorem cntS_in (P : Nat → Bool) {n : Nat} : ∀ k, n ≤ k → cntS (fun e => decide (e < n) && P e) k = cntS P n := by
  intro k
  induction k with
  | zero =>
    intro h
    have : n = 0 := by omega
    subst this
    rfl
  | succ k ih =>
    intro h
    by_cases c : n = k + 1
    · subst c
      exact cntS_congr _ (fun e he => by simp [he])
    · have h1 := ih (by omega)
      have e : cntS (fun e => decide (e < n) && P e) (k + 1) = cntS (fun e => decide (e < n) && P e) k := if_neg (by
        have : decide (k < n) = false := decide_eq_false (by omega)
        show ¬ (decide (k < n) && P k) = true
        rw [this]
        simp)
      rw [e]
      exact h1
theorem pcn_eS (hw : Wf r) : pcn (eS r 2) = dnc r := by
  have h8 := (ne_eq hw).2
  unfold pcn dnc
  rw [← cntS_in (fun e => decide (eF r e 3 = 2)) (n := ne r) 8 h8]
  exact cntS_congr _ (fun e he => setS_bit _ _ _)
theorem c_turns (h : Rep u B r) (hw : Wf r) (h0 : 0 < nc r) {n : Nat} (hn : n ≤ 12) : ∃ u', FX2_turns B (nI n) u = some (nI (dnc (itR r n) - dnc r), u') ∧ Rep u' B (itR r n) ∧ Fr B u u' := by
  have b0 := (pc_eq (eS_lt hw 2)).2.1
  rw [pcn_eS hw] at b0
  obtain ⟨Wn, k2, k3, k4⟩ := itR_ok hw h0 n
  have bn := (pc_eq (eS_lt Wn 2)).2.1
  rw [pcn_eS Wn] at bn
  obtain ⟨o, ⟨o1, o2⟩, e⟩ := lp_inv (Bf := BX2_turns_11 B (nI n) (bitCount (nI (eS r 2)))) (s0 := (0, u)) (fun k s => s.1 = nI k ∧ Rep s.2 B (itR r k) ∧ Fr B u s.2) (fun o => Rep o.2 B (itR r n) ∧ Fr B u o.2) (N := n) (by omega) (fun k hk s hI rec => by
      obtain ⟨s1, s2⟩ := s
      obtain ⟨i1, i2, i3⟩ := hI
      have i1 : s1 = nI k := i1
      subst i1
      have i2 : Rep s2 B (itR r k) := i2
      left
      obtain ⟨Wk, j2, j3, j4⟩ := itR_ok hw h0 k
      obtain ⟨u4, g1, g2, g3⟩ := c_turn i2 Wk (by rw [j2]; exact h0)
      refine ⟨(nI (k + 1), u4), ⟨rfl, g2, Fr_trans i3 g3⟩, ?_⟩
      dsimp only [BX2_turns_11]
      rw [if_neg (n_ngt hk (by omega)), g1, bs, nI_1])
    (fun s hI rec => by
      obtain ⟨s1, s2⟩ := s
      obtain ⟨i1, i2, i3⟩ := hI
      have i1 : s1 = nI n := i1
      subst i1
      refine ⟨(nI n, s2), ⟨i2, i3⟩, ?_⟩
      dsimp only [BX2_turns_11]
      rw [if_pos (n_ge (Nat.le_refl _) (by omega))])
    ⟨rfl, h, Fr_refl B u⟩
  refine ⟨o.2, ?_, o1, o2⟩
  unfold FX2_turns
  rw [L2, c_errandsThat h hw (by omega), bs, e, bs, c_errandsThat o1 Wn (by omega), bs, b0, bn, nsub k4]
theorem m_days (hm : m 117 = r) (hw : Wf r) (h0 : 0 < nc r) {n : Nat} (hn : n ≤ 12) : ∃ m', FX10_days (nI n) m = some (nI (dnc (itR r n) - dnc r), m') ∧ Qm (mrow m 117 (itR r n)) m' ∧ m' 119 = m 119 := by
  obtain ⟨o, ⟨o0, o1, o2, o3⟩, e⟩ := lp_inv (Bf := BX10_days_9 (nI n)) (s0 := (0, 0, mst m 116 6 0)) (fun k s => (∃ g, g ≤ 1000000 ∧ s.1 = nI g) ∧ s.2.1 = nI k ∧ Qm (mrow m 117 (itR r k)) s.2.2 ∧ s.2.2 119 = m 119 ∧ s.2.2 116 6 = nI (dnc (itR r k) - dnc r)) (fun o => (∃ g, g ≤ 1000000 ∧ o.1 = nI g) ∧ Qm (mrow m 117 (itR r n)) o.2.2 ∧ o.2.2 119 = m 119 ∧ o.2.2 116 6 = nI (dnc (itR r n) - dnc r)) (N := n) (by omega) (fun k hk s hI rec => by
      obtain ⟨s1, s2, s3⟩ := s
      obtain ⟨⟨g, g1, g2⟩, i1, i2, i3, i4⟩ := hI
      have g2 : s1 = nI g := g2
      have i1 : s2 = nI k := i1
      subst g2
      subst i1
      have i2 : Qm (mrow m 117 (itR r k)) s3 := i2
      have i3 : s3 119 = m 119 := i3
      have i4 : s3 116 6 = nI (dnc (itR r k) - dnc r) := i4
      left
      obtain ⟨Wk, j2, j3, j4⟩ := itR_ok hw h0 k
      have e7 : s3 117 = itR r k := by rw [i2.1 117 (by unfold keepM; omega), mrow_at]
      have h0k : 0 < nc (itR r k) := by rw [j2]; exact h0
      obtain ⟨x, m', t1, t2, t3, t4, t5⟩ := m_turn e7 Wk h0k
      have td := (turR_ok Wk h0k).2.2.2
      have hd : dnc (itR r (k + 1)) = dnc (itR r k) + turN (itR r k) := td
      refine ⟨(jmax (nI g) x, nI (k + 1), m'), ⟨?_, rfl, Qm_trans (Qm_117' (ρ' := itR r (k + 1)) i2) t3, t4.trans i3, ?_⟩, ?_⟩
      · rcases t2 with rfl | ⟨g', g'1, rfl⟩
        · refine ⟨g, g1, ?_⟩
          show jmax (nI g) (-1) = nI g
          unfold jmax
          rw [if_neg]
          intro y
          have := Int32.lt_iff_toInt_lt.mp y
          rw [nI_toInt (by omega)] at this
          have h1 : (-1 : Int32).toInt = -1 := by decide
          omega
        · exact ⟨max g g', by omega, nmax (by omega) (by omega)⟩
      · show m' 116 6 = _
        rw [t5, i4, nadd, hd]
        exact congrArg nI (by omega)
      · rw [t1 (nI n) rec _ _ (n_ngt hk (by omega)), nI_1])
    (fun s hI rec => by
      obtain ⟨s1, s2, s3⟩ := s
      obtain ⟨g0, i1, i2, i3, i4⟩ := hI
      have i1 : s2 = nI n := i1
      subst i1
      refine ⟨(s1, nI n, s3), ⟨g0, i2, i3, i4⟩, ?_⟩
      dsimp only [BX10_days_9]
      rw [if_pos (n_ge (Nat.le_refl _) (by omega))])
    ⟨⟨0, by omega, rfl⟩, rfl, by
      have : mrow m 117 (itR r 0) = m := by show mrow m 117 r = m; rw [← hm, mrow_self]
      rw [this]
      exact Qm_116 (by omega) (by omega) _, by show mst m 116 6 0 119 = _; rw [mst_k (by omega)], by show mst m 116 6 0 116 6 = _; rw [mst_s]; show (0 : Int32) = nI (dnc r - dnc r); rw [Nat.sub_self]; rfl⟩
  obtain ⟨g, g1, g2⟩ := o0
  refine ⟨o.2.2, ?_, o1, o2⟩
  unfold FX10_days
  rw [e, bs, g2, if_pos (nI_pos' (by omega)), o3]
end DAYS
