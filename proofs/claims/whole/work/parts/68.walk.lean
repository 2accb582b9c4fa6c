/-! a walk of the reference -/
section WALK2
variable {u m : Mem} {r : Nat → Int32} {B : Nat}
theorem Qm_117' {m : Mem} {ρ ρ' : Nat → Int32} {m' : Mem} (h : Qm (mrow m 117 ρ) m') : Qm (mrow m 117 ρ') (mrow m' 117 ρ') := by
  obtain ⟨h1, h2, h3⟩ := h
  refine ⟨fun a ha => ?_, ?_, ?_⟩
  · by_cases c : a = 117
    · subst c; rw [mrow_at, mrow_at]
    · rw [mrow_ne c, mrow_ne c, h1 a ha, mrow_ne c]
  · rw [mrow_ne (by omega), mrow_ne (by omega), h2, mrow_ne (by omega)]
  · rw [mrow_ne (by omega), mrow_ne (by omega), h3, mrow_ne (by omega)]
theorem m_getsFor (hm : m 117 = r) (hw : Wf r) {c x : Nat} (hc : c < nc r) (hx : x ≤ 71280) : FX10_getsFor (nI c) (nI x) m = some (nI (pk' (cF r c 0) x)) := by
  have hk := (cK hw hc).2
  have e3 : (3 : Int32) = nI 3 := rfl
  have e4 : (4 : Int32) = nI 4 := rfl
  unfold FX10_getsFor pk'
  rw [mK hm hw hc, bs]
  by_cases c2 : cF r c 0 = 2
  · rw [if_pos (by rw [c2]; rfl), if_pos c2, L2, ndiv (by omega) (by omega) (by omega)]
  · rw [if_neg (by rw [L2, neq (by omega) (by omega)]; exact c2), if_neg c2]
    by_cases c3 : cF r c 0 = 3
    · rw [if_pos (by rw [c3]; rfl), if_pos c3, L10, ndiv (by omega) (by omega) (by omega), nadd]
    · rw [if_neg (by rw [e3, neq (by omega) (by omega)]; exact c3), if_neg c3]
      by_cases c4 : cF r c 0 = 4
      · rw [if_pos (by rw [c4]; rfl), if_pos c4, L2, ndiv (by omega) (by omega) (by omega), nI_1]
      · rw [if_neg (by rw [e4, neq (by omega) (by omega)]; exact c4), if_neg c4]
theorem m_walk_no (hm : m 117 = r) (hw : Wf r) {c t : Nat} (hc : c < nc r) (ht : t < 7) (hz : ¬ Ds r (cF r c 0) (cF r c 1) t < 1000000) : FX10_walked (nI c) (nI t) m = some (-1, mrow m 121 (tb 49 (flat (Ds r (cF r c 0))) (m 121))) := by
  have hl := Ds_le hw (cF r c 0) (cF r c 1) t
  unfold FX10_walked
  rw [mK hm hw hc, bs, mP hm hw hc, bs, m_farFor hm hw (cK hw hc).2 (cP hw hc).2 ht, bs]
  dsimp only
  rw [if_neg (by rw [LM, nlt (by omega) (by omega)]; exact hz)]
theorem m_walk_yes (hm : m 117 = r) (hw : Wf r) {c t : Nat} (hc : c < nc r) (ht : t < 7) (hz : Ds r (cF r c 0) (cF r c 1) t < 1000000) : ∃ m', FX10_walked (nI c) (nI t) m = some (nI (gS (stR r c t) c t (ne r)), m') ∧ Qm (mrow m 117 (fiR r c t)) m' ∧ m' 119 = m 119 ∧ m' 116 6 = m 116 6 + nI (cntS (gB (stR r c t) c t) (ne r)) := by
  have h6 := (nc_eq hw).2
  have h8 := (ne_eq hw).2
  have hl := Ds_le hw (cF r c 0) (cF r c 1) t
  have W1 := stR_wf hw (c := c) (t := t) (by omega) ht
  have a4 : FX10_cAt (nI c) 4 = nI (56 + 5 * c + 4) := cAt_eq (f := 4)
  have a1 : FX10_cAt (nI c) 1 = nI (56 + 5 * c + 1) := cAt_eq (f := 1)
  have a3 : FX10_cAt (nI c) 3 = nI (56 + 5 * c + 3) := cAt_eq (f := 3)
  have hc1 : c < nc (stR r c t) := by rw [stR_nc]; exact hc
  unfold FX10_walked
  dsimp only [nm]
  rw [mK hm hw hc, bs, mP hm hw hc, bs, m_farFor hm hw (cK hw hc).2 (cP hw hc).2 ht, bs]
  dsimp only
  rw [if_pos (by rw [LM, nlt (by omega) (by omega)]; exact hz), a4, a1, a3, if_pos (inb_t (by omega) (by omega)), if_pos (inb_t (by omega) (by omega)), if_pos (inb_t (by omega) (by omega)), ncl (by omega), ncl (by omega)]
  have hstart : mst (mst (mrow m 121 (tb 49 (flat (Ds r (cF r c 0))) (m 121))) 117 (56 + 5 * c + 4) (mrow m 121 (tb 49 (flat (Ds r (cF r c 0))) (m 121)) 117 (56 + 5 * c + 4) + nI (Ds r (cF r c 0) (cF r c 1) t))) 117 (56 + 5 * c + 1) (nI t) = mrow (mrow m 121 (tb 49 (flat (Ds r (cF r c 0))) (m 121))) 117 (stR r c t) := by
    rw [mst_as_mrow (mrow m 121 _), mst_mrow, mrow_ne (show 117 ≠ 121 by omega), hm]
    rfl
  rw [hstart]
  obtain ⟨o, ⟨o1, o2, o3, o4⟩, e⟩ := lp_inv (Bf := BX10_walked_57 (nI c) (nI t) (nI (Ds r (cF r c 0) (cF r c 1) t))) (s0 := (0, 0, mrow (mrow m 121 (tb 49 (flat (Ds r (cF r c 0))) (m 121))) 117 (stR r c t))) (fun k s => s.1 = nI (gS (stR r c t) c t k) ∧ s.2.1 = nI k ∧ Qm (mrow m 117 (goR (stR r c t) c t k)) s.2.2 ∧ s.2.2 119 = m 119 ∧ s.2.2 116 6 = m 116 6 + nI (cntS (gB (stR r c t) c t) k)) (fun o => o.1 = nI (gS (stR r c t) c t (ne r)) ∧ Qm (mrow m 117 (goR (stR r c t) c t (ne r))) o.2.2 ∧ o.2.2 119 = m 119 ∧ o.2.2 116 6 = m 116 6 + nI (cntS (gB (stR r c t) c t) (ne r))) (N := ne r) (by omega) (fun k hk s hI rec => by
      obtain ⟨s1, s2, s3⟩ := s
      obtain ⟨i1, i2, i3, i4, i5⟩ := hI
      have i1 : s1 = nI (gS (stR r c t) c t k) := i1
      have i2 : s2 = nI k := i2
      subst i1
      subst i2
      have i3 : Qm (mrow m 117 (goR (stR r c t) c t k)) s3 := i3
      have i4 : s3 119 = m 119 := i4
      have i5 : s3 116 6 = m 116 6 + nI (cntS (gB (stR r c t) c t) k) := i5
      left
      have e7 : s3 117 = goR (stR r c t) c t k := by rw [i3.1 117 (by unfold keepM; omega), mrow_at]
      obtain ⟨Wk, dk⟩ := goR_wf W1 c t k (by rw [stR_ne]; omega)
      have hkk : k < ne (goR (stR r c t) c t k) := by rw [goR_ne, stR_ne]; exact hk
      have hks : k < ne (stR r c t) := by rw [stR_ne]; exact hk
      have e2 : eF (goR (stR r c t) c t k) k 2 = eF (stR r c t) k 2 := goR_E c t (by omega) (by omega)
      have e3 : eF (goR (stR r c t) c t k) k 3 = eF (stR r c t) k 3 := congrArg tn (goR_un c t k (fun e he => by omega))
      have e4 : goR (stR r c t) c t k (86 + 5 * k + 4) = stR r c t (86 + 5 * k + 4) := goR_un c t k (fun e he => by omega)
      have hb2 := (eB W1 hks).2
      have hb3 := (eH W1 hks).2
      have b3 : FX10_eAt (nI k) 3 = nI (86 + 5 * k + 3) := eAt_eq (f := 3)
      by_cases z : gB (stR r c t) c t k = true
      · have et : goR (stR r c t) c t (k + 1) = upd (goR (stR r c t) c t k) (86 + 5 * k + 3) 2 := if_pos z
        have es : gS (stR r c t) c t (k + 1) = gS (stR r c t) c t k + payE (stR r c t) (cF (stR r c t) c 0) k := if_pos z
        have ec : cntS (gB (stR r c t) c t) (k + 1) = cntS (gB (stR r c t) c t) k + 1 := if_pos z
        obtain ⟨z1, z2, z3⟩ := gB_1 z
        have W2 := (goR_wf W1 c t (k + 1) (by rw [stR_ne]; omega)).1
        have hmem : mst s3 117 (86 + 5 * k + 3) 2 = mrow s3 117 (goR (stR r c t) c t (k + 1)) := by rw [mst_as_mrow s3, e7, et]
        have hq1 : Qm (mrow m 117 (goR (stR r c t) c t (k + 1))) (mrow s3 117 (goR (stR r c t) c t (k + 1))) := Qm_117' i3
        have h7b : mst (mrow s3 117 (goR (stR r c t) c t (k + 1))) 116 6 (mrow s3 117 (goR (stR r c t) c t (k + 1)) 116 6 + 1) 117 = goR (stR r c t) c t (k + 1) := by rw [mst_k (by omega), mrow_at]
        have hne : k < ne (goR (stR r c t) c t (k + 1)) := by rw [goR_ne, stR_ne]; exact hk
        have hwo := m_worthOf h7b W2 hne
        have hcc : c < nc (goR (stR r c t) c t (k + 1)) := by rw [goR_nc]; exact hc1
        have hcf : cF (goR (stR r c t) c t (k + 1)) c 0 = cF (stR r c t) c 0 := congrArg tn (goR_un c t _ (fun e he => by omega))
        have hpe : payE (goR (stR r c t) c t (k + 1)) (cF (stR r c t) c 0) k = payE (stR r c t) (cF (stR r c t) c 0) k := goR_pay c t
        have h7c : ∀ ρ, mrow (mst (mrow s3 117 (goR (stR r c t) c t (k + 1))) 116 6 (mrow s3 117 (goR (stR r c t) c t (k + 1)) 116 6 + 1)) 121 ρ 117 = goR (stR r c t) c t (k + 1) := fun ρ => by rw [mrow_ne (by omega)]; exact h7b
        refine ⟨(nI (gS (stR r c t) c t (k + 1)), nI (k + 1), mrow (mst (mrow s3 117 (goR (stR r c t) c t (k + 1))) 116 6 (mrow s3 117 (goR (stR r c t) c t (k + 1)) 116 6 + 1)) 121 (tb 49 (flat (Ds (goR (stR r c t) c t (k + 1)) 0)) (mst (mrow s3 117 (goR (stR r c t) c t (k + 1))) 116 6 (mrow s3 117 (goR (stR r c t) c t (k + 1)) 116 6 + 1) 121))), ⟨rfl, rfl, Qm_trans hq1 (Qm_trans (Qm_116 (by omega) (by omega) _) (Qm_mrow (by omega) _)), ?_, ?_⟩, ?_⟩
        · dsimp only
          rw [mrow_ne (show 119 ≠ 121 by omega), mst_k (show 119 ≠ 116 by omega), mrow_ne (show 119 ≠ 117 by omega)]; exact i4
        · dsimp only
          rw [mrow_ne (show 116 ≠ 121 by omega), mst_s, mrow_ne (show 116 ≠ 117 by omega), i5, ec, Int32.add_assoc, nI_1]
        · dsimp only [BX10_walked_57, nm]
          rw [if_neg (by rw [e7, (ne_eq Wk).1, goR_ne, stR_ne]; exact n_ngt hk (by omega)), mh e7 Wk hkk, bs, if_pos (by rw [e3, z1]; rfl), mo e7 Wk hkk, bs, if_pos (by rw [e4]; exact z2), mb e7 Wk hkk, bs, if_pos (by rw [e2, z3]), b3, if_pos (inb_t (by omega) (by omega)), ncl (by omega), hmem, hwo, bs]
          dsimp only
          unfold payE at hpe es
          by_cases y : wo (goR (stR r c t) c t (k + 1)) k < 1000000
          · have hwf := wo_fin W2 hne y
            have hwy : wo (goR (stR r c t) c t (k + 1)) k = wo (stR r c t) k := by
              have hy : ∀ g, eg (goR (stR r c t) c t (k + 1)) g = eg (stR r c t) g := eg_congr (fun x hx => goR_un c t _ (fun e he => by omega))
              unfold wo Ds
              rw [hy, goR_E c t (by omega) (by omega), goR_E c t (by omega) (by omega)]
            rw [if_pos y] at hpe
            rw [if_pos y, if_pos (nI_pos' (by omega)), m_getsFor (h7c _) W2 hcc hwf.1, bs, nadd, nI_1, hcf, hpe, es]
          · rw [if_neg y] at hpe
            rw [if_neg y, if_neg (by decide), add0, nI_1, es, ← hpe]
            rfl
      · have et : goR (stR r c t) c t (k + 1) = goR (stR r c t) c t k := if_neg z
        have es : gS (stR r c t) c t (k + 1) = gS (stR r c t) c t k := if_neg z
        have ec : cntS (gB (stR r c t) c t) (k + 1) = cntS (gB (stR r c t) c t) k := if_neg z
        refine ⟨(nI (gS (stR r c t) c t (k + 1)), nI (k + 1), s3), ⟨rfl, rfl, by rw [et]; exact i3, i4, by rw [ec]; exact i5⟩, ?_⟩
        dsimp only [BX10_walked_57, nm]
        rw [if_neg (by rw [e7, (ne_eq Wk).1, goR_ne, stR_ne]; exact n_ngt hk (by omega)), mh e7 Wk hkk, bs, es, nI_1]
        by_cases y1 : eF (stR r c t) k 3 = 1
        · rw [if_pos (by rw [e3, y1]; rfl), mo e7 Wk hkk, bs]
          by_cases y2 : stR r c t (86 + 5 * k + 4) = nI c
          · rw [if_pos (by rw [e4]; exact y2), mb e7 Wk hkk, bs, if_neg (by
              rw [e2, neq (by omega) (by omega)]
              intro y3
              apply z
              unfold gB
              simp [y1, y2, y3])]
          · rw [if_neg (by rw [e4]; exact y2)]
        · rw [if_neg (by rw [e3, L1, neq (by omega) (by omega)]; exact y1)])
    (fun s hI rec => by
      obtain ⟨s1, s2, s3⟩ := s
      obtain ⟨i1, i2, i3, i4, i5⟩ := hI
      have i2 : s2 = nI (ne r) := i2
      subst i2
      have i3 : Qm (mrow m 117 (goR (stR r c t) c t (ne r))) s3 := i3
      have e7 : s3 117 = goR (stR r c t) c t (ne r) := by rw [i3.1 117 (by unfold keepM; omega), mrow_at]
      obtain ⟨Wk, dk⟩ := goR_wf W1 c t (ne r) (by rw [stR_ne]; exact Nat.le_refl _)
      refine ⟨(s1, nI (ne r), s3), ⟨i1, i3, i4, i5⟩, ?_⟩
      dsimp only [BX10_walked_57]
      rw [if_pos (by rw [e7, (ne_eq Wk).1, goR_ne, stR_ne]; exact n_ge (Nat.le_refl _) (by omega))])
    ⟨rfl, rfl, Qm_117' (ρ := m 117) (by rw [mrow_self]; exact Qm_mrow (by omega) _), by dsimp only; rw [mrow_ne (show 119 ≠ 117 by omega), mrow_ne (show 119 ≠ 121 by omega)], by dsimp only; rw [mrow_ne (show 116 ≠ 117 by omega), mrow_ne (show 116 ≠ 121 by omega)]; exact (add0 _).symm⟩
  rw [e, bs, if_pos (inb_t (by omega) (by omega)), if_pos (inb_t (by omega) (by omega)), ncl (by omega)]
  obtain ⟨W2, -⟩ := goR_wf W1 c t (ne r) (by rw [stR_ne]; exact Nat.le_refl _)
  have e7 : o.2.2 117 = goR (stR r c t) c t (ne r) := by rw [o2.1 117 (by unfold keepM; omega), mrow_at]
  have e3 : o.2.2 117 (56 + 5 * c + 3) = nI (cF r c 3) := by
    rw [e7, goR_un c t _ (fun e he => by omega), stR_un c t (by omega) (by omega)]
    exact (cE hw hc).1
  refine ⟨mrow o.2.2 117 (fiR r c t), ?_, Qm_117' o2, ?_, ?_⟩
  · rw [o1, e3, nadd, mst_as_mrow o.2.2, e7]
    rfl
  · rw [mrow_ne (by omega)]; exact o3
  · rw [mrow_ne (by omega)]; exact o4
end WALK2
