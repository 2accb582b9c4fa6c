/-! texts: all items read by both -/
section TEXT
variable {u m : Mem} {t : Nat → Nat} {L s a k v n : Nat} {r r' r0 : Nat → Int32}
def OKL (u m : Mem) (t : Nat → Nat) (L : Nat) (r0 : Nat → Int32) (c : Option (Nat × Int32 × Mem)) (d : Option Mem) : Prop := ∃ K s' a' v' u' m' r', c = some (0, nI K, u') ∧ d = some m' ∧ JS u' m' t L s' a' 0 v' ∧ (Rep0 u' 65 r' ∧ Wf r') ∧ m' 116 22 = nI K ∧ KU u u' ∧ BF m m' ∧ (0 < K ∧ K ≤ 120) ∧ (∀ i, i < K → itV (m' 127) i (apR (m' 127) r0 i)) ∧ (∀ i, i ≤ K → Wf (apR (m' 127) r0 i)) ∧ r' = apR (m' 127) r0 K
def BAD (u m : Mem) (L : Nat) (c : Option (Nat × Int32 × Mem)) (d : Option Mem) : Prop := ∃ f x u' m' sF, (f = 1 ∨ f = 2) ∧ c = some (f, x, u') ∧ d = some m' ∧ u' 104 3 = nI sF ∧ sF ≤ L ∧ m' 116 15 = nI sF ∧ (m' 116 19 = 1 ∨ (m' 116 19 = 0 ∧ ¬ m' 116 17 = 0)) ∧ KU u u' ∧ BF m m'
theorem J_loop : ∀ d (u m : Mem) (s a k v n : Nat) (r : Nat → Int32), JS u m t L s a k v → Rep0 u 65 r → Wf r → m 116 22 = nI n → m 116 23 = nI (nc r) → m 116 24 = nI (ne r) → m 116 25 = nI (nw r) → 121 - s ≤ d → 2 * n ≤ s → (∀ i, i < n → itV (m 127) i (apR (m 127) r0 i)) → (∀ i, i ≤ n → Wf (apR (m 127) r0 i)) → r = apR (m 127) r0 n → ∀ N N', d < N → d < N' → OKL u m t L r0 (lp (BX6_tellTo_11 65) N (nI n, u)) (Option.bind (FX10_readItem m) (fun q => lp BX10_text_56 N' q)) ∨ BAD u m L (lp (BX6_tellTo_11 65) N (nI n, u)) (Option.bind (FX10_readItem m) (fun q => lp BX10_text_56 N' q)) := by
  intro d
  induction d with
  | zero =>
    intro u m s a k v n r h _ _ _ _ _ _ hd
    have := h.2.2
    unfold TBd at this
    omega
  | succ d ih =>
    intro u m s a k v n r h R0 hW e2 e3 e4 e5 hd hn2 hV hWs hr N N' hN hN'
    have hb := h.2.2
    unfold TBd at hb
    obtain ⟨N, rfl⟩ : ∃ q, N = q + 1 := ⟨N - 1, by omega⟩
    obtain ⟨N', rfl⟩ : ∃ q, N' = q + 1 := ⟨N' - 1, by omega⟩
    have c120 : ¬ 120 < nI n := by rw [show (120 : Int32) = nI 120 from rfl, nlt (by omega) (by omega)]; omega
    rcases J_item h R0 hW e2 e3 e4 e5 (show n < 120 by omega) with ⟨s', a', k', v', u', m', r', f1, f2, J1, ⟨R1, W1⟩, ⟨g2, g3, g4, g5⟩, KU1, BF1, h127, V1, A1, hs⟩ | ⟨sF, u', m', f1, f2, g1, g2, g3, g4, KU1, BF1⟩
    · have hcls : lp (BX6_tellTo_11 65) (N + 1) (nI n, u) = (if nI k' = 0 then some (0, nI (n + 1), u') else if nI k' = 3 then Option.bind (FX6_goOn u') (fun q3 => lp (BX6_tellTo_11 65) N (nI (n + 1), q3)) else some (1, nI (n + 1), u')) := by
        show BX6_tellTo_11 65 (lp (BX6_tellTo_11 65) N) (nI n, u) = _
        dsimp only [BX6_tellTo_11]
        rw [if_neg c120, f1, bs]
        dsimp only
        rw [if_neg (show ¬ ((1 : Int32) = 0) by decide)]
        simp only [J1.1.1.2.2.2.1, nI_1]
      have hV1 : ∀ i, i < n + 1 → itV (m' 127) i (apR (m' 127) r0 i) := fun i hi => by
        by_cases q : i = n
        · subst q
          rw [ap_congr i h127, ← hr]; exact V1
        · have hc : ∀ y, y < 5 * (i + 1) → m' 127 y = m 127 y := fun y hy => h127 y (by omega)
          rw [ap_congr i (fun y hy => h127 y (by omega))]
          exact (it_congr hc _).2 (hV i (by omega))
      have hr1 : r' = apR (m' 127) r0 (n + 1) := by
        show r' = itA (m' 127) n (apR (m' 127) r0 n)
        rw [ap_congr n h127, ← hr]; exact A1
      have hW1 : ∀ i, i ≤ n + 1 → Wf (apR (m' 127) r0 i) := fun i hi => by
        by_cases q : i = n + 1
        · subst q; rw [← hr1]; exact W1
        · rw [ap_congr i (fun y hy => h127 y (by omega))]; exact hWs i (by omega)
      have hb' := J1.2.2
      unfold TBd at hb'
      have m17 := J1.2.1.1.2.2.2.1
      have m19 := J1.2.1.2.2
      have m15 := J1.2.1.1.2.1
      have hTp := J1.2.1.2.1
      rw [hcls, f2, bs]
      by_cases k0 : k' = 0
      · left
        subst k0
        have hst : lp BX10_text_56 (N' + 1) m' = some m' := by
          show BX10_text_56 (lp BX10_text_56 N') m' = _
          dsimp only [BX10_text_56]
          rw [if_pos m19, if_neg (by rw [m17]; decide)]
        rw [if_pos (show nI 0 = 0 from rfl), hst]
        exact ⟨n + 1, s', a', v', u', m', r', rfl, rfl, J1, ⟨R1, W1⟩, g2, KU1, BF1, ⟨by omega, by omega⟩, hV1, hW1, hr1⟩
      · have hk := hb'.2.2.2.2.2 k0
        rw [if_neg (nI_ne0 (by omega) (by omega))]
        by_cases k3 : k' = 3
        · have hsL : s' < L := by omega
          have hbt := hTp s' hsL
          have h59 := (so_m (t s') hbt.2).2.2.2.2.2.mp (by omega)
          obtain ⟨s2, a2, k2, v2, u2, m2, j1, j2, j3, j4, j5, j6⟩ := J_go J1
          have cs : (nI s').toNatClampNeg = s' := ncl (by omega)
          have hst : lp BX10_text_56 (N' + 1) m' = Option.bind (FX10_readItem m2) (fun q => lp BX10_text_56 N' q) := by
            show BX10_text_56 (lp BX10_text_56 N') m' = _
            dsimp only [BX10_text_56]
            simp only [m15, cs, hbt.1, h59]
            rw [if_pos m19, if_pos (by rw [m17, k3]; rfl), if_pos (inb_t (by omega) (by omega)), if_pos (show nI 59 = 59 from rfl), j2, bs]
          rw [if_pos (by rw [k3]; rfl), j1, bs, hst]
          have c' : ∀ j, 20 ≤ j → m2 116 j = m' 116 j := fun j hj => j5.2 j (by omega) (by omega) (by omega) (by omega)
          have e127 : m2 127 = m' 127 := j5.1 127 (by omega)
          have := ih u2 m2 s2 a2 k2 v2 (n + 1) r' j3 (Rep0_KC j4 R1 W1) W1 (by rw [c' 22 (by omega)]; exact g2) (by rw [c' 23 (by omega)]; exact g3) (by rw [c' 24 (by omega)]; exact g4) (by rw [c' 25 (by omega)]; exact g5) (by omega) (by omega) (by rw [e127]; exact hV1) (by rw [e127]; exact hW1) (by rw [e127]; exact hr1) N N' (by omega) (by omega)
          rcases this with ⟨K, x1, x2, x3, x4, x5, x6, y1, y2, y3, y4, y5, y6, y7, y8⟩ | ⟨x1, x2, x3, x4, x5, y1, y2, y3, y4, y5, y6, y7, y8, y9⟩
          · exact Or.inl ⟨K, x1, x2, x3, x4, x5, x6, y1, y2, y3, y4, y5, KU_trans KU1 (KU_trans (KU_KC j4) y6), BF_trans BF1 (BF_trans (BF_NF j5) y7), y8⟩
          · exact Or.inr ⟨x1, x2, x3, x4, x5, y1, y2, y3, y4, y5, y6, y7, KU_trans KU1 (KU_trans (KU_KC j4) y8), BF_trans BF1 (BF_trans (BF_NF j5) y9)⟩
        · right
          rw [if_neg (by rw [show (3 : Int32) = nI 3 from rfl, neq (by omega) (by omega)]; exact k3)]
          have hst : lp BX10_text_56 (N' + 1) m' = some m' := by
            show BX10_text_56 (lp BX10_text_56 N') m' = _
            dsimp only [BX10_text_56]
            rw [if_pos m19]
            by_cases k4 : k' = 4
            · have hsL : s' < L := by omega
              have hbt := hTp s' hsL
              have h59 := (so_m (t s') hbt.2).2.2.2.2.2
              have cs : (nI s').toNatClampNeg = s' := ncl (by omega)
              simp only [m15, cs, hbt.1]
              rw [if_pos (by rw [m17, k4]; rfl), if_pos (inb_t (by omega) (by omega)), if_neg (by
                rw [show (59 : Int32) = nI 59 from rfl, neq (by have := hbt.2; omega) (by omega)]
                intro q
                have := h59.mpr q
                omega)]
            · rw [if_neg (by rw [m17, show (3 : Int32) = nI 3 from rfl, neq (by omega) (by omega)]; omega)]
          rw [hst]
          exact ⟨1, nI (n + 1), u', m', s', Or.inl rfl, rfl, rfl, J1.1.1.2.1, by omega, m15, Or.inr ⟨m19, by rw [m17]; exact nI_ne0 (by omega) (by omega)⟩, KU1, BF1⟩
    · right
      have hcls : lp (BX6_tellTo_11 65) (N + 1) (nI n, u) = some (2, nI n, u') := by
        show BX6_tellTo_11 65 (lp (BX6_tellTo_11 65) N) (nI n, u) = _
        dsimp only [BX6_tellTo_11]
        rw [if_neg c120, f1, bs]
        dsimp only
        rw [if_pos rfl]
      have hst : lp BX10_text_56 (N' + 1) m' = some m' := by
        show BX10_text_56 (lp BX10_text_56 N') m' = _
        dsimp only [BX10_text_56]
        rw [if_neg (by rw [g3]; decide)]
      rw [hcls, f2, bs, hst]
      exact ⟨2, nI n, u', m', sF, Or.inr rfl, rfl, rfl, g1, g2, g4, Or.inl g3, KU1, BF1⟩
theorem m_isSo {i : Nat} (hi : i < 120) (hm : m 117 = r) (hW : Wf r) (hV : itV (m 127) i r) : ∃ x, FX10_isSo (5 * nI i) m = some (x, mrow m 117 (itA (m 127) i r)) ∧ 0 ≤ x := by
  have c0 : (nI (5 * i)).toNatClampNeg = 5 * i := ncl (by omega)
  have c1 : (nI (5 * i + 1)).toNatClampNeg = 5 * i + 1 := ncl (by omega)
  have c2 : (nI (5 * i + 2)).toNatClampNeg = 5 * i + 2 := ncl (by omega)
  have c3 : (nI (5 * i + 3)).toNatClampNeg = 5 * i + 3 := ncl (by omega)
  have c4 : (nI (5 * i + 4)).toNatClampNeg = 5 * i + 4 := ncl (by omega)
  have e5 : 5 * nI i = nI (5 * i) := by rw [L5, nmul]
  have e1 : nI (5 * i) + 1 = nI (5 * i + 1) := nadd _ _
  have e2 : nI (5 * i) + 2 = nI (5 * i + 2) := nadd _ _
  have e3 : nI (5 * i) + 3 = nI (5 * i + 3) := nadd _ _
  have e4 : nI (5 * i) + 4 = nI (5 * i + 4) := nadd _ _
  unfold FX10_isSo
  simp only [e5, e1, e2, e3, e4, c0, c1, c2, c3, c4, bind_eta]
  rw [if_pos (inb_t (by omega) (by omega)), if_pos (inb_t (by omega) (by omega)), if_pos (inb_t (by omega) (by omega)), if_pos (inb_t (by omega) (by omega))]
  unfold itA
  rcases hV with ⟨h10, x, y, hx, hy, hxy, v1, v2, v3, v4⟩ | ⟨h11, hn, v1, v2, v3⟩ | ⟨h12, hn, v1⟩ | ⟨⟨kd, hkd, h0⟩, hn, v1, v2⟩
  · have tx : tn (nI x) = x := ncl (by omega)
    have ty : tn (nI y) = y := ncl (by omega)
    rw [if_pos h10, if_pos (inb_t (by omega) (by omega)), if_pos h10, v1, v2, tx, ty]
    refine ⟨_, m_wayIs hm hx hy hxy _ _, ?_⟩
    rw [(yY hW hx hy hxy).1]
    exact nI_pos' (by have := (yY hW hx hy hxy).2; omega)
  · rw [if_neg (by rw [h11]; decide), if_pos h11, if_neg (show ¬ m 127 (5 * i) = 10 by rw [h11]; decide), if_pos h11]
    exact ⟨_, m_newErrand hm hW hn _ _ _, nI_pos' (by omega)⟩
  · rw [if_neg (by rw [h12]; decide), if_neg (by rw [h12]; decide), if_pos h12, if_neg (show ¬ m 127 (5 * i) = 10 by rw [h12]; decide), if_neg (show ¬ m 127 (5 * i) = 11 by rw [h12]; decide), if_pos h12]
    exact ⟨_, m_newWare hm hW hn _, nI_pos' (by omega)⟩
  · have k10 : ¬ m 127 (5 * i) = 10 := by rw [h0, L10, neq (by omega) (by omega)]; omega
    have k11 : ¬ m 127 (5 * i) = 11 := by rw [h0, show (11 : Int32) = nI 11 from rfl, neq (by omega) (by omega)]; omega
    have k12 : ¬ m 127 (5 * i) = 12 := by rw [h0, show (12 : Int32) = nI 12 from rfl, neq (by omega) (by omega)]; omega
    rw [if_neg k10, if_neg k11, if_neg k12, if_pos (inb_t (by omega) (by omega)), if_neg k10, if_neg k11, if_neg k12]
    exact ⟨_, m_newCarrier hm hW hn _ _ _, nI_pos' (by omega)⟩
theorem m_apply {K : Nat} (hK : K ≤ 120) (hm : m 117 = r0) (h22 : m 116 22 = nI K) (hV : ∀ i, i < K → itV (m 127) i (apR (m 127) r0 i)) (hWs : ∀ i, i ≤ K → Wf (apR (m 127) r0 i)) : lp BX10_text_136 FU (0, 0, m) = some (nI K, nI K, mrow m 117 (apR (m 127) r0 K)) := by
  have h0 : (fun i => (nI i, nI i, mrow m 117 (apR (m 127) r0 i))) 0 = (0, 0, m) := by
    show (nI 0, nI 0, mrow m 117 r0) = (0, 0, m)
    rw [← hm, mrow_self]; rfl
  rw [← h0]
  refine lp_for BX10_text_136 (fun i => (nI i, nI i, mrow m 117 (apR (m 127) r0 i))) _ K (by omega) (fun i hi rec => ?_) (fun rec => ?_)
  · show BX10_text_136 rec (nI i, nI i, mrow m 117 (apR (m 127) r0 i)) = rec (nI (i + 1), nI (i + 1), mrow m 117 (apR (m 127) r0 (i + 1)))
    have e22 : mrow m 117 (apR (m 127) r0 i) 116 22 = nI K := by rw [mrow_ne (by omega)]; exact h22
    have e127 : mrow m 117 (apR (m 127) r0 i) 127 = m 127 := mrow_ne (by omega) _
    obtain ⟨x, x1, x2⟩ := m_isSo (m := mrow m 117 (apR (m 127) r0 i)) (i := i) (by omega) (mrow_at _ _ _) (hWs i (by omega)) (by rw [e127]; exact hV i hi)
    rw [e127, mrow_mrow] at x1
    dsimp only [BX10_text_136]
    rw [if_neg (by rw [e22]; exact n_ngt hi (by omega)), x1, bs]
    dsimp only
    rw [if_pos x2, nI_1]
    rfl
  · show BX10_text_136 rec (nI K, nI K, mrow m 117 (apR (m 127) r0 K)) = _
    have e22 : mrow m 117 (apR (m 127) r0 K) 116 22 = nI K := by rw [mrow_ne (by omega)]; exact h22
    dsimp only [BX10_text_136]
    rw [if_pos (by rw [e22]; exact n_ge (Nat.le_refl _) (by omega))]
end TEXT
