/-! texts: ways, errands; one item -/
section READ2
variable {u m u0 m0 : Mem} {t : Nat → Nat} {L s a k v s0 n : Nat} {r r' : Nat → Int32}
theorem w_wd {m' : Mem} (h : JS u m t L s a k v) (h1 : ∀ j, 14 ≤ j → j < 19 → m' 116 j = m 116 j) (h2 : m' 125 = m 125) {w : Nat} (hw : w < 16) : ∃ b, FX10_isWord w m' = some b := by
  obtain ⟨c, ⟨⟨m1, m2, m3, m4, m5⟩, m6, m7⟩, b⟩ := h
  have hT : TM m' L s a k v := by
    refine ⟨?_, ?_, ?_, ?_, fun z => ?_⟩
    · rw [h1 14 (by omega) (by omega)]; exact m1
    · rw [h1 15 (by omega) (by omega)]; exact m2
    · rw [h1 16 (by omega) (by omega)]; exact m3
    · rw [h1 17 (by omega) (by omega)]; exact m4
    · rw [h1 18 (by omega) (by omega)]; exact m5 z
  rcases m_isWord hT (Tp_k m6 h2) b hw with ⟨-, e⟩ | ⟨-, e⟩
  · exact ⟨1, e⟩
  · exact ⟨0, e⟩
theorem w_wd1 (h : JS u m t L s a k v) {w : Nat} (hw : w < 16) : ∃ b, FX10_isWord w (mst m 116 19 1) = some b := w_wd h (fun j _ hj => mst_j (by omega) _ _) (mst_k (by omega) _ _) hw
theorem J_errand (h : JS u m t L s a k v) (hk : k ≠ 0) (R0 : Rep0 u 65 r) (hW : Wf r) (e2 : m 116 22 = nI n) (e3 : m 116 23 = nI (nc r)) (e4 : m 116 24 = nI (ne r)) (e5 : m 116 25 = nI (nw r)) (hn : n < 120) (v1 : Int32) : JR u m t L s n r (FX6_readErrand 65 u) (if 8 ≤ (m 116 24) then JX10_readItem_196 v1 0 m else JX10_readItem_196 v1 1 m) := by
  have h6 := ne_eq hW
  have eu : u 65 6 = nI (ne r) := by rw [R0.1.2.1]; exact h6.1
  have hsa : s < a := (h.2.2.2.2.2.2.2 hk).1
  unfold FX6_readErrand
  by_cases z : ne r < 8
  · rw [if_pos (by rw [eu, L8, nlt (by omega) (by omega)]; exact z), if_neg (by rw [e4, L8, nle (by omega) (by omega)]; omega)]
    unfold JX10_readItem_196
    obtain ⟨s', a', k', v', u', m', f1, f2, f3, f4, f5, f6⟩ := J_go h
    have c : ∀ j, 20 ≤ j → m' 116 j = m 116 j := fun j hj => f5.2 j (by omega) (by omega) (by omega) (by omega)
    have J1 : JS u' (mst m' 116 24 (m' 116 24 + 1)) t L s' a' k' v' := JS_m f3 (fun j _ hj => mst_j (by omega) _ _) (mst_k (by omega) _ _)
    have d2 : mst m' 116 24 (m' 116 24 + 1) 116 22 = nI n := by rw [mst_j (by omega), c 22 (by omega)]; exact e2
    have d3 : mst m' 116 24 (m' 116 24 + 1) 116 23 = nI (nc r) := by rw [mst_j (by omega), c 23 (by omega)]; exact e3
    have d4 : mst m' 116 24 (m' 116 24 + 1) 116 24 = nI (ne r + 1) := by rw [mst_s, c 24 (by omega), e4, nI_1]
    have d5 : mst m' 116 24 (m' 116 24 + 1) 116 25 = nI (nw r) := by rw [mst_j (by omega), c 25 (by omega)]; exact e5
    have dB : BF m (mst m' 116 24 (m' 116 24 + 1)) := BF_trans (BF_NF f5) (BF_mst (by omega) _ _)
    have d127 : mst m' 116 24 (m' 116 24 + 1) 127 = m 127 := by rw [mst_k (by omega)]; exact f5.1 127 (by omega)
    have R1 := Rep0_KC f4 R0 hW
    rw [f1, f2, bs, bs]
    generalize mst m' 116 24 (m' 116 24 + 1) = m1 at *
    have hb1 : s' ≤ a' := J1.2.2.1
    rcases J_num J1 (lo := 1) (hi := 60) (l := 1) (hh := 60) rfl rfl (by omega) (by omega) with ⟨i0, i1, i2, s3, a3, k3, v3, u3, m3, i3, i4, i5, i6, i7, i8⟩ | ⟨i1, x, i2⟩
    case inr =>
      have hw19 : mst m1 116 19 1 116 19 = 1 := mst_s _ _ _ _
      obtain ⟨b13, q13⟩ := w_wd1 J1 (w := 13) (by omega)
      obtain ⟨b14, q14⟩ := w_wd1 J1 (w := 14) (by omega)
      rw [i1, i2, bs, bs]
      dsimp only
      rw [if_pos (by decide)]
      simp only [w_must hw19, w_number hw19, w_unlike hw19, q13, q14, bs, bind_id]
      refine bad_JR J1 (KU_KC f4) (BF_trans dB (BF_mst (by omega) _ _)) hw19 (mst_j (by omega) _ _) ?_ hn _ _ _ _ _
      rw [mst_j (by omega)]; exact d2
    have c3' : ∀ j, 20 ≤ j → m3 116 j = m1 116 j := fun j hj => i7.2 j (by omega) (by omega) (by omega) (by omega)
    rw [i3, i4, bs, bs]
    dsimp only
    rw [if_neg (nI_pos (by omega))]
    have hb3 : s3 ≤ a3 := i5.2.2.1
    rcases J_pass i5 (w := 13) (by omega) with ⟨w1, s4, a4, k4, v4, u4, m4, g1, g2, g3, g4, g5, g6, g7, g8⟩ | ⟨w1, g1, g2, g3, g4⟩
    case inr =>
      have hw19 : mst m3 116 19 1 116 19 = 1 := mst_s _ _ _ _
      obtain ⟨b14, q14⟩ := w_wd1 i5 (w := 14) (by omega)
      rw [g1, g2, bs, bs, g3, bs]
      dsimp only
      rw [if_pos rfl]
      simp only [w_must hw19, w_number hw19, w_unlike hw19, q14, bs, bind_id]
      refine bad_JR i5 (KU_trans (KU_KC f4) (KU_KC i6)) (BF_trans dB (BF_trans (BF_NF i7) (BF_mst (by omega) _ _))) hw19 (mst_j (by omega) _ _) ?_ hn _ _ _ _ _
      rw [mst_j (by omega), c3' 22 (by omega)]; exact d2
    have c4' : ∀ j, 20 ≤ j → m4 116 j = m1 116 j := fun j hj => (g7.2 j (by omega) (by omega) (by omega) (by omega)).trans (c3' j hj)
    rw [g1, g2, bs, bs, g3, bs]
    dsimp only
    rw [if_neg (show ¬ ((1 : Int32) = 0) by decide)]
    have hb4 : s4 ≤ a4 := g5.2.2.1
    rcases J_num g5 (lo := 0) (hi := 6) (l := 0) (hh := 6) rfl rfl (by omega) (by omega) with ⟨j0, j1, j2, s5, a5, k5, v5, u5, m5, j3, j4, j5, j6, j7, j8⟩ | ⟨j1, x, j2⟩
    case inr =>
      have hw19 : mst m4 116 19 1 116 19 = 1 := mst_s _ _ _ _
      obtain ⟨b14, q14⟩ := w_wd1 g5 (w := 14) (by omega)
      rw [j1, j2, bs, bs]
      dsimp only
      rw [if_pos (by decide)]
      simp only [w_must hw19, w_number hw19, w_unlike hw19, q14, bs, bind_id]
      refine bad_JR g5 (KU_trans (KU_KC f4) (KU_trans (KU_KC i6) (KU_KC g6))) (BF_trans dB (BF_trans (BF_NF i7) (BF_trans (BF_NF g7) (BF_mst (by omega) _ _)))) hw19 (mst_j (by omega) _ _) ?_ hn _ _ _ _ _
      rw [mst_j (by omega), c4' 22 (by omega)]; exact d2
    have c5' : ∀ j, 20 ≤ j → m5 116 j = m1 116 j := fun j hj => (j7.2 j (by omega) (by omega) (by omega) (by omega)).trans (c4' j hj)
    rw [j3, j4, bs, bs]
    dsimp only
    rw [if_neg (nI_pos (by omega))]
    have hb5 : s5 ≤ a5 := j5.2.2.1
    rcases J_pass j5 (w := 14) (by omega) with ⟨w2, s6, a6, k6, v6, u6, m6, l1, l2, l3, l4, l5, l6, l7, l8⟩ | ⟨w2, l1, l2, l3, l4⟩
    case inr =>
      have hw19 : mst m5 116 19 1 116 19 = 1 := mst_s _ _ _ _
      rw [l1, l2, bs, bs, l3, bs]
      dsimp only
      rw [if_pos rfl]
      simp only [w_must hw19, w_number hw19, w_unlike hw19, bs, bind_id]
      refine bad_JR j5 (KU_trans (KU_KC f4) (KU_trans (KU_KC i6) (KU_trans (KU_KC g6) (KU_KC j6)))) (BF_trans dB (BF_trans (BF_NF i7) (BF_trans (BF_NF g7) (BF_trans (BF_NF j7) (BF_mst (by omega) _ _))))) hw19 (mst_j (by omega) _ _) ?_ hn _ _ _ _ _
      rw [mst_j (by omega), c5' 22 (by omega)]; exact d2
    have c6' : ∀ j, 20 ≤ j → m6 116 j = m1 116 j := fun j hj => (l7.2 j (by omega) (by omega) (by omega) (by omega)).trans (c5' j hj)
    rw [l1, l2, bs, bs, l3, bs]
    dsimp only
    rw [if_neg (show ¬ ((1 : Int32) = 0) by decide)]
    have hb6 : s6 ≤ a6 := l5.2.2.1
    rcases J_other l5 (p := v4) (by omega) with ⟨o0, o1, o2, s7, a7, k7, v7, u7, m7, o3, o4, o5, o6, o7, o8⟩ | ⟨o1, x, o2⟩
    case inr =>
      have hw19 : mst m6 116 19 1 116 19 = 1 := mst_s _ _ _ _
      rw [o1, o2, bs, bs]
      dsimp only
      rw [if_neg (by decide), bind_id]
      refine bad_JR l5 (KU_trans (KU_KC f4) (KU_trans (KU_KC i6) (KU_trans (KU_KC g6) (KU_trans (KU_KC j6) (KU_KC l6))))) (BF_trans dB (BF_trans (BF_NF i7) (BF_trans (BF_NF g7) (BF_trans (BF_NF j7) (BF_trans (BF_NF l7) (BF_mst (by omega) _ _)))))) hw19 (mst_j (by omega) _ _) ?_ hn _ _ _ _ _
      rw [mst_j (by omega), c6' 22 (by omega)]; exact d2
    have c7' : ∀ j, 20 ≤ j → m7 116 j = m1 116 j := fun j hj => (o7.2 j (by omega) (by omega) (by omega) (by omega)).trans (c6' j hj)
    have R7 := Rep0_KC o6 (Rep0_KC l6 (Rep0_KC j6 (Rep0_KC g6 (Rep0_KC i6 R1 hW) hW) hW) hW) hW
    obtain ⟨u8, y1, y2, y3, y4⟩ := c_addE0 (k := nI v') (p := nI v4) (s := nI v6) R7 hW z (In_nI i2 (by omega)) (In_nI j2 (by omega)) (In_nI (by omega) (by omega))
    obtain ⟨n1, n2, n3⟩ := n_addE z (nI v') (nI v4) (nI v6)
    rw [o3, o4, bs, bs]
    dsimp only
    rw [if_pos (nI_pos' (by omega)), y1, bs, m_item hn (by rw [c7' 22 (by omega)]; exact d2), bs]
    refine good_end o5 (by omega) (KU_trans (KU_KC f4) (KU_trans (KU_KC i6) (KU_trans (KU_KC g6) (KU_trans (KU_KC j6) (KU_trans (KU_KC l6) (KU_KC o6)))))) (BF_trans dB (BF_trans (BF_NF i7) (BF_trans (BF_NF g7) (BF_trans (BF_NF j7) (BF_trans (BF_NF l7) (BF_NF o7)))))) (by rw [o7.1 127 (by omega), l7.1 127 (by omega), j7.1 127 (by omega), g7.1 127 (by omega), i7.1 127 (by omega)]; exact d127) y4 y2 y3 (by rw [c7' 23 (by omega), d3, n1]) (by rw [c7' 24 (by omega), d4, n2]) (by rw [c7' 25 (by omega), d5, n3]) ?_ ?_
    · rw [itV_at]
      exact Or.inr (Or.inl ⟨rfl, z, In_nI i2 (by omega), In_nI j2 (by omega), In_nI (by omega) (by omega)⟩)
    · rw [itA_at, if_neg (by decide), if_pos rfl]
  · have z8 : ne r = 8 := by omega
    rw [if_neg (by rw [eu, L8, nlt (by omega) (by omega)]; exact z), if_pos (by rw [e4, z8]; decide)]
    unfold JX10_readItem_196
    have hw19 : ∀ y, mst (mst m 116 19 1) 116 24 y 116 19 = 1 := fun y => by rw [mst_j (by omega), mst_s]
    obtain ⟨b13, q13⟩ := w_wd (m' := mst (mst m 116 19 1) 116 24 (mst m 116 19 1 116 24 + 1)) h (fun j _ hj => by rw [mst_j (by omega), mst_j (by omega)]) (by rw [mst_k (by omega), mst_k (by omega)]) (w := 13) (by omega)
    obtain ⟨b14, q14⟩ := w_wd (m' := mst (mst m 116 19 1) 116 24 (mst m 116 19 1 116 24 + 1)) h (fun j _ hj => by rw [mst_j (by omega), mst_j (by omega)]) (by rw [mst_k (by omega), mst_k (by omega)]) (w := 14) (by omega)
    rw [must_no h.2.1.2.2, bs]
    simp only [w_must (hw19 _), w_number (hw19 _), w_unlike (hw19 _), q13, q14, bs, bind_id]
    refine bad_JR h (KU_refl u) (BF_trans (BF_mst (by omega) _ _) (BF_mst (by omega) _ _)) (hw19 _) (by rw [mst_j (by omega), mst_j (by omega)]) ?_ hn _ _ _ _ _
    rw [mst_j (by omega), mst_j (by omega)]; exact e2
theorem J_way (h : JS u m t L s a k v) (hk : k ≠ 0) (R0 : Rep0 u 65 r) (hW : Wf r) (e2 : m 116 22 = nI n) (e3 : m 116 23 = nI (nc r)) (e4 : m 116 24 = nI (ne r)) (e5 : m 116 25 = nI (nw r)) (hn : n < 120) : JR u m t L s n r (FX6_readWay 65 u) (Option.bind (FX10_must 1 m) (fun q2 => Option.bind (FX10_number 0 6 q2) (fun q28 => Option.bind (FX10_unlike q28.1 q28.2) (fun q29 => Option.bind (FX10_isWord 10 q29.2) (fun q30 => Option.bind (FX10_must q30 q29.2) (fun q31 => Option.bind (FX10_number 0 99 q31) (fun q32 => Option.bind (FX10_isNext 11 q32.2) (fun q33 => (if q33.1 = 0 then Option.bind (FX10_item 10 q28.1 q29.1 q32.1 0 q33.2) (fun q34 => some q34) else Option.bind (FX10_item 10 q28.1 q29.1 q32.1 1 q33.2) (fun q35 => some q35)))))))))) := by
  have hsa : s < a := (h.2.2.2.2.2.2.2 hk).1
  unfold FX6_readWay
  obtain ⟨s', a', k', v', u', m', f1, f2, f3, f4, f5, f6⟩ := J_go h
  have c1' : ∀ j, 20 ≤ j → m' 116 j = m 116 j := fun j hj => f5.2 j (by omega) (by omega) (by omega) (by omega)
  rw [f1, f2, bs, bs]
  have hb1 : s' ≤ a' := f3.2.2.1
  rcases J_num f3 (lo := 0) (hi := 6) (l := 0) (hh := 6) rfl rfl (by omega) (by omega) with ⟨i0, i1, i2, s3, a3, k3, v3, u3, m3, i3, i4, i5, i6, i7, i8⟩ | ⟨i1, x, i2⟩
  case inr =>
    have hw19 : mst m' 116 19 1 116 19 = 1 := mst_s _ _ _ _
    obtain ⟨b10, q10⟩ := w_wd1 f3 (w := 10) (by omega)
    rw [i1, i2, bs, bs]
    dsimp only
    rw [if_neg (by decide)]
    simp only [w_must hw19, w_number hw19, w_unlike hw19, w_isNext hw19, q10, bs, bind_id]
    rw [if_pos trivial]
    refine bad_JR f3 (KU_KC f4) (BF_trans (BF_NF f5) (BF_mst (by omega) _ _)) hw19 (mst_j (by omega) _ _) ?_ hn _ _ _ _ _
    rw [mst_j (by omega), c1' 22 (by omega)]; exact e2
  have c3' : ∀ j, 20 ≤ j → m3 116 j = m 116 j := fun j hj => (i7.2 j (by omega) (by omega) (by omega) (by omega)).trans (c1' j hj)
  rw [i3, i4, bs, bs]
  dsimp only
  rw [if_pos (nI_pos' (by omega))]
  have hb3 : s3 ≤ a3 := i5.2.2.1
  rcases J_other i5 (p := v') (by omega) with ⟨o0, o1, o2, s4, a4, k4, v4, u4, m4, o3, o4, g5, g6, g7, o8⟩ | ⟨o1, x, o2⟩
  case inr =>
    have hw19 : mst m3 116 19 1 116 19 = 1 := mst_s _ _ _ _
    obtain ⟨b10, q10⟩ := w_wd1 i5 (w := 10) (by omega)
    rw [o1, o2, bs, bs]
    dsimp only
    rw [if_pos (by decide)]
    simp only [w_must hw19, w_number hw19, w_unlike hw19, w_isNext hw19, q10, bs, bind_id]
    rw [if_pos trivial]
    refine bad_JR i5 (KU_trans (KU_KC f4) (KU_KC i6)) (BF_trans (BF_NF f5) (BF_trans (BF_NF i7) (BF_mst (by omega) _ _))) hw19 (mst_j (by omega) _ _) ?_ hn _ _ _ _ _
    rw [mst_j (by omega), c3' 22 (by omega)]; exact e2
  have c4' : ∀ j, 20 ≤ j → m4 116 j = m 116 j := fun j hj => (g7.2 j (by omega) (by omega) (by omega) (by omega)).trans (c3' j hj)
  rw [o3, o4, bs, bs]
  dsimp only
  rw [if_neg (nI_pos (by omega))]
  have hb4 : s4 ≤ a4 := g5.2.2.1
  rcases J_pass g5 (w := 10) (by omega) with ⟨w2, s5, a5, k5, v5, u5, m5, l1, l2, l3, l4, j5, j6, j7, l8⟩ | ⟨w2, l1, l2, l3, l4⟩
  case inr =>
    have hw19 : mst m4 116 19 1 116 19 = 1 := mst_s _ _ _ _
    rw [l1, l2, bs, bs, l3, bs]
    dsimp only
    rw [if_pos rfl]
    simp only [w_must hw19, w_number hw19, w_unlike hw19, w_isNext hw19, bs, bind_id]
    rw [if_pos trivial]
    refine bad_JR g5 (KU_trans (KU_KC f4) (KU_trans (KU_KC i6) (KU_KC g6))) (BF_trans (BF_NF f5) (BF_trans (BF_NF i7) (BF_trans (BF_NF g7) (BF_mst (by omega) _ _)))) hw19 (mst_j (by omega) _ _) ?_ hn _ _ _ _ _
    rw [mst_j (by omega), c4' 22 (by omega)]; exact e2
  have c5' : ∀ j, 20 ≤ j → m5 116 j = m 116 j := fun j hj => (j7.2 j (by omega) (by omega) (by omega) (by omega)).trans (c4' j hj)
  rw [l1, l2, bs, bs, l3, bs]
  dsimp only
  rw [if_neg (show ¬ ((1 : Int32) = 0) by decide)]
  have hb5 : s5 ≤ a5 := j5.2.2.1
  rcases J_num j5 (lo := 0) (hi := 99) (l := 0) (hh := 99) rfl rfl (by omega) (by omega) with ⟨y0, y1, y2, s6, a6, k6, v6, u6, m6, y3, y4, l5, l6, l7, y8⟩ | ⟨y1, x, y2⟩
  case inr =>
    have hw19 : mst m5 116 19 1 116 19 = 1 := mst_s _ _ _ _
    rw [y1, y2, bs, bs]
    dsimp only
    rw [if_neg (by decide)]
    simp only [w_isNext hw19, bs, bind_id]
    rw [if_pos trivial]
    refine bad_JR j5 (KU_trans (KU_KC f4) (KU_trans (KU_KC i6) (KU_trans (KU_KC g6) (KU_KC j6)))) (BF_trans (BF_NF f5) (BF_trans (BF_NF i7) (BF_trans (BF_NF g7) (BF_trans (BF_NF j7) (BF_mst (by omega) _ _))))) hw19 (mst_j (by omega) _ _) ?_ hn _ _ _ _ _
    rw [mst_j (by omega), c5' 22 (by omega)]; exact e2
  have c6' : ∀ j, 20 ≤ j → m6 116 j = m 116 j := fun j hj => (l7.2 j (by omega) (by omega) (by omega) (by omega)).trans (c5' j hj)
  rw [y3, y4, bs, bs]
  dsimp only
  rw [if_pos (nI_pos' (by omega))]
  have hb6 : s6 ≤ a6 := l5.2.2.1
  have R6 := Rep0_KC l6 (Rep0_KC j6 (Rep0_KC g6 (Rep0_KC i6 (Rep0_KC f4 R0 hW) hW) hW) hW) hW
  have hpq : v' ≠ v3 := fun q => o1 q.symm
  have nl : ∀ y x, nc (layR r v' v3 y x) = nc r ∧ ne (layR r v' v3 y x) = ne r ∧ nw (layR r v' v3 y x) = nw r := fun y x => ⟨congrArg tn (layR_hi (by omega) o2 hpq y x (by omega)), congrArg tn (layR_hi (by omega) o2 hpq y x (by omega)), congrArg tn (layR_hi (by omega) o2 hpq y x (by omega))⟩
  have tv1 : tn (nI v') = v' := ncl (by omega)
  have tv2 : tn (nI v3) = v3 := ncl (by omega)
  have K6 : KU u u6 := KU_trans (KU_KC f4) (KU_trans (KU_KC i6) (KU_trans (KU_KC g6) (KU_trans (KU_KC j6) (KU_KC l6))))
  have B6 : BF m m6 := BF_trans (BF_NF f5) (BF_trans (BF_NF i7) (BF_trans (BF_NF g7) (BF_trans (BF_NF j7) (BF_NF l7))))
  have d127 : m6 127 = m 127 := by rw [l7.1 127 (by omega), j7.1 127 (by omega), g7.1 127 (by omega), i7.1 127 (by omega), f5.1 127 (by omega)]
  rcases J_pass l5 (w := 11) (by omega) with ⟨w3, s7, a7, k7, v7, u7, m7, p1, p2, p3, p4, p5, p6, p7, p8⟩ | ⟨w3, p1, p2, p3, p4⟩
  · have c7' : ∀ j, 20 ≤ j → m7 116 j = m 116 j := fun j hj => (p7.2 j (by omega) (by omega) (by omega) (by omega)).trans (c6' j hj)
    have R7 := Rep0_KC p6 R6 hW
    obtain ⟨n1, n2, n3⟩ := nl (nI v5) 1
    rw [p1, p4, bs, bs]
    dsimp only
    rw [if_neg (by decide), if_neg (by decide), c_lay (by omega) o2, bs, m_item hn (by rw [c7' 22 (by omega)]; exact e2), bs]
    refine good_end p5 (by omega) (KU_trans K6 (KU_KC p6)) (BF_trans B6 (BF_NF p7)) (by rw [p7.1 127 (by omega)]; exact d127) (Fr_lay _ _ _ _ _ _) (c_layR R7 hW (by omega) o2 hpq (nI v5) 1) (layR_wf hW (by omega) o2 hpq (In_nI y2 (by omega)) (In_nI (n := 1) (by omega) (by omega))) (by rw [c7' 23 (by omega), e3, n1]) (by rw [c7' 24 (by omega), e4, n2]) (by rw [c7' 25 (by omega), e5, n3]) ?_ ?_
    · rw [itV_at]
      exact Or.inl ⟨rfl, v', v3, by omega, o2, hpq, rfl, rfl, In_nI y2 (by omega), In_nI (n := 1) (by omega) (by omega)⟩
    · rw [itA_at, if_pos rfl, tv1, tv2]
  · obtain ⟨n1, n2, n3⟩ := nl (nI v5) 0
    rw [p1, p4, bs, bs]
    dsimp only
    rw [if_pos rfl, if_pos rfl, c_lay (by omega) o2, bs, m_item hn (by rw [c6' 22 (by omega)]; exact e2), bs]
    refine good_end l5 (by omega) K6 B6 d127 (Fr_lay _ _ _ _ _ _) (c_layR R6 hW (by omega) o2 hpq (nI v5) 0) (layR_wf hW (by omega) o2 hpq (In_nI y2 (by omega)) (In_nI (n := 0) (by omega) (by omega))) (by rw [c6' 23 (by omega), e3, n1]) (by rw [c6' 24 (by omega), e4, n2]) (by rw [c6' 25 (by omega), e5, n3]) ?_ ?_
    · rw [itV_at]
      exact Or.inl ⟨rfl, v', v3, by omega, o2, hpq, rfl, rfl, In_nI y2 (by omega), In_nI (n := 0) (by omega) (by omega)⟩
    · rw [itA_at, if_pos rfl, tv1, tv2]
theorem wd_inj : ∀ x, x < 16 → ∀ y, y < 16 → x ≠ y → (ln x = ln y → ∃ i, i < ln x ∧ sch x (nI i) ≠ sch y (nI i)) := by decide +kernel
theorem isWP_1 {x y : Nat} (hx : x < 16) (hy : y < 16) (h1 : isWP t s a k x) (h2 : isWP t s a k y) : x = y := by
  by_cases e : x = y
  · exact e
  · obtain ⟨i, i1, i2⟩ := wd_inj x hx y hy e (by rw [← h1.2.1, ← h2.2.1])
    have q1 := h1.2.2 i i1
    have q2 := h2.2.2 i (by rw [← h2.2.1, h1.2.1]; exact i1)
    exact absurd (q1.symm.trans q2) i2
theorem J_kind (h : JS u m t L s a k v) : (∃ kd, kd < 7 ∧ isWP t s a k kd ∧ FX6_kindTold u = some (nI kd) ∧ FX10_kindTold m = some (nI kd)) ∨ ((∀ w, w < 7 → ¬ isWP t s a k w) ∧ FX6_kindTold u = some (-1) ∧ FX10_kindTold m = some (-1)) := by
  have hm : ∀ (x : Nat) , x ≤ 7 → (∀ w, w < 7 → (isWP t s a k w ↔ w = x)) → FX10_kindTold m = some (if x < 7 then nI x else -1) := by
    intro x hx hu
    have l4 : lp (BX10_kindTold_4 m) FU (-1, 0) = some (if x < 7 then nI x else -1, nI 7) := by
      have h0 : (fun j => (if x < j then nI x else -1, nI j)) 0 = ((-1 : Int32), (0 : Int32)) := by
        show (if x < 0 then nI x else -1, nI 0) = _
        rw [if_neg (Nat.not_lt_zero _)]; rfl
      rw [← h0]
      refine lp_for (BX10_kindTold_4 m) (fun j => (if x < j then nI x else -1, nI j)) _ 7 (by omega) (fun j hj rec => ?_) (fun rec => ?_)
      · show BX10_kindTold_4 m rec (if x < j then nI x else -1, nI j) = rec (if x < j + 1 then nI x else -1, nI (j + 1))
        have cj : (nI j).toNatClampNeg = j := ncl (by omega)
        dsimp only [BX10_kindTold_4]
        simp only [cj, nI_1]
        rw [if_neg (by rw [L7]; exact n_ngt hj (by omega)), if_pos (inb_t hj (by omega))]
        rcases J_word h (w := j) (by omega) with ⟨b1, -, b3⟩ | ⟨b1, -, b3⟩
        · have e := (hu j hj).mp b1
          rw [b3, bs, if_neg (by decide), if_pos (show x < j + 1 by omega), e]
        · have e : j ≠ x := fun q => b1 ((hu j hj).mpr q)
          rw [b3, bs, if_pos rfl]
          by_cases q : x < j
          · rw [if_pos q, if_pos (show x < j + 1 by omega)]
          · rw [if_neg q, if_neg (show ¬ x < j + 1 by omega)]
      · show BX10_kindTold_4 m rec (if x < 7 then nI x else -1, nI 7) = _
        dsimp only [BX10_kindTold_4]
        rw [L7, if_pos (n_ge (Nat.le_refl _) (by omega))]
    unfold FX10_kindTold
    rw [l4, bs]
  unfold FX6_kindTold
  have one : ∀ x, x < 7 → isWP t s a k x → ∀ w, w < 7 → (isWP t s a k w ↔ w = x) := fun x hx p w hw => ⟨fun q => isWP_1 (by omega) (by omega) q p, fun q => by rw [q]; exact p⟩
  rcases J_word h (w := 0) (by omega) with ⟨b1, b2, -⟩ | ⟨n0, b2, -⟩
  · exact Or.inl ⟨0, by omega, b1, by rw [b2, bs, if_neg (by decide)]; rfl, hm 0 (by omega) (one 0 (by omega) b1)⟩
  rw [b2, bs, if_pos rfl]
  rcases J_word h (w := 1) (by omega) with ⟨b1, b2, -⟩ | ⟨n1, b2, -⟩
  · exact Or.inl ⟨1, by omega, b1, by rw [b2, bs, if_neg (by decide)]; rfl, hm 1 (by omega) (one 1 (by omega) b1)⟩
  rw [b2, bs, if_pos rfl]
  rcases J_word h (w := 2) (by omega) with ⟨b1, b2, -⟩ | ⟨n2, b2, -⟩
  · exact Or.inl ⟨2, by omega, b1, by rw [b2, bs, if_neg (by decide)]; rfl, hm 2 (by omega) (one 2 (by omega) b1)⟩
  rw [b2, bs, if_pos rfl]
  rcases J_word h (w := 3) (by omega) with ⟨b1, b2, -⟩ | ⟨n3, b2, -⟩
  · exact Or.inl ⟨3, by omega, b1, by rw [b2, bs, if_neg (by decide)]; rfl, hm 3 (by omega) (one 3 (by omega) b1)⟩
  rw [b2, bs, if_pos rfl]
  rcases J_word h (w := 4) (by omega) with ⟨b1, b2, -⟩ | ⟨n4, b2, -⟩
  · exact Or.inl ⟨4, by omega, b1, by rw [b2, bs, if_neg (by decide)]; rfl, hm 4 (by omega) (one 4 (by omega) b1)⟩
  rw [b2, bs, if_pos rfl]
  rcases J_word h (w := 5) (by omega) with ⟨b1, b2, -⟩ | ⟨n5, b2, -⟩
  · exact Or.inl ⟨5, by omega, b1, by rw [b2, bs, if_neg (by decide)]; rfl, hm 5 (by omega) (one 5 (by omega) b1)⟩
  rw [b2, bs, if_pos rfl]
  rcases J_word h (w := 6) (by omega) with ⟨b1, b2, -⟩ | ⟨n6, b2, -⟩
  · exact Or.inl ⟨6, by omega, b1, by rw [b2, bs, if_neg (by decide)]; rfl, hm 6 (by omega) (one 6 (by omega) b1)⟩
  rw [b2, bs, if_pos rfl]
  have hno : ∀ w, w < 7 → ¬ isWP t s a k w := fun w hw => by
    have : w = 0 ∨ w = 1 ∨ w = 2 ∨ w = 3 ∨ w = 4 ∨ w = 5 ∨ w = 6 := by omega
    rcases this with rfl | rfl | rfl | rfl | rfl | rfl | rfl <;> assumption
  exact Or.inr ⟨hno, rfl, hm 7 (by omega) (fun w hw => ⟨fun q => absurd q (hno w hw), fun q => by omega⟩)⟩
theorem JR_inZ {c : Option (Int32 × Mem)} {d : Option Mem} (h : JR u m t L s n r c d) : JR u m t L s n r (Option.bind c (fun q => (if inZ q.1 then some (q.1, q.2) else none))) d ∧ JR u m t L s n r (Option.bind c (fun q => (if q.1 = 0 then some (0, q.2) else some (1, q.2)))) d := by
  rcases h with ⟨s', a', k', v', u', m', r', e, h⟩ | ⟨sF, u', m', e, h⟩
  · subst e
    refine ⟨Or.inl ⟨s', a', k', v', u', m', r', ?_, h⟩, Or.inl ⟨s', a', k', v', u', m', r', ?_, h⟩⟩
    · rw [bs]; exact if_pos (Or.inr rfl)
    · rw [bs]; exact if_neg (show ¬ ((1 : Int32) = 0) by decide)
  · subst e
    refine ⟨Or.inr ⟨sF, u', m', ?_, h⟩, Or.inr ⟨sF, u', m', ?_, h⟩⟩
    · rw [bs]; exact if_pos (Or.inl rfl)
    · rw [bs]; exact if_pos rfl
theorem J_item (h : JS u m t L s a k v) (R0 : Rep0 u 65 r) (hW : Wf r) (e2 : m 116 22 = nI n) (e3 : m 116 23 = nI (nc r)) (e4 : m 116 24 = nI (ne r)) (e5 : m 116 25 = nI (nw r)) (hn : n < 120) : JR u m t L s n r (FX6_readItem 65 u) (FX10_readItem m) := by
  have hm3 := h.2.1.2.2
  unfold FX6_readItem FX10_readItem
  rcases J_kind h with ⟨kd, k1, k2, k3, k4⟩ | ⟨k2, k3, k4⟩
  · rw [k3, k4, bs, bs, if_neg (nI_pos (by omega)), if_neg (nI_pos (by omega))]
    exact (JR_inZ (J_car h (by rw [k2.1]; decide) R0 hW k1 e2 e3 e4 e5 hn)).1
  · rw [k3, k4, bs, bs, if_pos (by decide), if_pos (by decide)]
    rcases J_word h (w := 9) (by omega) with ⟨b1, b2, b3⟩ | ⟨b1, b2, b3⟩
    · have hN : FX10_isNext 9 m = Option.bind (FX10_must 1 m) (fun q2 => some (1, q2)) := by
        unfold FX10_isNext
        rw [if_pos hm3, b3, bs, if_neg (by decide)]
      obtain ⟨s', a', k', v', u', m', f1, f2, f3, f4, f5, f6⟩ := J_go h
      have hJ := J_way h (by rw [b1.1]; decide) R0 hW e2 e3 e4 e5 hn
      rw [f2, bs] at hN hJ
      rw [b2, bs, if_neg (by decide), hN, bs]
      dsimp only
      rw [if_neg (by decide)]
      exact (JR_inZ hJ).1
    · have hN : FX10_isNext 9 m = some (0, m) := by
        unfold FX10_isNext
        rw [if_pos hm3, b3, bs, if_pos rfl]
      rw [b2, bs, if_pos rfl, hN, bs]
      dsimp only
      rw [if_pos rfl, if_pos hm3]
      rcases J_word h (w := 12) (by omega) with ⟨c1, c2, c3⟩ | ⟨c1, c2, c3⟩
      · rw [c2, c3, bs, bs, if_neg (by decide), if_neg (by decide)]
        exact (JR_inZ (J_errand h (by rw [c1.1]; decide) R0 hW e2 e3 e4 e5 hn _)).1
      · rw [c2, c3, bs, bs, if_pos rfl, if_pos rfl]
        rcases J_word h (w := 15) (by omega) with ⟨d1, d2, d3⟩ | ⟨d1, d2, d3⟩
        · rw [d2, bs, if_neg (by decide)]
          exact (JR_inZ (J_ware h (by rw [d1.1]; decide) d3 R0 hW e2 e3 e4 e5 hn _)).2
        · rw [d2, bs, if_pos rfl]
          exact J_none h d3 e2 hn _
end READ2
