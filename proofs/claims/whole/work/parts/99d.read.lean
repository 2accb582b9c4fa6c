/-! texts: one item read by both -/
theorem bind_id {A : Type} (o : Option A) : Option.bind o (fun q => some q) = o := by cases o <;> rfl
section READ
variable {u m u0 m0 : Mem} {t : Nat → Nat} {L s a k v s0 n : Nat} {r r' : Nat → Int32}
def JR (u m : Mem) (t : Nat → Nat) (L s n : Nat) (r : Nat → Int32) (c : Option (Int32 × Mem)) (d : Option Mem) : Prop :=
  (∃ s' a' k' v' u' m' r', c = some (1, u') ∧ d = some m' ∧ JS u' m' t L s' a' k' v' ∧ (Rep0 u' 65 r' ∧ Wf r') ∧ (m' 116 22 = nI (n + 1) ∧ m' 116 23 = nI (nc r') ∧ m' 116 24 = nI (ne r') ∧ m' 116 25 = nI (nw r')) ∧ KU u u' ∧ BF m m' ∧ (∀ y, y < 5 * n → m' 127 y = m 127 y) ∧ itV (m' 127) n r ∧ r' = itA (m' 127) n r ∧ s < s') ∨
  ∃ sF u' m', c = some (0, u') ∧ d = some m' ∧ u' 104 3 = nI sF ∧ sF ≤ L ∧ m' 116 19 = 1 ∧ m' 116 15 = nI sF ∧ KU u u' ∧ BF m m'
theorem itA_at {a b c d e : Int32} : itA (itM m n a b c d e 127) n r = if a = 10 then layR r (tn b) (tn c) d e else if a = 11 then addE r b c d else if a = 12 then addW r b else addC r a b c := by
  obtain ⟨h1, h2, h3, h4, h5⟩ := it_at (m := m) (n := n) (a := a) (b := b) (c := c) (d := d) (e := e)
  unfold itA
  rw [h1, h2, h3, h4, h5]
theorem itV_at {a b c d e : Int32} : itV (itM m n a b c d e 127) n r = ((a = 10 ∧ ∃ x y, x < 7 ∧ y < 7 ∧ x ≠ y ∧ b = nI x ∧ c = nI y ∧ In d 99 ∧ In e 1) ∨ (a = 11 ∧ ne r < 8 ∧ In b 60 ∧ In c 6 ∧ In d 6) ∨ (a = 12 ∧ nw r < 6 ∧ In b 9999) ∨ ((∃ kd, kd < 7 ∧ a = nI kd) ∧ nc r < 6 ∧ In b 6 ∧ In c 99)) := by
  obtain ⟨h1, h2, h3, h4, h5⟩ := it_at (m := m) (n := n) (a := a) (b := b) (c := c) (d := d) (e := e)
  unfold itV
  rw [h1, h2, h3, h4, h5]
theorem good_end {u5 : Mem} {x1 x2 x3 x4 x5 : Int32} (h : JS u m t L s a k v) (hs : s0 < s) (K0 : KU u0 u) (B0 : BF m0 m) (h127 : m 127 = m0 127) (F : Fr 65 u u5) (R5 : Rep0 u5 65 r') (W5 : Wf r') (e3 : m 116 23 = nI (nc r')) (e4 : m 116 24 = nI (ne r')) (e5 : m 116 25 = nI (nw r')) (V : itV (itM m n x1 x2 x3 x4 x5 127) n r) (A : r' = itA (itM m n x1 x2 x3 x4 x5 127) n r) : JR u0 m0 t L s0 n r (some (1, u5)) (some (itM m n x1 x2 x3 x4 x5)) := by
  refine Or.inl ⟨s, a, k, v, u5, _, r', rfl, rfl, JS_it (JS_u h (F 104 (by omega)) (F 105 (by omega))), ⟨R5, W5⟩, ⟨it_22, ?_, ?_, ?_⟩, KU_trans K0 (KU_Fr F), BF_trans B0 BF_it, fun y hy => ?_, V, A, hs⟩
  · rw [it_j (by omega)]; exact e3
  · rw [it_j (by omega)]; exact e4
  · rw [it_j (by omega)]; exact e5
  · rw [it_lo hy, h127]
theorem bad_JR {mw : Mem} (h : JS u m t L s a k v) (K0 : KU u0 u) (B0 : BF m0 mw) (h19 : mw 116 19 = 1) (h15 : mw 116 15 = m 116 15) (h22 : mw 116 22 = nI n) (hn : n < 120) (x1 x2 x3 x4 x5 : Int32) : JR u0 m0 t L s0 n r (some (0, u)) (FX10_item x1 x2 x3 x4 x5 mw) := by
  obtain ⟨m', f1, f2, f3, f4⟩ := bad_end (s := s) B0 h19 (h15.trans h.2.1.1.2.1) h22 hn x1 x2 x3 x4 x5
  exact Or.inr ⟨s, u, m', rfl, f1, h.1.1.2.1, by have := h.2.2; unfold TBd at this; omega, f2, f3, K0, f4⟩
theorem J_car34 {kd p : Nat} (h : JS u m t L s a k v) (R0 : Rep0 u 65 r) (hW : Wf r) (hn6 : nc r < 6) (hkd : kd < 7) (hp : p ≤ 6) (e2 : m 116 22 = nI n) (e3 : m 116 23 = nI (nc r + 1)) (e4 : m 116 24 = nI (ne r)) (e5 : m 116 25 = nI (nw r)) (K0 : KU u0 u) (B0 : BF m0 m) (h127 : m 127 = m0 127) (hs : s0 < s) (hn : n < 120) : JR u0 m0 t L s0 n r (JX6_readCarrier_34 65 (nI kd) (nI p) u) (Option.bind (FX10_isNext 8 m) (fun q46 => (if q46.1 = 0 then Option.bind (FX10_item (nI kd) (nI p) 20 0 0 q46.2) (fun q47 => some q47) else Option.bind (FX10_number 1 99 q46.2) (fun q48 => Option.bind (FX10_item (nI kd) (nI p) q48.1 0 0 q48.2) (fun q49 => some q49))))) := by
  have k10 : ¬ nI kd = 10 := by rw [L10, neq (by omega) (by omega)]; omega
  have k11 : ¬ nI kd = 11 := by rw [show (11 : Int32) = nI 11 from rfl, neq (by omega) (by omega)]; omega
  have k12 : ¬ nI kd = 12 := by rw [show (12 : Int32) = nI 12 from rfl, neq (by omega) (by omega)]; omega
  unfold JX6_readCarrier_34
  rw [if_pos (nI_pos' (by omega))]
  rcases J_pass h (w := 8) (by omega) with ⟨w1, s', a', k', v', u', m', f1, f2, f3, f4, f5, f6, f7, f8⟩ | ⟨w1, f1, f2, f3, f4⟩
  · have hsa' : s < s' := by
      have := h.2.2.2.2.2.2.2 (by rw [w1.1]; decide)
      omega
    rw [f1, f4, bs, bs]
    dsimp only
    rw [if_neg (by decide), if_neg (by decide)]
    rcases J_num f5 (lo := 1) (hi := 99) (l := 1) (hh := 99) rfl rfl (by omega) (by omega) with ⟨g0, g1, g2, s2, a2, k2, v2, u2, m2, g3, g4, g5, g6, g7, g8⟩ | ⟨g1, x, g2⟩
    · have Rk := Rep0_KC g6 (Rep0_KC f6 R0 hW) hW
      obtain ⟨u3, i1, i2, i3, i4⟩ := c_addC0 (k := nI kd) (p := nI p) (s := nI v') Rk hW hn6 (In_nI (by omega) (by omega)) (In_nI hp (by omega)) (In_nI g2 (by omega))
      obtain ⟨n1, n2, n3⟩ := n_addC hn6 (nI kd) (nI p) (nI v')
      have c2 : m2 116 22 = nI n := by rw [g7.2 22 (by omega) (by omega) (by omega) (by omega), f7.2 22 (by omega) (by omega) (by omega) (by omega)]; exact e2
      have c3 : m2 116 23 = nI (nc r + 1) := by rw [g7.2 23 (by omega) (by omega) (by omega) (by omega), f7.2 23 (by omega) (by omega) (by omega) (by omega)]; exact e3
      have c4 : m2 116 24 = nI (ne r) := by rw [g7.2 24 (by omega) (by omega) (by omega) (by omega), f7.2 24 (by omega) (by omega) (by omega) (by omega)]; exact e4
      have c5 : m2 116 25 = nI (nw r) := by rw [g7.2 25 (by omega) (by omega) (by omega) (by omega), f7.2 25 (by omega) (by omega) (by omega) (by omega)]; exact e5
      rw [g3, g4, bs, bs]
      dsimp only
      rw [if_pos (nI_pos' (by omega)), i1, bs, m_item hn c2, bs]
      have hg8 : s' ≤ a' := f5.2.2.1
      refine good_end g5 (by omega) (KU_trans K0 (KU_trans (KU_KC f6) (KU_KC g6))) (BF_trans B0 (BF_trans (BF_NF f7) (BF_NF g7))) (by rw [g7.1 127 (by omega), f7.1 127 (by omega)]; exact h127) i4 i2 i3 (by rw [c3, n1]) (by rw [c4, n2]) (by rw [c5, n3]) ?_ ?_
      · rw [itV_at]
        exact Or.inr (Or.inr (Or.inr ⟨⟨kd, hkd, rfl⟩, hn6, In_nI hp (by omega), In_nI g2 (by omega)⟩))
      · rw [itA_at, if_neg k10, if_neg k11, if_neg k12]
    · rw [g1, g2, bs, bs]
      dsimp only
      rw [if_neg (by decide), bind_id]
      refine bad_JR f5 (KU_trans K0 (KU_KC f6)) (BF_trans B0 (BF_trans (BF_NF f7) (BF_mst (by omega) _ _))) (mst_s _ _ _ _) (mst_j (by omega) _ _) ?_ hn _ _ _ _ _
      rw [mst_j (by omega), f7.2 22 (by omega) (by omega) (by omega) (by omega)]; exact e2
  · rw [f1, f4, bs, bs]
    dsimp only
    rw [if_pos rfl, if_pos rfl]
    obtain ⟨u3, i1, i2, i3, i4⟩ := c_addC0 (k := nI kd) (p := nI p) (s := 20) R0 hW hn6 (In_nI (by omega) (by omega)) (In_nI hp (by omega)) (In_nI (n := 20) (by omega) (by omega))
    obtain ⟨n1, n2, n3⟩ := n_addC hn6 (nI kd) (nI p) 20
    rw [i1, bs, m_item hn e2, bs]
    refine good_end h hs K0 B0 h127 i4 i2 i3 (by rw [e3, n1]) (by rw [e4, n2]) (by rw [e5, n3]) ?_ ?_
    · rw [itV_at]
      exact Or.inr (Or.inr (Or.inr ⟨⟨kd, hkd, rfl⟩, hn6, In_nI hp (by omega), In_nI (n := 20) (by omega) (by omega)⟩))
    · rw [itA_at, if_neg k10, if_neg k11, if_neg k12]
theorem J_car {kd : Nat} (h : JS u m t L s a k v) (hk : k ≠ 0) (R0 : Rep0 u 65 r) (hW : Wf r) (hkd : kd < 7) (e2 : m 116 22 = nI n) (e3 : m 116 23 = nI (nc r)) (e4 : m 116 24 = nI (ne r)) (e5 : m 116 25 = nI (nw r)) (hn : n < 120) : JR u m t L s n r (FX6_readCarrier 65 (nI kd) u) (if 6 ≤ (m 116 23) then JX10_readItem_24 (nI kd) 0 m else JX10_readItem_24 (nI kd) 1 m) := by
  have h6 := nc_eq hW
  have eu : u 65 5 = nI (nc r) := by rw [R0.1.1]; exact h6.1
  have hsa : s < a := (h.2.2.2.2.2.2.2 hk).1
  unfold FX6_readCarrier
  by_cases z : nc r < 6
  · rw [if_pos (by rw [eu, L6, nlt (by omega) (by omega)]; exact z), if_neg (by rw [e3, L6, nle (by omega) (by omega)]; omega)]
    unfold JX10_readItem_24
    obtain ⟨s', a', k', v', u', m', f1, f2, f3, f4, f5, f6⟩ := J_go h
    have c : ∀ j, 20 ≤ j → m' 116 j = m 116 j := fun j hj => f5.2 j (by omega) (by omega) (by omega) (by omega)
    have J1 : JS u' (mst m' 116 23 (m' 116 23 + 1)) t L s' a' k' v' := JS_m f3 (fun j _ hj => mst_j (by omega) _ _) (mst_k (by omega) _ _)
    have d2 : mst m' 116 23 (m' 116 23 + 1) 116 22 = nI n := by rw [mst_j (by omega), c 22 (by omega)]; exact e2
    have d3 : mst m' 116 23 (m' 116 23 + 1) 116 23 = nI (nc r + 1) := by rw [mst_s, c 23 (by omega), e3, nI_1]
    have d4 : mst m' 116 23 (m' 116 23 + 1) 116 24 = nI (ne r) := by rw [mst_j (by omega), c 24 (by omega)]; exact e4
    have d5 : mst m' 116 23 (m' 116 23 + 1) 116 25 = nI (nw r) := by rw [mst_j (by omega), c 25 (by omega)]; exact e5
    have dB : BF m (mst m' 116 23 (m' 116 23 + 1)) := BF_trans (BF_NF f5) (BF_mst (by omega) _ _)
    have d127 : mst m' 116 23 (m' 116 23 + 1) 127 = m 127 := by rw [mst_k (by omega)]; exact f5.1 127 (by omega)
    have R1 := Rep0_KC f4 R0 hW
    rw [f1, f2, bs, bs]
    generalize mst m' 116 23 (m' 116 23 + 1) = m1 at *
    rcases J_pass J1 (w := 7) (by omega) with ⟨w1, s2, a2, k2, v2, u2, m2, g1, g2, g3, g4, g5, g6, g7, g8⟩ | ⟨w1, g1, g2, g3, g4⟩
    · have hs2 : s' < s2 := by
        have := J1.2.2.2.2.2.2.2 (by rw [w1.1]; decide)
        omega
      have c' : ∀ j, 20 ≤ j → m2 116 j = m1 116 j := fun j hj => g7.2 j (by omega) (by omega) (by omega) (by omega)
      rw [g1, g4, bs, bs]
      dsimp only
      rw [if_neg (by decide), if_neg (by decide)]
      rcases J_num g5 (lo := 0) (hi := 6) (l := 0) (hh := 6) rfl rfl (by omega) (by omega) with ⟨i0, i1, i2, s3, a3, k3, v3, u3, m3, i3, i4, i5, i6, i7, i8⟩ | ⟨i1, x, i2⟩
      · have c3' : ∀ j, 20 ≤ j → m3 116 j = m1 116 j := fun j hj => (i7.2 j (by omega) (by omega) (by omega) (by omega)).trans (c' j hj)
        rw [i3, i4, bs, bs]
        dsimp only
        have hsa2 : s2 ≤ a2 := g5.2.2.1
        exact J_car34 (u0 := u) (m0 := m) (s0 := s) i5 (Rep0_KC i6 (Rep0_KC g6 R1 hW) hW) hW z hkd i2 (by rw [c3' 22 (by omega)]; exact d2) (by rw [c3' 23 (by omega)]; exact d3) (by rw [c3' 24 (by omega)]; exact d4) (by rw [c3' 25 (by omega)]; exact d5) (KU_trans (KU_KC f4) (KU_trans (KU_KC g6) (KU_KC i6))) (BF_trans dB (BF_trans (BF_NF g7) (BF_NF i7))) (by rw [i7.1 127 (by omega), g7.1 127 (by omega)]; exact d127) (by omega) hn
      · rw [i1, i2, bs, bs]
        unfold JX6_readCarrier_34
        dsimp only
        have hw19 : mst m2 116 19 1 116 19 = 1 := mst_s _ _ _ _
        rw [if_neg (by decide), w_isNext hw19, bs]
        dsimp only
        rw [if_pos rfl, bind_id]
        refine bad_JR g5 (KU_trans (KU_KC f4) (KU_KC g6)) (BF_trans dB (BF_trans (BF_NF g7) (BF_mst (by omega) _ _))) hw19 (mst_j (by omega) _ _) ?_ hn _ _ _ _ _
        rw [mst_j (by omega), c' 22 (by omega)]; exact d2
    · rw [g1, g4, bs, bs]
      dsimp only
      rw [if_pos rfl, if_pos rfl]
      exact J_car34 (p := 0) (u0 := u) (m0 := m) (s0 := s) J1 R1 hW z hkd (by omega) d2 d3 d4 d5 (KU_KC f4) dB d127 (by omega) hn
  · have z6 : nc r = 6 := by omega
    rw [if_neg (by rw [eu, L6, nlt (by omega) (by omega)]; exact z), if_pos (by rw [e3, z6]; decide)]
    unfold JX10_readItem_24
    have hw19 : ∀ y, mst (mst m 116 19 1) 116 23 y 116 19 = 1 := fun y => by rw [mst_j (by omega), mst_s]
    rw [must_no h.2.1.2.2, bs, w_isNext (hw19 _), bs]
    dsimp only
    rw [if_pos rfl, w_isNext (hw19 _), bs]
    dsimp only
    rw [if_pos rfl, bind_id]
    refine bad_JR h (KU_refl u) (BF_trans (BF_mst (by omega) _ _) (BF_mst (by omega) _ _)) (hw19 _) (by rw [mst_j (by omega), mst_j (by omega)]) ?_ hn _ _ _ _ _
    rw [mst_j (by omega), mst_j (by omega)]; exact e2
theorem J_ware (h : JS u m t L s a k v) (hk : k ≠ 0) (hw15 : FX10_isWord 15 m = some 1) (R0 : Rep0 u 65 r) (hW : Wf r) (e2 : m 116 22 = nI n) (e3 : m 116 23 = nI (nc r)) (e4 : m 116 24 = nI (ne r)) (e5 : m 116 25 = nI (nw r)) (hn : n < 120) (v1 : Int32) : JR u m t L s n r (FX6_readWare 65 u) (JX10_readItem_264 v1 m) := by
  have h6 := nw_eq hW
  have eu : u 65 7 = nI (nw r) := by rw [R0.1.2.2.1]; exact h6.1
  have hsa : s < a := (h.2.2.2.2.2.2.2 hk).1
  unfold FX6_readWare JX10_readItem_264
  rw [hw15, bs, if_neg (show ¬ ((1 : Int32) = 0) by decide)]
  by_cases z : nw r < 6
  · rw [if_pos (by rw [eu, L6, nlt (by omega) (by omega)]; exact z), if_neg (by rw [e5, L6, nle (by omega) (by omega)]; omega)]
    obtain ⟨s', a', k', v', u', m', f1, f2, f3, f4, f5, f6⟩ := J_go h
    have c : ∀ j, 20 ≤ j → m' 116 j = m 116 j := fun j hj => f5.2 j (by omega) (by omega) (by omega) (by omega)
    have J1 : JS u' (mst m' 116 25 (m' 116 25 + 1)) t L s' a' k' v' := JS_m f3 (fun j _ hj => mst_j (by omega) _ _) (mst_k (by omega) _ _)
    have d2 : mst m' 116 25 (m' 116 25 + 1) 116 22 = nI n := by rw [mst_j (by omega), c 22 (by omega)]; exact e2
    have d3 : mst m' 116 25 (m' 116 25 + 1) 116 23 = nI (nc r) := by rw [mst_j (by omega), c 23 (by omega)]; exact e3
    have d4 : mst m' 116 25 (m' 116 25 + 1) 116 24 = nI (ne r) := by rw [mst_j (by omega), c 24 (by omega)]; exact e4
    have d5 : mst m' 116 25 (m' 116 25 + 1) 116 25 = nI (nw r + 1) := by rw [mst_s, c 25 (by omega), e5, nI_1]
    have dB : BF m (mst m' 116 25 (m' 116 25 + 1)) := BF_trans (BF_NF f5) (BF_mst (by omega) _ _)
    have d127 : mst m' 116 25 (m' 116 25 + 1) 127 = m 127 := by rw [mst_k (by omega)]; exact f5.1 127 (by omega)
    have R1 := Rep0_KC f4 R0 hW
    rw [f1, f2, bs, bs]
    generalize mst m' 116 25 (m' 116 25 + 1) = m1 at *
    rcases J_num J1 (lo := 1) (hi := 9999) (l := 1) (hh := 9999) rfl rfl (by omega) (by omega) with ⟨i0, i1, i2, s3, a3, k3, v3, u3, m3, i3, i4, i5, i6, i7, i8⟩ | ⟨i1, x, i2⟩
    · have c3' : ∀ j, 20 ≤ j → m3 116 j = m1 116 j := fun j hj => i7.2 j (by omega) (by omega) (by omega) (by omega)
      obtain ⟨u4, j1, j2, j3, j4⟩ := c_addW0 (k := nI v') (Rep0_KC i6 R1 hW) hW z (In_nI i2 (by omega))
      obtain ⟨n1, n2, n3⟩ := n_addW z (nI v')
      have hsa2 : s' ≤ a' := J1.2.2.1
      rw [i3, i4, bs, bs]
      dsimp only
      rw [if_pos (nI_pos' (by omega)), j1, bs, m_item hn (by rw [c3' 22 (by omega)]; exact d2), bs]
      refine good_end i5 (by omega) (KU_trans (KU_KC f4) (KU_KC i6)) (BF_trans dB (BF_NF i7)) (by rw [i7.1 127 (by omega)]; exact d127) j4 j2 j3 (by rw [c3' 23 (by omega), d3, n1]) (by rw [c3' 24 (by omega), d4, n2]) (by rw [c3' 25 (by omega), d5, n3]) ?_ ?_
      · rw [itV_at]
        exact Or.inr (Or.inr (Or.inl ⟨rfl, z, In_nI i2 (by omega)⟩))
      · rw [itA_at, if_neg (by decide), if_neg (by decide), if_pos rfl]
    · rw [i1, i2, bs, bs]
      dsimp only
      rw [if_neg (by decide), bind_id]
      refine bad_JR J1 (KU_KC f4) (BF_trans dB (BF_mst (by omega) _ _)) (mst_s _ _ _ _) (mst_j (by omega) _ _) ?_ hn _ _ _ _ _
      rw [mst_j (by omega)]; exact d2
  · have z6 : nw r = 6 := by omega
    rw [if_neg (by rw [eu, L6, nlt (by omega) (by omega)]; exact z), if_pos (by rw [e5, z6]; decide)]
    have hw19 : ∀ y, mst (mst m 116 19 1) 116 25 y 116 19 = 1 := fun y => by rw [mst_j (by omega), mst_s]
    rw [must_no h.2.1.2.2, bs, w_number (hw19 _), bs, bind_id]
    refine bad_JR h (KU_refl u) (BF_trans (BF_mst (by omega) _ _) (BF_mst (by omega) _ _)) (hw19 _) (by rw [mst_j (by omega), mst_j (by omega)]) ?_ hn _ _ _ _ _
    rw [mst_j (by omega), mst_j (by omega)]; exact e2
theorem J_none (h : JS u m t L s a k v) (hw15 : FX10_isWord 15 m = some 0) (e2 : m 116 22 = nI n) (hn : n < 120) (v1 : Int32) : JR u m t L s n r (some (0, u)) (JX10_readItem_264 v1 m) := by
  unfold JX10_readItem_264
  have hw19 : ∀ y, mst (mst m 116 19 1) 116 25 y 116 19 = 1 := fun y => by rw [mst_j (by omega), mst_s]
  rw [hw15, bs, if_pos rfl, must_no h.2.1.2.2, bs, w_number (hw19 _), bs, bind_id]
  refine bad_JR h (KU_refl u) (BF_trans (BF_mst (by omega) _ _) (BF_mst (by omega) _ _)) (hw19 _) (by rw [mst_j (by omega), mst_j (by omega)]) ?_ hn _ _ _ _ _
  rw [mst_j (by omega), mst_j (by omega)]; exact e2
end READ
