/-! the tape: feeding -/
section FEED
variable {u m : Mem} {r : Nat → Int32} {B : Nat}
/-- only the tape has changed -/
theorem same_tape {f g : Mem → Option (Int32 × Mem)} {u u1 u2 : Mem} {x : Int32} {n : Nat} (h : Inv u) (hf : f u = some (x, u1)) (hg : g u1 = some (x, u2)) (c1 : ∀ a, a ≠ 104 → a ≠ 105 → u1 a = u a) (cl : u1 104 1 = nI n) (hn : n ≤ 120) (m1 : ∀ a, a ≠ 116 → a ≠ 125 → u2 a = u1 a) (m3 : u2 116 3 = u1 116 3) (ml : u2 116 14 = nI n) (mb : ∀ i, i < 120 → In (u2 125 i) 255) (hb : ∀ i, i < n → u1 105 i = u2 125 i) : Same f g u := by
  have e : ∀ a, a ≠ 104 → a ≠ 105 → a ≠ 116 → a ≠ 125 → u2 a = u a := fun a h1 h2 h3 h4 => by rw [m1 a h3 h4, c1 a h1 h2]
  have e116 : u2 116 3 = u 116 3 := by rw [m3, c1 116 (by omega) (by omega)]
  have en : tn (u2 116 14) = n := by rw [ml]; exact ncl (by omega)
  refine ⟨x, u1, u2, hf, hg, ?_, ?_⟩
  · obtain ⟨h1, h2, h3, h4, h5, h6, h7⟩ := h.1
    have hM := h.2
    unfold Cs
    rw [en, e 117 (by omega) (by omega) (by omega) (by omega), e 118 (by omega) (by omega) (by omega) (by omega), e 0 (by omega) (by omega) (by omega) (by omega), e 107 (by omega) (by omega) (by omega) (by omega), e 120 (by omega) (by omega) (by omega) (by omega), e 128 (by omega) (by omega) (by omega) (by omega), e 129 (by omega) (by omega) (by omega) (by omega), e 130 (by omega) (by omega) (by omega) (by omega), e116, ml, m1 104 (by omega) (by omega), m1 105 (by omega) (by omega)]
    refine ⟨Rep_congr (fun a _ _ => e a (by omega) (by omega) (by omega) (by omega)) hM.1 h1, h2, fun z => ?_, ⟨cl, hb⟩, fun s hs' => ?_, h6, h7⟩
    · rcases hM.2.1 with y | y
      · exact absurd y z
      · exact Rep_congr (fun a _ _ => e a (by omega) (by omega) (by omega) (by omega)) y.2 (h3 z)
    · rw [e _ (by omega) (by omega) (by omega) (by omega), e _ (by omega) (by omega) (by omega) (by omega)]; exact h5 s hs'
  · obtain ⟨h1, h2, h3, h4, h5⟩ := h.2
    unfold Ms
    rw [e 117 (by omega) (by omega) (by omega) (by omega), e 118 (by omega) (by omega) (by omega) (by omega), e 124 (by omega) (by omega) (by omega) (by omega), e 128 (by omega) (by omega) (by omega) (by omega), e 129 (by omega) (by omega) (by omega) (by omega), e116, ml]
    exact ⟨h1, h2, ⟨In_nI hn (by omega), mb⟩, h4, h5⟩
def bt (p : Int32) (k : Nat) : Nat := p.toBitVec.toNat / 2 ^ (8 * k) % 256
theorem bt_c (p : Int32) : ∀ k, k < 4 → (jushr p (8 * nI k)) &&& 255 = nI (bt p k) := by
  intro k hk
  rw [pk_and _ (m := 255) 8 (by decide)]
  unfold bt
  have h4 : k = 0 ∨ k = 1 ∨ k = 2 ∨ k = 3 := by omega
  rcases h4 with rfl | rfl | rfl | rfl
  · rw [show jushr p (8 * nI 0) = (p.toUInt32 >>> ((8 * nI 0).toUInt32 &&& Int32.toUInt32 31)).toInt32 from rfl, pk_ushr p _ 0 (by decide)]
  · rw [show jushr p (8 * nI 1) = (p.toUInt32 >>> ((8 * nI 1).toUInt32 &&& Int32.toUInt32 31)).toInt32 from rfl, pk_ushr p _ 8 (by decide)]
  · rw [show jushr p (8 * nI 2) = (p.toUInt32 >>> ((8 * nI 2).toUInt32 &&& Int32.toUInt32 31)).toInt32 from rfl, pk_ushr p _ 16 (by decide)]
  · rw [show jushr p (8 * nI 3) = (p.toUInt32 >>> ((8 * nI 3).toUInt32 &&& Int32.toUInt32 31)).toInt32 from rfl, pk_ushr p _ 24 (by decide)]
theorem sh_bits (b : BitVec 32) (s : Nat) (h : s ≤ 24) : (b.sshiftRight s).toNat % 256 = b.toNat / 2 ^ s % 256 := by
  have e : (b.sshiftRight s).setWidth 8 = (b >>> s).setWidth 8 := by
    apply BitVec.eq_of_getLsbD_eq
    intro i hi
    rw [BitVec.getLsbD_setWidth, BitVec.getLsbD_setWidth, BitVec.getLsbD_sshiftRight, BitVec.getLsbD_ushiftRight]
    have h1 : ¬ 32 ≤ i := by omega
    have h2 : s + i < 32 := by omega
    simp [h1, h2]
  have e2 := congrArg BitVec.toNat e
  rw [BitVec.toNat_setWidth, BitVec.toNat_setWidth, BitVec.toNat_ushiftRight, Nat.shiftRight_eq_div_pow] at e2
  exact e2
theorem bt_m (p : Int32) : ∀ k, k < 4 → (jshr p (8 * nI k)) &&& 255 = nI (bt p k) := by
  intro k hk
  rw [pk_and _ (m := 255) 8 (by decide)]
  unfold bt
  have h4 : k = 0 ∨ k = 1 ∨ k = 2 ∨ k = 3 := by omega
  rcases h4 with rfl | rfl | rfl | rfl
  · exact congrArg nI (sh_bits p.toBitVec 0 (by omega))
  · exact congrArg nI (sh_bits p.toBitVec 8 (by omega))
  · exact congrArg nI (sh_bits p.toBitVec 16 (by omega))
  · exact congrArg nI (sh_bits p.toBitVec 24 (by omega))
theorem bt_lt (p : Int32) (k : Nat) : bt p k ≤ 255 := by
  have := Nat.mod_lt (p.toBitVec.toNat / 2 ^ (8 * k)) (show 0 < 256 by omega)
  unfold bt
  omega
theorem sub1 (x : Int32) : x - 1 = x + (-1) := by
  apply Int32.toBitVec_inj.mp
  show x.toBitVec - 1 = x.toBitVec + (-1)
  rw [BitVec.sub_eq_add_neg]
def tpF (g : Nat → Int32) (p : Int32) (l n k : Nat) : Nat → Int32 := fun x => if l ≤ x ∧ x < l + k then nI (bt p (n - 1 - (x - l))) else g x
theorem tpF_0 (g : Nat → Int32) (p : Int32) (l n : Nat) : tpF g p l n 0 = g := by funext x; exact if_neg (by omega)
theorem tpF_up (g : Nat → Int32) (p : Int32) (l n k : Nat) : upd (tpF g p l n k) (l + k) (nI (bt p (n - 1 - k))) = tpF g p l n (k + 1) := by
  funext x
  unfold upd tpF
  by_cases c : x = l + k
  · rw [if_pos c, if_pos (by omega), show x - l = k by omega]
  · rw [if_neg c]
    by_cases d : l ≤ x ∧ x < l + k
    · rw [if_pos d, if_pos (by omega)]
    · rw [if_neg d, if_neg (by omega)]
theorem c_feed {l n : Nat} (p : Int32) (hl : u 104 1 = nI l) (hn : n ≤ 4) (h : l + n ≤ 120) : ∃ o, ((∀ a, a ≠ 104 → a ≠ 105 → o.2 a = u a) ∧ o.2 104 1 = nI (l + n) ∧ o.2 105 = tpF (u 105) p l n n) ∧ lp (BX9_feed_41 p (nI n)) FU (nI n - 1, u) = some o := by
  refine lp_inv (Bf := BX9_feed_41 p (nI n)) (fun k s => s.1 = nI (n - k) - 1 ∧ (∀ a, a ≠ 104 → a ≠ 105 → s.2 a = u a) ∧ s.2 104 1 = nI (l + k) ∧ s.2 105 = tpF (u 105) p l n k) (fun o => (∀ a, a ≠ 104 → a ≠ 105 → o.2 a = u a) ∧ o.2 104 1 = nI (l + n) ∧ o.2 105 = tpF (u 105) p l n n) (N := n) (by omega) (fun k hk s hI rec => ?_) (fun s hI rec => ?_) ⟨rfl, fun a _ _ => rfl, hl, (tpF_0 _ _ _ _).symm⟩
  · obtain ⟨s1, s2⟩ := s
    obtain ⟨i1, i2, i3, i4⟩ := hI
    have i1 : s1 = nI (n - k) - 1 := i1
    rw [show n - k = (n - 1 - k) + 1 by omega, nI_pred] at i1
    subst i1
    have i3 : s2 104 1 = nI (l + k) := i3
    have i4 : s2 105 = tpF (u 105) p l n k := i4
    left
    refine ⟨(nI (n - 1 - k) + (-1), mst (mst s2 105 (l + k) (nI (bt p (n - 1 - k)))) 104 1 (nI (l + k + 1))), ⟨?_, fun a h1 h2 => ?_, by dsimp only; rw [mst_s, Nat.add_assoc], ?_⟩, ?_⟩
    · show nI (n - 1 - k) + (-1) = nI (n - (k + 1)) - 1
      rw [show n - (k + 1) = n - 1 - k by omega, sub1]
    · dsimp only
      rw [mst_k h1, mst_k h2]; exact i2 a h1 h2
    · show mst (mst s2 105 (l + k) (nI (bt p (n - 1 - k)))) 104 1 (nI (l + k + 1)) 105 = _
      rw [mst_k (by omega), mst_row, i4, tpF_up]
    · dsimp only [BX9_feed_41]
      rw [if_neg (nI_pos (by omega)), bt_c p _ (by omega)]
      unfold FX6_add
      have cl : (nI (l + k)).toNatClampNeg = l + k := ncl (by omega)
      simp only [i3, cl]
      rw [if_pos (inb_t (by omega) (by omega)), bs, mst_k (show 104 ≠ 105 by omega), i3, nI_1]
  · obtain ⟨s1, s2⟩ := s
    obtain ⟨i1, i2, i3, i4⟩ := hI
    refine ⟨(s1, s2), ⟨i2, i3, i4⟩, ?_⟩
    have i1 : s1 = nI (n - n) - 1 := i1
    rw [Nat.sub_self] at i1
    dsimp only [BX9_feed_41]
    rw [if_pos (by rw [i1]; decide)]
theorem m_feed {l n : Nat} (p : Int32) (hl : m 116 14 = nI l) (hn : n ≤ 4) (h : l + n ≤ 120) : ∃ o, ((∀ a, a ≠ 116 → a ≠ 125 → o.2 a = m a) ∧ o.2 116 3 = m 116 3 ∧ o.2 116 14 = nI (l + n) ∧ o.2 125 = tpF (m 125) p l n n) ∧ lp (BX10_feed_38 p (nI n)) FU (nI n - 1, m) = some o := by
  refine lp_inv (Bf := BX10_feed_38 p (nI n)) (fun k s => s.1 = nI (n - k) - 1 ∧ (∀ a, a ≠ 116 → a ≠ 125 → s.2 a = m a) ∧ s.2 116 3 = m 116 3 ∧ s.2 116 14 = nI (l + k) ∧ s.2 125 = tpF (m 125) p l n k) (fun o => (∀ a, a ≠ 116 → a ≠ 125 → o.2 a = m a) ∧ o.2 116 3 = m 116 3 ∧ o.2 116 14 = nI (l + n) ∧ o.2 125 = tpF (m 125) p l n n) (N := n) (by omega) (fun k hk s hI rec => ?_) (fun s hI rec => ?_) ⟨rfl, fun a _ _ => rfl, rfl, hl, (tpF_0 _ _ _ _).symm⟩
  · obtain ⟨s1, s2⟩ := s
    obtain ⟨i1, i2, i5, i3, i4⟩ := hI
    have i1 : s1 = nI (n - k) - 1 := i1
    rw [show n - k = (n - 1 - k) + 1 by omega, nI_pred] at i1
    subst i1
    have i3 : s2 116 14 = nI (l + k) := i3
    have i4 : s2 125 = tpF (m 125) p l n k := i4
    have i5 : s2 116 3 = m 116 3 := i5
    left
    refine ⟨(nI (n - 1 - k) + (-1), mst (mst s2 125 (l + k) (nI (bt p (n - 1 - k)))) 116 14 (nI (l + k + 1))), ⟨?_, fun a h1 h2 => ?_, ?_, by dsimp only; rw [mst_s, Nat.add_assoc], ?_⟩, ?_⟩
    · show nI (n - 1 - k) + (-1) = nI (n - (k + 1)) - 1
      rw [show n - (k + 1) = n - 1 - k by omega, sub1]
    · dsimp only
      rw [mst_k h1, mst_k h2]; exact i2 a h1 h2
    · show mst (mst s2 125 (l + k) (nI (bt p (n - 1 - k)))) 116 14 (nI (l + k + 1)) 116 3 = _
      rw [mst_j (by omega), mst_k (by omega)]; exact i5
    · show mst (mst s2 125 (l + k) (nI (bt p (n - 1 - k)))) 116 14 (nI (l + k + 1)) 125 = _
      rw [mst_k (by omega), mst_row, i4, tpF_up]
    · dsimp only [BX10_feed_38, nm]
      have cl : (nI (l + k)).toNatClampNeg = l + k := ncl (by omega)
      rw [if_neg (nI_pos (by omega)), bt_m p _ (by omega)]
      simp only [i3, cl]
      rw [if_pos (inb_t (by omega) (by omega)), mst_k (show 116 ≠ 125 by omega), i3, nI_1]
  · obtain ⟨s1, s2⟩ := s
    obtain ⟨i1, i2, i5, i3, i4⟩ := hI
    refine ⟨(s1, s2), ⟨i2, i5, i3, i4⟩, ?_⟩
    have i1 : s1 = nI (n - n) - 1 := i1
    rw [Nat.sub_self] at i1
    dsimp only [BX10_feed_38]
    rw [if_pos (by rw [i1]; decide)]
theorem s_feed (h : Inv u) (p1 p2 : Int32) : Same (FX9_feed p1 p2) (FX10_feed p1 p2) u := by
  obtain ⟨t1, t2⟩ := h.1.2.2.2.1
  obtain ⟨⟨i1, i2⟩, i3⟩ := h.2.2.2.1
  rcases wi_range p2 (lo := 1) (hi := 4) (a := 1) (b := 4) rfl rfl (by omega) (by omega) with g0 | ⟨n, n1, n2, rfl, g1⟩
  · refine same_fin 0 (by omega) w0 h (Qc_refl u) ?_ (fun m hm => ⟨m, Qm_refl m, ?_⟩)
    · unfold FX9_feed; rw [g0, if_pos rfl, bind_eta]
    · unfold FX10_feed; rw [within_eq, g0, if_pos rfl, bind_eta]
  have e120 : (120 : Int32) = nI 120 := rfl
  by_cases z : tn (u 116 14) + n ≤ 120
  · obtain ⟨o, ⟨o1, o2, o3⟩, oe⟩ := c_feed (u := u) (n := n) p1 (t1.trans i1) n2 z
    have e14 : o.2 116 14 = nI (tn (u 116 14)) := by rw [o1 116 (by omega) (by omega)]; exact i1
    obtain ⟨q, ⟨q1, q2, q3, q4⟩, qe⟩ := m_feed (m := o.2) (n := n) p1 e14 n2 z
    have e125 : o.2 125 = u 125 := o1 125 (by omega) (by omega)
    rw [e125] at q4
    refine same_tape (x := nI (tn (u 116 14) + n)) (n := tn (u 116 14) + n) h ?_ ?_ o1 o2 z q1 q2 q3 (fun i hi => ?_) (fun i hi => ?_)
    · unfold FX9_feed
      rw [g1, if_neg (by decide), if_pos (by rw [t1.trans i1, nadd, e120, nle (by omega) (by omega)]; exact z), oe, bs, o2]
    · unfold FX10_feed
      rw [within_eq, g1, if_neg (by decide), if_pos (by rw [e14, nadd, e120, nle (by omega) (by omega)]; exact z), qe, bs, q3]
    · rw [q4]
      unfold tpF
      split
      · exact In_nI (bt_lt _ _) (by omega)
      · exact i3 i hi
    · rw [o3, q4]
      unfold tpF
      by_cases c : tn (u 116 14) ≤ i ∧ i < tn (u 116 14) + n
      · rw [if_pos c, if_pos c]
      · rw [if_neg c, if_neg c]; exact t2 i (by omega)
  · refine same_fin 1 (by omega) w1 h (Qc_refl u) ?_ (fun m hm => ⟨m, Qm_refl m, ?_⟩)
    · unfold FX9_feed; rw [g1, if_neg (by decide), if_neg (by rw [t1.trans i1, nadd, e120, nle (by omega) (by omega)]; exact z), bind_eta]
    · unfold FX10_feed; rw [within_eq, g1, if_neg (by decide), if_neg (by rw [hm 116 (by omega), i1, nadd, e120, nle (by omega) (by omega)]; exact z), bind_eta]
end FEED
