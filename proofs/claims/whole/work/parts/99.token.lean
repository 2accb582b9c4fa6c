/-! texts: tokens of the reference -/
section TOKEN2
variable {u m : Mem} {t : Nat → Nat} {L a0 s a k v : Nat}
def NF (m m' : Mem) : Prop := (∀ x, x ≠ 116 → m' x = m x) ∧ ∀ j, j ≠ 15 → j ≠ 16 → j ≠ 17 → j ≠ 18 → m' 116 j = m 116 j
theorem m_byteAt {i : Nat} (hL : L ≤ 120) (hT : Tp m 125 t L) (h14 : m 116 14 = nI L) (hi : i < 2147483648) : FX10_byteAt (nI i) m = some (if i < L then nI (t i) else -1) := by
  have ci : (nI i).toNatClampNeg = i := ncl hi
  unfold FX10_byteAt
  simp only [h14, ci]
  by_cases c : i < L
  · rw [if_neg (n_ngt c (by omega)), if_pos (inb_t (by omega) (by omega)), if_pos c, (hT i c).1]
  · rw [if_pos (n_ge (by omega) (by omega)), if_neg c]
theorem Tp_k {u u' : Mem} {c : Nat} (h : Tp u c t L) (e : u' c = u c) : Tp u' c t L := by
  unfold Tp
  rw [e]
  exact h
theorem m_nxt (h : Tok t L a0 s a k v) (hL : L ≤ 120) (hT : Tp m 125 t L) (h1 : m 116 14 = nI L) (h4 : m 116 16 = nI a0) : ∃ m', FX10_next m = some m' ∧ TM m' L s a k v ∧ NF m m' := by
  have hh := h
  have hb := tok_b h (fun i hi => (hT i hi).2)
  obtain ⟨⟨b1, b2, b3⟩, q, hv⟩ := h
  have x14 : ∀ (w : Mem) x y, mst (mst w 116 15 x) 116 14 y = mst (mst w 116 15 x) 116 14 y := fun _ _ _ => rfl
  have l8 : lp BX10_next_8 FU (mst m 116 15 (m 116 16)) = some (mst m 116 15 (nI s)) := by
    have h0 : (fun j => mst m 116 15 (nI (a0 + j))) 0 = mst m 116 15 (m 116 16) := by
      show mst m 116 15 (nI (a0 + 0)) = _
      rw [h4, Nat.add_zero]
    rw [← h0]
    refine lp_for BX10_next_8 (fun j => mst m 116 15 (nI (a0 + j))) _ (s - a0) (by omega) (fun j hj rec => ?_) (fun rec => ?_)
    · show BX10_next_8 rec (mst m 116 15 (nI (a0 + j))) = rec (mst m 116 15 (nI (a0 + (j + 1))))
      have e3 : mst m 116 15 (nI (a0 + j)) 116 15 = nI (a0 + j) := mst_s _ _ _ _
      have hby := m_byteAt (m := mst m 116 15 (nI (a0 + j))) (t := t) (i := a0 + j) hL (Tp_k hT (mst_k (by omega) _ _)) (by rw [mst_j (by omega)]; exact h1) (by omega)
      rw [if_pos (show a0 + j < L by omega), b3 (a0 + j) (by omega) (by omega)] at hby
      dsimp only [BX10_next_8]
      simp only [e3, nI_1, mst_mst]
      rw [hby, bs, if_pos (show nI 32 = 32 from rfl), Nat.add_assoc]
    · show BX10_next_8 rec (mst m 116 15 (nI (a0 + (s - a0)))) = _
      rw [show a0 + (s - a0) = s by omega]
      have e3 : mst m 116 15 (nI s) 116 15 = nI s := mst_s _ _ _ _
      have hby := m_byteAt (m := mst m 116 15 (nI s)) (t := t) (i := s) hL (Tp_k hT (mst_k (by omega) _ _)) (by rw [mst_j (by omega)]; exact h1) (by omega)
      dsimp only [BX10_next_8]
      simp only [e3]
      rw [hby, bs]
      rcases q with ⟨q1, q2, q3⟩ | ⟨q1, q2, q3, q4⟩
      · rw [if_neg (show ¬ s < L by omega), if_neg (by decide)]
      · rw [if_pos q1, if_neg (by rw [L32, neq (by have := (hT s q1).2; omega) (by omega)]; exact q2)]
  have e3 : mst m 116 15 (nI s) 116 15 = nI s := mst_s _ _ _ _
  have hby := m_byteAt (m := mst m 116 15 (nI s)) (t := t) (i := s) hL (Tp_k hT (mst_k (by omega) _ _)) (by rw [mst_j (by omega)]; exact h1) (by omega)
  unfold FX10_next
  rw [l8, bs]
  simp only [e3, nm]
  rw [hby, bs]
  rcases q with ⟨q1, q2, q3⟩ | ⟨q1, q2, q3, q4⟩
  · rw [if_neg (show ¬ s < L by omega), if_neg (by decide)]
    refine ⟨_, rfl, ⟨?_, ?_, ?_, ?_, fun z => by omega⟩, fun x hx => ?_, fun j j1 j2 j3 j4 => ?_⟩
    · rw [mst_j (by omega), mst_j (by omega), mst_j (by omega), mst_j (by omega)]; exact h1
    · rw [mst_j (by omega), mst_j (by omega), mst_j (by omega), mst_s]
    · rw [mst_j (by omega), mst_j (by omega), mst_s, q3]
    · rw [mst_s, q2]; rfl
    · rw [mst_k hx, mst_k hx, mst_k hx, mst_k hx]
    · rw [mst_j (by omega), mst_j (by omega), mst_j (by omega), mst_j (by omega)]
  · obtain ⟨hts, ht6⟩ := hT s q1
    have hs := so_m (t s) ht6
    have base : ∀ y, (∀ x, x ≠ 116 → mst (mst (mst (mst m 116 15 (nI s)) 116 16 (nI s)) 116 18 0) 116 17 y x = m x) ∧ (∀ j, j ≠ 15 → j ≠ 16 → j ≠ 17 → j ≠ 18 → mst (mst (mst (mst m 116 15 (nI s)) 116 16 (nI s)) 116 18 0) 116 17 y 116 j = m 116 j) ∧ mst (mst (mst (mst m 116 15 (nI s)) 116 16 (nI s)) 116 18 0) 116 17 y 116 15 = nI s ∧ mst (mst (mst (mst m 116 15 (nI s)) 116 16 (nI s)) 116 18 0) 116 17 y 116 16 = nI s ∧ mst (mst (mst (mst m 116 15 (nI s)) 116 16 (nI s)) 116 18 0) 116 17 y 116 18 = 0 ∧ mst (mst (mst (mst m 116 15 (nI s)) 116 16 (nI s)) 116 18 0) 116 17 y 116 17 = y := fun y => by
      refine ⟨fun x hx => ?_, fun j j1 j2 j3 j4 => ?_, ?_, ?_, ?_, mst_s _ _ _ _⟩
      · rw [mst_k hx, mst_k hx, mst_k hx, mst_k hx]
      · rw [mst_j (by omega), mst_j (by omega), mst_j (by omega), mst_j (by omega)]
      · rw [mst_j (by omega), mst_j (by omega), mst_j (by omega), mst_s]
      · rw [mst_j (by omega), mst_j (by omega), mst_s]
      · rw [mst_j (by omega), mst_s]
    rw [if_pos q1, if_pos (nI_pos' (by omega)), hs.1, hs.2.1]
    rcases q4 with ⟨w1, w2⟩ | ⟨w1, w2, w3, w4, w5⟩
    · rw [if_neg (show ¬ so (t s) = 1 by omega), if_pos rfl, if_neg (show ¬ so (t s) = 2 by omega), if_pos rfl]
      obtain ⟨c1, c2, c3, c4, c5, c6⟩ := base 3
      refine ⟨_, rfl, ⟨?_, ?_, ?_, ?_, fun z => by omega⟩, fun x hx => ?_, fun j j1 j2 j3 j4 => ?_⟩
      · rw [mst_j (by omega), c2 14 (by omega) (by omega) (by omega) (by omega)]; exact h1
      · rw [mst_j (by omega)]; exact c3
      · rw [mst_s, c4, nI_1, w2]
      · rw [mst_j (by omega), c6, show min k 3 = 3 by omega]; rfl
      · rw [mst_k hx]; exact c1 x hx
      · rw [mst_j (by omega)]; exact c2 j j1 j2 j3 j4
    · by_cases k1 : k = 1
      · rw [if_pos (show so (t s) = 1 by omega), if_neg (by decide)]
        obtain ⟨c1, c2, c3, c4, c5, c6⟩ := base 1
        generalize mst (mst (mst (mst m 116 15 (nI s)) 116 16 (nI s)) 116 18 0) 116 17 1 = w at *
        have lw : lp (BX10_next_84 (nI (t s))) FU w = some (mst w 116 16 (nI a)) := by
          have h0 : (fun j => mst w 116 16 (nI (s + j))) 0 = w := by
            show mst w 116 16 (nI (s + 0)) = w
            rw [Nat.add_zero, ← c4, mst_self]
          rw [show lp (BX10_next_84 (nI (t s))) FU w = lp (BX10_next_84 (nI (t s))) FU ((fun j => mst w 116 16 (nI (s + j))) 0) by rw [h0]]
          refine lp_for (BX10_next_84 (nI (t s))) (fun j => mst w 116 16 (nI (s + j))) _ (a - s) (by omega) (fun j hj rec => ?_) (fun rec => ?_)
          · show BX10_next_84 (nI (t s)) rec (mst w 116 16 (nI (s + j))) = rec (mst w 116 16 (nI (s + (j + 1))))
            have e6 : mst w 116 16 (nI (s + j)) 116 16 = nI (s + j) := mst_s _ _ _ _
            have hby := m_byteAt (m := mst w 116 16 (nI (s + j))) (t := t) (i := s + j) hL (Tp_k hT (by rw [mst_k (by omega)]; exact c1 125 (by omega))) (by rw [mst_j (by omega), c2 14 (by omega) (by omega) (by omega) (by omega)]; exact h1) (by omega)
            rw [if_pos (show s + j < L by omega)] at hby
            have hsm := so_m _ (hT (s + j) (by omega)).2
            dsimp only [BX10_next_84]
            simp only [e6, nI_1, mst_mst]
            rw [hby, bs, hsm.1, if_pos (show so (t (s + j)) = 1 by rw [w4 (s + j) (by omega) (by omega)]; exact k1), if_neg (by decide), Nat.add_assoc]
          · show BX10_next_84 (nI (t s)) rec (mst w 116 16 (nI (s + (a - s)))) = _
            rw [show s + (a - s) = a by omega]
            have e6 : mst w 116 16 (nI a) 116 16 = nI a := mst_s _ _ _ _
            have hby := m_byteAt (m := mst w 116 16 (nI a)) (t := t) (i := a) hL (Tp_k hT (by rw [mst_k (by omega)]; exact c1 125 (by omega))) (by rw [mst_j (by omega), c2 14 (by omega) (by omega) (by omega) (by omega)]; exact h1) (by omega)
            dsimp only [BX10_next_84]
            simp only [e6]
            rw [hby, bs]
            by_cases z : a < L
            · have hsm := so_m _ (hT a z).2
              rw [if_pos z, hsm.1, if_neg (show ¬ so (t a) = 1 from fun y => by
                rcases w5 with w | w
                · omega
                · exact w (y.trans k1.symm)), if_pos rfl]
            · rw [if_neg z, if_pos (by decide)]
        rw [lw, bs]
        refine ⟨_, rfl, ⟨?_, ?_, mst_s _ _ _ _, ?_, fun z => by omega⟩, fun x hx => ?_, fun j j1 j2 j3 j4 => ?_⟩
        · rw [mst_j (by omega), c2 14 (by omega) (by omega) (by omega) (by omega)]; exact h1
        · rw [mst_j (by omega)]; exact c3
        · rw [mst_j (by omega), c6, show min k 3 = 1 by omega]; rfl
        · rw [mst_k hx]; exact c1 x hx
        · rw [mst_j (by omega)]; exact c2 j j1 j2 j3 j4
      · have k2 : k = 2 := by omega
        rw [if_neg (show ¬ so (t s) = 1 by omega), if_pos rfl, if_pos (show so (t s) = 2 by omega), if_neg (by decide)]
        obtain ⟨c1, c2, c3, c4, c5, c6⟩ := base 2
        generalize mst (mst (mst (mst m 116 15 (nI s)) 116 16 (nI s)) 116 18 0) 116 17 2 = w at *
        obtain ⟨o, ⟨o1, o2, o3, o4⟩, e⟩ := lp_inv (Bf := BX10_next_131 (nI (t s))) (s0 := w) (fun j w' => (∀ x, x ≠ 116 → w' x = m x) ∧ (∀ i, i ≠ 16 → i ≠ 18 → w' 116 i = w 116 i) ∧ w' 116 16 = nI (s + j) ∧ w' 116 18 = nI (nvF t s j)) (fun w' => (∀ x, x ≠ 116 → w' x = m x) ∧ (∀ i, i ≠ 16 → i ≠ 18 → w' 116 i = w 116 i) ∧ w' 116 16 = nI a ∧ w' 116 18 = nI v) (N := a - s) (by omega) (fun j hj w' hI rec => by
            obtain ⟨i1, i2, i3, i4⟩ := hI
            have hlt : s + j < L := by omega
            have hb6 := (hT _ hlt).2
            have hsm := so_m _ hb6
            have hso := w4 (s + j) (by omega) (by omega)
            have h48 := hsm.2.2.1 (by omega)
            have hnv := nvF_le t s j
            have hby := m_byteAt (m := w') (t := t) (i := s + j) hL (Tp_k hT (i1 125 (by omega))) (by rw [i2 14 (by omega) (by omega), c2 14 (by omega) (by omega) (by omega) (by omega)]; exact h1) (by omega)
            rw [if_pos hlt] at hby
            have hval : jmin 10000 (((10 * nI (nvF t s j)) + nI (t (s + j))) - 48) = nI (nvF t s (j + 1)) := by
              rw [L10, nmul, nadd, show (48 : Int32) = nI 48 from rfl, nsub (by omega), show (10000 : Int32) = nI 10000 from rfl, nmin (by omega) (by omega), Nat.min_comm, Nat.mul_comm]
              rfl
            have n6 : ∀ y, mst w' 116 18 y 116 16 = nI (s + j) := fun y => by rw [mst_j (by omega)]; exact i3
            left
            refine ⟨mst (mst w' 116 18 (nI (nvF t s (j + 1)))) 116 16 (nI (s + j + 1)), ⟨fun x hx => by rw [mst_k hx, mst_k hx]; exact i1 x hx, fun i j1 j2 => by rw [mst_j j1, mst_j j2]; exact i2 i j1 j2, by rw [mst_s, Nat.add_assoc], by rw [mst_j (by omega), mst_s]⟩, ?_⟩
            dsimp only [BX10_next_131, nm]
            simp only [i3, i4, n6, nI_1]
            rw [hby, bs, hsm.2.1, if_pos (show so (t (s + j)) = 2 by rw [hso]; exact k2), if_neg (by decide), bs, hval])
          (fun w' hI rec => by
            obtain ⟨i1, i2, i3, i4⟩ := hI
            rw [show s + (a - s) = a by omega] at i3
            rw [← hv] at i4
            refine ⟨w', ⟨i1, i2, i3, i4⟩, ?_⟩
            have hby := m_byteAt (m := w') (t := t) (i := a) hL (Tp_k hT (i1 125 (by omega))) (by rw [i2 14 (by omega) (by omega), c2 14 (by omega) (by omega) (by omega) (by omega)]; exact h1) (by omega)
            dsimp only [BX10_next_131]
            simp only [i3]
            rw [hby, bs]
            by_cases z : a < L
            · have hsm := so_m _ (hT a z).2
              rw [if_pos z, hsm.2.1, if_neg (show ¬ so (t a) = 2 from fun y => by
                rcases w5 with w | w
                · omega
                · exact w (y.trans k2.symm)), if_pos rfl]
            · rw [if_neg z, if_pos (by decide)])
          ⟨c1, fun _ _ _ => rfl, by rw [c4, Nat.add_zero], by rw [c5]; rfl⟩
        rw [e, bs]
        refine ⟨_, rfl, ⟨?_, ?_, o3, ?_, fun _ => o4⟩, o1, fun j j1 j2 j3 j4 => ?_⟩
        · rw [o2 14 (by omega) (by omega), c2 14 (by omega) (by omega) (by omega) (by omega)]; exact h1
        · rw [o2 15 (by omega) (by omega)]; exact c3
        · rw [o2 17 (by omega) (by omega), c6, show min k 3 = 2 by omega]; rfl
        · rw [o2 j j2 j4]; exact c2 j j1 j2 j3 j4
end TOKEN2
