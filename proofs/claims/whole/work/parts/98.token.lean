/-! texts: tokens -/
def so (b : Nat) : Nat := if 97 ≤ b ∧ b ≤ 122 then 1 else if 48 ≤ b ∧ b ≤ 57 then 2 else if b = 59 then 3 else 4
theorem so_c : ∀ b, b < 256 → FX6_sortOf (nI b) = nI (so b) := by decide +kernel
theorem so_m : ∀ b, b < 256 → FX10_within (nI b) 97 122 = (if so b = 1 then 1 else 0) ∧ FX10_within (nI b) 48 57 = (if so b = 2 then 1 else 0) ∧ (so b = 1 ∨ so b = 2 → 48 ≤ b) ∧ 1 ≤ so b ∧ so b ≤ 4 ∧ (so b = 3 ↔ b = 59) := by decide +kernel
def nvF (t : Nat → Nat) (s : Nat) : Nat → Nat
  | 0 => 0
  | j + 1 => min (nvF t s j * 10 + t (s + j) - 48) 10000
theorem nvF_le (t : Nat → Nat) (s : Nat) : ∀ j, nvF t s j ≤ 10000
  | 0 => Nat.zero_le _
  | _ + 1 => Nat.min_le_right _ _
def Tok (t : Nat → Nat) (L a0 s a k v : Nat) : Prop :=
  (a0 ≤ s ∧ s ≤ L ∧ ∀ i, a0 ≤ i → i < s → t i = 32) ∧
  ((s = L ∧ k = 0 ∧ a = s) ∨ (s < L ∧ t s ≠ 32 ∧ k = so (t s) ∧ ((3 ≤ k ∧ a = s + 1) ∨ (k ≤ 2 ∧ s < a ∧ a ≤ L ∧ (∀ i, s ≤ i → i < a → so (t i) = k) ∧ (a = L ∨ so (t a) ≠ k))))) ∧ v = nvF t s (a - s)
theorem tok_ex (t : Nat → Nat) {L a0 : Nat} (h : a0 ≤ L) : ∃ s a k v, Tok t L a0 s a k v := by
  obtain ⟨N, N1, N2, N3⟩ := first_not (fun j => t (a0 + j) = 32) (L - a0)
  have hb : ∀ i, a0 ≤ i → i < a0 + N → t i = 32 := fun i h1 h2 => by
    have := N2 (i - a0) (by omega)
    rw [show a0 + (i - a0) = i by omega] at this
    exact this
  rcases N3 with y | ⟨y1, y2⟩
  · exact ⟨a0 + N, a0 + N, 0, _, ⟨by omega, by omega, hb⟩, Or.inl ⟨by omega, rfl, rfl⟩, rfl⟩
  · by_cases z : 3 ≤ so (t (a0 + N))
    · exact ⟨a0 + N, a0 + N + 1, so (t (a0 + N)), _, ⟨by omega, by omega, hb⟩, Or.inr ⟨by omega, y2, rfl, Or.inl ⟨z, rfl⟩⟩, rfl⟩
    · obtain ⟨M, M1, M2, M3⟩ := first_not (fun j => so (t (a0 + N + j)) = so (t (a0 + N))) (L - (a0 + N))
      have hM : 0 < M := by
        by_cases q : M = 0
        · subst q
          rcases M3 with w | ⟨w1, w2⟩
          · omega
          · exact absurd rfl w2
        · omega
      refine ⟨a0 + N, a0 + N + M, so (t (a0 + N)), _, ⟨by omega, by omega, hb⟩, Or.inr ⟨by omega, y2, rfl, Or.inr ⟨by omega, by omega, by omega, fun i h1 h2 => ?_, ?_⟩⟩, rfl⟩
      · have := M2 (i - (a0 + N)) (by omega)
        rw [show a0 + N + (i - (a0 + N)) = i by omega] at this
        exact this
      · rcases M3 with w | ⟨w1, w2⟩
        · left; omega
        · exact Or.inr w2
theorem tok_b {t : Nat → Nat} {L a0 s a k v : Nat} (h : Tok t L a0 s a k v) (ht : ∀ i, i < L → t i < 256) : a0 ≤ s ∧ s ≤ a ∧ a ≤ L ∧ k ≤ 4 ∧ v ≤ 10000 ∧ (k ≠ 0 → s < a) ∧ (k = 3 ∨ k = 4 → a = s + 1) ∧ (k ≠ 0 → s < L ∧ k = so (t s)) := by
  obtain ⟨⟨h1, h2, h3⟩, h4, h5⟩ := h
  have hv : v ≤ 10000 := by rw [h5]; exact nvF_le _ _ _
  rcases h4 with ⟨q1, q2, q3⟩ | ⟨q1, q2, q3, q4⟩
  · exact ⟨h1, by omega, by omega, by omega, hv, fun z => by omega, fun z => by omega, fun z => absurd q2 z⟩
  · have hs := so_m (t s) (ht s q1)
    rcases q4 with ⟨w1, w2⟩ | ⟨w1, w2, w3, w4⟩
    · exact ⟨h1, by omega, by omega, by omega, hv, fun z => by omega, fun z => w2, fun z => ⟨q1, q3⟩⟩
    · exact ⟨h1, by omega, by omega, by omega, hv, fun z => by omega, fun z => by omega, fun z => ⟨q1, q3⟩⟩
theorem mst_mst (u : Mem) (k j : Nat) (x y : Int32) : mst (mst u k j x) k j y = mst u k j y := by
  funext a
  unfold mst
  by_cases h : a = k
  · rw [if_pos h, if_pos h, if_pos rfl, upd_upd]
  · rw [if_neg h, if_neg h, if_neg h]
def Tp (u : Mem) (c : Nat) (t : Nat → Nat) (L : Nat) : Prop := ∀ i, i < L → u c i = nI (t i) ∧ t i < 256
def TC (u : Mem) (L s a k v : Nat) : Prop := u 104 1 = nI L ∧ u 104 3 = nI s ∧ u 104 4 = nI a ∧ u 104 2 = nI k ∧ (k = 2 → u 104 5 = nI v)
def TM (m : Mem) (L s a k v : Nat) : Prop := m 116 14 = nI L ∧ m 116 15 = nI s ∧ m 116 16 = nI a ∧ m 116 17 = nI (min k 3) ∧ (k = 2 → m 116 18 = nI v)
theorem L32 : (32 : Int32) = nI 32 := rfl
section TOKEN
variable {u m : Mem} {t : Nat → Nat} {L a0 s a k v : Nat}
theorem c_goOn90 (h : Tok t L a0 s a k v) (hL : L ≤ 120) (hT : Tp u 105 t L) (h1 : u 104 1 = nI L) (h3 : u 104 3 = nI s) (h4 : u 104 4 = nI s) (h5 : u 104 5 = 0) (h2 : u 104 2 = nI k) : ∃ o, (TC o.2 L s a k v ∧ ∀ x, x ≠ 104 → o.2 x = u x) ∧ lp BX6_goOn_90 FU u = some o := by
  have hb := tok_b h (fun i hi => (hT i hi).2)
  obtain ⟨⟨b1, b2, b3⟩, q, hv⟩ := h
  rcases q with ⟨q1, q2, q3⟩ | ⟨q1, q2, q3, q4⟩
  · refine lp_inv (Bf := BX6_goOn_90) (fun j w => w = u) (fun o => TC o.2 L s a k v ∧ ∀ x, x ≠ 104 → o.2 x = u x) (N := 0) (by omega) (fun j hj => absurd hj (Nat.not_lt_zero _)) (fun w hw rec => ?_) rfl
    subst hw
    refine ⟨(1, w), ⟨⟨h1, h3, by dsimp only; rw [h4, q3], h2, fun z => by omega⟩, fun _ _ => rfl⟩, ?_⟩
    dsimp only [BX6_goOn_90]
    rw [if_pos (by rw [h1, h4, q1]; exact n_ge (Nat.le_refl _) (by omega))]
  · have hs := so_m (t s) (hT s q1).2
    rcases q4 with ⟨w1, w2⟩ | ⟨w1, w2, w3, w4, w5⟩
    · refine lp_inv (Bf := BX6_goOn_90) (fun j w => w = u) (fun o => TC o.2 L s a k v ∧ ∀ x, x ≠ 104 → o.2 x = u x) (N := 0) (by omega) (fun j hj => absurd hj (Nat.not_lt_zero _)) (fun w hw rec => ?_) rfl
      subst hw
      have cs : (nI s).toNatClampNeg = s := ncl (by omega)
      have hbt := (hT s q1).1
      have n1 : ∀ y, mst w 104 5 y 104 4 = nI s := fun y => by rw [mst_j (by omega)]; exact h4
      have n2 : ∀ y z, mst (mst w 104 5 y) 104 4 z 104 2 = nI k := fun y z => by rw [mst_j (by omega), mst_j (by omega)]; exact h2
      refine ⟨(0, mst (mst w 104 5 (jmin ((((w 104 5) * 10) + (w 105 s)) - 48) 10000)) 104 4 (nI (s + 1))), ⟨⟨?_, ?_, ?_, ?_, fun z => by omega⟩, fun x hx => ?_⟩, ?_⟩
      · dsimp only
        rw [mst_j (by omega), mst_j (by omega)]; exact h1
      · dsimp only
        rw [mst_j (by omega), mst_j (by omega)]; exact h3
      · dsimp only
        rw [mst_s, w2]
      · exact n2 (jmin ((((w 104 5) * 10) + (w 105 s)) - 48) 10000) (nI (s + 1))
      · dsimp only
        rw [mst_k hx, mst_k hx]
      · dsimp only [BX6_goOn_90, nm]
        simp only [h1, h4, h2, cs, n1, n2, nI_1]
        rw [if_neg (n_ngt q1 (by omega)), if_pos (inb_t (by omega) (by omega)), if_pos (by rw [hbt, so_c _ (hT s q1).2, q3]), if_pos (inb_t (by omega) (by omega))]
        by_cases z : k = 3
        · rw [if_pos (by rw [z]; rfl)]
        · rw [if_neg (by rw [show (3 : Int32) = nI 3 from rfl, neq (by omega) (by omega)]; exact z), if_pos (by rw [show k = 4 by omega]; rfl)]
    · obtain ⟨o, ⟨o1, o2, o3, o4, o5, o6⟩, e⟩ := lp_inv (Bf := BX6_goOn_90) (s0 := u) (fun j w => (∀ x, x ≠ 104 → w x = u x) ∧ w 104 1 = nI L ∧ w 104 3 = nI s ∧ w 104 4 = nI (s + j) ∧ w 104 2 = nI k ∧ w 104 5 = nI (nvF t s j)) (fun o => (∀ x, x ≠ 104 → o.2 x = u x) ∧ o.2 104 1 = nI L ∧ o.2 104 3 = nI s ∧ o.2 104 4 = nI a ∧ o.2 104 2 = nI k ∧ o.2 104 5 = nI v) (N := a - s) (by omega) (fun j hj w hI rec => by
          obtain ⟨i1, i2, i3, i4, i5, i6⟩ := hI
          have cs : (nI (s + j)).toNatClampNeg = s + j := ncl (by omega)
          have hlt : s + j < L := by omega
          have hbt : w 105 (s + j) = nI (t (s + j)) := by rw [i1 105 (by omega)]; exact (hT _ hlt).1
          have hb6 := (hT _ hlt).2
          have hso := w4 (s + j) (by omega) (by omega)
          have hsm := so_m _ hb6
          have hnv := nvF_le t s j
          have h48 := hsm.2.2.1 (by omega)
          have n1 : ∀ y, mst w 104 5 y 104 4 = nI (s + j) := fun y => by rw [mst_j (by omega)]; exact i4
          have n2 : ∀ y z, mst (mst w 104 5 y) 104 4 z 104 2 = nI k := fun y z => by rw [mst_j (by omega), mst_j (by omega)]; exact i5
          have hval : jmin (((nI (nvF t s j) * 10) + nI (t (s + j))) - 48) 10000 = nI (nvF t s (j + 1)) := by
            rw [L10, nmul, nadd, show (48 : Int32) = nI 48 from rfl, nsub (by omega), show (10000 : Int32) = nI 10000 from rfl, nmin (by omega) (by omega)]
            rfl
          left
          refine ⟨mst (mst w 104 5 (nI (nvF t s (j + 1)))) 104 4 (nI (s + j + 1)), ⟨fun x hx => by rw [mst_k hx, mst_k hx]; exact i1 x hx, by rw [mst_j (by omega), mst_j (by omega)]; exact i2, by rw [mst_j (by omega), mst_j (by omega)]; exact i3, by rw [mst_s, Nat.add_assoc], n2 _ _, by rw [mst_j (by omega), mst_s]⟩, ?_⟩
          dsimp only [BX6_goOn_90, nm]
          simp only [i2, i4, i5, i6, cs, n1, n2, nI_1, hbt, hval]
          rw [if_neg (n_ngt hlt (by omega)), if_pos (inb_t (by omega) (by omega)), if_pos (by rw [so_c _ hb6, hso]), if_pos (inb_t (by omega) (by omega)), if_neg (by rw [show (3 : Int32) = nI 3 from rfl, neq (by omega) (by omega)]; omega), if_neg (by rw [show (4 : Int32) = nI 4 from rfl, neq (by omega) (by omega)]; omega)])
        (fun w hI rec => by
          obtain ⟨i1, i2, i3, i4, i5, i6⟩ := hI
          rw [show s + (a - s) = a by omega] at i4
          rw [← hv] at i6
          refine ⟨(1, w), ⟨i1, i2, i3, i4, i5, i6⟩, ?_⟩
          dsimp only [BX6_goOn_90]
          have ca : (nI a).toNatClampNeg = a := ncl (by omega)
          by_cases z : a = L
          · rw [if_pos (by rw [i2, i4]; exact n_ge (by omega) (by omega))]
          · have hlt : a < L := by omega
            have hbt : w 105 a = nI (t a) := by rw [i1 105 (by omega)]; exact (hT _ hlt).1
            have hb6 := (hT _ hlt).2
            have hsm := so_m _ hb6
            simp only [i2, i4, ca, hbt, i5]
            rw [if_neg (n_ngt hlt (by omega)), if_pos (inb_t (by omega) (by omega)), if_neg (by
              rw [so_c _ hb6, neq (by omega) (by omega)]
              rcases w5 with w | w
              · exact absurd w z
              · exact w)])
        ⟨fun _ _ => rfl, h1, h3, by rw [h4, Nat.add_zero], h2, by rw [h5]; rfl⟩
      exact ⟨o, ⟨⟨o2, o3, o4, o5, fun _ => o6⟩, o1⟩, e⟩
theorem c_nxt (h : Tok t L a0 s a k v) (hL : L ≤ 120) (hT : Tp u 105 t L) (h1 : u 104 1 = nI L) (h4 : u 104 4 = nI a0) : ∃ u', FX6_goOn u = some u' ∧ TC u' L s a k v ∧ ∀ x, x ≠ 104 → u' x = u x := by
  have hh := h
  have hb := tok_b h (fun i hi => (hT i hi).2)
  obtain ⟨⟨b1, b2, b3⟩, q, hv⟩ := h
  have l8 : lp BX6_goOn_8 FU (mst u 104 3 (u 104 4)) = some (mst u 104 3 (nI s)) := by
    have h0 : (fun j => mst u 104 3 (nI (a0 + j))) 0 = mst u 104 3 (u 104 4) := by
      show mst u 104 3 (nI (a0 + 0)) = _
      rw [h4, Nat.add_zero]
    rw [← h0]
    refine lp_for BX6_goOn_8 (fun j => mst u 104 3 (nI (a0 + j))) _ (s - a0) (by omega) (fun j hj rec => ?_) (fun rec => ?_)
    · show BX6_goOn_8 rec (mst u 104 3 (nI (a0 + j))) = rec (mst u 104 3 (nI (a0 + (j + 1))))
      have hbt := (hT (a0 + j) (by omega)).1
      rw [b3 (a0 + j) (by omega) (by omega)] at hbt
      have e1 : mst u 104 3 (nI (a0 + j)) 104 1 = nI L := by rw [mst_j (by omega)]; exact h1
      have e3 : mst u 104 3 (nI (a0 + j)) 104 3 = nI (a0 + j) := mst_s _ _ _ _
      have e5 : mst u 104 3 (nI (a0 + j)) 105 (a0 + j) = 32 := by rw [mst_k (by omega)]; exact hbt
      have ca : (nI (a0 + j)).toNatClampNeg = a0 + j := ncl (by omega)
      dsimp only [BX6_goOn_8]
      simp only [e1, e3, ca, e5, nI_1, mst_mst]
      rw [if_neg (n_ngt (show a0 + j < L by omega) (by omega)), if_pos (inb_t (by omega) (by omega)), if_pos trivial, Nat.add_assoc]
    · show BX6_goOn_8 rec (mst u 104 3 (nI (a0 + (s - a0)))) = _
      rw [show a0 + (s - a0) = s by omega]
      have e1 : mst u 104 3 (nI s) 104 1 = nI L := by rw [mst_j (by omega)]; exact h1
      have e3 : mst u 104 3 (nI s) 104 3 = nI s := mst_s _ _ _ _
      have ca : (nI s).toNatClampNeg = s := ncl (by omega)
      dsimp only [BX6_goOn_8]
      rcases q with ⟨q1, q2, q3⟩ | ⟨q1, q2, q3, q4⟩
      · rw [if_pos (by rw [e1, e3]; exact n_ge (by omega) (by omega))]
      · have hbt := hT s q1
        have e5 : mst u 104 3 (nI s) 105 s = nI (t s) := by rw [mst_k (by omega)]; exact hbt.1
        simp only [e1, e3, ca, e5]
        rw [if_neg (n_ngt q1 (by omega)), if_pos (inb_t (by omega) (by omega)), if_neg (by rw [L32, neq (by have := hbt.2; omega) (by omega)]; exact q2)]
  have e3 : mst u 104 3 (nI s) 104 3 = nI s := mst_s _ _ _ _
  have f1 : ∀ y, mst (mst (mst (mst u 104 3 (nI s)) 104 4 (nI s)) 104 5 0) 104 2 y 104 1 = nI L := fun y => by rw [mst_j (by omega), mst_j (by omega), mst_j (by omega), mst_j (by omega)]; exact h1
  have f3 : ∀ y, mst (mst (mst (mst u 104 3 (nI s)) 104 4 (nI s)) 104 5 0) 104 2 y 104 3 = nI s := fun y => by rw [mst_j (by omega), mst_j (by omega), mst_j (by omega), mst_s]
  have f4 : ∀ y, mst (mst (mst (mst u 104 3 (nI s)) 104 4 (nI s)) 104 5 0) 104 2 y 104 4 = nI s := fun y => by rw [mst_j (by omega), mst_j (by omega), mst_s]
  have f5 : ∀ y, mst (mst (mst (mst u 104 3 (nI s)) 104 4 (nI s)) 104 5 0) 104 2 y 104 5 = 0 := fun y => by rw [mst_j (by omega), mst_s]
  have g1 : mst (mst (mst u 104 3 (nI s)) 104 4 (nI s)) 104 5 0 104 1 = nI L := by rw [mst_j (by omega), mst_j (by omega), mst_j (by omega)]; exact h1
  have g3 : mst (mst (mst u 104 3 (nI s)) 104 4 (nI s)) 104 5 0 104 3 = nI s := by rw [mst_j (by omega), mst_j (by omega), mst_s]
  have fx : ∀ y x, x ≠ 104 → mst (mst (mst (mst u 104 3 (nI s)) 104 4 (nI s)) 104 5 0) 104 2 y x = u x := fun y x hx => by rw [mst_k hx, mst_k hx, mst_k hx, mst_k hx]
  have gx : mst (mst (mst u 104 3 (nI s)) 104 4 (nI s)) 104 5 0 105 = u 105 := by rw [mst_k (by omega), mst_k (by omega), mst_k (by omega)]
  obtain ⟨o, ⟨o1, o2⟩, e⟩ := c_goOn90 (u := mst (mst (mst (mst u 104 3 (nI s)) 104 4 (nI s)) 104 5 0) 104 2 (nI k)) hh hL (fun i hi => by rw [fx _ 105 (by omega)]; exact hT i hi) (f1 _) (f3 _) (f4 _) (f5 _) (mst_s _ _ _ _)
  refine ⟨o.2, ?_, o1, fun x hx => by rw [o2 x hx, fx _ x hx]⟩
  unfold FX6_goOn JX6_goOn_46 JX6_goOn_87
  rw [l8, bs]
  have ca : (nI s).toNatClampNeg = s := ncl (by omega)
  simp only [e3, g1, g3, ca, gx]
  rcases q with ⟨q1, q2, q3⟩ | ⟨q1, q2, q3, q4⟩
  · rw [if_pos (n_ge (by omega) (by omega))]
    rw [q2] at e
    rw [show (0 : Int32) = nI 0 from rfl] at e ⊢
    rw [e, bs]
    split <;> rfl
  · rw [if_neg (n_ngt q1 (by omega)), if_pos (inb_t (by omega) (by omega)), (hT s q1).1, so_c _ (hT s q1).2, ← q3, e, bs]
    split <;> rfl
end TOKEN
