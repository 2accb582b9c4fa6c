/-! texts: what both readers do at a token -/
section PRIM
variable {u m : Mem} {t : Nat → Nat} {L s a k v : Nat}
def ln (w : Nat) : Nat := (strL.getD w []).length
theorem ln_8 : ∀ w, w < 16 → ln w ≤ 8 := by decide +kernel
def isWP (t : Nat → Nat) (s a k w : Nat) : Prop := k = 1 ∧ a - s = ln w ∧ ∀ i, i < ln w → nI (t (s + i)) = sch w (nI i)
def TBd (t : Nat → Nat) (L s a k v : Nat) : Prop := s ≤ a ∧ a ≤ L ∧ L ≤ 120 ∧ v ≤ 10000 ∧ k ≤ 4 ∧ (k ≠ 0 → s < a ∧ k = so (t s))
theorem slen_ln (w : Nat) : slen w = nI (ln w) := rfl
theorem c_isWord (h : TC u L s a k v) (hT : Tp u 105 t L) (hb : TBd t L s a k v) {w : Nat} (hw : w < 16) : (isWP t s a k w ∧ FX6_isWord w u = some 1) ∨ (¬ isWP t s a k w ∧ FX6_isWord w u = some 0) := by
  obtain ⟨h1, h3, h4, h2, -⟩ := h
  obtain ⟨b1, b2, b3, b4, b5, b6⟩ := hb
  have hl := ln_8 w hw
  unfold FX6_isWord
  simp only [h2, h3, h4, slen_ln, nsub b1]
  by_cases k1 : k = 1
  · rw [if_pos (by rw [k1]; rfl)]
    by_cases e1 : a - s = ln w
    · rw [if_pos (by rw [e1])]
      rcases find_loop (Bf := BX6_isWord_28 w u) (fun i => !decide (nI (t (s + i)) = sch w (nI i))) (n := ln w) (fo := fun i => (0, nI i)) (fe := (1, nI (ln w))) (by omega) (fun i hi rec => by
          have ci : (nI (s + i)).toNatClampNeg = s + i := ncl (by omega)
          have hbt := (hT (s + i) (by omega)).1
          dsimp only [BX6_isWord_28]
          simp only [h3, slen_ln, nadd, ci, hbt]
          rw [if_neg (n_ngt hi (by omega)), if_pos (inb_t (by omega) (by omega)), if_pos (show inb (nI i) (strL.getD w []).length from inb_t hi (by omega))]
          by_cases y : nI (t (s + i)) = sch w (nI i)
          · rw [if_pos y, if_neg (by simp [y])]
          · rw [if_neg y, if_pos (by simp [y])])
        (fun rec => by
          dsimp only [BX6_isWord_28]
          rw [slen_ln, if_pos (n_ge (Nat.le_refl _) (by omega))]) with ⟨i, i1, i2, i3, i4⟩ | ⟨i1, i2⟩
      · right
        refine ⟨fun q => ?_, by rw [i4, bs, if_pos rfl]⟩
        rw [q.2.2 i i1] at i2
        simp at i2
      · left
        refine ⟨⟨k1, e1, fun i hi => ?_⟩, by rw [i2, bs]; rfl⟩
        have := i1 i hi
        simpa using this
    · rw [if_neg (by rw [neq (by omega) (by omega)]; exact e1)]
      exact Or.inr ⟨fun q => e1 q.2.1, rfl⟩
  · rw [if_neg (by rw [L1, neq (by omega) (by omega)]; exact k1)]
    exact Or.inr ⟨fun q => k1 q.1, rfl⟩
theorem m_isW0 (w : Nat) (m : Mem) : JX10_isWord_28 w m = some 0 := by
  unfold JX10_isWord_28 JX10_isWord_29
  have : lp (BX10_isWord_32 w m) FU (0, 0) = some (0, 0) := by
    show BX10_isWord_32 w m (lp (BX10_isWord_32 w m) 4095) (0, 0) = _
    dsimp only [BX10_isWord_32]
    by_cases y : slen w ≤ 0
    · rw [if_pos y]
    · rw [if_neg y, if_pos rfl]
  rw [this, bs]
  rfl
theorem m_isWord (h : TM m L s a k v) (hT : Tp m 125 t L) (hb : TBd t L s a k v) {w : Nat} (hw : w < 16) : (isWP t s a k w ∧ FX10_isWord w m = some 1) ∨ (¬ isWP t s a k w ∧ FX10_isWord w m = some 0) := by
  obtain ⟨h14, h15, h16, h17, -⟩ := h
  obtain ⟨b1, b2, b3, b4, b5, b6⟩ := hb
  have hl := ln_8 w hw
  unfold FX10_isWord
  rw [m_isW0]
  simp only [h15, h16, h17, slen_ln, nsub b1]
  by_cases k1 : k = 1
  · rw [if_pos (by rw [k1]; rfl)]
    by_cases e1 : a - s = ln w
    · rw [if_pos (by rw [e1])]
      unfold JX10_isWord_29
      obtain ⟨N, N1, N2, N3⟩ := first_not (fun i => nI (t (s + i)) = sch w (nI i)) (ln w)
      obtain ⟨o, o1, e⟩ := lp_inv (Bf := BX10_isWord_32 w m) (s0 := (1, 0)) (fun i st => (if i ≤ N then st.1 = 1 else st.1 = 0) ∧ st.2 = nI i) (fun o => o.1 = if N = ln w then 1 else 0) (N := if N = ln w then N else N + 1) (by split <;> omega) (fun i hi st hI rec => by
          obtain ⟨s1, s2⟩ := st
          obtain ⟨i1, i2⟩ := hI
          have hiN : i ≤ N ∧ i < ln w := by
            by_cases y : N = ln w
            · rw [if_pos y] at hi; omega
            · rw [if_neg y] at hi; omega
          rw [if_pos hiN.1] at i1
          have i1 : s1 = 1 := i1
          have i2 : s2 = nI i := i2
          subst i1
          subst i2
          have ci : (nI (s + i)).toNatClampNeg = s + i := ncl (by omega)
          have hbt := (hT (s + i) (by omega)).1
          left
          have pre : BX10_isWord_32 w m rec (1, nI i) = if nI (t (s + i)) = sch w (nI i) then rec (1, nI (i + 1)) else rec (0, nI (i + 1)) := by
            dsimp only [BX10_isWord_32]
            simp only [h15, slen_ln, nadd, ci, hbt, nI_1]
            rw [if_neg (n_ngt hiN.2 (by omega)), if_neg (by decide), if_pos (inb_t (by omega) (by omega)), if_pos (show inb (nI i) (strL.getD w []).length from inb_t hiN.2 (by omega))]
          by_cases z : i < N
          · exact ⟨(1, nI (i + 1)), ⟨by rw [if_pos (by omega)], rfl⟩, by rw [pre, if_pos (N2 i z)]⟩
          · have : i = N := by omega
            subst this
            rcases N3 with y | ⟨y1, y2⟩
            · omega
            · exact ⟨(0, nI (i + 1)), ⟨by rw [if_neg (by omega)], rfl⟩, by rw [pre, if_neg y2]⟩)
        (fun st hI rec => by
          obtain ⟨s1, s2⟩ := st
          obtain ⟨i1, i2⟩ := hI
          dsimp only [BX10_isWord_32]
          by_cases y : N = ln w
          · rw [if_pos y] at i1 i2
            rw [if_pos (Nat.le_refl _)] at i1
            have i1 : s1 = 1 := i1
            have i2 : s2 = nI N := i2
            refine ⟨(s1, s2), by rw [if_pos y]; exact i1, ?_⟩
            rw [slen_ln, if_pos (by rw [i2]; exact n_ge (by omega) (by omega))]
          · rw [if_neg y] at i1 i2
            rw [if_neg (by omega)] at i1
            have i1 : s1 = 0 := i1
            refine ⟨(s1, s2), by rw [if_neg y]; exact i1, ?_⟩
            by_cases z : slen w ≤ s2
            · rw [if_pos z]
            · rw [if_neg z, if_pos i1])
        ⟨by rw [if_pos (Nat.zero_le _)], rfl⟩
      rw [e, bs, o1]
      by_cases y : N = ln w
      · rw [if_pos y, if_pos (Or.inr rfl)]
        exact Or.inl ⟨⟨k1, e1, fun i hi => N2 i (by omega)⟩, rfl⟩
      · rw [if_neg y, if_pos (Or.inl rfl)]
        rcases N3 with z | ⟨z1, z2⟩
        · exact absurd z y
        · exact Or.inr ⟨fun q => z2 (q.2.2 N z1), rfl⟩
    · rw [if_neg (by rw [neq (by omega) (by omega)]; exact e1)]
      exact Or.inr ⟨fun q => e1 q.2.1, rfl⟩
  · rw [if_neg (by rw [L1, neq (by omega) (by omega)]; omega)]
    exact Or.inr ⟨fun q => k1 q.1, rfl⟩
/-- both stand at one token, and nothing is wrong -/
def JS (u m : Mem) (t : Nat → Nat) (L s a k v : Nat) : Prop := (TC u L s a k v ∧ Tp u 105 t L) ∧ (TM m L s a k v ∧ Tp m 125 t L ∧ m 116 19 = 0) ∧ TBd t L s a k v
def KC (u u' : Mem) : Prop := ∀ x, x ≠ 104 → u' x = u x
theorem NF_refl (m : Mem) : NF m m := ⟨fun _ _ => rfl, fun _ _ _ _ _ => rfl⟩
theorem NF_trans {a b c : Mem} (h : NF a b) (k : NF b c) : NF a c := ⟨fun x hx => by rw [k.1 x hx, h.1 x hx], fun j j1 j2 j3 j4 => by rw [k.2 j j1 j2 j3 j4, h.2 j j1 j2 j3 j4]⟩
theorem KC_trans {a b c : Mem} (h : KC a b) (k : KC b c) : KC a c := fun x hx => by rw [k x hx, h x hx]
theorem J_go (h : JS u m t L s a k v) : ∃ s' a' k' v' u' m', FX6_goOn u = some u' ∧ FX10_must 1 m = some m' ∧ JS u' m' t L s' a' k' v' ∧ KC u u' ∧ NF m m' ∧ a ≤ s' := by
  obtain ⟨⟨c1, c2⟩, ⟨m1, m2, m3⟩, hb⟩ := h
  obtain ⟨b1, b2, b3, b4, b5, b6⟩ := hb
  obtain ⟨s', a', k', v', hk⟩ := tok_ex t b2
  have hbk := tok_b hk (fun i hi => (c2 i hi).2)
  obtain ⟨u', f1, f2, f3⟩ := c_nxt hk b3 c2 c1.1 c1.2.2.1
  obtain ⟨m', g1, g2, g3⟩ := m_nxt hk b3 m2 m1.1 m1.2.2.1
  refine ⟨s', a', k', v', u', m', f1, ?_, ⟨⟨f2, Tp_k c2 (f3 105 (by omega))⟩, ⟨g2, Tp_k m2 (g3.1 125 (by omega)), by rw [g3.2 19 (by omega) (by omega) (by omega) (by omega)]; exact m3⟩, ⟨by omega, by omega, b3, by omega, by omega, fun z => ⟨hbk.2.2.2.2.2.1 z, (hbk.2.2.2.2.2.2.2 z).2⟩⟩⟩, f3, g3, hbk.1⟩
  have e : mst m 116 19 0 = m := by rw [← m3, mst_self]
  unfold FX10_must
  rw [e, if_pos m3, if_neg (by decide), if_pos m3, g1, bs]
theorem must_no (h : m 116 19 = 0) : FX10_must 0 m = some (mst m 116 19 1) := by
  unfold FX10_must
  rw [if_pos h, if_pos rfl, mst_s, if_neg (by decide)]
theorem w_must (h : m 116 19 = 1) (p : Int32) : FX10_must p m = some m := by
  have e : mst m 116 19 1 = m := by rw [← h, mst_self]
  unfold FX10_must
  rw [e, if_neg (by rw [h]; decide), if_neg (by rw [h]; decide)]
theorem w_number (h : m 116 19 = 1) (p q : Int32) : FX10_number p q m = some (m 116 18, m) := by
  unfold FX10_number
  rw [w_must h, w_must h]
  simp only [bs]
  split
  · split <;> rfl
  · rfl
theorem w_isNext (h : m 116 19 = 1) (w : Nat) : FX10_isNext w m = some (0, m) := by
  unfold FX10_isNext
  rw [if_neg (by rw [h]; decide)]
theorem w_unlike (h : m 116 19 = 1) (p : Int32) : FX10_unlike p m = some (m 116 18, m) := by
  unfold FX10_unlike
  rw [if_neg (by rw [h]; decide), w_must h, bs]
theorem J_num (h : JS u m t L s a k v) {l hh : Nat} {lo hi : Int32} (hlo : lo = nI l) (hhi : hi = nI hh) (hl : l < 100000) (hh' : hh < 100000) : (k = 2 ∧ l ≤ v ∧ v ≤ hh ∧ ∃ s' a' k' v' u' m', FX6_passNumber lo hi u = some (nI v, u') ∧ FX10_number lo hi m = some (nI v, m') ∧ JS u' m' t L s' a' k' v' ∧ KC u u' ∧ NF m m' ∧ a ≤ s') ∨ (FX6_passNumber lo hi u = some (-1, u) ∧ ∃ x, FX10_number lo hi m = some (x, mst m 116 19 1)) := by
  have h' := h
  obtain ⟨⟨c1, c2⟩, ⟨m1, m2, m3⟩, hb⟩ := h
  obtain ⟨b1, b2, b3, b4, b5, b6⟩ := hb
  subst hlo
  subst hhi
  unfold FX6_passNumber FX10_number
  rw [must_no m3]
  simp only [c1.2.2.2.1, m1.2.2.2.1, bs]
  by_cases k2 : k = 2
  · have v1 := c1.2.2.2.2 k2
    have v2 := m1.2.2.2.2 k2
    simp only [v1, v2, within_eq]
    rw [if_pos (show nI k = 2 by rw [k2]; rfl), if_pos (show nI (min k 3) = 2 by rw [k2]; rfl)]
    by_cases y : l ≤ v ∧ v ≤ hh
    · left
      obtain ⟨s', a', k', v', u', m', f1, f2, f3, f4, f5, f6⟩ := J_go h'
      have hw : FX9_within (nI v) (nI l) (nI hh) = 1 := by
        unfold FX9_within
        rw [if_neg (by rw [nlt (by omega) (by omega)]; omega), if_neg (by rw [nlt (by omega) (by omega)]; omega)]
      refine ⟨k2, y.1, y.2, s', a', k', v', u', m', ?_, ?_, f3, f4, f5, f6⟩
      · rw [hw, if_neg (by decide), f1, bs]
      · rw [hw, if_neg (by decide), f2, bs]
    · right
      have hw : FX9_within (nI v) (nI l) (nI hh) = 0 := by
        unfold FX9_within
        by_cases z : v < l
        · rw [if_pos (by rw [nlt (by omega) (by omega)]; exact z)]
        · rw [if_neg (by rw [nlt (by omega) (by omega)]; exact z), if_pos (by rw [nlt (by omega) (by omega)]; omega)]
      rw [hw, if_pos rfl, if_pos rfl]
      exact ⟨rfl, _, rfl⟩
  · right
    rw [if_neg (show ¬ nI k = 2 by rw [L2, neq (by omega) (by omega)]; exact k2), if_neg (show ¬ nI (min k 3) = 2 by rw [L2, neq (by omega) (by omega)]; omega)]
    exact ⟨rfl, _, rfl⟩
theorem J_other (h : JS u m t L s a k v) {p : Nat} (hp : p < 7) : (k = 2 ∧ v ≠ p ∧ v < 7 ∧ ∃ s' a' k' v' u' m', FX6_passOtherPlace (nI p) u = some (nI v, u') ∧ FX10_unlike (nI p) m = some (nI v, m') ∧ JS u' m' t L s' a' k' v' ∧ KC u u' ∧ NF m m' ∧ a ≤ s') ∨ (FX6_passOtherPlace (nI p) u = some (-1, u) ∧ ∃ x, FX10_unlike (nI p) m = some (x, mst m 116 19 1)) := by
  have h' := h
  obtain ⟨⟨c1, c2⟩, ⟨m1, m2, m3⟩, hb⟩ := h
  obtain ⟨b1, b2, b3, b4, b5, b6⟩ := hb
  unfold FX6_passOtherPlace FX10_unlike
  rw [must_no m3, if_pos m3]
  simp only [c1.2.2.2.1, m1.2.2.2.1, bs, np10]
  by_cases k2 : k = 2
  · have v1 := c1.2.2.2.2 k2
    have v2 := m1.2.2.2.2 k2
    simp only [v1, v2]
    rw [if_pos (show nI k = 2 by rw [k2]; rfl), if_pos (show nI (min k 3) = 2 by rw [k2]; rfl)]
    by_cases y : v = p
    · right
      rw [if_pos (by rw [y])]
      refine ⟨rfl, nI v, ?_⟩
      split
      · rfl
      · rw [if_pos (by rw [y])]
    · rw [if_neg (by rw [neq (by omega) (by omega)]; exact y)]
      by_cases z : v < 7
      · left
        obtain ⟨s', a', k', v', u', m', f1, f2, f3, f4, f5, f6⟩ := J_go h'
        have hw : FX9_within (nI v) 0 6 = 1 := pl_yes (by
          have : tn (nI v) = v := ncl (by omega)
          rw [this]; exact ⟨rfl, z⟩)
        refine ⟨k2, y, z, s', a', k', v', u', m', ?_, ?_, f3, f4, f5, f6⟩
        · rw [if_pos (by rw [L7, nlt (by omega) (by omega)]; exact z), f1, bs]
        · rw [hw, if_neg (by decide), if_neg (by rw [neq (by omega) (by omega)]; exact y), f2, bs]
      · right
        have hw : FX9_within (nI v) 0 6 = 0 := pl_no (by
          have : tn (nI v) = v := ncl (by omega)
          rw [this]; exact fun q => z q.2)
        rw [if_neg (by rw [L7, nlt (by omega) (by omega)]; exact z), hw, if_pos rfl]
        exact ⟨rfl, _, rfl⟩
  · right
    rw [if_neg (show ¬ nI k = 2 by rw [L2, neq (by omega) (by omega)]; exact k2), if_neg (show ¬ nI (min k 3) = 2 by rw [L2, neq (by omega) (by omega)]; omega)]
    exact ⟨rfl, _, rfl⟩
theorem J_word (h : JS u m t L s a k v) {w : Nat} (hw : w < 16) : (isWP t s a k w ∧ FX6_isWord w u = some 1 ∧ FX10_isWord w m = some 1) ∨ (¬ isWP t s a k w ∧ FX6_isWord w u = some 0 ∧ FX10_isWord w m = some 0) := by
  obtain ⟨⟨c1, c2⟩, ⟨m1, m2, m3⟩, hb⟩ := h
  rcases c_isWord c1 c2 hb hw with ⟨a1, a2⟩ | ⟨a1, a2⟩
  · rcases m_isWord m1 m2 hb hw with ⟨b1, b2⟩ | ⟨b1, b2⟩
    · exact Or.inl ⟨a1, a2, b2⟩
    · exact absurd a1 b1
  · rcases m_isWord m1 m2 hb hw with ⟨b1, b2⟩ | ⟨b1, b2⟩
    · exact absurd b1 a1
    · exact Or.inr ⟨a1, a2, b2⟩
theorem J_pass (h : JS u m t L s a k v) {w : Nat} (hw : w < 16) : (isWP t s a k w ∧ ∃ s' a' k' v' u' m', FX6_pass w u = some (1, u') ∧ FX10_isWord w m = some 1 ∧ FX10_must 1 m = some m' ∧ FX10_isNext w m = some (1, m') ∧ JS u' m' t L s' a' k' v' ∧ KC u u' ∧ NF m m' ∧ a ≤ s') ∨ (¬ isWP t s a k w ∧ FX6_pass w u = some (0, u) ∧ FX10_isWord w m = some 0 ∧ FX10_must 0 m = some (mst m 116 19 1) ∧ FX10_isNext w m = some (0, m)) := by
  have hm3 := h.2.1.2.2
  unfold FX6_pass FX10_isNext
  rcases J_word h hw with ⟨a1, a2, a3⟩ | ⟨a1, a2, a3⟩
  · obtain ⟨s', a', k', v', u', m', f1, f2, f3, f4, f5, f6⟩ := J_go h
    refine Or.inl ⟨a1, s', a', k', v', u', m', ?_, a3, f2, ?_, f3, f4, f5, f6⟩
    · rw [a2, bs, if_neg (by decide), f1, bs, if_pos (Or.inr rfl)]
    · rw [if_pos hm3, a3, bs, if_neg (by decide), f2, bs]
  · refine Or.inr ⟨a1, ?_, a3, must_no hm3, ?_⟩
    · rw [a2, bs, if_pos rfl, if_pos (Or.inl rfl)]
    · rw [if_pos hm3, a3, bs, if_pos rfl]
end PRIM
