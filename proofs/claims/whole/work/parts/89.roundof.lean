/-! the reference's search for rounds: walking on -/
section RND
variable {m : Mem} {r : Nat → Int32} {kd W s0 s : Nat}
def RG (m : Mem) (r : Nat → Int32) (kd s : Nat) : Prop := m 117 = r ∧ (∀ i, i < chK s (ne r) → m 123 i = nI (nuF s (ne r) i)) ∧ (∀ i, i < 6 → m 124 i = nI (3 ^ i)) ∧ ∀ p q, p < 7 → q < 7 → m 121 (7 * p + q) = nI (Ds r kd p q)
theorem RG_mrow (h : RG m r kd s) (ρ : Nat → Int32) : RG (mrow m 122 ρ) r kd s := by
  unfold RG
  rw [mrow_ne (show 117 ≠ 122 by omega), mrow_ne (show 123 ≠ 122 by omega), mrow_ne (show 124 ≠ 122 by omega), mrow_ne (show 121 ≠ 122 by omega)]
  exact h
theorem m_digit (h : RG m r kd s) {c i : Nat} (hc : c < 243) (hi : i < 6) : FX10_digit (nI c) (nI i) m = some (nI (dg c i)) := by
  obtain ⟨p1, p2, p3⟩ := pw3 hi
  have ci : (nI i).toNatClampNeg = i := ncl (by omega)
  have hq : c / 3 ^ i < 2147483648 := Nat.lt_of_le_of_lt (Nat.div_le_self _ _) (by omega)
  unfold FX10_digit
  simp only [ci, h.2.2.1 i hi]
  rw [if_pos (inb_t (by omega) (by omega)), if_pos (nI_ne0 p3 (by omega)), ndiv (by omega) p3 (by omega), show (3 : Int32) = nI 3 from rfl, nrem hq (by omega) (by omega)]
  rfl
theorem m_shorter {ρ : Nat → Int32} {N c p v : Nat} {T : Nat → Nat → Nat} (hT : TB ρ N T) (hN : N ≤ 243) (hle : ∀ c p, T c p ≤ 1000000) (hc : c < N) (hp : p < 7) (hv : v < 2147483648) : FX10_shorter (nI c) (nI p) (nI v) (mrow m 122 ρ) = some (mrow m 122 (upd ρ (7 * c + p) (nI (min (T c p) v)))) := by
  have cx : (nI (7 * c + p)).toNatClampNeg = 7 * c + p := ncl (by omega)
  have e122 : mrow m 122 ρ 122 = ρ := mrow_at _ _ _
  have hl := hle c p
  unfold FX10_shorter
  simp only [j7, cx, e122, hT c p hc hp]
  rw [if_pos (inb_t (by omega) (by omega)), if_pos (inb_t (by omega) (by omega)), nmin (by omega) hv, mst_mrow]
theorem m_then (h : RG m r kd s) (hw : Wf r) (hp : pcn s ≤ 5) {c x : Nat} (hc : c < 243) (hx : x < 7) (v3 v4 : Int32) : lp (BX10_walkOn_44 (nI c) (nI (chK s (ne r))) v3 v4 (nI x) m) FU (nI c, 0) = some (nI (th (bE r) (nuF s (ne r)) c x (chK s (ne r))), nI (chK s (ne r))) := by
  have h8 := ne_eq hw
  have hk5 := chK_le hp h8.2
  obtain ⟨n1, n2, n3⟩ := nu_all s (ne r)
  obtain ⟨g1, g2, g3, g4⟩ := h
  refine lp_for (BX10_walkOn_44 (nI c) (nI (chK s (ne r))) v3 v4 (nI x) m) (fun i => (nI (th (bE r) (nuF s (ne r)) c x i), nI i)) _ (chK s (ne r)) (by omega) (fun i hi rec => ?_) (fun rec => ?_)
  · show BX10_walkOn_44 (nI c) (nI (chK s (ne r))) v3 v4 (nI x) m rec (nI (th (bE r) (nuF s (ne r)) c x i), nI i) = rec (nI (th (bE r) (nuF s (ne r)) c x (i + 1)), nI (i + 1))
    have ci : (nI i).toNatClampNeg = i := ncl (by omega)
    have hdi := dg_lt c i
    have hne := (n1 i hi).1
    have eb : eF r (nuF s (ne r) i) 2 = bE r (nuF s (ne r) i) := (bE_eq hw hne).symm
    have hbl := bE_lt r (nuF s (ne r) i)
    dsimp only [BX10_walkOn_44]
    simp only [ci, g2 i hi, g3 i (show i < 6 by omega)]
    rw [if_neg (n_ngt hi (by omega)), m_digit ⟨g1, g2, g3, g4⟩ hc (by omega), bs]
    by_cases y : dg c i = 1
    · rw [if_pos (by rw [y]; rfl), if_pos (inb_t (by omega) (by omega)), mb g1 hw hne, bs, eb]
      by_cases z : bE r (nuF s (ne r) i) = x
      · rw [if_pos (by rw [z]), if_pos (inb_t (by omega) (by omega)), nadd, nI_1]
        rw [show th (bE r) (nuF s (ne r)) c x (i + 1) = th (bE r) (nuF s (ne r)) c x i + 3 ^ i from if_pos ⟨y, z⟩]
      · rw [if_neg (by rw [neq (by omega) (by omega)]; exact z), add0, nI_1]
        rw [show th (bE r) (nuF s (ne r)) c x (i + 1) = th (bE r) (nuF s (ne r)) c x i from if_neg (fun q => z q.2)]
    · rw [if_neg (by rw [L1, neq (by omega) (by omega)]; exact y), add0, nI_1]
      rw [show th (bE r) (nuF s (ne r)) c x (i + 1) = th (bE r) (nuF s (ne r)) c x i from if_neg (fun q => y q.1)]
  · show BX10_walkOn_44 (nI c) (nI (chK s (ne r))) v3 v4 (nI x) m rec (nI (th (bE r) (nuF s (ne r)) c x (chK s (ne r))), nI (chK s (ne r))) = _
    dsimp only [BX10_walkOn_44]
    rw [if_pos (n_ge (Nat.le_refl _) (by omega))]
/-- what walking on keeps -/
def WK (r : Nat → Int32) (kd W s0 s c : Nat) (T T' : Nat → Nat → Nat) : Prop := (∀ x p, T' x p ≤ T x p) ∧ (∀ x p, x < c → T' x p = T x p) ∧ Snd (aE r) (bE r) (wE r) (Ds r kd) W s0 (nuF s (ne r)) (chK s (ne r)) T'
theorem m_walk24 (h : RG m r kd s) (hw : Wf r) (hp : pcn s ≤ 5) {ρ : Nat → Int32} {c f : Nat} {T : Nat → Nat → Nat} (hT : TB ρ (3 ^ chK s (ne r)) T) (hle : ∀ x p, T x p ≤ 1000000) (hsn : Snd (aE r) (bE r) (wE r) (Ds r kd) W s0 (nuF s (ne r)) (chK s (ne r)) T) (hc : c < 3 ^ chK s (ne r)) (hf : f < 7) : ∃ o ρ' T', lp (BX10_walkOn_24 (nI c) (nI (chK s (ne r))) (nI f) (nI (T c f))) FU (0, mrow m 122 ρ) = some (o, mrow m 122 ρ') ∧ TB ρ' (3 ^ chK s (ne r)) T' ∧ WK r kd W s0 s c T T' ∧ ∀ x, x < 7 → T' (th (bE r) (nuF s (ne r)) c x (chK s (ne r))) x ≤ T c f + Ds r kd f x := by
  have h8 := ne_eq hw
  have hk5 := chK_le hp h8.2
  have h3 := p3k (show chK s (ne r) < 6 by omega)
  have hin := nu_inj s (ne r)
  have hd := Ds_Dm hw kd
  have hy := hle c f
  by_cases z : T c f < 1000000
  · obtain ⟨o, ⟨ρ', T', o1, o2, o3, o4⟩, e⟩ := lp_inv (Bf := BX10_walkOn_24 (nI c) (nI (chK s (ne r))) (nI f) (nI (T c f))) (s0 := (0, mrow m 122 ρ)) (fun t st => st.1 = nI t ∧ ∃ ρ' T', st.2 = mrow m 122 ρ' ∧ TB ρ' (3 ^ chK s (ne r)) T' ∧ WK r kd W s0 s c T T' ∧ ∀ x, x < t → T' (th (bE r) (nuF s (ne r)) c x (chK s (ne r))) x ≤ T c f + Ds r kd f x) (fun o => ∃ ρ' T', o.2 = mrow m 122 ρ' ∧ TB ρ' (3 ^ chK s (ne r)) T' ∧ WK r kd W s0 s c T T' ∧ ∀ x, x < 7 → T' (th (bE r) (nuF s (ne r)) c x (chK s (ne r))) x ≤ T c f + Ds r kd f x) (N := 7) (by omega) (fun t ht st hI rec => by
        obtain ⟨s1, s2⟩ := st
        obtain ⟨i1, ρ', T', i2, i3, i4, i5⟩ := hI
        have i1 : s1 = nI t := i1
        have i2 : s2 = mrow m 122 ρ' := i2
        subst i1
        subst i2
        obtain ⟨w1, w2, w3⟩ := i4
        have hle' : ∀ x p, T' x p ≤ 1000000 := fun x p => Nat.le_trans (w1 x p) (hle x p)
        have hdt := Ds_le hw kd f t
        have cx : (nI (7 * f + t)).toNatClampNeg = 7 * f + t := ncl (by omega)
        have e121 : mrow m 122 ρ' 121 (7 * f + t) = nI (Ds r kd f t) := by rw [mrow_ne (by omega)]; exact h.2.2.2 f t hf ht
        obtain ⟨t1, t2, t3⟩ := th_dg (b := bE r) (num := nuF s (ne r)) (show chK s (ne r) < 6 by omega) (x := t) hc (chK s (ne r)) (Nat.le_refl _)
        left
        by_cases q : Ds r kd f t < 1000000
        · refine ⟨(nI (t + 1), mrow m 122 (upd ρ' (7 * th (bE r) (nuF s (ne r)) c t (chK s (ne r)) + t) (nI (min (T' (th (bE r) (nuF s (ne r)) c t (chK s (ne r))) t) (T c f + Ds r kd f t))))), ⟨rfl, _, TU T' (th (bE r) (nuF s (ne r)) c t (chK s (ne r))) t (min (T' (th (bE r) (nuF s (ne r)) c t (chK s (ne r))) t) (T c f + Ds r kd f t)), rfl, TB_up i3 ht _, ⟨fun x p => Nat.le_trans (TU_le (Nat.min_le_left _ _) x p) (w1 x p), fun x p hx => ?_, ?_⟩, fun x hx => ?_⟩, ?_⟩
          · rw [TU_ne (fun y => by omega)]; exact w2 x p hx
          · refine Snd_TU w3 (fun hv => ?_)
            by_cases y : T' (th (bE r) (nuF s (ne r)) c t (chK s (ne r))) t ≤ T c f + Ds r kd f t
            · rw [Nat.min_eq_left y] at hv ⊢
              exact w3 _ t t1 ht hv
            · rw [Nat.min_eq_right (by omega)]
              exact R_th hd (by omega) hin hc (R_go hd hf (hsn c f hc hf z)) _ (Nat.le_refl _)
          · by_cases y : x = t
            · subst y
              rw [TU_at]; exact Nat.min_le_right _ _
            · exact Nat.le_trans (TU_le (Nat.min_le_left _ _) _ _) (i5 x (by omega))
          · dsimp only [BX10_walkOn_24]
            simp only [j7, cx, e121]
            rw [if_neg (by rw [L7]; exact n_ngt ht (by omega)), if_neg (by rw [LM]; exact n_ngt z (by omega)), m_then (RG_mrow h ρ') hw hp (by omega) ht, bs, if_pos (inb_t (by omega) (by omega)), if_neg (by rw [LM]; exact n_ngt q (by omega)), if_pos (inb_t (by omega) (by omega)), nadd]
            dsimp only
            rw [m_shorter i3 h3 hle' t1 ht (by omega), bs, nI_1]
        · refine ⟨(nI (t + 1), mrow m 122 ρ'), ⟨rfl, ρ', T', rfl, i3, ⟨w1, w2, w3⟩, fun x hx => ?_⟩, ?_⟩
          · by_cases y : x = t
            · subst y
              have := hle' (th (bE r) (nuF s (ne r)) c x (chK s (ne r))) x
              omega
            · exact i5 x (by omega)
          · dsimp only [BX10_walkOn_24]
            simp only [j7, cx, e121]
            rw [if_neg (by rw [L7]; exact n_ngt ht (by omega)), if_neg (by rw [LM]; exact n_ngt z (by omega)), m_then (RG_mrow h ρ') hw hp (by omega) ht, bs, if_pos (inb_t (by omega) (by omega)), if_pos (by rw [LM]; exact n_ge (by omega) (by omega)), nI_1])
      (fun st hI rec => by
        obtain ⟨s1, s2⟩ := st
        obtain ⟨i1, ρ', T', i2, i3, i4, i5⟩ := hI
        have i1 : s1 = nI 7 := i1
        have i2 : s2 = mrow m 122 ρ' := i2
        subst i1
        subst i2
        refine ⟨(nI 7, mrow m 122 ρ'), ⟨ρ', T', rfl, i3, i4, i5⟩, ?_⟩
        dsimp only [BX10_walkOn_24]
        rw [if_pos (by rw [L7]; exact n_ge (Nat.le_refl _) (by omega))])
      ⟨rfl, ρ, T, rfl, hT, ⟨fun _ _ => Nat.le_refl _, fun _ _ _ => rfl, hsn⟩, fun x hx => absurd hx (Nat.not_lt_zero _)⟩
    exact ⟨o.1, ρ', T', by rw [e]; show some (o.1, o.2) = _; rw [o1], o2, o3, o4⟩
  · obtain ⟨o, o1, e⟩ := lp_inv (Bf := BX10_walkOn_24 (nI c) (nI (chK s (ne r))) (nI f) (nI (T c f))) (s0 := (0, mrow m 122 ρ)) (fun t st => st = (0, mrow m 122 ρ)) (fun o => o = (0, mrow m 122 ρ)) (N := 0) (by omega) (fun t ht => absurd ht (Nat.not_lt_zero _)) (fun st hI rec => by
        subst hI
        refine ⟨_, rfl, ?_⟩
        dsimp only [BX10_walkOn_24]
        rw [if_neg (by decide), if_pos (by rw [LM]; exact n_ge (by omega) (by omega))]) rfl
    subst o1
    refine ⟨0, ρ, T, e, hT, ⟨fun _ _ => Nat.le_refl _, fun _ _ _ => rfl, hsn⟩, fun x hx => ?_⟩
    have := hle (th (bE r) (nuF s (ne r)) c x (chK s (ne r))) x
    omega
theorem m_walkOn (h : RG m r kd s) (hw : Wf r) (hp : pcn s ≤ 5) {ρ : Nat → Int32} {c : Nat} {T : Nat → Nat → Nat} (hT : TB ρ (3 ^ chK s (ne r)) T) (hle : ∀ x p, T x p ≤ 1000000) (hsn : Snd (aE r) (bE r) (wE r) (Ds r kd) W s0 (nuF s (ne r)) (chK s (ne r)) T) (hc : c < 3 ^ chK s (ne r)) : ∃ ρ' T', FX10_walkOn (nI c) (nI (chK s (ne r))) (mrow m 122 ρ) = some (mrow m 122 ρ') ∧ TB ρ' (3 ^ chK s (ne r)) T' ∧ WK r kd W s0 s c T T' ∧ ∀ q x, q < 7 → x < 7 → T' (th (bE r) (nuF s (ne r)) c x (chK s (ne r))) x ≤ T c q + Ds r kd q x := by
  have h8 := ne_eq hw
  have hk5 := chK_le hp h8.2
  have h3 := p3k (show chK s (ne r) < 6 by omega)
  obtain ⟨o, ⟨ρ', T', o1, o2, o3, o4⟩, e⟩ := lp_inv (Bf := BX10_walkOn_2 (nI c) (nI (chK s (ne r)))) (s0 := (0, mrow m 122 ρ)) (fun f st => st.1 = nI f ∧ ∃ ρ' T', st.2 = mrow m 122 ρ' ∧ TB ρ' (3 ^ chK s (ne r)) T' ∧ WK r kd W s0 s c T T' ∧ ∀ q x, q < f → x < 7 → T' (th (bE r) (nuF s (ne r)) c x (chK s (ne r))) x ≤ T c q + Ds r kd q x) (fun o => ∃ ρ' T', o.2 = mrow m 122 ρ' ∧ TB ρ' (3 ^ chK s (ne r)) T' ∧ WK r kd W s0 s c T T' ∧ ∀ q x, q < 7 → x < 7 → T' (th (bE r) (nuF s (ne r)) c x (chK s (ne r))) x ≤ T c q + Ds r kd q x) (N := 7) (by omega) (fun f hf st hI rec => by
      obtain ⟨s1, s2⟩ := st
      obtain ⟨i1, ρ', T', i2, i3, i4, i5⟩ := hI
      have i1 : s1 = nI f := i1
      have i2 : s2 = mrow m 122 ρ' := i2
      subst i1
      subst i2
      obtain ⟨w1, w2, w3⟩ := i4
      have hle' : ∀ x p, T' x p ≤ 1000000 := fun x p => Nat.le_trans (w1 x p) (hle x p)
      have cx : (nI (7 * c + f)).toNatClampNeg = 7 * c + f := ncl (by omega)
      have e122 : mrow m 122 ρ' 122 (7 * c + f) = nI (T' c f) := by rw [mrow_at]; exact i3 c f hc hf
      left
      obtain ⟨o, ρ2, T2, k1, k2, ⟨k3, k4, k5⟩, k6⟩ := m_walk24 h hw hp i3 hle' w3 hc hf
      refine ⟨(nI (f + 1), mrow m 122 ρ2), ⟨rfl, ρ2, T2, rfl, k2, ⟨fun x p => Nat.le_trans (k3 x p) (w1 x p), fun x p hx => (k4 x p hx).trans (w2 x p hx), k5⟩, fun q x hq hx => ?_⟩, ?_⟩
      · by_cases y : q = f
        · subst y
          have a1 := k6 x hx
          have a2 := w1 c q
          omega
        · exact Nat.le_trans (k3 _ _) (i5 q x (by omega) hx)
      · dsimp only [BX10_walkOn_2]
        simp only [j7, cx, e122]
        rw [if_neg (by rw [L7]; exact n_ngt hf (by omega)), if_pos (inb_t (by omega) (by omega)), k1, bs, nI_1])
    (fun st hI rec => by
      obtain ⟨s1, s2⟩ := st
      obtain ⟨i1, ρ', T', i2, i3, i4, i5⟩ := hI
      have i1 : s1 = nI 7 := i1
      have i2 : s2 = mrow m 122 ρ' := i2
      subst i1
      subst i2
      refine ⟨(nI 7, mrow m 122 ρ'), ⟨ρ', T', rfl, i3, i4, i5⟩, ?_⟩
      dsimp only [BX10_walkOn_2]
      rw [if_pos (by rw [L7]; exact n_ge (Nat.le_refl _) (by omega))])
    ⟨rfl, ρ, T, rfl, hT, ⟨fun _ _ => Nat.le_refl _, fun _ _ _ => rfl, hsn⟩, fun q x hq => absurd hq (Nat.not_lt_zero _)⟩
  refine ⟨ρ', T', ?_, o2, o3, o4⟩
  unfold FX10_walkOn
  rw [e, bs, o1]
end RND
