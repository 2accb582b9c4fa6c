/-! the class' search for rounds: what stands after each deed -/
section FIND2
variable {a b w : Nat → Nat} {d : Nat → Nat → Nat} {W s0 : Nat} {num : Nat → Nat} {k : Nat}
def Cl1 (a b w : Nat → Nat) (d : Nat → Nat → Nat) (W : Nat) (num : Nat → Nat) (k : Nat) (T : Nat → Nat → Nat) (m j : Nat) : Prop := (dg m j = 0 → lsum w num m k + w (num j) ≤ W → ∀ q, q < 7 → T (m + 3 ^ j) (a (num j)) ≤ T m q + d q (a (num j))) ∧ (dg m j = 1 → ∀ q, q < 7 → T (m + 3 ^ j) (b (num j)) ≤ T m q + d q (b (num j)))
def CI (a b w : Nat → Nat) (d : Nat → Nat → Nat) (W s0 : Nat) (num : Nat → Nat) (k : Nat) (T : Nat → Nat → Nat) (m i : Nat) : Prop := (∀ c p, T c p ≤ 1000000) ∧ Snd a b w d W s0 num k T ∧ T 0 s0 = 0 ∧ (∀ c j, c < m → j < k → Cl1 a b w d W num k T c j) ∧ ∀ j, j < i → Cl1 a b w d W num k T m j
theorem Cl1_TU {T : Nat → Nat → Nat} {c j x t v : Nat} (h : Cl1 a b w d W num k T c j) (hv : v ≤ T x t) (hc : c < x) : Cl1 a b w d W num k (TU T x t v) c j := by
  refine ⟨fun h0 h1 q hq => ?_, fun h0 q hq => ?_⟩
  · rw [TU_ne (show ¬ (c = x ∧ q = t) from fun z => by omega)]
    exact Nat.le_trans (TU_le hv _ _) (h.1 h0 h1 q hq)
  · rw [TU_ne (show ¬ (c = x ∧ q = t) from fun z => by omega)]
    exact Nat.le_trans (TU_le hv _ _) (h.2 h0 q hq)
theorem CI_0 (hd : Dm d) : CI a b w d W s0 num k (T0 s0) 0 0 := ⟨T0_le, T0_Snd hd, TU_at _ _ _ _, fun c j hc => absurd hc (Nat.not_lt_zero _), fun j hj => absurd hj (Nat.not_lt_zero _)⟩
theorem CI_next {T : Nat → Nat → Nat} {m : Nat} (h : CI a b w d W s0 num k T m k) : CI a b w d W s0 num k T (m + 1) 0 := by
  obtain ⟨h1, h2, h3, h4, h5⟩ := h
  refine ⟨h1, h2, h3, fun c j hc hj => ?_, fun j hj => absurd hj (Nat.not_lt_zero _)⟩
  by_cases e : c = m
  · subst e; exact h5 j hj
  · exact h4 c j (by omega) hj
theorem CI_none {T : Nat → Nat → Nat} {m i : Nat} (h : CI a b w d W s0 num k T m i) (h0 : dg m i = 0 → ¬ lsum w num m k + w (num i) ≤ W) (h1 : dg m i ≠ 1) : CI a b w d W s0 num k T m (i + 1) := by
  obtain ⟨g1, g2, g3, g4, g5⟩ := h
  refine ⟨g1, g2, g3, g4, fun j hj => ?_⟩
  by_cases e : j = i
  · subst e
    exact ⟨fun z y => absurd y (h0 z), fun z => absurd z h1⟩
  · exact g5 j (by omega)
theorem CI_deed (hd : Dm d) (hk : k < 6) {T : Nat → Nat → Nat} {m i x t v : Nat} (h : CI a b w d W s0 num k T m i) (hm : m < 3 ^ k) (hi : i < k) (hx : x = m + 3 ^ i) (hx3 : x < 3 ^ k) (ht7 : t < 7) (v1 : v ≤ T x t) (v3 : v = T x t ∨ ∃ p, p < 7 ∧ T m p < 1000000 ∧ v = T m p + d p t) (hR : ∀ y, Rch a b w d W s0 num k m t y → Rch a b w d W s0 num k x t y) (hcl : Cl1 a b w d W num k (TU T x t v) m i) : CI a b w d W s0 num k (TU T x t v) m (i + 1) := by
  obtain ⟨g1, g2, g3, g4, g5⟩ := h
  have h3 := p3p i
  refine ⟨fun c p => Nat.le_trans (TU_le v1 c p) (g1 c p), ?_, ?_, fun c j hc hj => Cl1_TU (g4 c j hc hj) v1 (by omega), fun j hj => ?_⟩
  · refine Snd_TU g2 (fun hv => ?_)
    rcases v3 with e | ⟨p, p1, p2, p3⟩
    · rw [e] at hv ⊢
      exact g2 x t hx3 ht7 hv
    · rw [p3]
      exact hR _ (R_go hd p1 (g2 m p hm p1 p2))
  · rw [TU_ne (fun z => by omega)]; exact g3
  · by_cases e : j = i
    · subst e; exact hcl
    · exact Cl1_TU (g5 j (by omega)) v1 (by omega)
end FIND2
section FIND3
variable {u : Mem} {r : Nat → Int32} {B : Nat}
theorem c_goOn {ρ : Nat → Int32} {s kd W s0 m tc : Nat} {T : Nat → Nat → Nat} (hw : Wf r) (hp : pcn s ≤ 5) (hg : Gat u r s (ne r)) (hW : W < 1000) (htc : tc < 97) (htab : ∀ p q, p < 7 → q < 7 → u tc (7 * p + q) = nI (Ds r kd p q)) (hm : m < 3 ^ chK s (ne r)) (hT : TB ρ (3 ^ chK s (ne r)) T) (hC : CI (aE r) (bE r) (wE r) (Ds r kd) W s0 (nuF s (ne r)) (chK s (ne r)) T m 0) : ∃ ρ' T', FX4_goOnFrom (nI m) (nI W) tc (mrow u 102 ρ) = some (mrow u 102 ρ') ∧ TB ρ' (3 ^ chK s (ne r)) T' ∧ CI (aE r) (bE r) (wE r) (Ds r kd) W s0 (nuF s (ne r)) (chK s (ne r)) T' m (chK s (ne r)) := by
  have h8 := ne_eq hw
  have hk5 := chK_le hp h8.2
  obtain ⟨n1, n2, n3⟩ := nu_all s (ne r)
  have hin := nu_inj s (ne r)
  have hd := Ds_Dm hw kd
  have hdl : ∀ p q, Ds r kd p q ≤ 1000000 := fun p q => Ds_le hw kd p q
  obtain ⟨g1, g2⟩ := hg
  generalize hK : chK s (ne r) = k at *
  generalize hN : nuF s (ne r) = num at *
  have h3 := p3k (show k < 6 by omega)
  have n8 : ∀ i, i < k → num i < 8 := fun i hi => by have := (n1 i hi).1; omega
  have hwn : ∀ i, i < k → wE r (num i) ≤ 60 := fun i hi => (eW hw (n1 i hi).1).2
  have hls : ∀ n, n ≤ k → lsum (wE r) num m n ≤ 300 := fun n hn => by
    have := lsum_le (w := wE r) (num := num) (B := 60) (c := m) n (fun i hi => hwn i (by omega))
    omega
  have e97 : ∀ ρ, mrow u 102 ρ 97 = u 97 := fun ρ => mrow_ne (by omega) _
  have e99 : ∀ ρ, mrow u 102 ρ 99 = u 99 := fun ρ => mrow_ne (by omega) _
  have e100 : ∀ ρ, mrow u 102 ρ 100 = u 100 := fun ρ => mrow_ne (by omega) _
  have e101 : ∀ ρ, mrow u 102 ρ 101 = u 101 := fun ρ => mrow_ne (by omega) _
  have in1 : lp (BX4_goOnFrom_6 (nI m) (nI W) tc (mrow u 102 ρ)) FU (nI W, 0) = some (nI W - nI (lsum (wE r) num m k), nI k) := by
    have h0 : (fun i => (nI W - nI (lsum (wE r) num m i), nI i)) 0 = (nI W, 0) := by
      show (nI W - nI 0, nI 0) = (nI W, 0)
      rw [nsub (Nat.zero_le _)]; rfl
    rw [← h0]
    refine lp_for (BX4_goOnFrom_6 (nI m) (nI W) tc (mrow u 102 ρ)) (fun i => (nI W - nI (lsum (wE r) num m i), nI i)) _ k (by omega) (fun i hi rec => ?_) (fun rec => ?_)
    · show BX4_goOnFrom_6 (nI m) (nI W) tc (mrow u 102 ρ) rec (nI W - nI (lsum (wE r) num m i), nI i) = rec (nI W - nI (lsum (wE r) num m (i + 1)), nI (i + 1))
      have ci : (nI i).toNatClampNeg = i := ncl (by omega)
      have hdl := dg_lt m i
      dsimp only [BX4_goOnFrom_6]
      simp only [e97, g1, e99, ci, (g2 i hi).2.1]
      rw [if_neg (n_ngt hi (by omega)), c_howAt (by omega) (by omega), bs]
      by_cases y : dg m i = 1
      · rw [if_pos (by rw [y]; rfl), if_pos (inb_t (by omega) (by omega)), isub, nadd, nI_1]
        rw [show lsum (wE r) num m (i + 1) = lsum (wE r) num m i + wE r (num i) from if_pos y]
        rfl
      · rw [if_neg (by rw [L1, neq (by omega) (by omega)]; exact y), nI_1]
        rw [show lsum (wE r) num m (i + 1) = lsum (wE r) num m i from if_neg y]
    · show BX4_goOnFrom_6 (nI m) (nI W) tc (mrow u 102 ρ) rec (nI W - nI (lsum (wE r) num m k), nI k) = _
      dsimp only [BX4_goOnFrom_6]
      simp only [e97, g1]
      rw [if_pos (n_ge (Nat.le_refl _) (by omega))]
  obtain ⟨o, ⟨ρ', T', o1, o2, o3⟩, e⟩ := lp_inv (Bf := BX4_goOnFrom_47 (nI m) (nI W) tc (nI W - nI (lsum (wE r) num m k))) (s0 := (0, mrow u 102 ρ)) (fun i st => st.1 = nI i ∧ ∃ ρ T, st.2 = mrow u 102 ρ ∧ TB ρ (3 ^ k) T ∧ CI (aE r) (bE r) (wE r) (Ds r kd) W s0 num k T m i) (fun o => ∃ ρ T, o.2 = mrow u 102 ρ ∧ TB ρ (3 ^ k) T ∧ CI (aE r) (bE r) (wE r) (Ds r kd) W s0 num k T m k) (N := k) (by omega) (fun i hi st hI rec => by
      obtain ⟨s1, s2⟩ := st
      obtain ⟨i1, ρ, T, i2, i3, i4⟩ := hI
      have i1 : s1 = nI i := i1
      have i2 : s2 = mrow u 102 ρ := i2
      subst i1
      subst i2
      have ci : (nI i).toNatClampNeg = i := ncl (by omega)
      have hdi := dg_lt m i
      obtain ⟨p1, p2, p3⟩ := pw3 (show i < 6 by omega)
      have hwi := hwn i hi
      have hlk := hls k (Nat.le_refl _)
      have ea : eF r (num i) 1 = aE r (num i) := (aE_eq hw (n1 i hi).1).symm
      have eb : eF r (num i) 2 = bE r (num i) := (bE_eq hw (n1 i hi).1).symm
      have g99 : u 99 i = nI (wE r (num i)) := (g2 i hi).2.1
      have g100 : u 100 i = nI (aE r (num i)) := by rw [(g2 i hi).2.2.1, ea]
      have g101 : u 101 i = nI (bE r (num i)) := by rw [(g2 i hi).2.2.2, eb]
      left
      have pre : BX4_goOnFrom_47 (nI m) (nI W) tc (nI W - nI (lsum (wE r) num m k)) rec (nI i, mrow u 102 ρ) = (if dg m i = 0 ∧ lsum (wE r) num m k + wE r (num i) ≤ W then Option.bind (FX4_step (nI m) (nI (m + 3 ^ i)) (nI (aE r (num i))) tc (mrow u 102 ρ)) (fun q14 => rec (nI (i + 1), q14)) else if dg m i = 1 then Option.bind (FX4_step (nI m) (nI (m + 3 ^ i)) (nI (bE r (num i))) tc (mrow u 102 ρ)) (fun q14 => rec (nI (i + 1), q14)) else rec (nI (i + 1), mrow u 102 ρ)) := by
        dsimp only [BX4_goOnFrom_47]
        unfold JX4_goOnFrom_106_47
        simp only [e97, g1, e99, e100, e101, ci, g99, g100, g101, p1, nadd, nI_1]
        rw [if_neg (n_ngt hi (by omega)), c_howAt (by omega) (by omega), bs]
        by_cases y0 : dg m i = 0
        · rw [if_pos (by rw [y0]; rfl), if_pos (inb_t (by omega) (by omega))]
          by_cases y1 : lsum (wE r) num m k + wE r (num i) ≤ W
          · rw [if_neg (by rw [room_le hW (by omega) (by omega)]; exact fun q => q y1), if_pos (inb_t (by omega) (by omega)), if_pos (inb_t (by omega) (by omega)), if_pos ⟨y0, y1⟩]
          · rw [if_pos (by rw [room_le hW (by omega) (by omega)]; exact y1), if_neg (by rw [y0]; decide), if_neg (fun q => y1 q.2), if_neg (by omega)]
        · rw [if_neg (by rw [L0, neq (by omega) (by omega)]; exact y0), if_neg (show ¬ (dg m i = 0 ∧ lsum (wE r) num m k + wE r (num i) ≤ W) from fun q => y0 q.1)]
          by_cases y1 : dg m i = 1
          · rw [if_pos (by rw [y1]; rfl), if_pos (inb_t (by omega) (by omega)), if_pos (inb_t (by omega) (by omega)), if_pos y1]
          · rw [if_neg (by rw [L1, neq (by omega) (by omega)]; exact y1), if_neg y1]
      rw [pre]
      by_cases y0 : dg m i = 0 ∧ lsum (wE r) num m k + wE r (num i) ≤ W
      · have hx3 := dg_ul (show k < 6 by omega) hm hi (show dg m i < 2 by omega)
        obtain ⟨v, v1, v2, v3, v4⟩ := c_step (u := u) (tc := tc) (t := aE r (num i)) (x := m + 3 ^ i) (m := m) (d := Ds r kd) (by omega) i3 h3 i4.1 hdl htab hm hx3 (aE_lt r _)
        refine ⟨(nI (i + 1), mrow u 102 (upd ρ (7 * (m + 3 ^ i) + aE r (num i)) (nI v))), ⟨rfl, _, TU T (m + 3 ^ i) (aE r (num i)) v, rfl, TB_up i3 (aE_lt r _) v, ?_⟩, by rw [if_pos y0, v1, bs]⟩
        refine CI_deed hd (by omega) i4 hm hi rfl hx3 (aE_lt r _) v2 v4 (fun y hy => R_take hd (by omega) hin n8 hm hi y0.1 y0.2 hy) ⟨fun _ _ q hq => ?_, fun z => by omega⟩
        rw [TU_at, TU_ne (fun z => by omega)]
        exact v3 q hq
      · by_cases y1 : dg m i = 1
        · have hx3 := dg_ul (show k < 6 by omega) hm hi (show dg m i < 2 by omega)
          obtain ⟨v, v1, v2, v3, v4⟩ := c_step (u := u) (tc := tc) (t := bE r (num i)) (x := m + 3 ^ i) (m := m) (d := Ds r kd) (by omega) i3 h3 i4.1 hdl htab hm hx3 (bE_lt r _)
          refine ⟨(nI (i + 1), mrow u 102 (upd ρ (7 * (m + 3 ^ i) + bE r (num i)) (nI v))), ⟨rfl, _, TU T (m + 3 ^ i) (bE r (num i)) v, rfl, TB_up i3 (bE_lt r _) v, ?_⟩, by rw [if_neg y0, if_pos y1, v1, bs]⟩
          refine CI_deed hd (by omega) i4 hm hi rfl hx3 (bE_lt r _) v2 v4 (fun y hy => R_put hd (by omega) hin hm hi y1 hy) ⟨fun z => by omega, fun _ q hq => ?_⟩
          rw [TU_at, TU_ne (fun z => by omega)]
          exact v3 q hq
        · exact ⟨(nI (i + 1), mrow u 102 ρ), ⟨rfl, ρ, T, rfl, i3, CI_none i4 (fun z y => y0 ⟨z, y⟩) y1⟩, by rw [if_neg y0, if_neg y1]⟩)
    (fun st hI rec => by
      obtain ⟨s1, s2⟩ := st
      obtain ⟨i1, ρ, T, i2, i3, i4⟩ := hI
      have i1 : s1 = nI k := i1
      have i2 : s2 = mrow u 102 ρ := i2
      subst i1
      subst i2
      refine ⟨(nI k, mrow u 102 ρ), ⟨ρ, T, rfl, i3, i4⟩, ?_⟩
      dsimp only [BX4_goOnFrom_47]
      simp only [e97, g1]
      rw [if_pos (n_ge (Nat.le_refl _) (by omega))])
    ⟨rfl, ρ, T, rfl, hT, hC⟩
  refine ⟨ρ', T', ?_, o2, o3⟩
  unfold FX4_goOnFrom
  rw [in1, bs, e, bs, o1]
end FIND3
