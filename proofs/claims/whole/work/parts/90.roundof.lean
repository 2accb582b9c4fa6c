/-! the reference's search for rounds: taking on; the rounds -/
section RND2
variable {m : Mem} {r : Nat → Int32} {kd W s0 s : Nat}
theorem m_takeOn (h : RG m r kd s) (hw : Wf r) (hp : pcn s ≤ 5) {ρ : Nat → Int32} {c : Nat} {T : Nat → Nat → Nat} (hW : W < 1000) (hT : TB ρ (3 ^ chK s (ne r)) T) (hle : ∀ x p, T x p ≤ 1000000) (hsn : Snd (aE r) (bE r) (wE r) (Ds r kd) W s0 (nuF s (ne r)) (chK s (ne r)) T) (hc : c < 3 ^ chK s (ne r)) : ∃ ρ' T', FX10_takeOn (nI c) (nI (chK s (ne r))) (nI W) (mrow m 122 ρ) = some (mrow m 122 ρ') ∧ TB ρ' (3 ^ chK s (ne r)) T' ∧ (∀ x p, T' x p ≤ T x p) ∧ Snd (aE r) (bE r) (wE r) (Ds r kd) W s0 (nuF s (ne r)) (chK s (ne r)) T' ∧ ∀ i, i < chK s (ne r) → dg c i = 0 → lsum (wE r) (nuF s (ne r)) c (chK s (ne r)) + wE r (nuF s (ne r) i) ≤ W → T' (c + 3 ^ i) (aE r (nuF s (ne r) i)) ≤ T c (aE r (nuF s (ne r) i)) := by
  have h8 := ne_eq hw
  have hk5 := chK_le hp h8.2
  have h3 := p3k (show chK s (ne r) < 6 by omega)
  have hin := nu_inj s (ne r)
  have hd := Ds_Dm hw kd
  obtain ⟨n1, n2, n3⟩ := nu_all s (ne r)
  have n8 : ∀ i, i < chK s (ne r) → nuF s (ne r) i < 8 := fun i hi => by have := (n1 i hi).1; omega
  have hwn : ∀ i, i < chK s (ne r) → wE r (nuF s (ne r) i) ≤ 60 := fun i hi => (eW hw (n1 i hi).1).2
  have hls : ∀ n, n ≤ chK s (ne r) → lsum (wE r) (nuF s (ne r)) c n ≤ 300 := fun n hn => by
    have := lsum_le (w := wE r) (num := nuF s (ne r)) (B := 60) (c := c) n (fun i hi => hwn i (by omega))
    omega
  have in1 : lp (BX10_takeOn_6 (nI c) (nI (chK s (ne r))) (nI W) (mrow m 122 ρ)) FU (0, 0) = some (nI (lsum (wE r) (nuF s (ne r)) c (chK s (ne r))), nI (chK s (ne r))) := by
    have hG := RG_mrow h ρ
    obtain ⟨g1, g2, g3, g4⟩ := hG
    refine lp_for (BX10_takeOn_6 (nI c) (nI (chK s (ne r))) (nI W) (mrow m 122 ρ)) (fun i => (nI (lsum (wE r) (nuF s (ne r)) c i), nI i)) _ (chK s (ne r)) (by omega) (fun i hi rec => ?_) (fun rec => ?_)
    · show BX10_takeOn_6 (nI c) (nI (chK s (ne r))) (nI W) (mrow m 122 ρ) rec (nI (lsum (wE r) (nuF s (ne r)) c i), nI i) = rec (nI (lsum (wE r) (nuF s (ne r)) c (i + 1)), nI (i + 1))
      have ci : (nI i).toNatClampNeg = i := ncl (by omega)
      have hdi := dg_lt c i
      have hne := (n1 i hi).1
      dsimp only [BX10_takeOn_6]
      simp only [ci, g2 i hi]
      rw [if_neg (n_ngt hi (by omega)), m_digit ⟨g1, g2, g3, g4⟩ (by omega) (by omega), bs]
      by_cases y : dg c i = 1
      · rw [if_pos (by rw [y]; rfl), if_pos (inb_t (by omega) (by omega)), mp g1 hw hne, bs, nadd, nI_1]
        rw [show lsum (wE r) (nuF s (ne r)) c (i + 1) = lsum (wE r) (nuF s (ne r)) c i + wE r (nuF s (ne r) i) from if_pos y]
        rfl
      · rw [if_neg (by rw [L1, neq (by omega) (by omega)]; exact y), add0, nI_1]
        rw [show lsum (wE r) (nuF s (ne r)) c (i + 1) = lsum (wE r) (nuF s (ne r)) c i from if_neg y]
    · show BX10_takeOn_6 (nI c) (nI (chK s (ne r))) (nI W) (mrow m 122 ρ) rec (nI (lsum (wE r) (nuF s (ne r)) c (chK s (ne r))), nI (chK s (ne r))) = _
      dsimp only [BX10_takeOn_6]
      rw [if_pos (n_ge (Nat.le_refl _) (by omega))]
  obtain ⟨o, ⟨ρ', T', o1, o2, o3, o4, o5⟩, e⟩ := lp_inv (Bf := BX10_takeOn_53 (nI c) (nI (chK s (ne r))) (nI W) (nI (lsum (wE r) (nuF s (ne r)) c (chK s (ne r))))) (s0 := (0, mrow m 122 ρ)) (fun i st => st.1 = nI i ∧ ∃ ρ' T', st.2 = mrow m 122 ρ' ∧ TB ρ' (3 ^ chK s (ne r)) T' ∧ ((∀ x p, T' x p ≤ T x p) ∧ ∀ x p, x ≤ c → T' x p = T x p) ∧ Snd (aE r) (bE r) (wE r) (Ds r kd) W s0 (nuF s (ne r)) (chK s (ne r)) T' ∧ ∀ j, j < i → dg c j = 0 → lsum (wE r) (nuF s (ne r)) c (chK s (ne r)) + wE r (nuF s (ne r) j) ≤ W → T' (c + 3 ^ j) (aE r (nuF s (ne r) j)) ≤ T c (aE r (nuF s (ne r) j))) (fun o => ∃ ρ' T', o.2 = mrow m 122 ρ' ∧ TB ρ' (3 ^ chK s (ne r)) T' ∧ (∀ x p, T' x p ≤ T x p) ∧ Snd (aE r) (bE r) (wE r) (Ds r kd) W s0 (nuF s (ne r)) (chK s (ne r)) T' ∧ ∀ j, j < chK s (ne r) → dg c j = 0 → lsum (wE r) (nuF s (ne r)) c (chK s (ne r)) + wE r (nuF s (ne r) j) ≤ W → T' (c + 3 ^ j) (aE r (nuF s (ne r) j)) ≤ T c (aE r (nuF s (ne r) j))) (N := chK s (ne r)) (by omega) (fun i hi st hI rec => by
      obtain ⟨s1, s2⟩ := st
      obtain ⟨i1, ρ', T', i2, i3, ⟨i4, i4'⟩, i5, i6⟩ := hI
      have i1 : s1 = nI i := i1
      have i2 : s2 = mrow m 122 ρ' := i2
      subst i1
      subst i2
      have hG := RG_mrow h ρ'
      obtain ⟨g1, g2, g3, g4⟩ := hG
      have hle' : ∀ x p, T' x p ≤ 1000000 := fun x p => Nat.le_trans (i4 x p) (hle x p)
      have ci : (nI i).toNatClampNeg = i := ncl (by omega)
      have hdi := dg_lt c i
      have hne := (n1 i hi).1
      have hwi := hwn i hi
      have hlk := hls _ (Nat.le_refl _)
      have hal := aE_lt r (nuF s (ne r) i)
      have ea : eF r (nuF s (ne r) i) 1 = aE r (nuF s (ne r) i) := (aE_eq hw hne).symm
      have ew : eF r (nuF s (ne r) i) 0 = wE r (nuF s (ne r) i) := rfl
      have cx : (nI (7 * c + aE r (nuF s (ne r) i))).toNatClampNeg = 7 * c + aE r (nuF s (ne r) i) := ncl (by omega)
      have e122 : mrow m 122 ρ' 122 (7 * c + aE r (nuF s (ne r) i)) = nI (T' c (aE r (nuF s (ne r) i))) := by rw [mrow_at]; exact i3 c _ hc hal
      left
      have pre : BX10_takeOn_53 (nI c) (nI (chK s (ne r))) (nI W) (nI (lsum (wE r) (nuF s (ne r)) c (chK s (ne r)))) rec (nI i, mrow m 122 ρ') = (if dg c i = 0 ∧ lsum (wE r) (nuF s (ne r)) c (chK s (ne r)) + wE r (nuF s (ne r) i) ≤ W then Option.bind (FX10_shorter (nI (c + 3 ^ i)) (nI (aE r (nuF s (ne r) i))) (nI (T' c (aE r (nuF s (ne r) i)))) (mrow m 122 ρ')) (fun q14 => rec (nI (i + 1), q14)) else rec (nI (i + 1), mrow m 122 ρ')) := by
        dsimp only [BX10_takeOn_53]
        simp only [ci, g2 i hi, g3 i (show i < 6 by omega)]
        rw [if_neg (n_ngt hi (by omega)), if_pos (inb_t (by omega) (by omega)), ma g1 hw hne, bs, m_digit ⟨g1, g2, g3, g4⟩ (by omega) (by omega), bs]
        by_cases y0 : dg c i = 0
        · rw [if_pos (by rw [y0]; rfl), if_pos (inb_t (by omega) (by omega)), mp g1 hw hne, bs, ea, ew, nadd, nI_1]
          by_cases y1 : lsum (wE r) (nuF s (ne r)) c (chK s (ne r)) + wE r (nuF s (ne r) i) ≤ W
          · rw [if_neg (by rw [nlt (by omega) (by omega)]; omega), if_pos (inb_t (by omega) (by omega)), if_pos (show dg c i = 0 ∧ lsum (wE r) (nuF s (ne r)) c (chK s (ne r)) + wE r (nuF s (ne r) i) ≤ W from ⟨y0, y1⟩)]
            simp only [j7, cx, e122, nadd]
            rw [if_pos (inb_t (by omega) (by omega))]
          · rw [if_pos (by rw [nlt (by omega) (by omega)]; omega), if_neg (fun q => y1 q.2)]
        · rw [if_neg (by rw [L0, neq (by omega) (by omega)]; exact y0), nI_1, if_neg (fun q => y0 q.1)]
      rw [pre]
      by_cases y : dg c i = 0 ∧ lsum (wE r) (nuF s (ne r)) c (chK s (ne r)) + wE r (nuF s (ne r) i) ≤ W
      · have hx3 := dg_ul (show chK s (ne r) < 6 by omega) hc hi (show dg c i < 2 by omega)
        have hpp := p3p i
        have hcv := hle' c (aE r (nuF s (ne r) i))
        refine ⟨(nI (i + 1), mrow m 122 (upd ρ' (7 * (c + 3 ^ i) + aE r (nuF s (ne r) i)) (nI (min (T' (c + 3 ^ i) (aE r (nuF s (ne r) i))) (T' c (aE r (nuF s (ne r) i))))))), ⟨rfl, _, TU T' (c + 3 ^ i) (aE r (nuF s (ne r) i)) (min (T' (c + 3 ^ i) (aE r (nuF s (ne r) i))) (T' c (aE r (nuF s (ne r) i)))), rfl, TB_up i3 hal _, ⟨fun x p => Nat.le_trans (TU_le (Nat.min_le_left _ _) x p) (i4 x p), fun x p hx => ?_⟩, ?_, fun j hj => ?_⟩, by rw [if_pos y, m_shorter i3 h3 hle' hx3 hal (by omega), bs]⟩
        · rw [TU_ne (fun z => by omega)]; exact i4' x p hx
        · refine Snd_TU i5 (fun hv => ?_)
          by_cases z : T' (c + 3 ^ i) (aE r (nuF s (ne r) i)) ≤ T' c (aE r (nuF s (ne r) i))
          · rw [Nat.min_eq_left z] at hv ⊢
            exact i5 _ _ hx3 hal hv
          · rw [Nat.min_eq_right (by omega)] at hv ⊢
            exact R_take hd (by omega) hin n8 hc hi y.1 y.2 (i5 _ _ hc hal hv)
        · by_cases z : j = i
          · subst z
            intro _ _
            rw [TU_at, i4' c _ (Nat.le_refl _)]
            exact Nat.min_le_right _ _
          · intro a1 a2
            exact Nat.le_trans (TU_le (Nat.min_le_left _ _) _ _) (i6 j (by omega) a1 a2)
      · refine ⟨(nI (i + 1), mrow m 122 ρ'), ⟨rfl, ρ', T', rfl, i3, ⟨i4, i4'⟩, i5, fun j hj a1 a2 => ?_⟩, by rw [if_neg y]⟩
        by_cases z : j = i
        · subst z; exact absurd ⟨a1, a2⟩ y
        · exact i6 j (by omega) a1 a2)
    (fun st hI rec => by
      obtain ⟨s1, s2⟩ := st
      obtain ⟨i1, ρ', T', i2, i3, ⟨i4, i4'⟩, i5, i6⟩ := hI
      have i1 : s1 = nI (chK s (ne r)) := i1
      have i2 : s2 = mrow m 122 ρ' := i2
      subst i1
      subst i2
      refine ⟨(nI (chK s (ne r)), mrow m 122 ρ'), ⟨ρ', T', rfl, i3, i4, i5, i6⟩, ?_⟩
      dsimp only [BX10_takeOn_53]
      rw [if_pos (n_ge (Nat.le_refl _) (by omega))])
    ⟨rfl, ρ, T, rfl, hT, ⟨fun _ _ => Nat.le_refl _, fun _ _ _ => rfl⟩, hsn, fun j hj => absurd hj (Nat.not_lt_zero _)⟩
  refine ⟨ρ', T', ?_, o2, o3, o4, o5⟩
  unfold FX10_takeOn
  rw [in1, bs, e, bs, o1]
/-- the reference's answer: a round -/
theorem m_roundOf (hm : m 117 = r) (hw : Wf r) (hpw : ∀ i, i < 6 → m 124 i = nI (3 ^ i)) {c : Nat} (hc : c < nc r) (hs2 : s < 2 ^ ne r) (hs' : s < 256) (hp : pcn s ≤ 5) : ∃ m', FX10_roundOf (nI c) (nI s) m = some (nI (RV r (cF r c 0) (bc r c) (cF r c 1) s), m') ∧ (∀ a, a ≠ 121 → a ≠ 122 → a ≠ 123 → m' a = m a) ∧ m' 121 = tb 49 (flat (Ds r (cF r c 0))) (m 121) := by
  have h8 := ne_eq hw
  have h6 := nc_eq hw
  have hk5 := chK_le hp h8.2
  have hin := nu_inj s (ne r)
  obtain ⟨n1, n2, n3⟩ := nu_all s (ne r)
  have hkd := (cK hw hc).2
  have hd := Ds_Dm hw (cF r c 0)
  have h3 := p3k (show chK s (ne r) < 6 by omega)
  have h3p := p3p (chK s (ne r))
  have hP := cP hw hc
  have hbc := bc_le hw hc
  have e1 : mrow m 121 (tb 49 (flat (Ds r (cF r c 0))) (m 121)) 117 = r := by rw [mrow_ne (by omega)]; exact hm
  have e4 : ∀ i, i < 6 → mrow m 121 (tb 49 (flat (Ds r (cF r c 0))) (m 121)) 124 i = nI (3 ^ i) := fun i hi => by rw [mrow_ne (by omega)]; exact hpw i hi
  have e21 : ∀ p q, p < 7 → q < 7 → mrow m 121 (tb 49 (flat (Ds r (cF r c 0))) (m 121)) 121 (7 * p + q) = nI (Ds r (cF r c 0) p q) := fun p q hp hq => by
    rw [mrow_at, tb_get (by omega)]
    unfold flat
    rw [(dm7 hq).1, (dm7 hq).2]
  have hmm : ∀ a, a ≠ 121 → mrow m 121 (tb 49 (flat (Ds r (cF r c 0))) (m 121)) a = m a := fun a ha => mrow_ne ha _
  have hm21 : mrow m 121 (tb 49 (flat (Ds r (cF r c 0))) (m 121)) 121 = tb 49 (flat (Ds r (cF r c 0))) (m 121) := mrow_at _ _ _
  have start : FX10_roundOf (nI c) (nI s) m = Option.bind (FX10_bears (nI c) (mrow m 121 (tb 49 (flat (Ds r (cF r c 0))) (m 121)))) (fun q3 => Option.bind (lp (BX10_roundOf_22 (nI c) (nI s) q3) FU (0, 0, (mrow m 121 (tb 49 (flat (Ds r (cF r c 0))) (m 121))))) (fun q22_7 => (if inb q22_7.1 6 then Option.bind (lp (BX10_roundOf_75 (nI c) (nI s) q3 q22_7.1 ((q22_7.2.2 124 (q22_7.1).toNatClampNeg) - 1)) FU (0, q22_7.2.2)) (fun q75_12 => Option.bind (FX10_cIs (nI c) 1 q75_12.2) (fun q13 => (if inb q13 1701 then Option.bind (lp (BX10_roundOf_120 (nI c) (nI s) q3 q22_7.1 ((q22_7.2.2 124 (q22_7.1).toNatClampNeg) - 1)) FU (0, (mst q75_12.2 122 (q13).toNatClampNeg 0))) (fun q120_18 => Option.bind (lp (BX10_roundOf_157 (nI c) (nI s) q3 q22_7.1 ((q22_7.2.2 124 (q22_7.1).toNatClampNeg) - 1) q120_18.2) FU (1000000, 0)) (fun q157_21 => some (q157_21.1, q120_18.2))) else none))) else none))) := by
    unfold FX10_roundOf
    rw [mK hm hw hc, bs, m_findFar hm hw hkd, bs]
  generalize mrow m 121 (tb 49 (flat (Ds r (cF r c 0))) (m 121)) = m1 at *
  obtain ⟨o, ⟨o1, ρ0, o2, o3⟩, e⟩ := lp_inv (Bf := BX10_roundOf_22 (nI c) (nI s) (nI (bc r c))) (s0 := (0, 0, m1)) (fun e st => st.1 = nI (chK s e) ∧ st.2.1 = nI e ∧ ∃ ρ, st.2.2 = mrow m1 123 ρ ∧ ∀ i, i < chK s e → ρ i = nI (nuF s e i)) (fun o => o.1 = nI (chK s (ne r)) ∧ ∃ ρ, o.2.2 = mrow m1 123 ρ ∧ ∀ i, i < chK s (ne r) → ρ i = nI (nuF s (ne r) i)) (N := ne r) (by omega) (fun e he st hI rec => by
      obtain ⟨s1, s2, s3⟩ := st
      obtain ⟨i1, i2, ρ, i3, i4⟩ := hI
      have i1 : s1 = nI (chK s e) := i1
      have i2 : s2 = nI e := i2
      have i3 : s3 = mrow m1 123 ρ := i3
      subst i1
      subst i2
      subst i3
      have e117 : mrow m1 123 ρ 117 43 = nI (ne r) := by rw [mrow_ne (by omega), e1]; exact h8.1
      left
      by_cases y : hs s e = true
      · have c5 := chK_le hp (show e + 1 ≤ 8 by omega)
        rw [chK_up y] at c5
        have cK' : (nI (chK s e)).toNatClampNeg = chK s e := ncl (by omega)
        have en : nuF s (e + 1) = stf (nuF s e) (chK s e) e := if_pos y
        refine ⟨(nI (chK s (e + 1)), nI (e + 1), mrow m1 123 (upd ρ (chK s e) (nI e))), ⟨rfl, rfl, _, rfl, fun i hi => ?_⟩, ?_⟩
        · rw [chK_up y] at hi
          rw [en]
          by_cases q : i = chK s e
          · subst q
            rw [pk_us, show stf (nuF s e) (chK s e) e (chK s e) = e from if_pos rfl]
          · rw [pk_un q, show stf (nuF s e) (chK s e) e i = nuF s e i from if_neg q]
            exact i4 i (by omega)
        · dsimp only [BX10_roundOf_22]
          simp only [e117, cK']
          rw [if_neg (n_ngt he (by omega)), nhas2 hs' (by omega), b2, if_pos y, if_pos (inb_t (by omega) (by omega)), mst_mrow, nI_1, nI_1, chK_up y]
      · refine ⟨(nI (chK s (e + 1)), nI (e + 1), mrow m1 123 ρ), ⟨rfl, rfl, ρ, rfl, fun i hi => ?_⟩, ?_⟩
        · rw [chK_no y] at hi
          rw [show nuF s (e + 1) = nuF s e from if_neg y]
          exact i4 i hi
        · dsimp only [BX10_roundOf_22]
          simp only [e117]
          rw [if_neg (n_ngt he (by omega)), nhas2 hs' (by omega), b2, if_neg y, nI_1, chK_no y])
    (fun st hI rec => by
      obtain ⟨s1, s2, s3⟩ := st
      obtain ⟨i1, i2, ρ, i3, i4⟩ := hI
      have i2 : s2 = nI (ne r) := i2
      have i3 : s3 = mrow m1 123 ρ := i3
      subst i2
      subst i3
      have e117 : mrow m1 123 ρ 117 43 = nI (ne r) := by rw [mrow_ne (by omega), e1]; exact h8.1
      refine ⟨(s1, nI (ne r), mrow m1 123 ρ), ⟨i1, ρ, rfl, i4⟩, ?_⟩
      dsimp only [BX10_roundOf_22]
      simp only [e117]
      rw [if_pos (n_ge (Nat.le_refl _) (by omega))])
    ⟨rfl, rfl, m1 123, (mrow_self m1 123).symm, fun i hi => absurd hi (Nat.not_lt_zero _)⟩
  have hG : RG (mrow m1 123 ρ0) r (cF r c 0) s := by
    unfold RG
    rw [mrow_ne (show 117 ≠ 123 by omega), mrow_at, mrow_ne (show 124 ≠ 123 by omega), mrow_ne (show 121 ≠ 123 by omega)]
    exact ⟨e1, o3, e4, e21⟩
  have hother : ∀ a, a ≠ 123 → mrow m1 123 ρ0 a = m1 a := fun a ha => mrow_ne ha _
  rw [start, m_bears e1 hw hc, bs, e, bs, o1, o2]
  generalize mrow m1 123 ρ0 = m2 at *
  obtain ⟨g1, g2, g3, g4⟩ := hG
  have ck : (nI (chK s (ne r))).toNatClampNeg = chK s (ne r) := ncl (by omega)
  have cp : (nI (cF r c 1)).toNatClampNeg = cF r c 1 := ncl (by omega)
  have elast : nI (3 ^ chK s (ne r)) - 1 = nI (3 ^ chK s (ne r) - 1) := by
    rw [show 3 ^ chK s (ne r) = (3 ^ chK s (ne r) - 1) + 1 by omega, nI_pred, Nat.add_sub_cancel]
  simp only [ck, g3 _ (show chK s (ne r) < 6 by omega), elast]
  have fill : ∀ v5, lp (BX10_roundOf_75 (nI c) (nI s) (nI (bc r c)) (nI (chK s (ne r))) v5) FU (0, m2) = some (nI (7 * 3 ^ chK s (ne r)), mrow m2 122 (tb (7 * 3 ^ chK s (ne r)) (fun _ => 1000000) (m2 122))) := by
    intro v5
    have h0 : (fun i => (nI i, mrow m2 122 (tb i (fun _ => 1000000) (m2 122)))) 0 = (0, m2) := by
      show (nI 0, mrow m2 122 (tb 0 (fun _ => 1000000) (m2 122))) = (0, m2)
      rw [tb_0, mrow_self]; rfl
    rw [← h0]
    refine lp_for (BX10_roundOf_75 (nI c) (nI s) (nI (bc r c)) (nI (chK s (ne r))) v5) (fun i => (nI i, mrow m2 122 (tb i (fun _ => 1000000) (m2 122)))) _ (7 * 3 ^ chK s (ne r)) (by omega) (fun i hi rec => ?_) (fun rec => ?_)
    · show BX10_roundOf_75 (nI c) (nI s) (nI (bc r c)) (nI (chK s (ne r))) v5 rec (nI i, mrow m2 122 (tb i (fun _ => 1000000) (m2 122))) = rec (nI (i + 1), mrow m2 122 (tb (i + 1) (fun _ => 1000000) (m2 122)))
      have ci : (nI i).toNatClampNeg = i := ncl (by omega)
      have eg := tb_grow i (fun _ => 1000000) (m2 122)
      have e124 : mrow m2 122 (tb i (fun _ => 1000000) (m2 122)) 124 (chK s (ne r)) = nI (3 ^ chK s (ne r)) := by rw [mrow_ne (by omega)]; exact g3 _ (by omega)
      dsimp only [BX10_roundOf_75]
      simp only [ck, e124]
      rw [if_pos (inb_t (by omega) (by omega)), L7, nmul, if_neg (n_ngt (by omega) (by omega)), if_pos (inb_t (by omega) (by omega)), ci, nI_1, LM, mst_mrow]
      exact congrArg (fun z => rec (nI (i + 1), mrow m2 122 z)) eg
    · show BX10_roundOf_75 (nI c) (nI s) (nI (bc r c)) (nI (chK s (ne r))) v5 rec (nI (7 * 3 ^ chK s (ne r)), mrow m2 122 (tb (7 * 3 ^ chK s (ne r)) (fun _ => 1000000) (m2 122))) = _
      have e124 : mrow m2 122 (tb (7 * 3 ^ chK s (ne r)) (fun _ => 1000000) (m2 122)) 124 (chK s (ne r)) = nI (3 ^ chK s (ne r)) := by rw [mrow_ne (by omega)]; exact g3 _ (by omega)
      dsimp only [BX10_roundOf_75]
      simp only [ck, e124]
      rw [if_pos (inb_t (by omega) (by omega)), L7, nmul, if_pos (n_ge (by omega) (by omega))]
  have hT0 : TB (upd (tb (7 * 3 ^ chK s (ne r)) (fun _ => 1000000) (m2 122)) (cF r c 1) 0) (3 ^ chK s (ne r)) (T0 (cF r c 1)) := by
    have hb : TB (tb (7 * 3 ^ chK s (ne r)) (fun _ => 1000000) (m2 122)) (3 ^ chK s (ne r)) (fun _ _ => 1000000) := fun x p hx hp => tb_get (by omega) _ _
    have := TB_up hb (x := 0) hP.2 0
    rw [Nat.mul_zero, Nat.zero_add] at this
    exact this
  have ePl : ∀ ρ, FX10_cIs (nI c) 1 (mrow m2 122 ρ) = some (nI (cF r c 1)) := fun ρ => mP (by rw [mrow_ne (by omega)]; exact g1) hw hc
  rw [if_pos (inb_t (by omega) (by omega)), fill, bs]
  dsimp only
  rw [ePl, bs]
  simp only [cp, mst_mrow]
  rw [if_pos (inb_t (by omega) (by omega))]
  obtain ⟨o', ⟨ρ, T, p1, p2, p3, p4, p5⟩, e'⟩ := lp_inv (Bf := BX10_roundOf_120 (nI c) (nI s) (nI (bc r c)) (nI (chK s (ne r))) (nI (3 ^ chK s (ne r) - 1))) (s0 := (0, mrow m2 122 (upd (tb (7 * 3 ^ chK s (ne r)) (fun _ => 1000000) (m2 122)) (cF r c 1) 0))) (fun x st => st.1 = nI x ∧ ∃ ρ T, st.2 = mrow m2 122 ρ ∧ TB ρ (3 ^ chK s (ne r)) T ∧ (∀ x p, T x p ≤ 1000000) ∧ Snd (aE r) (bE r) (wE r) (Ds r (cF r c 0)) (bc r c) (cF r c 1) (nuF s (ne r)) (chK s (ne r)) T ∧ HInv (aE r) (bE r) (wE r) (Ds r (cF r c 0)) (bc r c) (cF r c 1) (nuF s (ne r)) (chK s (ne r)) x T) (fun o => ∃ ρ T, o.2 = mrow m2 122 ρ ∧ TB ρ (3 ^ chK s (ne r)) T ∧ (∀ x p, T x p ≤ 1000000) ∧ Snd (aE r) (bE r) (wE r) (Ds r (cF r c 0)) (bc r c) (cF r c 1) (nuF s (ne r)) (chK s (ne r)) T ∧ HInv (aE r) (bE r) (wE r) (Ds r (cF r c 0)) (bc r c) (cF r c 1) (nuF s (ne r)) (chK s (ne r)) (3 ^ chK s (ne r) - 1) T) (N := 3 ^ chK s (ne r) - 1) (by omega) (fun x hx st hI rec => by
      obtain ⟨s1, s2⟩ := st
      obtain ⟨i1, ρ, T, i2, i3, i4, i5, i6⟩ := hI
      have i1 : s1 = nI x := i1
      have i2 : s2 = mrow m2 122 ρ := i2
      subst i1
      subst i2
      left
      obtain ⟨ρ1, T1, k1, k2, ⟨k3, k4, k5⟩, k6⟩ := m_walkOn ⟨g1, g2, g3, g4⟩ hw hp i3 i4 i5 (show x < 3 ^ chK s (ne r) by omega)
      have hle1 : ∀ y p, T1 y p ≤ 1000000 := fun y p => Nat.le_trans (k3 y p) (i4 y p)
      obtain ⟨ρ2, T2, j1, j2, j3, j4, j5⟩ := m_takeOn ⟨g1, g2, g3, g4⟩ hw hp (show bc r c < 1000 by omega) k2 hle1 k5 (show x < 3 ^ chK s (ne r) by omega)
      refine ⟨(nI (x + 1), mrow m2 122 ρ2), ⟨rfl, ρ2, T2, rfl, j2, fun y p => Nat.le_trans (j3 y p) (hle1 y p), j4, ?_⟩, ?_⟩
      · exact H_step (fun y p => Nat.le_trans (j3 y p) (k3 y p)) (M_clo (show chK s (ne r) < 6 by omega) hin (fun i hi => by have := (n1 i hi).1; omega) k6 (aE_lt r) (bE_lt r) j3 j5) i6
      · dsimp only [BX10_roundOf_120]
        rw [if_neg (n_ngt hx (by omega)), k1, bs, j1, bs, nI_1])
    (fun st hI rec => by
      obtain ⟨s1, s2⟩ := st
      obtain ⟨i1, ρ, T, i2, i3⟩ := hI
      have i1 : s1 = nI (3 ^ chK s (ne r) - 1) := i1
      have i2 : s2 = mrow m2 122 ρ := i2
      subst i1
      subst i2
      refine ⟨(nI (3 ^ chK s (ne r) - 1), mrow m2 122 ρ), ⟨ρ, T, rfl, i3⟩, ?_⟩
      dsimp only [BX10_roundOf_120]
      rw [if_pos (n_ge (Nat.le_refl _) (by omega))])
    ⟨rfl, _, _, rfl, hT0, T0_le, T0_Snd hd, T0 (cF r c 1), fun _ _ _ => rfl, TU_at _ _ _ _, fun c hc => absurd hc (Nat.not_lt_zero _)⟩
  rw [e', bs, p1]
  have hIs := H_done hd (aE_lt r) (bE_lt r) hP.2 (show chK s (ne r) < 6 by omega) hin p4 p5 (S := s) (fun e he => n3 e (hs_lt hs2 he) he) (fun i hi => (n1 i hi).2)
  have hval : mn7 (T (3 ^ chK s (ne r) - 1)) 7 = RV r (cF r c 0) (bc r c) (cF r c 1) s := IsR_eq hIs (rv_is _ _ _ _ _ _ _)
  refine ⟨mrow m2 122 ρ, ?_, fun a a1 a2 a3 => by rw [mrow_ne a2, hother a a3, hmm a a1], by rw [mrow_ne (by omega), hother 121 (by omega), hm21]⟩
  rw [← hval]
  refine lp_bind (mn7_lp (f := T (3 ^ chK s (ne r) - 1)) (fun p => p3 _ p) (fun p hp a rec => ?_) (fun a rec => ?_)) rfl
  · have cx : (nI (7 * (3 ^ chK s (ne r) - 1) + p)).toNatClampNeg = 7 * (3 ^ chK s (ne r) - 1) + p := ncl (by omega)
    have e122 : mrow m2 122 ρ 122 (7 * (3 ^ chK s (ne r) - 1) + p) = nI (T (3 ^ chK s (ne r) - 1) p) := by rw [mrow_at]; exact p2 _ p (by omega) hp
    dsimp only [BX10_roundOf_157]
    simp only [j7, cx, e122]
    rw [if_neg (by rw [L7]; exact n_ngt hp (by omega)), if_pos (inb_t (by omega) (by omega))]
  · dsimp only [BX10_roundOf_157]
    rw [if_pos (by rw [L7]; exact n_ge (Nat.le_refl _) (by omega))]
end RND2
