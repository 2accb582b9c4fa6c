/-! the calls cheapest and which -/
section EARN2
variable {u m : Mem} {r : Nat → Int32} {B : Nat}
theorem ni_lt {a p e : Nat} (ha : a < 1073741824) (hp : p < 1073741824) (he : e < 1073741824) : (nI a < nI p - nI e) = (a + e < p) := by
  apply propext
  rw [Int32.lt_iff_toInt_lt, pk_sub_toInt (by omega) (by omega), nI_toInt (by omega)]
  omega
theorem c_ableSet (h : Rep u B r) (hw : Wf r) {c : Nat} (hc : c < nc r) : FX2_ableSet B (nI c) u = some (nI (abS r c)) := by
  have h6 := nc_eq hw
  have h8 := ne_eq hw
  have hbl := bc_le hw hc
  refine lp_bind (set_loop (abP r c) (n := ne r) (by omega) (fun k hk a rec => ?_) (fun a rec => ?_)) rfl
  · have ck : (nI k).toNatClampNeg = k := ncl (by omega)
    have cc : (nI c).toNatClampNeg = c := ncl (by omega)
    have hh := (eH hw hk).2
    have hp := (eW hw hk).2
    dsimp only [BX2_ableSet_4]
    simp only [ck, cc, qh h hw hk, qp h hw hk, c_canBear h hw hc]
    rw [if_neg (by rw [q6 h hw]; exact n_ngt hk (by omega)), if_pos (inb_t (by omega) (by omega))]
    by_cases y0 : eF r k 3 = 0
    · rw [if_pos (by rw [y0]; rfl), if_pos (inb_t (by omega) (by omega))]
      by_cases y1 : eF r k 0 ≤ bc r c
      · rw [if_neg (by rw [nlt (by omega) (by omega)]; omega)]
        rcases c_canBoth h hw hc hk with ⟨b1, b2⟩ | ⟨b1, b2⟩
        · rw [b2, bs, if_neg (by decide), if_pos (abP_iff.mpr ⟨y0, y1, b1⟩)]
        · rw [b2, bs, if_pos rfl, if_neg (fun q => b1 (abP_iff.mp q).2.2)]
      · rw [if_pos (by rw [nlt (by omega) (by omega)]; omega), if_neg (fun q => y1 (abP_iff.mp q).2.1)]
    · rw [if_neg (by rw [L0, neq (by omega) (by omega)]; exact y0), if_neg (fun q => y0 (abP_iff.mp q).1)]
  · dsimp only [BX2_ableSet_4]
    rw [if_pos (by rw [q6 h hw]; exact n_ge (Nat.le_refl _) (by omega))]
theorem c_paysJust (h : Rep u B r) (hw : Wf r) {c w S : Nat} (hc : c < nc r) (hwr : w < nw r) (hS : S < 256) : (pjP r c w S ∧ FX2_paysJust B (nI c) (nI S) (nI (wF' r w) - nI (cF r c 3)) u = some 1) ∨ (¬ pjP r c w S ∧ FX2_paysJust B (nI c) (nI S) (nI (wF' r w) - nI (cF r c 3)) u = some 0) := by
  have h8 := ne_eq hw
  have hp := (wP hw hwr).2
  have he := (cE hw hc).2.2
  have hpl := paS_le hw (cF r c 0) S
  have hml := mnS_le (hs S) (payE r (cF r c 0)) (ne r)
  have lpe : lp (BX2_paysJust_24 B (nI c) (nI S) (nI (wF' r w) - nI (cF r c 3)) u) FU (0, 1000000, 0) = some (nI (paS r (cF r c 0) S), nI (mnS (hs S) (payE r (cF r c 0)) (ne r)), nI (ne r)) := by
    refine lp_for (BX2_paysJust_24 B (nI c) (nI S) (nI (wF' r w) - nI (cF r c 3)) u) (fun k => (nI (sumS (hs S) (payE r (cF r c 0)) k), nI (mnS (hs S) (payE r (cF r c 0)) k), nI k)) _ (ne r) (by omega) (fun k hk rec => ?_) (fun rec => ?_)
    · show BX2_paysJust_24 B (nI c) (nI S) (nI (wF' r w) - nI (cF r c 3)) u rec (nI (sumS (hs S) (payE r (cF r c 0)) k), nI (mnS (hs S) (payE r (cF r c 0)) k), nI k) = rec (nI (sumS (hs S) (payE r (cF r c 0)) (k + 1)), nI (mnS (hs S) (payE r (cF r c 0)) (k + 1)), nI (k + 1))
      have hm2 := mnS_le (hs S) (payE r (cF r c 0)) k
      have hpe := payE_le hw (k := cF r c 0) hk
      dsimp only [BX2_paysJust_24]
      rw [if_neg (by rw [q6 h hw]; exact n_ngt hk (by omega)), nhas hS (by omega), b2]
      by_cases y : hs S k = true
      · rw [if_pos y, c_payFor h hw hc hk, bs, nadd, nmin (by omega) (by omega), nI_1, show sumS (hs S) (payE r (cF r c 0)) (k + 1) = sumS (hs S) (payE r (cF r c 0)) k + payE r (cF r c 0) k from if_pos y, show mnS (hs S) (payE r (cF r c 0)) (k + 1) = min (mnS (hs S) (payE r (cF r c 0)) k) (payE r (cF r c 0) k) from if_pos y]
      · rw [if_neg y, nI_1, show sumS (hs S) (payE r (cF r c 0)) (k + 1) = sumS (hs S) (payE r (cF r c 0)) k from if_neg y, show mnS (hs S) (payE r (cF r c 0)) (k + 1) = mnS (hs S) (payE r (cF r c 0)) k from if_neg y]
    · show BX2_paysJust_24 B (nI c) (nI S) (nI (wF' r w) - nI (cF r c 3)) u rec (nI (sumS (hs S) (payE r (cF r c 0)) (ne r)), nI (mnS (hs S) (payE r (cF r c 0)) (ne r)), nI (ne r)) = _
      dsimp only [BX2_paysJust_24]
      rw [if_pos (by rw [q6 h hw]; exact n_ge (Nat.le_refl _) (by omega))]
      rfl
  unfold FX2_paysJust
  rw [lpe, bs]
  by_cases z : wF' r w ≤ cF r c 3
  · rw [if_neg (by rw [L0, ni_lt (by omega) (by omega) (by omega)]; omega)]
    by_cases y : S = 0
    · rw [if_pos (by rw [y]; rfl)]
      exact Or.inl ⟨Or.inl ⟨z, y⟩, rfl⟩
    · rw [if_neg (nI_ne0 (by omega) (by omega))]
      refine Or.inr ⟨fun q => ?_, rfl⟩
      rcases q with q | q
      · exact y q.2
      · omega
  · rw [if_pos (by rw [L0, ni_lt (by omega) (by omega) (by omega)]; omega)]
    by_cases y1 : wF' r w ≤ cF r c 3 + paS r (cF r c 0) S
    · rw [if_neg (by rw [ni_lt (by omega) (by omega) (by omega)]; omega)]
      have hle : (nI (wF' r w) - nI (cF r c 3) ≤ nI (paS r (cF r c 0) S) - nI (mnS (hs S) (payE r (cF r c 0)) (ne r))) = (wF' r w + mnS (hs S) (payE r (cF r c 0)) (ne r) ≤ cF r c 3 + paS r (cF r c 0) S) := by
        apply propext
        rw [Int32.le_iff_toInt_le, pk_sub_toInt (by omega) (by omega), pk_sub_toInt (by omega) (by omega)]
        omega
      by_cases y2 : cF r c 3 + paS r (cF r c 0) S < wF' r w + mnS (hs S) (payE r (cF r c 0)) (ne r)
      · rw [if_neg (by rw [hle]; omega)]
        exact Or.inl ⟨Or.inr ⟨by omega, y1, y2⟩, rfl⟩
      · rw [if_pos (by rw [hle]; omega)]
        refine Or.inr ⟨fun q => ?_, rfl⟩
        rcases q with q | q
        · omega
        · exact y2 q.2.2
    · rw [if_pos (by rw [ni_lt (by omega) (by omega) (by omega)]; omega)]
      refine Or.inr ⟨fun q => ?_, rfl⟩
      rcases q with q | q
      · omega
      · exact y1 q.2.1
theorem c_earn (h : Rep u 1 r) (hw : Wf r) {c w : Nat} (hc : c < nc r) (hwr : w < nw r) : ∃ u', FX9_shortestEarning (nI c) (nI w) u = some (nI (bm (eaP r c w) (RC r c) (fun p => p) (abS r c + 1)), u') ∧ RQ u u' := by
  have h6 := nc_eq hw
  have h8 := ne_eq hw
  have h9 := nw_eq hw
  have hpw := pw_le h8.2
  have hlt : abS r c < 2 ^ ne r := setS_lt _ _
  have cc : (nI c).toNatClampNeg = c := ncl (by omega)
  have cw : (nI w).toNatClampNeg = w := ncl (by omega)
  obtain ⟨o, ⟨o1, o2⟩, e⟩ := lp_inv (Bf := BX9_shortestEarning_44 (nI c) (nI w) (nI (wF' r w) - nI (cF r c 3)) (nI (abS r c))) (s0 := (256000000, 0, u)) (fun S st => st.1 = nI (bm (eaP r c w) (RC r c) (fun p => p) S) ∧ st.2.1 = nI S ∧ RQ u st.2.2) (fun o => o.1 = nI (bm (eaP r c w) (RC r c) (fun p => p) (abS r c + 1)) ∧ RQ u o.2.2) (N := abS r c + 1) (by omega) (fun S hS st hI rec => by
      obtain ⟨s1, s2, s3⟩ := st
      obtain ⟨i1, i2, i3⟩ := hI
      have i1 : s1 = nI (bm (eaP r c w) (RC r c) (fun p => p) S) := i1
      have i2 : s2 = nI S := i2
      subst i1
      subst i2
      have i3 : RQ u s3 := i3
      have R2 := RQ_Rep (by omega) i3 hw h
      have hb := bm_le (eaP r c w) (RC r c) (fun p => p) S
      have hv := RC_le r c S
      have hS2 : S < 256 := by omega
      obtain ⟨p1, p2, p3⟩ := pc_eq hS2
      left
      have no : ¬ eaP r c w S = true → bm (eaP r c w) (RC r c) (fun p => p) (S + 1) = bm (eaP r c w) (RC r c) (fun p => p) S := fun q => by rw [bm_up, if_neg q]
      by_cases y0 : ∀ e, hs S e = true → hs (abS r c) e = true
      · have t0 := (sub_bits (s := S) (l := abS r c) hS2 (by omega)).mpr y0
        by_cases y1 : pcn S ≤ 5
        · rcases c_paysJust R2 hw hc hwr hS2 with ⟨b1, b2⟩ | ⟨b1, b2⟩
          · have hyes : eaP r c w S = true := eaP_iff.mpr ⟨y0, y1, b1⟩
            obtain ⟨u', f1, f2, f3⟩ := c_RC R2 hw (by omega) hc (show S < 2 ^ ne r by omega) hS2 y1
            refine ⟨(nI (bm (eaP r c w) (RC r c) (fun p => p) (S + 1)), nI (S + 1), u'), ⟨rfl, rfl, RQ_trans i3 f2⟩, ?_⟩
            dsimp only [BX9_shortestEarning_44]
            rw [if_neg (by rw [nlt (by omega) (by omega)]; omega), if_pos t0, p2, if_neg (by rw [L5, nlt (by omega) (by omega)]; omega), b2, bs, if_neg (by decide), f1, bs]
            dsimp only
            rw [L256, nmul, nadd, nmin (by omega) (by omega), nI_1, bm_up, if_pos hyes]
          · refine ⟨(nI (bm (eaP r c w) (RC r c) (fun p => p) (S + 1)), nI (S + 1), s3), ⟨rfl, rfl, i3⟩, ?_⟩
            dsimp only [BX9_shortestEarning_44]
            rw [if_neg (by rw [nlt (by omega) (by omega)]; omega), if_pos t0, p2, if_neg (by rw [L5, nlt (by omega) (by omega)]; omega), b2, bs, if_pos rfl, nI_1, no (fun q => b1 (eaP_iff.mp q).2.2)]
        · refine ⟨(nI (bm (eaP r c w) (RC r c) (fun p => p) (S + 1)), nI (S + 1), s3), ⟨rfl, rfl, i3⟩, ?_⟩
          dsimp only [BX9_shortestEarning_44]
          rw [if_neg (by rw [nlt (by omega) (by omega)]; omega), if_pos t0, p2, if_pos (by rw [L5, nlt (by omega) (by omega)]; omega), nI_1, no (fun q => y1 (eaP_iff.mp q).2.1)]
      · have t0 : ¬ (nI S &&& (nI (abS r c) ^^^ (-1)) = 0) := fun q => y0 ((sub_bits (s := S) (l := abS r c) hS2 (by omega)).mp q)
        refine ⟨(nI (bm (eaP r c w) (RC r c) (fun p => p) (S + 1)), nI (S + 1), s3), ⟨rfl, rfl, i3⟩, ?_⟩
        dsimp only [BX9_shortestEarning_44]
        rw [if_neg (by rw [nlt (by omega) (by omega)]; omega), if_neg t0, nI_1, no (fun q => y0 (eaP_iff.mp q).1)])
    (fun st hI rec => by
      obtain ⟨s1, s2, s3⟩ := st
      obtain ⟨i1, i2, i3⟩ := hI
      have i2 : s2 = nI (abS r c + 1) := i2
      subst i2
      refine ⟨(s1, nI (abS r c + 1), s3), ⟨i1, i3⟩, ?_⟩
      dsimp only [BX9_shortestEarning_44]
      rw [if_pos (by rw [nlt (by omega) (by omega)]; omega)])
    ⟨rfl, rfl, RQ_refl u⟩
  refine ⟨o.2.2, ?_, o2⟩
  unfold FX9_shortestEarning
  rw [if_pos (inb_t (by omega) (by omega)), if_pos (inb_t (by omega) (by omega)), c_ableSet h hw hc, bs, cc, cw, qi h hw hwr, qE h hw hc, e, bs, o1]
theorem m_earn (hI : Inv u) (hm : m 117 = u 117) (h4 : m 124 = u 124) {c w : Nat} (hc : c < nc (u 117)) (hwr : w < nw (u 117)) : ∃ o, BQ m o.2 (ewP (u 117) c w) (RC (u 117) c) (fun p => p) (2 ^ ne (u 117)) 10 ∧ lp (BX10_refusesWare_58 (nI c) (nI w) (nI (eS (u 117) 0))) FU (0, (mst m 116 11 1000000)) = some o := by
  have hW := hI.2.1
  have h8 := ne_eq hW
  have h9 := nw_eq hW
  have hpw := pw_le h8.2
  have hp := (wP hW hwr).2
  have he := (cE hW hc).2.2
  have a0 : FX10_wAt (nI w) 0 = nI (126 + 2 * w + 0) := wAt_eq (f := 0)
  have cx : (nI (126 + 2 * w + 0)).toNatClampNeg = 126 + 2 * w + 0 := ncl (by omega)
  refine lp_inv (Bf := BX10_refusesWare_58 (nI c) (nI w) (nI (eS (u 117) 0))) (fun S st => st.1 = nI S ∧ BQ m st.2 (ewP (u 117) c w) (RC (u 117) c) (fun p => p) S 10) (fun o => BQ m o.2 (ewP (u 117) c w) (RC (u 117) c) (fun p => p) (2 ^ ne (u 117)) 10) (N := 2 ^ ne (u 117)) (by omega) (fun S hS st hIn rec => ?_) (fun st hIn rec => ?_) ⟨rfl, BQ_0 _ _ _ _ _⟩
  · obtain ⟨s1, s2⟩ := st
    obtain ⟨i1, i2⟩ := hIn
    have i1 : s1 = nI S := i1
    subst i1
    have i2 : BQ m s2 (ewP (u 117) c w) (RC (u 117) c) (fun p => p) S 10 := i2
    have q7 : s2 117 = u 117 := (Q3_7 i2.1).trans hm
    have q4 : s2 124 = u 124 := (Q3_4 i2.1).trans h4
    have hbl := bv_le (ewP (u 117) c w) (RC (u 117) c) S
    have hvl := RC_le (u 117) c S
    have hS2 : S < 256 := by omega
    obtain ⟨p1, p2, p3⟩ := pc_eq hS2
    have e43 : jshl 1 (s2 117 43) = nI (2 ^ ne (u 117)) := by rw [q7, h8.1, nshl1 (by omega)]
    have cond : ¬ jshl 1 (s2 117 43) ≤ nI S := by rw [e43]; exact n_ngt hS (by omega)
    left
    by_cases y0 : ∀ e, hs S e = true → hs (eS (u 117) 0) e = true
    · have t0 := (sub_bits (s := S) (l := eS (u 117) 0) hS2 (eS_lt hW 0)).mpr y0
      by_cases y1 : pcn S ≤ 5
      · obtain ⟨ρ, ⟨w1, w2⟩ | ⟨w1, w2⟩⟩ := m_getsOf q7 hW hc hS2
        · have hpl := paS_le hW (cF (u 117) c 0) S
          have q7' : mrow s2 121 ρ 117 = u 117 := by rw [mrow_ne (by omega)]; exact q7
          have q4' : mrow s2 121 ρ 124 = u 124 := by rw [mrow_ne (by omega)]; exact q4
          have hQ : Q3 s2 (mrow s2 121 ρ) := Q3_rd (fun a a1 _ _ => mrow_ne a1 _)
          have e16 : mrow s2 121 ρ 116 = s2 116 := mrow_ne (by omega) _
          have e11 : mrow s2 121 ρ 116 11 = nI (bv (ewP (u 117) c w) (RC (u 117) c) S) := by rw [e16]; exact i2.2.1
          have ewf : mrow s2 121 ρ 117 (126 + 2 * w + 0) = nI (wF' (u 117) w) := by rw [q7']; exact (wP hW hwr).1
          have pre : BX10_refusesWare_58 (nI c) (nI w) (nI (eS (u 117) 0)) rec (nI S, s2) = (if (nI (cF (u 117) c 3 + paS (u 117) (cF (u 117) c 0) S) < nI (wF' (u 117) w)) then JX10_refusesWare_130_58 (nI c) (nI w) (nI (eS (u 117) 0)) (nI S) (nI (paS (u 117) (cF (u 117) c 0) S)) (mrow s2 121 ρ) rec else JX10_refusesWare_131_58 (nI c) (nI w) (nI (eS (u 117) 0)) (nI S) (nI (paS (u 117) (cF (u 117) c 0) S)) 1 (mrow s2 121 ρ) rec) := by
            dsimp only [BX10_refusesWare_58]
            rw [if_neg cond, if_pos t0, p1, bs, if_neg (by rw [L5, nlt (by omega) (by omega)]; omega), w2, bs]
            dsimp only
            rw [if_neg (nI_pos (by omega)), mE q7' hW hc, bs]
            simp only [a0, cx, ewf, nadd]
            rw [if_pos (inb_t (by omega) (by omega))]
          by_cases y2 : wF' (u 117) w ≤ cF (u 117) c 3 + paS (u 117) (cF (u 117) c 0) S
          · have hyes : ewP (u 117) c w S = true := ewP_iff.mpr ⟨y0, y1, w1, y2⟩
            obtain ⟨m2, f1, f2, f3⟩ := m_RC q7' hW (Ms_pw hI q4') hc hS hS2 y1
            have e11' : m2 116 11 = nI (bv (ewP (u 117) c w) (RC (u 117) c) S) := by rw [f3]; exact e11
            have pre2 : BX10_refusesWare_58 (nI c) (nI w) (nI (eS (u 117) 0)) rec (nI S, s2) = if nI (bv (ewP (u 117) c w) (RC (u 117) c) S) ≤ nI (RC (u 117) c S) then rec (nI (S + 1), m2) else rec (nI (S + 1), mst (mst m2 116 11 (nI (RC (u 117) c S))) 116 10 (nI S)) := by
              rw [pre, if_neg (by rw [nlt (by omega) (by omega)]; omega)]
              unfold JX10_refusesWare_131_58
              rw [if_neg (by decide), f1, bs]
              dsimp only
              simp only [e11', nI_1]
            by_cases z : RC (u 117) c S < bv (ewP (u 117) c w) (RC (u 117) c) S
            · exact ⟨(nI (S + 1), mst (mst m2 116 11 (nI (RC (u 117) c S))) 116 10 (nI S)), ⟨rfl, BQ_yes (Or.inl rfl) i2 (Q3_trans hQ f2) ⟨hyes, z⟩⟩, by rw [pre2, if_neg (n_ngt z (by omega))]⟩
            · exact ⟨(nI (S + 1), m2), ⟨rfl, BQ_no i2 (Q3_trans hQ f2) (f3.trans e16) (fun q => z q.2)⟩, by rw [pre2, if_pos (n_ge (by omega) (by omega))]⟩
          · refine ⟨(nI (S + 1), mrow s2 121 ρ), ⟨rfl, BQ_no i2 hQ e16 (fun q => y2 (ewP_iff.mp q.1).2.2.2)⟩, ?_⟩
            rw [pre, if_pos (by rw [nlt (by omega) (by omega)]; omega)]
            unfold JX10_refusesWare_130_58 JX10_refusesWare_131_58
            simp only [e11, nI_1]
            rw [if_pos trivial, LM, if_pos (n_ge hbl (by omega))]
        · have hQ : Q3 s2 (mrow s2 121 ρ) := Q3_rd (fun a a1 _ _ => mrow_ne a1 _)
          have e16 : mrow s2 121 ρ 116 = s2 116 := mrow_ne (by omega) _
          have e11 : mrow s2 121 ρ 116 11 = nI (bv (ewP (u 117) c w) (RC (u 117) c) S) := by rw [e16]; exact i2.2.1
          refine ⟨(nI (S + 1), mrow s2 121 ρ), ⟨rfl, BQ_no i2 hQ e16 (fun q => w1 (ewP_iff.mp q.1).2.2.1)⟩, ?_⟩
          dsimp only [BX10_refusesWare_58]
          rw [if_neg cond, if_pos t0, p1, bs, if_neg (by rw [L5, nlt (by omega) (by omega)]; omega), w2, bs]
          dsimp only
          rw [if_pos (by decide)]
          unfold JX10_refusesWare_130_58 JX10_refusesWare_131_58
          simp only [e11, nI_1]
          rw [if_pos trivial, LM, if_pos (n_ge hbl (by omega))]
      · refine ⟨(nI (S + 1), s2), ⟨rfl, BQ_no i2 (Q3_refl _) rfl (fun q => y1 (ewP_iff.mp q.1).2.1)⟩, ?_⟩
        dsimp only [BX10_refusesWare_58]
        rw [if_neg cond, if_pos t0, p1, bs, if_pos (by rw [L5, nlt (by omega) (by omega)]; omega), nI_1]
    · have t0 : ¬ (nI S &&& (nI (eS (u 117) 0) ^^^ (-1)) = 0) := fun q => y0 ((sub_bits (s := S) (l := eS (u 117) 0) hS2 (eS_lt hW 0)).mp q)
      refine ⟨(nI (S + 1), s2), ⟨rfl, BQ_no i2 (Q3_refl _) rfl (fun q => y0 (ewP_iff.mp q.1).1)⟩, ?_⟩
      dsimp only [BX10_refusesWare_58]
      rw [if_neg cond, if_neg t0, nI_1]
  · obtain ⟨s1, s2⟩ := st
    obtain ⟨i1, i2⟩ := hIn
    have i1 : s1 = nI (2 ^ ne (u 117)) := i1
    subst i1
    have i2 : BQ m s2 (ewP (u 117) c w) (RC (u 117) c) (fun p => p) (2 ^ ne (u 117)) 10 := i2
    have q7 : s2 117 = u 117 := (Q3_7 i2.1).trans hm
    refine ⟨(nI (2 ^ ne (u 117)), s2), i2, ?_⟩
    dsimp only [BX10_refusesWare_58]
    rw [if_pos (by rw [q7, h8.1, nshl1 (by omega)]; exact n_ge (Nat.le_refl _) (by omega))]
theorem ware_cases (h : Inv u) (p1 p2 : Int32) : (∃ i, i < 7 ∧ FX9_buyingLack p1 p2 u = some (wv i) ∧ ∀ m, m 117 = u 117 → FX10_refusesWare p1 p2 m = some (wv i, m)) ∨ ∃ c w, c < nc (u 117) ∧ w < nw (u 117) ∧ p1 = nI c ∧ p2 = nI w ∧ FX9_buyingLack p1 p2 u = some 0 ∧ ∀ m, m 117 = u 117 → FX10_refusesWare p1 p2 m = Option.bind (lp (BX10_refusesWare_58 p1 p2 (nI (eS (u 117) 0))) FU (0, (mst m 116 11 1000000))) (fun q58_17 => (if (q58_17.2 116 11) < 1000000 then some (0, q58_17.2) else some ((-1000004), q58_17.2))) := by
  have hR := h.1.1
  have hW := h.2.1
  have h6 := nc_eq hW
  have h9 := nw_eq hW
  unfold FX9_buyingLack FX10_refusesWare
  rcases wi_cases p1 (n := nc (u 117)) (by omega) with ⟨g0, -⟩ | ⟨c, hc, rfl, g1⟩
  · exact Or.inl ⟨0, by omega, by rw [c_has hR hW, g0, if_pos rfl, w0], fun m hm => by rw [m_isC hm hW, g0, if_pos rfl, w0]⟩
  rcases wi_cases p2 (n := nw (u 117)) (by omega) with ⟨k0, -⟩ | ⟨w, hwr, rfl, k1⟩
  · exact Or.inl ⟨0, by omega, by rw [c_has hR hW, g1, if_neg (by decide), c_hasW hR hW, k0, if_pos rfl, w0], fun m hm => by rw [m_isC hm hW, g1, if_neg (by decide), m_isW hm hW, k0, if_pos rfl, w0]⟩
  have a1 : FX10_wAt (nI w) 1 = nI (126 + 2 * w + 1) := wAt_eq (f := 1)
  have cx : (nI (126 + 2 * w + 1)).toNatClampNeg = 126 + 2 * w + 1 := ncl (by omega)
  have cw : (nI w).toNatClampNeg = w := ncl (by omega)
  have wt := (wfH_neg (hW.2.2.2.2.2 w hwr).2 h6.2).2
  have kl := kS_lt hW c
  have eC : u (1 + 26 + w) 1 = u 117 (126 + 2 * w + 1) := qt hR hwr
  by_cases z : u 117 (126 + 2 * w + 1) = -1
  · by_cases y : kS (u 117) c = 0
    · refine Or.inr ⟨c, w, hc, hwr, rfl, rfl, ?_, fun m hm => ?_⟩
      · simp only [cw, eC]
        rw [c_has hR hW, g1, if_neg (by decide), c_hasW hR hW, k1, if_neg (by decide), if_pos (inb_t (by omega) (by omega)), if_pos z, c_carriedBy hR hW, bs, y, if_pos (by decide)]
      · have e7 : mst m 116 11 1000000 117 = u 117 := by rw [mst_k (by omega)]; exact hm
        simp only [a1, cx, hm]
        rw [m_isC hm hW, g1, if_neg (by decide), m_isW hm hW, k1, if_neg (by decide), if_pos (inb_t (by omega) (by omega)), if_neg (fun q => wt.mp q z), m_carries hm hW, bs, y, if_pos (by decide), L0, m_errandsThat e7 hW (by omega), bs]
    · refine Or.inl ⟨4, by omega, ?_, fun m hm => ?_⟩
      · simp only [cw, eC]
        rw [c_has hR hW, g1, if_neg (by decide), c_hasW hR hW, k1, if_neg (by decide), if_pos (inb_t (by omega) (by omega)), if_pos z, c_carriedBy hR hW, bs, if_neg (nI_ne0 (by omega) (by omega)), w4]
      · simp only [a1, cx, hm]
        rw [m_isC hm hW, g1, if_neg (by decide), m_isW hm hW, k1, if_neg (by decide), if_pos (inb_t (by omega) (by omega)), if_neg (fun q => wt.mp q z), m_carries hm hW, bs, if_neg (nI_ne0 (by omega) (by omega)), w4]
  · refine Or.inl ⟨4, by omega, ?_, fun m hm => ?_⟩
    · simp only [cw, eC]
      rw [c_has hR hW, g1, if_neg (by decide), c_hasW hR hW, k1, if_neg (by decide), if_pos (inb_t (by omega) (by omega)), if_neg z, w4]
    · simp only [a1, cx, hm]
      rw [m_isC hm hW, g1, if_neg (by decide), m_isW hm hW, k1, if_neg (by decide), if_pos (inb_t (by omega) (by omega)), if_pos (wt.mpr z), w4]
theorem s_cheapest (h : Inv u) (p1 p2 : Int32) : Same (FX9_cheapest p1 p2) (FX10_cheapest p1 p2) u := by
  rcases ware_cases h p1 p2 with ⟨i, hi, e1, e2⟩ | ⟨c, w, hc, hwr, rfl, rfl, e1, e2⟩
  · refine same_fin i hi rfl h (Qc_refl u) ?_ (fun m hm => ⟨m, Qm_refl m, ?_⟩)
    · unfold FX9_cheapest; rw [e1, bs, if_neg (wv_ne i hi), bind_eta]
    · unfold FX10_cheapest; rw [e2 m (hm117 hm), bs, if_neg (wv_ne i hi), bind_eta]
  have hW := h.2.1
  have hpw := pw_le (ne_eq hW).2
  obtain ⟨u', f1, f2⟩ := c_earn h.1.1 hW hc hwr
  rw [earn_same hW hc] at f1
  have hbm := bm_le (ewP (u 117) c w) (RC (u 117) c) (fun p => p) (2 ^ ne (u 117))
  have hbe := best_end (P := ewP (u 117) c w) (v := RC (u 117) c) (t := fun p => p) (n := 2 ^ ne (u 117)) (fun k hk _ => by omega) (fun j k hj _ _ _ => hj)
  refine same_if (c := bv (ewP (u 117) c w) (RC (u 117) c) (2 ^ ne (u 117)) < 1000000) (x := nI (bv (ewP (u 117) c w) (RC (u 117) c) (2 ^ ne (u 117)))) 3 (by omega) w3 h (RQ_Qc f2) ?_ (fun m hm => ?_)
  · unfold FX9_cheapest
    rw [e1, bs, if_pos rfl, f1, bs]
    dsimp only
    rw [bind_eta, L256, ndiv (by omega) (by omega) (by omega), c_orNone (by omega)]
    rcases hbe with ⟨b1, b2⟩ | ⟨b1, b2, b3, b4⟩
    · rw [b1, b2, if_neg (show ¬ 256000000 / 256 < 1000000 by omega)]
    · rw [b3]
  · obtain ⟨o, o1, oe⟩ := m_earn h (hm117 hm) (hm 124 (by omega)) hc hwr
    refine ⟨o.2, Q3_Qm o1.1, ?_⟩
    unfold FX10_cheapest
    rw [e2 m (hm117 hm), oe, bs, o1.2.1]
    by_cases z : bv (ewP (u 117) c w) (RC (u 117) c) (2 ^ ne (u 117)) < 1000000
    · rw [if_pos (by rw [LM, nlt (by omega) (by omega)]; exact z), if_pos z, bs, if_pos rfl, o1.2.1]
    · have := bv_le (ewP (u 117) c w) (RC (u 117) c) (2 ^ ne (u 117))
      rw [if_neg (by rw [LM, nlt (by omega) (by omega)]; exact z), if_neg z, bs]
      dsimp only
      rw [if_neg (by decide), bind_eta]
theorem s_which (h : Inv u) (p1 p2 : Int32) : Same (FX9_which p1 p2) (FX10_which p1 p2) u := by
  rcases ware_cases h p1 p2 with ⟨i, hi, e1, e2⟩ | ⟨c, w, hc, hwr, rfl, rfl, e1, e2⟩
  · refine same_fin i hi rfl h (Qc_refl u) ?_ (fun m hm => ⟨m, Qm_refl m, ?_⟩)
    · unfold FX9_which; rw [e1, bs, if_neg (wv_ne i hi), bind_eta]
    · unfold FX10_which; rw [e2 m (hm117 hm), bs, if_neg (wv_ne i hi), bind_eta]
  have hW := h.2.1
  have hpw := pw_le (ne_eq hW).2
  obtain ⟨u', f1, f2⟩ := c_earn h.1.1 hW hc hwr
  rw [earn_same hW hc] at f1
  have hbm := bm_le (ewP (u 117) c w) (RC (u 117) c) (fun p => p) (2 ^ ne (u 117))
  have hbe := best_end (P := ewP (u 117) c w) (v := RC (u 117) c) (t := fun p => p) (n := 2 ^ ne (u 117)) (fun k hk _ => by omega) (fun j k hj _ _ _ => hj)
  refine same_if (c := bv (ewP (u 117) c w) (RC (u 117) c) (2 ^ ne (u 117)) < 1000000) (x := nI (ba (ewP (u 117) c w) (RC (u 117) c) (fun p => p) (2 ^ ne (u 117)))) 3 (by omega) w3 h (RQ_Qc f2) ?_ (fun m hm => ?_)
  · unfold FX9_which
    rw [e1, bs, if_pos rfl, f1, bs]
    dsimp only
    rw [bind_eta, c_second hbm]
    rcases hbe with ⟨b1, b2⟩ | ⟨b1, b2, b3, b4⟩
    · rw [b1, b2, if_neg (show ¬ 256000000 < 256000000 by omega), if_neg (show ¬ 1000000 < 1000000 by omega)]
    · rw [b4, if_pos b2, if_pos b1]
  · obtain ⟨o, o1, oe⟩ := m_earn h (hm117 hm) (hm 124 (by omega)) hc hwr
    refine ⟨o.2, Q3_Qm o1.1, ?_⟩
    unfold FX10_which
    rw [e2 m (hm117 hm), oe, bs, o1.2.1]
    by_cases z : bv (ewP (u 117) c w) (RC (u 117) c) (2 ^ ne (u 117)) < 1000000
    · rw [if_pos (by rw [LM, nlt (by omega) (by omega)]; exact z), if_pos z, bs, if_pos rfl, o1.2.2 z]
    · have := bv_le (ewP (u 117) c w) (RC (u 117) c) (2 ^ ne (u 117))
      rw [if_neg (by rw [LM, nlt (by omega) (by omega)]; exact z), if_neg z, bs]
      dsimp only
      rw [if_neg (by decide), bind_eta]
end EARN2
