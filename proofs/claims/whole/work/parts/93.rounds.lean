/-! calls about rounds: joined, strength -/
section ROUNDS3
variable {u m : Mem} {r : Nat → Int32} {B : Nat}
theorem two_pc {e : Nat} (he : e < 8) : pcn (2 ^ e) ≤ 5 ∧ 2 ^ e < 256 := by
  have key : ∀ e, e < 8 → pcn (2 ^ e) ≤ 5 ∧ 2 ^ e < 256 := by decide +kernel
  exact key e he
theorem two_hs {e x : Nat} (h : hs (2 ^ e) x = true) : x = e := by
  unfold hs at h
  rw [Nat.testBit_two_pow] at h
  exact (of_decide_eq_true h).symm
theorem two_lt {e n : Nat} (h : e < n) : 2 ^ e < 2 ^ n := Nat.pow_lt_pow_right (by omega) h
noncomputable def jdV (r : Nat → Int32) (c e : Nat) : Nat := RC r c (2 ^ e) + Ds r (cF r c 0) (cF r c 1) (eF r e 2)
theorem s_joined (h : Inv u) (p1 p2 : Int32) : Same (FX9_joined p1 p2) (FX10_joined p1 p2) u := by
  have hR := h.1.1
  have hW := h.2.1
  have h6 := nc_eq hW
  have h8 := ne_eq hW
  rcases lack_cases h p1 p2 with ⟨i, hi, e1, e2⟩ | ⟨c, s, hc, hs1, hs2, rfl, rfl, hp, hl, e1, e2⟩
  · refine same_fin i hi rfl h (Qc_refl u) ?_ (fun m hm => ⟨m, Qm_refl m, ?_⟩)
    · unfold FX9_joined; rw [e1, bs, if_neg (wv_ne i hi), bind_eta]
    · unfold FX10_joined; rw [e2 m (hm117 hm), bs, if_neg (wv_ne i hi), bind_eta]
  obtain ⟨u', f1, f2, f3⟩ := c_RC hR hW (by omega) hc hs1 hs2 hp
  have R2 := RQ_Rep (by omega) f2 hW hR
  have hrl := RC_le (u 117) c s
  have hk := (cK hW hc).2
  have hP := (cP hW hc).2
  have cl : lp (BX9_joined_49 (nI c) (nI s) 0 (nI (RC (u 117) c s)) u') FU (0, 0) = some (nI (sumS (hs s) (jdV (u 117) c) (ne (u 117))), nI (ne (u 117))) := by
    refine sum_loop (hs s) (jdV (u 117) c) (n := ne (u 117)) (by omega) (fun e he a rec => ?_) (fun a rec => ?_)
    · dsimp only [BX9_joined_49]
      have ce : (nI e).toNatClampNeg = e := ncl (by omega)
      rw [if_neg (by rw [q6 R2 hW]; exact n_ngt he (by omega)), nhas hs2 (by omega), b2]
      by_cases y : hs s e = true
      · rw [if_pos y, if_pos y, nshl1 (by omega), f3 (2 ^ e) (two_pc (by omega)).2 (fun x hx => by rw [two_hs hx]; exact y), bs, if_pos (inb_t (by omega) (by omega)), ce, qb R2 hW he, c_yardsTo R2 hW hc (eB hW he).2, bs, nadd]
        rfl
      · rw [if_neg y, if_neg y]
    · dsimp only [BX9_joined_49]
      rw [if_pos (by rw [q6 R2 hW]; exact n_ge (Nat.le_refl _) (by omega))]
  refine same_if (c := RC (u 117) c s < 1000000) (x := nI (sumS (hs s) (jdV (u 117) c) (ne (u 117))) - nI (RC (u 117) c s)) 3 (by omega) w3 h (RQ_Qc f2) ?_ (fun m hm => ?_)
  · unfold FX9_joined
    rw [e1, bs, if_pos rfl, f1, bs]
    dsimp only
    rw [bind_eta]
    by_cases z : RC (u 117) c s < 1000000
    · rw [if_pos (by rw [LM, nlt (by omega) (by omega)]; exact z), if_pos z, cl, bs]
    · rw [if_neg (by rw [LM, nlt (by omega) (by omega)]; exact z), if_neg z]
  · have e7 := hm117 hm
    obtain ⟨m', g1, g2, g3⟩ := m_RC e7 hW (Ms_pw h (hm 124 (by omega))) hc hs1 hs2 hp
    by_cases z : RC (u 117) c s < 1000000
    · obtain ⟨o, ⟨o1, o2⟩, e⟩ := lp_inv (Bf := BX10_joined_31 (nI c) (nI s) 0 (nI (RC (u 117) c s))) (s0 := (0, 0, m')) (fun e st => st.1 = nI (sumS (hs s) (jdV (u 117) c) e) ∧ st.2.1 = nI e ∧ Q3 m st.2.2) (fun o => o.1 = nI (sumS (hs s) (jdV (u 117) c) (ne (u 117))) ∧ Q3 m o.2.2) (N := ne (u 117)) (by omega) (fun e he st hI rec => by
          obtain ⟨s1, s2, s3⟩ := st
          obtain ⟨i1, i2, i3⟩ := hI
          have i1 : s1 = nI (sumS (hs s) (jdV (u 117) c) e) := i1
          have i2 : s2 = nI e := i2
          subst i1
          subst i2
          have i3 : Q3 m s3 := i3
          have q7 : s3 117 = u 117 := (Q3_7 i3).trans e7
          have q4 : s3 124 = u 124 := (Q3_4 i3).trans (hm 124 (by omega))
          left
          by_cases y : hs s e = true
          · obtain ⟨m2, k1, k2, k3⟩ := m_roundOf q7 hW (Ms_pw h q4) hc (two_lt he) (two_pc (show e < 8 by omega)).2 (two_pc (show e < 8 by omega)).1
            have k7 : m2 117 = u 117 := (k2 117 (by omega) (by omega) (by omega)).trans q7
            have hB := (eB hW he).2
            have c21 : (nI (7 * eF (u 117) e 2 + cF (u 117) c 1)).toNatClampNeg = 7 * eF (u 117) e 2 + cF (u 117) c 1 := ncl (by omega)
            have v21 : m2 121 (7 * eF (u 117) e 2 + cF (u 117) c 1) = nI (Ds (u 117) (cF (u 117) c 0) (cF (u 117) c 1) (eF (u 117) e 2)) := by
              rw [k3, tb_get (by omega)]
              unfold flat
              rw [(dm7 hP).1, (dm7 hP).2, (Ds_Dm hW _).2.1]
            have es : sumS (hs s) (jdV (u 117) c) (e + 1) = sumS (hs s) (jdV (u 117) c) e + jdV (u 117) c e := if_pos y
            refine ⟨(nI (sumS (hs s) (jdV (u 117) c) (e + 1)), nI (e + 1), m2), ⟨rfl, rfl, Q3_trans i3 (Q3_rd k2)⟩, ?_⟩
            dsimp only [BX10_joined_31]
            rw [if_neg (by rw [q7, h8.1]; exact n_ngt he (by omega)), if_neg (by rw [LM]; exact n_ngt z (by omega)), nhas2 hs2 (by omega), b2, if_pos y, nshl1 (by omega), k1, bs]
            dsimp only
            rw [mb k7 hW he, bs, mP k7 hW hc, bs]
            simp only [j7, c21, v21, nadd, nI_1]
            rw [if_pos (inb_t (by omega) (by omega)), es]
            unfold jdV RC
            rw [Nat.add_assoc]
          · refine ⟨(nI (sumS (hs s) (jdV (u 117) c) (e + 1)), nI (e + 1), s3), ⟨rfl, rfl, i3⟩, ?_⟩
            dsimp only [BX10_joined_31]
            rw [if_neg (by rw [q7, h8.1]; exact n_ngt he (by omega)), if_neg (by rw [LM]; exact n_ngt z (by omega)), nhas2 hs2 (by omega), b2, if_neg y, nI_1, show sumS (hs s) (jdV (u 117) c) (e + 1) = sumS (hs s) (jdV (u 117) c) e from if_neg y])
        (fun st hI rec => by
          obtain ⟨s1, s2, s3⟩ := st
          obtain ⟨i1, i2, i3⟩ := hI
          have i2 : s2 = nI (ne (u 117)) := i2
          subst i2
          have i3 : Q3 m s3 := i3
          have q7 : s3 117 = u 117 := (Q3_7 i3).trans e7
          refine ⟨(s1, nI (ne (u 117)), s3), ⟨i1, i3⟩, ?_⟩
          dsimp only [BX10_joined_31]
          rw [if_pos (by rw [q7, h8.1]; exact n_ge (Nat.le_refl _) (by omega))])
        ⟨rfl, rfl, g2⟩
      refine ⟨o.2.2, Q3_Qm o2, ?_⟩
      unfold FX10_joined
      rw [e2 m e7, bs, if_pos rfl, g1, bs]
      dsimp only
      rw [e, bs, if_pos (by rw [LM, nlt (by omega) (by omega)]; exact z), if_pos z, o1]
    · obtain ⟨o, o1, e⟩ := lp_inv (Bf := BX10_joined_31 (nI c) (nI s) 0 (nI (RC (u 117) c s))) (s0 := (0, 0, m')) (fun e st => st = (0, 0, m')) (fun o => o = (0, 0, m')) (N := 0) (by omega) (fun e he => absurd he (Nat.not_lt_zero _)) (fun st hI rec => by
          subst hI
          refine ⟨_, rfl, ?_⟩
          dsimp only [BX10_joined_31]
          by_cases y : m' 117 43 ≤ 0
          · rw [if_pos y]
          · rw [if_neg y, if_pos (by rw [LM]; exact n_ge (by omega) (by omega))]) rfl
      subst o1
      refine ⟨m', Q3_Qm g2, ?_⟩
      unfold FX10_joined
      rw [e2 m e7, bs, if_pos rfl, g1, bs]
      dsimp only
      rw [e, bs, if_neg (by rw [LM, nlt (by omega) (by omega)]; exact z), if_neg z, bind_eta]
/-- with a strength there is a round -/
def stG (r : Nat → Int32) (c s v : Nat) : Prop := RV r (cF r c 0) (bK (cF r c 0) v) (cF r c 1) s < 1000000
def rchA (r : Nat → Int32) (c e : Nat) : Prop := Ds r (cF r c 0) (cF r c 1) (eF r e 1) < 1000000 ∧ Ds r (cF r c 0) (cF r c 1) (eF r e 2) < 1000000
theorem able_iff (hw : Wf r) {c s kd W : Nat} (hc : c < nc r) (hs1 : s < 2 ^ ne r) (hs2 : s < 256) : RV r kd W (cF r c 1) s < 1000000 ↔ ∀ e, e < ne r → hs s e = true → eF r e 0 ≤ W ∧ Ds r kd (cF r c 1) (eF r e 1) < 1000000 ∧ Ds r kd (cF r c 1) (eF r e 2) < 1000000 := by
  have h8 := (ne_eq hw).2
  have hA := rv_able (w := wE r) (W := W) (Ds_Dm hw kd) (aE_lt r) (bE_lt r) (s := cF r c 1) (S := s) (cP hw hc).2 hs2
  constructor
  · intro z e he hh
    have := hA.mp z e (by omega) hh
    rw [aE_eq hw he, bE_eq hw he] at this
    exact this
  · intro z
    refine hA.mpr (fun e _ hh => ?_)
    have he := hs_lt hs1 hh
    rw [aE_eq hw he, bE_eq hw he]
    exact z e he hh
theorem c_canBoth (h : Rep u B r) (hw : Wf r) {c e : Nat} (hc : c < nc r) (he : e < ne r) : (rchA r c e ∧ FX2_canComeToBoth B (nI c) (nI e) u = some 1) ∨ (¬ rchA r c e ∧ FX2_canComeToBoth B (nI c) (nI e) u = some 0) := by
  have h8 := ne_eq hw
  have ce : (nI e).toNatClampNeg = e := ncl (by omega)
  have l1 := Ds_le hw (cF r c 0) (cF r c 1) (eF r e 1)
  have l2 := Ds_le hw (cF r c 0) (cF r c 1) (eF r e 2)
  unfold FX2_canComeToBoth rchA
  simp only [ce, qa h hw he, qb h hw he]
  rw [if_pos (inb_t (by omega) (by omega)), c_yardsTo h hw hc (eA hw he).2, bs]
  by_cases z : Ds r (cF r c 0) (cF r c 1) (eF r e 1) < 1000000
  · rw [if_neg (by rw [LM]; exact n_ngt z (by omega)), if_pos (inb_t (by omega) (by omega)), c_yardsTo h hw hc (eB hw he).2, bs]
    by_cases y : Ds r (cF r c 0) (cF r c 1) (eF r e 2) < 1000000
    · rw [if_neg (by rw [LM]; exact n_ngt y (by omega))]
      exact Or.inl ⟨⟨z, y⟩, rfl⟩
    · rw [if_pos (by rw [LM]; exact n_ge (by omega) (by omega))]
      exact Or.inr ⟨fun q => y q.2, rfl⟩
  · rw [if_pos (by rw [LM]; exact n_ge (by omega) (by omega))]
    exact Or.inr ⟨fun q => z q.1, rfl⟩
theorem c_canAll (h : Rep u B r) (hw : Wf r) {c s : Nat} (hc : c < nc r) (hs2 : s < 256) : ((∀ e, e < ne r → hs s e = true → rchA r c e) ∧ FX2_canComeToAll B (nI c) (nI s) u = some 1) ∨ (¬ (∀ e, e < ne r → hs s e = true → rchA r c e) ∧ FX2_canComeToAll B (nI c) (nI s) u = some 0) := by
  have h8 := ne_eq hw
  obtain ⟨N, N1, N2, N3⟩ := first_not (fun e => hs s e = true → rchA r c e) (ne r)
  obtain ⟨o, o1, e⟩ := lp_inv (Bf := BX2_canComeToAll_2 B (nI c) (nI s) u) (s0 := 0) (fun k st => st = nI k) (fun o => o.1 = if N = ne r then 1 else 0) (N := N) (by omega) (fun k hk st hI rec => by
      subst hI
      have hke : k < ne r := by omega
      left
      refine ⟨nI (k + 1), rfl, ?_⟩
      dsimp only [BX2_canComeToAll_2]
      rw [if_neg (by rw [q6 h hw]; exact n_ngt hke (by omega)), nhas hs2 (by omega), b2]
      by_cases y : hs s k = true
      · rw [if_pos y]
        rcases c_canBoth h hw hc hke with ⟨a1, a2⟩ | ⟨a1, a2⟩
        · rw [a2, bs, if_neg (by decide), nI_1]
        · exact absurd (N2 k hk y) a1
      · rw [if_neg y, nI_1])
    (fun st hI rec => by
      subst hI
      rcases N3 with y | ⟨y1, y2⟩
      · refine ⟨(1, nI N), (if_pos y).symm, ?_⟩
        dsimp only [BX2_canComeToAll_2]
        rw [if_pos (by rw [q6 h hw]; exact n_ge (by omega) (by omega))]
      · have y3 : hs s N = true := by
          by_cases q : hs s N = true
          · exact q
          · exact absurd (fun z => absurd z q) y2
        have y4 : ¬ rchA r c N := fun z => y2 (fun _ => z)
        refine ⟨(0, nI N), (if_neg (by omega)).symm, ?_⟩
        dsimp only [BX2_canComeToAll_2]
        rw [if_neg (by rw [q6 h hw]; exact n_ngt y1 (by omega)), nhas hs2 (by omega), b2, if_pos y3]
        rcases c_canBoth h hw hc y1 with ⟨a1, a2⟩ | ⟨a1, a2⟩
        · exact absurd a1 y4
        · rw [a2, bs, if_pos rfl])
    rfl
  by_cases y : N = ne r
  · left
    refine ⟨fun e he hh => N2 e (by omega) hh, ?_⟩
    unfold FX2_canComeToAll
    rw [e, bs, o1, if_pos y, if_neg (by decide)]
  · right
    rcases N3 with z | ⟨z1, z2⟩
    · exact absurd z y
    refine ⟨fun z => z2 (fun hh => z N z1 hh), ?_⟩
    unfold FX2_canComeToAll
    rw [e, bs, o1, if_neg y, if_pos rfl]
theorem stG_iff (hw : Wf r) {c s v : Nat} (hc : c < nc r) (hs1 : s < 2 ^ ne r) (hs2 : s < 256) : stG r c s v ↔ (∀ e, e < ne r → hs s e = true → rchA r c e) ∧ hvS r s ≤ bK (cF r c 0) v := by
  unfold stG
  rw [able_iff hw hc hs1 hs2]
  constructor
  · intro z
    exact ⟨fun e he hh => (z e he hh).2, mxS_le _ _ _ _ (fun e he hh => (z e he hh).1)⟩
  · intro ⟨z1, z2⟩ e he hh
    exact ⟨Nat.le_trans (mxS_ge (hs s) (fun e => eF r e 0) (ne r) e he hh) z2, z1 e he hh⟩
theorem s_strength (h : Inv u) (p1 p2 : Int32) : Same (FX9_strength p1 p2) (FX10_strength p1 p2) u := by
  have hR := h.1.1
  have hW := h.2.1
  have h6 := nc_eq hW
  have h8 := ne_eq hW
  rcases lack_cases h p1 p2 with ⟨i, hi, e1, e2⟩ | ⟨c, s, hc, hs1, hs2, rfl, rfl, hp, hl, e1, e2⟩
  · refine same_fin i hi rfl h (Qc_refl u) ?_ (fun m hm => ⟨m, Qm_refl m, ?_⟩)
    · unfold FX9_strength; rw [e1, bs, if_neg (wv_ne i hi), bind_eta]
    · unfold FX10_strength; rw [e2 m (hm117 hm), bs, if_neg (wv_ne i hi), bind_eta]
  have hk := (cK hW hc).2
  have hv99 := mxS_le (hs s) (fun e => eF (u 117) e 0) 60 (ne (u 117)) (fun e he _ => (eW hW he).2)
  have hv99 : hvS (u 117) s ≤ 60 := hv99
  obtain ⟨N, N1, N2, N3⟩ := first_not (fun j => ¬ stG (u 117) c s (j + 1)) 99
  have cc : (nI c).toNatClampNeg = c := ncl (by omega)
  refine same_if (u1 := u) (c := N < 99) (x := nI (N + 1)) 3 (by omega) w3 h (Qc_refl u) ?_ (fun m hm => ?_)
  · rcases c_canAll hR hW hc hs2 with ⟨a1, a2⟩ | ⟨a1, a2⟩
    · have hG : ∀ v, stG (u 117) c s v ↔ hvS (u 117) s ≤ bK (cF (u 117) c 0) v := fun v => by
        rw [stG_iff hW hc hs1 hs2]
        exact ⟨fun z => z.2, fun z => ⟨a1, z⟩⟩
      obtain ⟨o, o1, e⟩ := lp_inv (Bf := BX9_strength_49 (nI c) (nI s) 0 (nI (hvS (u 117) s)) u) (s0 := 1) (fun j st => st = nI (j + 1)) (fun o => o = if N = 99 then (1, nI (N + 1)) else (0, nI (N + 1))) (N := N) (by omega) (fun j hj st hI rec => by
          subst hI
          left
          refine ⟨nI (j + 1 + 1), rfl, ?_⟩
          have hb := bK_le (k := cF (u 117) c 0) (show j + 1 ≤ 99 by omega)
          have hno := N2 j hj
          rw [hG] at hno
          dsimp only [BX9_strength_49]
          rw [L99, if_neg (by rw [nlt (by omega) (by omega)]; omega), if_pos (inb_t (by omega) (by omega)), cc, qK hR hW hc, kbear hk (by omega), if_pos (by rw [nlt (by omega) (by omega)]; omega), nI_1])
        (fun st hI rec => by
          subst hI
          rcases N3 with y | ⟨y1, y2⟩
          · refine ⟨_, rfl, ?_⟩
            rw [if_pos y]
            dsimp only [BX9_strength_49]
            rw [L99, if_pos (by rw [nlt (by omega) (by omega)]; omega)]
          · refine ⟨_, rfl, ?_⟩
            rw [if_neg (by omega)]
            have hb := bK_le (k := cF (u 117) c 0) (show N + 1 ≤ 99 by omega)
            have hyes : stG (u 117) c s (N + 1) := Classical.not_not.mp y2
            rw [hG] at hyes
            dsimp only [BX9_strength_49]
            rw [L99, if_neg (by rw [nlt (by omega) (by omega)]; omega), if_pos (inb_t (by omega) (by omega)), cc, qK hR hW hc, kbear hk (by omega), if_neg (by rw [nlt (by omega) (by omega)]; omega)])
        rfl
      unfold FX9_strength
      rw [e1, bs, if_pos rfl, a2, bs, if_neg (by decide), c_heaviestOf hR hW hs2, bs, e, bs, o1]
      by_cases y : N = 99
      · rw [if_pos y]
        dsimp only
        rw [if_neg (by decide), if_neg (show ¬ N < 99 by omega), bind_eta]
      · rw [if_neg y, if_pos rfl, if_pos (show N < 99 by omega)]
    · have hno : ¬ N < 99 := fun z => by
        rcases N3 with y | ⟨y1, y2⟩
        · omega
        · have hyes : stG (u 117) c s (N + 1) := Classical.not_not.mp y2
          rw [stG_iff hW hc hs1 hs2] at hyes
          exact a1 hyes.1
      unfold FX9_strength
      rw [e1, bs, if_pos rfl, a2, bs, if_pos rfl, bind_eta, if_neg hno]
  · have e7 := hm117 hm
    have a2 : FX10_cAt (nI c) 2 = nI (56 + 5 * c + 2) := cAt_eq (f := 2)
    have cx : (nI (56 + 5 * c + 2)).toNatClampNeg = 56 + 5 * c + 2 := ncl (by omega)
    obtain ⟨o, ⟨o1, v, o2⟩, e⟩ := lp_inv (Bf := BX10_strength_32 (nI c) (nI s) 0 (nI (cF (u 117) c 2))) (s0 := (0, 1000000, m)) (fun j st => (st.1 = nI j ∧ st.2.1 = nI (if j ≤ N then 1000000 else RV (u 117) (cF (u 117) c 0) (bK (cF (u 117) c 0) j) (cF (u 117) c 1) s)) ∧ ∃ v, Q3 (mrow m 117 (upd (u 117) (56 + 5 * c + 2) v)) st.2.2) (fun o => (if N = 99 then o.2.1 = nI 1000000 else o.1 = nI (N + 1) ∧ ∃ y, y < 1000000 ∧ o.2.1 = nI y) ∧ ∃ v, Q3 (mrow m 117 (upd (u 117) (56 + 5 * c + 2) v)) o.2.2) (N := if N = 99 then N else N + 1) (by split <;> omega) (fun j hj st hI rec => by
        obtain ⟨s1, s2, s3⟩ := st
        obtain ⟨⟨i1, i2⟩, v, i3⟩ := hI
        have hjN : j ≤ N ∧ j < 99 := by
          by_cases y : N = 99
          · rw [if_pos y] at hj; omega
          · rw [if_neg y] at hj; omega
        rw [if_pos hjN.1] at i2
        have i1 : s1 = nI j := i1
        have i2 : s2 = nI 1000000 := i2
        subst i1
        subst i2
        have i3 : Q3 (mrow m 117 (upd (u 117) (56 + 5 * c + 2) v)) s3 := i3
        have q7 : s3 117 = upd (u 117) (56 + 5 * c + 2) v := (Q3_7 i3).trans (mrow_at _ _ _)
        have hmem : mst s3 117 (56 + 5 * c + 2) (nI (j + 1)) = mrow s3 117 (upd (u 117) (56 + 5 * c + 2) (nI (j + 1))) := by rw [mst_as_mrow s3, q7, upd_upd]
        have Q2 : Q3 (mrow m 117 (upd (u 117) (56 + 5 * c + 2) (nI (j + 1)))) (mrow s3 117 (upd (u 117) (56 + 5 * c + 2) (nI (j + 1)))) := Q3_117 i3
        have q4 : mrow s3 117 (upd (u 117) (56 + 5 * c + 2) (nI (j + 1))) 124 = u 124 := (Q3_4 Q2).trans (by rw [mrow_ne (by omega)]; exact hm 124 (by omega))
        have hWk : Wf (upd (u 117) (56 + 5 * c + 2) (nI (j + 1))) := Wf_setC hW (by omega) (by omega) (fun _ => ⟨fun z => by omega, fun z => by omega, fun _ => In_nI (by omega) (by omega), fun z => by omega⟩)
        have nck : nc (upd (u 117) (56 + 5 * c + 2) (nI (j + 1))) = nc (u 117) := congrArg tn (pk_un (by omega))
        have nek : ne (upd (u 117) (56 + 5 * c + 2) (nI (j + 1))) = ne (u 117) := congrArg tn (pk_un (by omega))
        have es : cF (upd (u 117) (56 + 5 * c + 2) (nI (j + 1))) c 2 = j + 1 := (congrArg tn pk_us).trans (ncl (by omega))
        have ek : cF (upd (u 117) (56 + 5 * c + 2) (nI (j + 1))) c 0 = cF (u 117) c 0 := congrArg tn (pk_un (by omega))
        have ep : cF (upd (u 117) (56 + 5 * c + 2) (nI (j + 1))) c 1 = cF (u 117) c 1 := congrArg tn (pk_un (by omega))
        have ev : RC (upd (u 117) (56 + 5 * c + 2) (nI (j + 1))) c s = RV (u 117) (cF (u 117) c 0) (bK (cF (u 117) c 0) (j + 1)) (cF (u 117) c 1) s := by
          unfold RC bc
          rw [ek, es, ep, RV_congr (fun x hx => pk_un (by omega))]
        obtain ⟨m', f1, f2, f3⟩ := m_RC (m := mrow s3 117 (upd (u 117) (56 + 5 * c + 2) (nI (j + 1)))) (c := c) (s := s) (mrow_at _ _ _) hWk (Ms_pw h q4) (by rw [nck]; exact hc) (by rw [nek]; exact hs1) hs2 hp
        rw [ev] at f1
        left
        refine ⟨(nI (j + 1), nI (RV (u 117) (cF (u 117) c 0) (bK (cF (u 117) c 0) (j + 1)) (cF (u 117) c 1) s), m'), ⟨⟨rfl, ?_⟩, nI (j + 1), Q3_trans Q2 f2⟩, ?_⟩
        · by_cases y : j + 1 ≤ N
          · have hno := N2 j (by omega)
            have hle := RV_le (u 117) (cF (u 117) c 0) (bK (cF (u 117) c 0) (j + 1)) (cF (u 117) c 1) s
            unfold stG at hno
            rw [if_pos y]
            exact congrArg nI (by omega)
          · rw [if_neg y]
        · dsimp only [BX10_strength_32]
          simp only [a2, cx, nI_1, hmem]
          rw [L99, if_neg (n_ngt hjN.2 (by omega)), if_neg (by decide), if_pos (inb_t (by omega) (by omega)), f1, bs])
      (fun st hI rec => by
        obtain ⟨s1, s2, s3⟩ := st
        obtain ⟨⟨i1, i2⟩, i3⟩ := hI
        refine ⟨(s1, s2, s3), ?_, ?_⟩
        · by_cases y : N = 99
          · rw [if_pos y] at i1 i2 ⊢
            rw [if_pos (Nat.le_refl _)] at i2
            exact ⟨i2, i3⟩
          · rw [if_neg y] at i1 i2 ⊢
            rw [if_neg (by omega)] at i2
            rcases N3 with z | ⟨z1, z2⟩
            · exact absurd z y
            exact ⟨⟨i1, _, Classical.not_not.mp z2, i2⟩, i3⟩
        · dsimp only [BX10_strength_32]
          by_cases y : N = 99
          · rw [if_pos y] at i1
            have i1 : s1 = nI N := i1
            rw [L99, if_pos (by rw [i1]; exact n_ge (by omega) (by omega))]
          · rw [if_neg y] at i1 i2
            rw [if_neg (by omega)] at i2
            have i1 : s1 = nI (N + 1) := i1
            have i2 : s2 = nI (RV (u 117) (cF (u 117) c 0) (bK (cF (u 117) c 0) (N + 1)) (cF (u 117) c 1) s) := i2
            by_cases z : 99 ≤ N + 1
            · rw [L99, if_pos (by rw [i1]; exact n_ge z (by omega))]
            · rcases N3 with w | ⟨z1, z2⟩
              · exact absurd w y
              have z3 : RV (u 117) (cF (u 117) c 0) (bK (cF (u 117) c 0) (N + 1)) (cF (u 117) c 1) s < 1000000 := Classical.not_not.mp z2
              rw [L99, if_neg (by rw [i1]; exact n_ngt (by omega) (by omega)), if_pos (by rw [i2, LM, nlt (by omega) (by omega)]; exact z3)])
      ⟨⟨rfl, by rw [if_pos (Nat.zero_le _)]; rfl⟩, m 117 (56 + 5 * c + 2), by rw [← e7, upd_self, mrow_self]; exact Q3_refl m⟩
    have q7 : o.2.2 117 = upd (u 117) (56 + 5 * c + 2) v := (Q3_7 o2).trans (mrow_at _ _ _)
    have hback : mst o.2.2 117 (56 + 5 * c + 2) (nI (cF (u 117) c 2)) = mrow o.2.2 117 (u 117) := by
      rw [mst_as_mrow o.2.2, q7, upd_upd, ← (cS hW hc).1, upd_self]
    have hQ : Q3 m (mrow o.2.2 117 (u 117)) := by
      have := Q3_117 (ρ' := u 117) o2
      rw [← e7, mrow_self] at this
      rw [← e7]
      exact this
    refine ⟨mrow o.2.2 117 (u 117), Q3_Qm hQ, ?_⟩
    unfold FX10_strength
    rw [e2 m e7, bs, if_pos rfl, mS e7 hW hc, bs, e, bs]
    simp only [a2, cx, hback]
    rw [if_pos (inb_t (by omega) (by omega)), bind_eta]
    by_cases y : N = 99
    · rw [if_pos y] at o1
      rw [o1, if_neg (by decide), if_neg (show ¬ N < 99 by omega)]
    · rw [if_neg y] at o1
      obtain ⟨o3, z, z1, z2⟩ := o1
      rw [z2, if_pos (by rw [LM, nlt (by omega) (by omega)]; exact z1), if_pos (show N < 99 by omega), o3]
end ROUNDS3
