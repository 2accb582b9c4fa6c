/-! calls about rounds: who, kindFor -/
theorem upd_upd (f : Nat → Int32) (k : Nat) (a b : Int32) : upd (upd f k a) k b = upd f k b := by
  funext x
  unfold upd
  by_cases h : x = k
  · rw [if_pos h, if_pos h]
  · rw [if_neg h, if_neg h, if_neg h]
theorem upd_self (f : Nat → Int32) (k : Nat) : upd f k (f k) = f := by
  funext x
  unfold upd
  by_cases h : x = k
  · rw [if_pos h, h]
  · rw [if_neg h]
theorem same_if {f g : Mem → Option (Int32 × Mem)} {u u1 : Mem} {c : Prop} [Decidable c] {x w : Int32} (i : Nat) (hi : i < 7) (hw : w = wv i) (h : Inv u) (q : Qc u u1) (C : f u = if c then some (x, u1) else FX9_finding w u1) (M : ∀ m, Hm u m → ∃ m', Qm m m' ∧ g m = if c then some (x, m') else FX10_finding w m') : Same f g u := by
  by_cases z : c
  · rw [if_pos z] at C
    obtain ⟨m', q1, q2⟩ := M u1 (Qc_Hm q)
    rw [if_pos z] at q2
    exact same_val h q C q2 q1
  · rw [if_neg z] at C
    refine same_fin i hi hw h q C (fun m hm => ?_)
    obtain ⟨m', q1, q2⟩ := M m hm
    rw [if_neg z] at q2
    exact ⟨m', q1, q2⟩
theorem Q3_117 {m m' : Mem} {ρ ρ' : Nat → Int32} (h : Q3 (mrow m 117 ρ) m') : Q3 (mrow m 117 ρ') (mrow m' 117 ρ') := by
  refine ⟨fun a h1 h2 h3 h4 => ?_, fun j h1 h2 h3 => ?_⟩
  · by_cases c : a = 117
    · subst c; rw [mrow_at, mrow_at]
    · rw [mrow_ne c, mrow_ne c, h.1 a h1 h2 h3 h4, mrow_ne c]
  · rw [mrow_ne (by omega), mrow_ne (by omega), h.2 j h1 h2 h3, mrow_ne (by omega)]
section ROUNDS2
variable {u m : Mem} {r : Nat → Int32} {B : Nat}
theorem RC_le (r : Nat → Int32) (c s : Nat) : RC r c s ≤ 1000000 := RV_le _ _ _ _ _
noncomputable def whP (r : Nat → Int32) (c : Nat) : Bool := decide (kS r c = 0)
theorem s_who (h : Inv u) (p1 : Int32) : Same (FX9_who p1) (FX10_who p1) u := by
  have hR := h.1.1
  have hW := h.2.1
  have h6 := nc_eq hW
  rcases few_cases h p1 with ⟨k0, k1⟩ | ⟨s, hs1, hs2, rfl, hpc, k1, k2⟩
  · refine same_fin 0 (by omega) w0 h (Qc_refl u) ?_ (fun m hm => ⟨m, Qm_refl m, ?_⟩)
    · unfold FX9_who; rw [k0, if_pos rfl, bind_eta]
    · unfold FX10_who; rw [k1 m (hm117 hm), bs, if_pos rfl, bind_eta]
  rcases c_allLie hR hW hs2 with ⟨a1, a2⟩ | ⟨a1, a2⟩
  case inr =>
    have am : ∀ m, m 117 = u 117 → FX10_allLie (nI s) m = some 0 := fun m hm => by
      rcases m_allLie hm hW hs2 with ⟨b1, b2⟩ | ⟨b1, b2⟩
      · exact absurd b1 a1
      · exact b2
    refine same_fin 4 (by omega) w4 h (Qc_refl u) ?_ (fun m hm => ⟨m, Qm_refl m, ?_⟩)
    · unfold FX9_who; rw [k1, if_neg (by decide), a2, bs, if_pos rfl, bind_eta]
    · unfold FX10_who; rw [k2 m (hm117 hm), bs, if_neg (by decide), am m (hm117 hm), bs, if_pos rfl, bind_eta]
  have am : ∀ m, m 117 = u 117 → FX10_allLie (nI s) m = some 1 := fun m hm => by
    rcases m_allLie hm hW hs2 with ⟨b1, b2⟩ | ⟨b1, b2⟩
    · exact b2
    · exact absurd a1 b1
  obtain ⟨o, ⟨o1, o2⟩, e⟩ := lp_inv (Bf := BX9_who_39 (nI s)) (s0 := (256000000, 0, u)) (fun c st => st.1 = nI (bm (whP (u 117)) (fun c => RC (u 117) c s) (fun c => c) c) ∧ st.2.1 = nI c ∧ RQ u st.2.2) (fun o => o.1 = nI (bm (whP (u 117)) (fun c => RC (u 117) c s) (fun c => c) (nc (u 117))) ∧ RQ u o.2.2) (N := nc (u 117)) (by omega) (fun c hc st hI rec => by
      obtain ⟨s1, s2, s3⟩ := st
      obtain ⟨i1, i2, i3⟩ := hI
      have i1 : s1 = nI (bm (whP (u 117)) (fun c => RC (u 117) c s) (fun c => c) c) := i1
      have i2 : s2 = nI c := i2
      subst i1
      subst i2
      have i3 : RQ u s3 := i3
      have R2 := RQ_Rep (by omega) i3 hW hR
      have hb := bm_le (whP (u 117)) (fun c => RC (u 117) c s) (fun c => c) c
      have hv := RC_le (u 117) c s
      have kl := kS_lt hW c
      left
      by_cases z : kS (u 117) c = 0
      · obtain ⟨u', f1, f2, f3⟩ := c_RC R2 hW (by omega) hc hs1 hs2 hpc
        refine ⟨(nI (bm (whP (u 117)) (fun c => RC (u 117) c s) (fun c => c) (c + 1)), nI (c + 1), u'), ⟨rfl, rfl, RQ_trans i3 f2⟩, ?_⟩
        dsimp only [BX9_who_39]
        rw [if_neg (by rw [q5 R2 hW]; exact n_ngt hc (by omega)), c_carriedBy R2 hW, bs, if_pos (by rw [z]; rfl), f1, bs]
        dsimp only
        rw [L256, nmul, nadd, nmin (by omega) (by omega), nI_1, bm_up, if_pos (show whP (u 117) c = true from decide_eq_true z)]
      · refine ⟨(nI (bm (whP (u 117)) (fun c => RC (u 117) c s) (fun c => c) (c + 1)), nI (c + 1), s3), ⟨rfl, rfl, i3⟩, ?_⟩
        dsimp only [BX9_who_39]
        rw [if_neg (by rw [q5 R2 hW]; exact n_ngt hc (by omega)), c_carriedBy R2 hW, bs, if_neg (nI_ne0 (by omega) (by omega)), nI_1, bm_up, if_neg (show ¬ whP (u 117) c = true from fun q => z (of_decide_eq_true q))])
    (fun st hI rec => by
      obtain ⟨s1, s2, s3⟩ := st
      obtain ⟨i1, i2, i3⟩ := hI
      have i2 : s2 = nI (nc (u 117)) := i2
      subst i2
      have i3 : RQ u s3 := i3
      have R2 := RQ_Rep (by omega) i3 hW hR
      refine ⟨(s1, nI (nc (u 117)), s3), ⟨i1, i3⟩, ?_⟩
      dsimp only [BX9_who_39]
      rw [if_pos (by rw [q5 R2 hW]; exact n_ge (Nat.le_refl _) (by omega))])
    ⟨rfl, rfl, RQ_refl u⟩
  have hb := bm_le (whP (u 117)) (fun c => RC (u 117) c s) (fun c => c) (nc (u 117))
  have hbo := best_ok (whP (u 117)) (fun c => RC (u 117) c s) (fun c => c) (nc (u 117)) (fun k hk _ => by omega) (fun j k hj hk _ _ => hj)
  refine same_if (c := bm (whP (u 117)) (fun c => RC (u 117) c s) (fun c => c) (nc (u 117)) < 256000000) (x := nI (bm (whP (u 117)) (fun c => RC (u 117) c s) (fun c => c) (nc (u 117)) % 256)) 3 (by omega) w3 h (RQ_Qc o2) ?_ (fun m hm => ?_)
  · unfold FX9_who
    rw [k1, if_neg (by decide), a2, bs, if_neg (by decide), e, bs, o1, bind_eta]
    exact c_second hb
  · have e7 := hm117 hm
    obtain ⟨o', ⟨p1, p2⟩, e'⟩ := lp_inv (Bf := BX10_who_39 (nI s)) (s0 := (-1, 1000000, 0, m)) (fun c st => st.1 = bT (whP (u 117)) (fun c => RC (u 117) c s) (fun c => c) c ∧ st.2.1 = nI (bv (whP (u 117)) (fun c => RC (u 117) c s) c) ∧ st.2.2.1 = nI c ∧ Q3 m st.2.2.2) (fun o => o.1 = bT (whP (u 117)) (fun c => RC (u 117) c s) (fun c => c) (nc (u 117)) ∧ Q3 m o.2.2.2) (N := nc (u 117)) (by omega) (fun c hc st hI rec => by
        obtain ⟨s1, s2, s3, s4⟩ := st
        obtain ⟨i1, i2, i3, i4⟩ := hI
        have i1 : s1 = bT (whP (u 117)) (fun c => RC (u 117) c s) (fun c => c) c := i1
        have i2 : s2 = nI (bv (whP (u 117)) (fun c => RC (u 117) c s) c) := i2
        have i3 : s3 = nI c := i3
        subst i1
        subst i2
        subst i3
        have i4 : Q3 m s4 := i4
        have q7 : s4 117 = u 117 := (Q3_7 i4).trans e7
        have q4 : s4 124 = u 124 := (Q3_4 i4).trans (hm 124 (by omega))
        have hb := bv_le (whP (u 117)) (fun c => RC (u 117) c s) c
        have hv := RC_le (u 117) c s
        have kl := kS_lt hW c
        left
        by_cases z : kS (u 117) c = 0
        · obtain ⟨m', f1, f2, f3⟩ := m_RC q7 hW (Ms_pw h q4) hc hs1 hs2 hpc
          have zt : whP (u 117) c = true := decide_eq_true z
          refine ⟨(bT (whP (u 117)) (fun c => RC (u 117) c s) (fun c => c) (c + 1), nI (bv (whP (u 117)) (fun c => RC (u 117) c s) (c + 1)), nI (c + 1), m'), ⟨rfl, rfl, rfl, Q3_trans i4 f2⟩, ?_⟩
          dsimp only [BX10_who_39]
          unfold JX10_who_72_39
          rw [if_neg (by rw [q7, h6.1]; exact n_ngt hc (by omega)), m_carries q7 hW, bs, if_pos (by rw [z]; rfl), f1, bs]
          dsimp only
          rw [nmin (by omega) (by omega), nI_1, bT_up, bv_up, if_pos zt]
          by_cases y : RC (u 117) c s < bv (whP (u 117)) (fun c => RC (u 117) c s) c
          · rw [if_neg (n_ngt y (by omega)), if_pos ⟨zt, y⟩]
          · rw [if_pos (n_ge (by omega) (by omega)), if_neg (fun q => y q.2)]
        · have zt : ¬ whP (u 117) c = true := fun q => z (of_decide_eq_true q)
          refine ⟨(bT (whP (u 117)) (fun c => RC (u 117) c s) (fun c => c) (c + 1), nI (bv (whP (u 117)) (fun c => RC (u 117) c s) (c + 1)), nI (c + 1), s4), ⟨rfl, rfl, rfl, i4⟩, ?_⟩
          dsimp only [BX10_who_39]
          unfold JX10_who_72_39
          rw [if_neg (by rw [q7, h6.1]; exact n_ngt hc (by omega)), m_carries q7 hW, bs, if_neg (nI_ne0 (by omega) (by omega)), LM, if_pos (n_ge hb (by omega)), nmin (by omega) (by omega), Nat.min_eq_left hb, nI_1, bT_up, bv_up, if_neg zt, if_neg (show ¬ (whP (u 117) c = true ∧ RC (u 117) c s < bv (whP (u 117)) (fun c => RC (u 117) c s) c) from fun q => zt q.1)])
      (fun st hI rec => by
        obtain ⟨s1, s2, s3, s4⟩ := st
        obtain ⟨i1, i2, i3, i4⟩ := hI
        have i3 : s3 = nI (nc (u 117)) := i3
        subst i3
        have i4 : Q3 m s4 := i4
        have q7 : s4 117 = u 117 := (Q3_7 i4).trans e7
        refine ⟨(s1, s2, nI (nc (u 117)), s4), ⟨i1, i4⟩, ?_⟩
        dsimp only [BX10_who_39]
        rw [if_pos (by rw [q7, h6.1]; exact n_ge (Nat.le_refl _) (by omega))])
      ⟨(bT_0 _ _ _).symm, rfl, rfl, Q3_refl m⟩
    refine ⟨o'.2.2.2, Q3_Qm p2, ?_⟩
    unfold FX10_who
    rw [k2 m e7, bs, if_neg (by decide), am m e7, bs, if_neg (by decide), e', bs, p1, bind_eta]
    rcases hbo with ⟨b1, b2⟩ | ⟨b1, b2, j, j1, j2, j3⟩
    · rw [if_neg (show ¬ bm (whP (u 117)) (fun c => RC (u 117) c s) (fun c => c) (nc (u 117)) < 256000000 by omega)]
      have : bT (whP (u 117)) (fun c => RC (u 117) c s) (fun c => c) (nc (u 117)) = -1 := if_neg (by omega)
      rw [this, if_neg (by decide)]
    · have : bT (whP (u 117)) (fun c => RC (u 117) c s) (fun c => c) (nc (u 117)) = nI j := by unfold bT; rw [if_pos b1, j3]
      rw [this, if_pos (nI_pos' (by omega)), if_pos (show bm (whP (u 117)) (fun c => RC (u 117) c s) (fun c => c) (nc (u 117)) < 256000000 by omega), b2, j3]
      rw [show (bv (whP (u 117)) (fun c => RC (u 117) c s) (nc (u 117)) * 256 + j) % 256 = j by omega]
noncomputable def kfV (r : Nat → Int32) (c s k : Nat) : Nat := RV r k (bK k (cF r c 2)) (cF r c 1) s
theorem kfV_le (r : Nat → Int32) (c s k : Nat) : kfV r c s k ≤ 1000000 := RV_le _ _ _ _ _
theorem s_kindFor (h : Inv u) (p1 p2 : Int32) : Same (FX9_kindFor p1 p2) (FX10_kindFor p1 p2) u := by
  have hR := h.1.1
  have hW := h.2.1
  have h6 := nc_eq hW
  have h8 := ne_eq hW
  rcases lack_cases h p1 p2 with ⟨i, hi, e1, e2⟩ | ⟨c, s, hc, hs1, hs2, rfl, rfl, hp, hl, e1, e2⟩
  · refine same_fin i hi rfl h (Qc_refl u) ?_ (fun m hm => ⟨m, Qm_refl m, ?_⟩)
    · unfold FX9_kindFor; rw [e1, bs, if_neg (wv_ne i hi), bind_eta]
    · unfold FX10_kindFor; rw [e2 m (hm117 hm), bs, if_neg (wv_ne i hi), bind_eta]
  obtain ⟨o, ⟨o1, o2⟩, e⟩ := lp_inv (Bf := BX9_kindFor_25 (nI c) (nI s) 0) (s0 := (256000000, 0, u)) (fun k st => st.1 = nI (bm (fun _ => true) (kfV (u 117) c s) (fun k => k) k) ∧ st.2.1 = nI k ∧ RQ u st.2.2) (fun o => o.1 = nI (bm (fun _ => true) (kfV (u 117) c s) (fun k => k) 7) ∧ RQ u o.2.2) (N := 7) (by omega) (fun k hk st hI rec => by
      obtain ⟨s1, s2, s3⟩ := st
      obtain ⟨i1, i2, i3⟩ := hI
      have i1 : s1 = nI (bm (fun _ => true) (kfV (u 117) c s) (fun k => k) k) := i1
      have i2 : s2 = nI k := i2
      subst i1
      subst i2
      have i3 : RQ u s3 := i3
      have R2 := RQ_Rep (by omega) i3 hW hR
      have hb := bm_le (fun _ => true) (kfV (u 117) c s) (fun k => k) k
      have hv := kfV_le (u 117) c s k
      left
      obtain ⟨u', f1, f2, f3⟩ := c_find R2 hW (by omega) hc hk hs1 hs2 hp
      have f3s : FX4_yardsOfPart (nI s) u' = some (nI (kfV (u 117) c s k)) := f3 s hs2 (fun e he => he)
      refine ⟨(nI (bm (fun _ => true) (kfV (u 117) c s) (fun k => k) (k + 1)), nI (k + 1), u'), ⟨rfl, rfl, RQ_trans i3 f2⟩, ?_⟩
      dsimp only [BX9_kindFor_25]
      rw [if_neg (by rw [L6, nlt (by omega) (by omega)]; omega), f1, bs, f3s, bs, L256, nmul, nadd, nmin (by omega) (by omega), nI_1, bm_up, if_pos rfl])
    (fun st hI rec => by
      obtain ⟨s1, s2, s3⟩ := st
      obtain ⟨i1, i2, i3⟩ := hI
      have i2 : s2 = nI 7 := i2
      subst i2
      refine ⟨(s1, nI 7, s3), ⟨i1, i3⟩, ?_⟩
      dsimp only [BX9_kindFor_25]
      rw [if_pos (by decide)])
    ⟨rfl, rfl, RQ_refl u⟩
  have hb := bm_le (fun _ => true) (kfV (u 117) c s) (fun k => k) 7
  have hbo := best_ok (fun _ => true) (kfV (u 117) c s) (fun k => k) 7 (fun k hk _ => by omega) (fun j k hj hk _ _ => hj)
  have a0 : FX10_cAt (nI c) 0 = nI (56 + 5 * c + 0) := cAt_eq (f := 0)
  have cx : (nI (56 + 5 * c + 0)).toNatClampNeg = 56 + 5 * c + 0 := ncl (by omega)
  refine same_if (c := bm (fun _ => true) (kfV (u 117) c s) (fun k => k) 7 < 256000000) (x := nI (bm (fun _ => true) (kfV (u 117) c s) (fun k => k) 7 % 256)) 3 (by omega) w3 h (RQ_Qc o2) ?_ (fun m hm => ?_)
  · unfold FX9_kindFor
    rw [e1, bs, if_pos rfl, e, bs, o1, bind_eta]
    exact c_second hb
  · have e7 := hm117 hm
    obtain ⟨o', ⟨p1, v, p2⟩, e'⟩ := lp_inv (Bf := BX10_kindFor_35 (nI c) (nI s) 0 (nI (cF (u 117) c 0))) (s0 := (-1, 1000000, 0, m)) (fun k st => st.1 = bT (fun _ => true) (kfV (u 117) c s) (fun k => k) k ∧ st.2.1 = nI (bv (fun _ => true) (kfV (u 117) c s) k) ∧ st.2.2.1 = nI k ∧ ∃ v, Q3 (mrow m 117 (upd (u 117) (56 + 5 * c + 0) v)) st.2.2.2) (fun o => o.1 = bT (fun _ => true) (kfV (u 117) c s) (fun k => k) 7 ∧ ∃ v, Q3 (mrow m 117 (upd (u 117) (56 + 5 * c + 0) v)) o.2.2.2) (N := 7) (by omega) (fun k hk st hI rec => by
        obtain ⟨s1, s2, s3, s4⟩ := st
        obtain ⟨i1, i2, i3, v, i4⟩ := hI
        have i1 : s1 = bT (fun _ => true) (kfV (u 117) c s) (fun k => k) k := i1
        have i2 : s2 = nI (bv (fun _ => true) (kfV (u 117) c s) k) := i2
        have i3 : s3 = nI k := i3
        subst i1
        subst i2
        subst i3
        have i4 : Q3 (mrow m 117 (upd (u 117) (56 + 5 * c + 0) v)) s4 := i4
        have q7 : s4 117 = upd (u 117) (56 + 5 * c + 0) v := (Q3_7 i4).trans (mrow_at _ _ _)
        have hmem : mst s4 117 (56 + 5 * c + 0) (nI k) = mrow s4 117 (upd (u 117) (56 + 5 * c + 0) (nI k)) := by rw [mst_as_mrow s4, q7, upd_upd]
        have Q2 : Q3 (mrow m 117 (upd (u 117) (56 + 5 * c + 0) (nI k))) (mrow s4 117 (upd (u 117) (56 + 5 * c + 0) (nI k))) := Q3_117 i4
        have q4 : mrow s4 117 (upd (u 117) (56 + 5 * c + 0) (nI k)) 124 = u 124 := (Q3_4 Q2).trans (by rw [mrow_ne (by omega)]; exact hm 124 (by omega))
        have hWk : Wf (upd (u 117) (56 + 5 * c + 0) (nI k)) := Wf_setC hW (by omega) (by omega) (fun _ => ⟨fun _ => In_nI (by omega) (by omega), fun z => by omega, fun z => by omega, fun z => by omega⟩)
        have nck : nc (upd (u 117) (56 + 5 * c + 0) (nI k)) = nc (u 117) := congrArg tn (pk_un (by omega))
        have nek : ne (upd (u 117) (56 + 5 * c + 0) (nI k)) = ne (u 117) := congrArg tn (pk_un (by omega))
        have hb := bv_le (fun _ => true) (kfV (u 117) c s) k
        have hv := kfV_le (u 117) c s k
        have ek : cF (upd (u 117) (56 + 5 * c + 0) (nI k)) c 0 = k := (congrArg tn pk_us).trans (ncl (by omega))
        have es : cF (upd (u 117) (56 + 5 * c + 0) (nI k)) c 2 = cF (u 117) c 2 := congrArg tn (pk_un (by omega))
        have ep : cF (upd (u 117) (56 + 5 * c + 0) (nI k)) c 1 = cF (u 117) c 1 := congrArg tn (pk_un (by omega))
        have ev : RC (upd (u 117) (56 + 5 * c + 0) (nI k)) c s = kfV (u 117) c s k := by
          unfold RC bc kfV
          rw [ek, es, ep, RV_congr (fun x hx => pk_un (by omega))]
        left
        obtain ⟨m', f1, f2, f3⟩ := m_RC (m := mrow s4 117 (upd (u 117) (56 + 5 * c + 0) (nI k))) (c := c) (s := s) (mrow_at _ _ _) hWk (Ms_pw h q4) (by rw [nck]; exact hc) (by rw [nek]; exact hs1) hs2 hp
        rw [ev] at f1
        refine ⟨(bT (fun _ => true) (kfV (u 117) c s) (fun k => k) (k + 1), nI (bv (fun _ => true) (kfV (u 117) c s) (k + 1)), nI (k + 1), m'), ⟨rfl, rfl, rfl, nI k, Q3_trans Q2 f2⟩, ?_⟩
        dsimp only [BX10_kindFor_35]
        simp only [a0, cx, hmem]
        rw [if_neg (by rw [L6, nlt (by omega) (by omega)]; omega), if_pos (inb_t (by omega) (by omega)), f1, bs]
        dsimp only
        rw [nmin (by omega) (by omega), nI_1, bT_up, bv_up, if_pos rfl]
        by_cases y : kfV (u 117) c s k < bv (fun _ => true) (kfV (u 117) c s) k
        · rw [if_neg (n_ngt y (by omega)), if_pos ⟨rfl, y⟩]
        · rw [if_pos (n_ge (by omega) (by omega)), if_neg (fun q => y q.2)])
      (fun st hI rec => by
        obtain ⟨s1, s2, s3, s4⟩ := st
        obtain ⟨i1, i2, i3, i4⟩ := hI
        have i3 : s3 = nI 7 := i3
        subst i3
        refine ⟨(s1, s2, nI 7, s4), ⟨i1, i4⟩, ?_⟩
        dsimp only [BX10_kindFor_35]
        rw [if_pos (by decide)])
      ⟨(bT_0 _ _ _).symm, rfl, rfl, m 117 (56 + 5 * c + 0), by rw [← e7, upd_self, mrow_self]; exact Q3_refl m⟩
    have q7 : o'.2.2.2 117 = upd (u 117) (56 + 5 * c + 0) v := (Q3_7 p2).trans (mrow_at _ _ _)
    have hback : mst o'.2.2.2 117 (56 + 5 * c + 0) (nI (cF (u 117) c 0)) = mrow o'.2.2.2 117 (u 117) := by
      rw [mst_as_mrow o'.2.2.2, q7, upd_upd, ← (cK hW hc).1, upd_self]
    have hQ : Q3 m (mrow o'.2.2.2 117 (u 117)) := by
      have := Q3_117 (ρ' := u 117) p2
      rw [← e7, mrow_self] at this
      rw [← e7]
      exact this
    refine ⟨mrow o'.2.2.2 117 (u 117), Q3_Qm hQ, ?_⟩
    unfold FX10_kindFor
    rw [e2 m e7, bs, if_pos rfl, mK e7 hW hc, bs, e', bs]
    simp only [a0, cx, hback]
    rw [if_pos (inb_t (by omega) (by omega)), p1, bind_eta]
    rcases hbo with ⟨b1, b2⟩ | ⟨b1, b2, j, j1, j2, j3⟩
    · rw [if_neg (show ¬ bm (fun _ => true) (kfV (u 117) c s) (fun k => k) 7 < 256000000 by omega)]
      have : bT (fun _ => true) (kfV (u 117) c s) (fun k => k) 7 = -1 := if_neg (by omega)
      rw [this, if_neg (by decide)]
    · have : bT (fun _ => true) (kfV (u 117) c s) (fun k => k) 7 = nI j := by unfold bT; rw [if_pos b1, j3]
      rw [this, if_pos (nI_pos' (by omega)), if_pos (show bm (fun _ => true) (kfV (u 117) c s) (fun k => k) 7 < 256000000 by omega), b2, j3]
      rw [show (bv (fun _ => true) (kfV (u 117) c s) 7 * 256 + j) % 256 = j by omega]
end ROUNDS2
