/-! reach, heavy -/
section OPS8
variable {u m : Mem} {r : Nat → Int32} {B : Nat}
theorem s_reach (h : Inv u) (p1 : Int32) : Same (FX9_reach p1) (FX10_reach p1) u := by
  have hR := h.1.1
  have hW := h.2.1
  have h6 := nc_eq hW
  rcases wi_cases p1 (n := nc (u 117)) (by omega) with ⟨g0, -⟩ | ⟨c, hc, rfl, g1⟩
  · refine same_fin 0 (by omega) w0 h (Qc_refl u) ?_ (fun m hm => ⟨m, Qm_refl m, ?_⟩)
    · unfold FX9_reach; rw [c_has hR hW, g0, if_pos rfl, bind_eta]
    · unfold FX10_reach; rw [m_isC (hm117 hm) hW, g0, if_pos rfl, bind_eta]
  have hk := cK hW hc
  have hp := cP hW hc
  have hl := fun p => Ds_le hW (cF (u 117) c 0) (cF (u 117) c 1) p
  refine same_val (x := nI (setS (fun p => decide (Ds (u 117) (cF (u 117) c 0) (cF (u 117) c 1) p < 1000000)) 7)) (u2 := mrow u 121 (tb 49 (flat (Ds (u 117) (cF (u 117) c 0))) (u 121))) h (Qc_refl u) ?_ ?_ (Qm_mrow (by omega) _)
  · unfold FX9_reach
    rw [c_has hR hW, g1, if_neg (by decide)]
    refine lp_bind (set_loop (fun p => decide (Ds (u 117) (cF (u 117) c 0) (cF (u 117) c 1) p < 1000000)) (n := 7) (by omega) (fun k hk a rec => ?_) (fun a rec => ?_)) rfl
    · have := hl k
      dsimp only [BX9_reach_22]
      rw [L7, if_neg (n_ngt hk (by omega)), c_yardsTo hR hW hc hk, bs]
      by_cases z : Ds (u 117) (cF (u 117) c 0) (cF (u 117) c 1) k < 1000000
      · rw [if_neg (by rw [LM, nle (by omega) (by omega)]; omega), if_pos (decide_eq_true z)]
      · rw [if_pos (by rw [LM, nle (by omega) (by omega)]; omega), if_neg (by rw [decide_eq_false z]; decide)]
    · dsimp only [BX9_reach_22]
      rw [L7, if_pos (n_ge (Nat.le_refl _) (by omega))]
  · unfold FX10_reach
    rw [m_isC rfl hW, g1, if_neg (by decide), mK rfl hW hc, bs, m_findFar rfl hW hk.2, bs]
    have h7 : mrow u 121 (tb 49 (flat (Ds (u 117) (cF (u 117) c 0))) (u 121)) 117 = u 117 := mrow_ne (by omega) _
    refine lp_bind (set_loop (fun p => decide (Ds (u 117) (cF (u 117) c 0) (cF (u 117) c 1) p < 1000000)) (n := 7) (by omega) (fun k hk a rec => ?_) (fun a rec => ?_)) rfl
    · have := hl k
      have e : mrow u 121 (tb 49 (flat (Ds (u 117) (cF (u 117) c 0))) (u 121)) 121 (7 * cF (u 117) c 1 + k) = nI (Ds (u 117) (cF (u 117) c 0) (cF (u 117) c 1) k) := by
        rw [mrow_at, tb_get (by omega)]
        unfold flat
        rw [(dm7 hk).1, (dm7 hk).2]
      dsimp only [BX10_reach_29]
      rw [L7, if_neg (n_ngt hk (by omega)), mP h7 hW hc, bs, nmul, nadd, if_pos (inb_t (by omega) (by omega)), or0]
      by_cases z : Ds (u 117) (cF (u 117) c 0) (cF (u 117) c 1) k < 1000000
      · rw [if_neg (by rw [ncl (by omega), e, LM, nle (by omega) (by omega)]; omega), if_pos (decide_eq_true z)]
      · rw [if_pos (by rw [ncl (by omega), e, LM, nle (by omega) (by omega)]; omega), if_neg (by rw [decide_eq_false z]; decide)]
    · dsimp only [BX10_reach_29]
      rw [L7, if_pos (n_ge (Nat.le_refl _) (by omega))]
theorem s_heavy (h : Inv u) (p1 p2 : Int32) : Same (FX9_heavy p1 p2) (FX10_heavy p1 p2) u := by
  have hR := h.1.1
  have hW := h.2.1
  have h6 := nc_eq hW
  have h8 := ne_eq hW
  rcases wi_cases p1 (n := nc (u 117)) (by omega) with ⟨g0, -⟩ | ⟨c, hc, rfl, g1⟩
  · refine same_fin 0 (by omega) w0 h (Qc_refl u) ?_ (fun m hm => ⟨m, Qm_refl m, ?_⟩)
    · unfold FX9_heavy; rw [c_has hR hW, g0, if_pos rfl, bind_eta]
    · unfold FX10_heavy; rw [m_isC (hm117 hm) hW, g0, if_pos rfl, bind_eta]
  rcases set_cases hW p2 with k0 | ⟨s, hs1, hs2, rfl, k1⟩
  · refine same_fin 0 (by omega) w0 h (Qc_refl u) ?_ (fun m hm => ⟨m, Qm_refl m, ?_⟩)
    · unfold FX9_heavy; rw [c_has hR hW, g1, if_neg (by decide), c_areErrands hR hW, k0, if_pos rfl, bind_eta]
    · unfold FX10_heavy; rw [m_isC (hm117 hm) hW, g1, if_neg (by decide), m_isSet0 (hm117 hm) hW _ k0, bs, if_pos rfl, bind_eta]
  have pc := (pc_eq hs2).2.2
  have hb := bc_le hW hc
  have hws := wS_le hW s
  have hset : ∀ m, m 117 = u 117 → FX10_isSet (nI s) 8 m = some 1 := fun m hm => by
    rw [L8, m_isSet1 hm hW hs2 (by omega) k1, if_pos pc]
  by_cases z : wS (u 117) s ≤ bc (u 117) c
  · refine same_val (x := nI (setS (fun e => hs s e && decide (bc (u 117) c < wS (u 117) s + eF (u 117) e 0 / 2)) (ne (u 117)))) h (Qc_refl u) ?_ ?_ (Qm_refl u)
    · unfold FX9_heavy
      rw [c_has hR hW, g1, if_neg (by decide), c_areErrands hR hW, k1, if_neg (by decide), if_pos (inb_t (by omega) (by omega)), c_weightOf hR hW hs2, bs, ncl (by omega), c_canBear hR hW hc, nsub z, if_pos (nI_pos' (by omega))]
      refine lp_bind (set_loop (fun e => hs s e && decide (bc (u 117) c < wS (u 117) s + eF (u 117) e 0 / 2)) (n := ne (u 117)) (by omega) (fun k hk a rec => ?_) (fun a rec => ?_)) rfl
      · have e0 := eW hW hk
        dsimp only [BX9_heavy_65]
        rw [q6 hR hW, if_neg (n_ngt hk (by omega)), nhas hs2 (by omega), b2, if_pos (inb_t (by omega) (by omega))]
        by_cases y : hs s k = true
        · rw [if_pos y]
          by_cases w : bc (u 117) c < wS (u 117) s + eF (u 117) k 0 / 2
          · rw [if_neg (by rw [ncl (by omega), qp hR hW hk, L2, ndiv (by omega) (by omega) (by omega), nle (by omega) (by omega)]; omega), if_pos (by simp [y, w])]
          · rw [if_pos (by rw [ncl (by omega), qp hR hW hk, L2, ndiv (by omega) (by omega) (by omega), nle (by omega) (by omega)]; omega), if_neg (by simp [w])]
        · rw [if_neg y, if_neg (by simp [y])]
      · dsimp only [BX9_heavy_65]
        rw [q6 hR hW, if_pos (n_ge (Nat.le_refl _) (by omega))]
    · unfold FX10_heavy
      rw [m_isC rfl hW, g1, if_neg (by decide), hset u rfl, bs, if_neg (by decide), m_weighs rfl hW hs2, bs, m_bears rfl hW hc, bs, if_pos (n_ge z (by omega))]
      refine lp_bind (set_loop (fun e => hs s e && decide (bc (u 117) c < wS (u 117) s + eF (u 117) e 0 / 2)) (n := ne (u 117)) (by omega) (fun k hk a rec => ?_) (fun a rec => ?_)) rfl
      · have e0 := eW hW hk
        dsimp only [BX10_heavy_53]
        rw [h8.1, if_neg (n_ngt hk (by omega)), nhas2 hs2 (by omega), b2, mp rfl hW hk, bs, m_bears rfl hW hc, bs, L2, ndiv (by omega) (by omega) (by omega), nadd, or0]
        by_cases y : hs s k = true
        · rw [if_pos y]
          by_cases w : bc (u 117) c < wS (u 117) s + eF (u 117) k 0 / 2
          · rw [if_neg (by rw [nle (by omega) (by omega)]; omega), if_pos (by simp [y, w])]
          · rw [if_pos (by rw [nle (by omega) (by omega)]; omega), if_neg (by simp [w])]
        · rw [if_neg y, if_neg (by simp [y])]
      · dsimp only [BX10_heavy_53]
        rw [h8.1, if_pos (n_ge (Nat.le_refl _) (by omega))]
  · refine same_fin 4 (by omega) w4 h (Qc_refl u) ?_ (fun m hm => ⟨m, Qm_refl m, ?_⟩)
    · unfold FX9_heavy
      rw [c_has hR hW, g1, if_neg (by decide), c_areErrands hR hW, k1, if_neg (by decide), if_pos (inb_t (by omega) (by omega)), c_weightOf hR hW hs2, bs, if_neg (by rw [ncl (by omega), c_canBear hR hW hc, Int32.le_iff_toInt_le, pk_sub_toInt (by omega) (by omega)]; show ¬ (0 : Int) ≤ _; omega), bind_eta]
    · unfold FX10_heavy
      rw [m_isC (hm117 hm) hW, g1, if_neg (by decide), hset m (hm117 hm), bs, if_neg (by decide), m_weighs (hm117 hm) hW hs2, bs, m_bears (hm117 hm) hW hc, bs, if_neg (n_ngt (by omega) (by omega)), bind_eta]
end OPS8
