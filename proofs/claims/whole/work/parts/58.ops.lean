/-! the calls, sixth part: change, hold, buy, wipe, tear -/
section OPS6
variable {u m : Mem} {r : Nat → Int32} {B : Nat}
theorem s_hold (h : Inv u) (p1 p2 : Int32) : Same (FX9_hold p1 p2) (FX10_hold p1 p2) u := by
  have hR := h.1.1
  have hW := h.2.1
  have h6 := nc_eq hW
  rcases wi_lit p1 (n := 10) (m := 9) (by omega) rfl with ⟨g0, -⟩ | ⟨s, hs', rfl, g1⟩
  · refine same_fin 0 (by omega) w0 h (Qc_refl u) ?_ (fun m hm => ⟨m, Qm_refl m, ?_⟩)
    · unfold FX9_hold; rw [g0, if_pos rfl, bind_eta]
    · unfold FX10_hold FX10_isSpot; rw [within_eq, g0, if_pos rfl, bind_eta]
  have good : wfH (nc (u 117)) p2 → (p2 = -1 ∨ (¬ p2 = -1 ∧ FX9_within p2 0 (nI (nc (u 117)) - 1) = 1)) → Same (FX9_hold (nI s) p2) (FX10_hold (nI s) p2) u := fun hv hd => by
    refine same_row (x := 1) (u2 := mrow (mst u (1 + 11) s p2) 117 (upd (u 117) (46 + s) p2)) h (Rep_setS hR hW hs') (Wf_setS hW hs' hv) (Qf_mst (by omega) _ _) ?_ ?_ (Qm_refl _)
    · unfold FX9_hold
      rw [g1, if_neg (by decide), if_pos (inb_t (by omega) (by omega)), ncl (by omega)]
      rcases hd with rfl | ⟨a, b⟩
      · rw [if_pos rfl]
      · rw [if_neg a, c_has hR hW, b, if_neg (by decide)]
    · have e7 : mst u (1 + 11) s p2 117 = u 117 := mst_k (by omega) _ _
      unfold FX10_hold FX10_isSpot
      rw [within_eq, g1, if_neg (by decide), show (46 : Int32) = nI 46 from rfl, nadd, if_pos (inb_t (by omega) (by omega)), ncl (by omega), mst_as_mrow (mst u (1 + 11) s p2) 117, e7]
      rcases hd with rfl | ⟨a, b⟩
      · rw [if_pos rfl]
      · rw [if_neg a, m_isC e7 hW, b, if_neg (by decide)]
  by_cases hn : p2 = -1
  · exact good (Or.inl hn) (Or.inl hn)
  rcases wi_cases p2 (n := nc (u 117)) (by omega) with ⟨k0, -⟩ | ⟨c, hc, rfl, k1⟩
  · refine same_fin 0 (by omega) w0 h (Qc_refl u) ?_ (fun m hm => ⟨m, Qm_refl m, ?_⟩)
    · unfold FX9_hold; rw [g1, if_neg (by decide), if_neg hn, c_has hR hW, k0, if_pos rfl, bind_eta]
    · unfold FX10_hold FX10_isSpot; rw [within_eq, g1, if_neg (by decide), if_neg hn, m_isC (hm117 hm) hW, k0, if_pos rfl, bind_eta]
  · exact good (Or.inr ⟨c, hc, rfl⟩) (Or.inr ⟨hn, k1⟩)
theorem s_buy (h : Inv u) (p1 p2 : Int32) : Same (FX9_buy p1 p2) (FX10_buy p1 p2) u := by
  have hR := h.1.1
  have hW := h.2.1
  have h6 := nc_eq hW
  have h8 := nw_eq hW
  rcases wi_cases p1 (n := nc (u 117)) (by omega) with ⟨g0, -⟩ | ⟨c, hc, rfl, g1⟩
  · refine same_fin 0 (by omega) w0 h (Qc_refl u) ?_ (fun m hm => ⟨m, Qm_refl m, ?_⟩)
    · unfold FX9_buy; rw [c_has hR hW, g0, if_pos rfl, bind_eta]
    · unfold FX10_buy; rw [m_isC (hm117 hm) hW, g0, if_pos rfl, bind_eta]
  rcases wi_cases p2 (n := nw (u 117)) (by omega) with ⟨k0, -⟩ | ⟨w, hw', rfl, k1⟩
  · refine same_fin 0 (by omega) w0 h (Qc_refl u) ?_ (fun m hm => ⟨m, Qm_refl m, ?_⟩)
    · unfold FX9_buy; rw [c_has hR hW, g1, if_neg (by decide), c_hasW hR hW, k0, if_pos rfl, bind_eta]
    · unfold FX10_buy; rw [m_isC (hm117 hm) hW, g1, if_neg (by decide), m_isW (hm117 hm) hW, k0, if_pos rfl, bind_eta]
  have e3 := cE hW hc
  have wp := wP hW hw'
  have wt := (wfH_neg (hW.2.2.2.2.2 w hw').2 h6.2).2
  have a0 : FX10_wAt (nI w) 0 = nI (126 + 2 * w + 0) := wAt_eq (f := 0)
  have a1 : FX10_wAt (nI w) 1 = nI (126 + 2 * w + 1) := wAt_eq (f := 1)
  have a3 : FX10_cAt (nI c) 3 = nI (56 + 5 * c + 3) := cAt_eq (f := 3)
  by_cases z : u 117 (126 + 2 * w + 1) = -1
  · by_cases y : wF' (u 117) w ≤ cF (u 117) c 3
    · have R1 := Rep_setW (v := nI c) hR hW (c := w) (f := 1) (by omega) (by omega)
      have W1 := Wf_setW (v := nI c) hW (c := w) (f := 1) (by omega) (by omega) (fun _ => ⟨fun q => by omega, fun _ => Or.inr ⟨c, hc, rfl⟩⟩)
      have d1 : dnc (upd (u 117) (126 + 2 * w + 1) (nI c)) = dnc (u 117) := dnc_congr (pk_un (by omega)) (fun e he => pk_un (by have := (ne_eq hW).2; omega))
      have R2 := Rep_setC (v := nI (cF (u 117) c 3 - wF' (u 117) w)) R1 W1 (c := c) (f := 3) (by omega) (by omega)
      have W2 := Wf_setC (v := nI (cF (u 117) c 3 - wF' (u 117) w)) W1 (c := c) (f := 3) (by omega) (by omega) (fun _ => ⟨fun q => by omega, fun q => by omega, fun q => by omega, fun _ => In_mono (In_nI (Nat.sub_le _ _) (by omega)) (by rw [d1]; exact e3.2.1)⟩)
      have hF : Fr 1 u (mst (mst u (1 + 26 + w) 1 (nI c)) (1 + 12 + c) 3 (nI (cF (u 117) c 3 - wF' (u 117) w))) := Fr_trans (Fr_mst (by omega) _ _ _) (Fr_mst (by omega) _ _ _)
      refine same_row (x := nI (cF (u 117) c 3 - wF' (u 117) w)) (u2 := mrow (mst (mst u (1 + 26 + w) 1 (nI c)) (1 + 12 + c) 3 (nI (cF (u 117) c 3 - wF' (u 117) w))) 117 (upd (upd (u 117) (126 + 2 * w + 1) (nI c)) (56 + 5 * c + 3) (nI (cF (u 117) c 3 - wF' (u 117) w)))) h R2 W2 (Fr_Qf hF) ?_ ?_ (Qm_refl _)
      · unfold FX9_buy
        dsimp only [nm]
        have v1 : mst u (1 + 26 + w) 1 (nI c) (1 + 12 + c) 3 = nI (cF (u 117) c 3) := by rw [mst_k (by omega)]; exact qE hR hW hc
        have v2 : mst u (1 + 26 + w) 1 (nI c) (1 + 26 + w) 0 = nI (wF' (u 117) w) := by rw [mst_j (by omega)]; exact qi hR hW hw'
        rw [c_has hR hW, g1, if_neg (by decide), c_hasW hR hW, k1, if_neg (by decide), if_pos (inb_t (by omega) (by omega)), if_pos (inb_t (by omega) (by omega)), ncl (by omega), ncl (by omega), if_pos ((qt hR hw').trans z), if_pos (by rw [qi hR hW hw', qE hR hW hc, nle (by omega) (by omega)]; exact y), v1, v2, nsub y, mst_s]
      · have e7 : mst (mst u (1 + 26 + w) 1 (nI c)) (1 + 12 + c) 3 (nI (cF (u 117) c 3 - wF' (u 117) w)) 117 = u 117 := hF 117 (by omega)
        generalize hU : mst (mst u (1 + 26 + w) 1 (nI c)) (1 + 12 + c) 3 (nI (cF (u 117) c 3 - wF' (u 117) w)) = U at *
        unfold FX10_buy
        dsimp only [nm]
        have x1 : mst U 117 (126 + 2 * w + 1) (nI c) 117 (56 + 5 * c + 3) = nI (cF (u 117) c 3) := by rw [mst_j (by omega), e7]; exact e3.1
        have x2 : mst U 117 (126 + 2 * w + 1) (nI c) 117 (126 + 2 * w) = nI (wF' (u 117) w) := by rw [mst_j (by omega), e7]; exact wp.1
        rw [m_isC e7 hW, g1, if_neg (by decide), m_isW e7 hW, k1, if_neg (by decide), a0, a1, a3, if_pos (inb_t (by omega) (by omega)), if_neg (by rw [ncl (by omega), e7, wt]; exact fun q => q z), mE e7 hW hc, bs, if_pos (inb_t (by omega) (by omega)), if_pos (by rw [ncl (by omega), Nat.add_zero, e7, wp.1, nle (by omega) (by omega)]; exact y), if_pos (inb_t (by omega) (by omega)), if_pos (inb_t (by omega) (by omega)), if_pos (inb_t (by omega) (by omega)), if_pos (inb_t (by omega) (by omega)), ncl (by omega), ncl (by omega), ncl (by omega), x1, show mst U 117 (126 + 2 * w + 1) (nI c) 117 (126 + 2 * w + 0) = nI (wF' (u 117) w) from x2, nsub y]
        have eX : mst (mst U 117 (126 + 2 * w + 1) (nI c)) 117 (56 + 5 * c + 3) (nI (cF (u 117) c 3 - wF' (u 117) w)) = mrow U 117 (upd (upd (u 117) (126 + 2 * w + 1) (nI c)) (56 + 5 * c + 3) (nI (cF (u 117) c 3 - wF' (u 117) w))) := by rw [mst_as_mrow U, mst_mrow, e7]
        rw [eX]
        have : FX10_cIs (nI c) 3 (mrow U 117 (upd (upd (u 117) (126 + 2 * w + 1) (nI c)) (56 + 5 * c + 3) (nI (cF (u 117) c 3 - wF' (u 117) w)))) = some (nI (cF (u 117) c 3 - wF' (u 117) w)) := by
          have := mc (m := mrow U 117 (upd (upd (u 117) (126 + 2 * w + 1) (nI c)) (56 + 5 * c + 3) (nI (cF (u 117) c 3 - wF' (u 117) w)))) (c := c) (f := 3) (by omega) (by omega)
          rw [mrow_at, pk_us] at this
          exact this
        rw [this, bs]
    · refine same_fin 4 (by omega) w4 h (Qc_refl u) ?_ (fun m hm => ⟨m, Qm_refl m, ?_⟩)
      · unfold FX9_buy
        rw [c_has hR hW, g1, if_neg (by decide), c_hasW hR hW, k1, if_neg (by decide), if_pos (inb_t (by omega) (by omega)), if_pos (inb_t (by omega) (by omega)), ncl (by omega), ncl (by omega), if_pos ((qt hR hw').trans z), if_neg (by rw [qi hR hW hw', qE hR hW hc, nle (by omega) (by omega)]; exact y), bind_eta]
      · unfold FX10_buy
        rw [m_isC (hm117 hm) hW, g1, if_neg (by decide), m_isW (hm117 hm) hW, k1, if_neg (by decide), a0, a1, a3, if_pos (inb_t (by omega) (by omega)), if_neg (by rw [ncl (by omega), hm117 hm, wt]; exact fun q => q z), mE (hm117 hm) hW hc, bs, if_pos (inb_t (by omega) (by omega)), if_neg (by rw [ncl (by omega), Nat.add_zero, hm117 hm, wp.1, nle (by omega) (by omega)]; exact y), bind_eta]
  · refine same_fin 4 (by omega) w4 h (Qc_refl u) ?_ (fun m hm => ⟨m, Qm_refl m, ?_⟩)
    · unfold FX9_buy
      rw [c_has hR hW, g1, if_neg (by decide), c_hasW hR hW, k1, if_neg (by decide), if_pos (inb_t (by omega) (by omega)), if_pos (inb_t (by omega) (by omega)), ncl (by omega), ncl (by omega), if_neg (by rw [qt hR hw']; exact z), bind_eta]
    · unfold FX10_buy
      rw [m_isC (hm117 hm) hW, g1, if_neg (by decide), m_isW (hm117 hm) hW, k1, if_neg (by decide), a1, if_pos (inb_t (by omega) (by omega)), if_pos (by rw [ncl (by omega), hm117 hm, wt]; exact z), bind_eta]
end OPS6
