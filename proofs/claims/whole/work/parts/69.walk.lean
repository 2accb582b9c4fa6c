/-! the call walk -/
section WALK3
variable {u m : Mem} {r : Nat → Int32} {B : Nat}
theorem s_walk (h : Inv u) (p1 p2 : Int32) : Same (FX9_walk p1 p2) (FX10_walk p1 p2) u := by
  have hR := h.1.1
  have hW := h.2.1
  have h6 := nc_eq hW
  have h8 := ne_eq hW
  rcases wi_cases p1 (n := nc (u 117)) (by omega) with ⟨g0, -⟩ | ⟨c, hc, rfl, g1⟩
  · refine same_fin 0 (by omega) w0 h (Qc_refl u) ?_ (fun m hm => ⟨m, Qm_refl m, ?_⟩)
    · unfold FX9_walk; rw [c_has hR hW, g0, if_pos rfl, bind_eta]
    · unfold FX10_walk; rw [m_isC (hm117 hm) hW, g0, if_pos rfl, bind_eta]
  rcases pl_cases p2 with ⟨k0, -⟩ | ⟨t, ht, rfl, k1⟩
  · refine same_fin 0 (by omega) w0 h (Qc_refl u) ?_ (fun m hm => ⟨m, Qm_refl m, ?_⟩)
    · unfold FX9_walk; rw [c_has hR hW, g1, if_neg (by decide), np9, k0, if_pos rfl, bind_eta]
    · unfold FX10_walk; rw [m_isC (hm117 hm) hW, g1, if_neg (by decide), np10, k0, if_pos rfl, bind_eta]
  have hl := Ds_le hW (cF (u 117) c 0) (cF (u 117) c 1) t
  by_cases z : Ds (u 117) (cF (u 117) c 0) (cF (u 117) c 1) t < 1000000
  · obtain ⟨u', f1, f2, f3⟩ := c_go hR hW hc ht
    have W1 := stR_wf hW (c := c) (t := t) (by omega) ht
    have hg := (gS_le W1 c t (ne (u 117)) (by rw [stR_ne]; exact Nat.le_refl _)).2
    have e7 : u' 117 = u 117 := f3 117 (by omega)
    obtain ⟨m', q1, q2, q3, q4⟩ := m_walk_yes e7 hW hc ht z
    refine same_row (x := nI (gS (stR (u 117) c t) c t (ne (u 117)))) (u2 := m') h f2 (fiR_wf hW hc ht) (Fr_Qf f3) ?_ ?_ q2
    · unfold FX9_walk
      rw [c_has hR hW, g1, if_neg (by decide), np9, k1, if_neg (by decide), c_yardsTo hR hW hc ht, bs, if_pos (by rw [LM, nlt (by omega) (by omega)]; exact z), bind_eta]
      exact f1
    · unfold FX10_walk
      rw [m_isC e7 hW, g1, if_neg (by decide), np10, k1, if_neg (by decide), q1, bs]
      dsimp only
      rw [if_pos (nI_pos' (by omega))]
  · refine same_fin 3 (by omega) w3 h (Qc_refl u) ?_ (fun m hm => ⟨_, Qm_mrow (F := 121) (by omega) (tb 49 (flat (Ds (u 117) (cF (u 117) c 0))) (m 121)), ?_⟩)
    · unfold FX9_walk
      rw [c_has hR hW, g1, if_neg (by decide), np9, k1, if_neg (by decide), c_yardsTo hR hW hc ht, bs, if_neg (by rw [LM, nlt (by omega) (by omega)]; exact z), bind_eta]
    · unfold FX10_walk
      rw [m_isC (hm117 hm) hW, g1, if_neg (by decide), np10, k1, if_neg (by decide), m_walk_no (hm117 hm) hW hc ht z, bs]
      dsimp only
      rw [if_neg (by decide), bind_eta]
end WALK3
