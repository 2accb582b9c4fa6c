/-! the calls, first part -/
theorem hm117 {u m : Mem} (h : Hm u m) : m 117 = u 117 := h 117 (by omega)
theorem w0 : (-1000001 : Int32) = wv 0 := by decide
theorem w1 : (-1000002 : Int32) = wv 1 := by decide
theorem w2 : (-1000003 : Int32) = wv 2 := by decide
theorem w3 : (-1000004 : Int32) = wv 3 := by decide
theorem w4 : (-1000005 : Int32) = wv 4 := by decide
theorem w5 : (-1000006 : Int32) = wv 5 := by decide
theorem w6 : (-1000007 : Int32) = wv 6 := by decide
theorem s_of {u : Mem} (h : Inv u) (p1 p2 : Int32) : Same (FX9_of p1 p2) (FX10_of p1 p2) u := by
  have hR := h.1.1
  have hW := h.2.1
  rcases wi_cases p1 (n := nc (u 117)) (by have := nc_eq hW; omega) with ⟨g0, -⟩ | ⟨c, hc, rfl, g1⟩
  · refine same_fin 0 (by omega) w0 h (Qc_refl u) ?_ (fun m hm => ⟨m, Qm_refl m, ?_⟩)
    · unfold FX9_of; rw [c_has hR hW, g0, if_pos rfl, bind_eta]
    · unfold FX10_of; rw [m_isC (hm117 hm) hW, g0, if_pos rfl, bind_eta]
  have h6 := nc_eq hW
  rcases wi_lit p2 (n := 8) (m := 7) (by omega) rfl with ⟨k0, kn⟩ | ⟨k, hk, rfl, k1⟩
  · have e0 : ¬ p2 = 0 := kn 0 (by omega)
    have e1 : ¬ p2 = 1 := kn 1 (by omega)
    have e2 : ¬ p2 = 2 := kn 2 (by omega)
    have e3 : ¬ p2 = 3 := kn 3 (by omega)
    have e4 : ¬ p2 = 4 := kn 4 (by omega)
    have e5 : ¬ p2 = 5 := kn 5 (by omega)
    have e6 : ¬ p2 = 6 := kn 6 (by omega)
    have e7 : ¬ p2 = 7 := kn 7 (by omega)
    refine same_fin 0 (by omega) w0 h (Qc_refl u) ?_ (fun m hm => ⟨m, Qm_refl m, ?_⟩)
    · unfold FX9_of; rw [c_has hR hW, g1, if_neg (by decide), if_pos (inb_t (by omega) (by omega)), if_neg e0, if_neg e1, if_neg e2, if_neg e3, if_neg e4, if_neg e5, if_neg e6, if_neg e7, bind_eta]
    · unfold FX10_of; rw [m_isC (hm117 hm) hW, g1, if_neg (by decide), within_eq, k0, if_pos rfl, bind_eta]
  · have hf : ∀ x, FX9_of (nI c) (nI k) u = some (x, u) → FX10_of (nI c) (nI k) u = some (x, u) → Same (FX9_of (nI c) (nI k)) (FX10_of (nI c) (nI k)) u := fun x f1 f2 => same_val h (Qc_refl u) f1 f2 (Qm_refl u)
    have hk8 : k = 0 ∨ k = 1 ∨ k = 2 ∨ k = 3 ∨ k = 4 ∨ k = 5 ∨ k = 6 ∨ k = 7 := by omega
    rcases hk8 with rfl | rfl | rfl | rfl | rfl | rfl | rfl | rfl
    · refine hf (u (1 + 12 + c) 0) ?_ ?_
      · unfold FX9_of; rw [c_has hR hW, g1, if_neg (by decide), if_pos (inb_t (by omega) (by omega)), ncl (by omega)]; rfl
      · unfold FX10_of; rw [m_isC rfl hW, g1, if_neg (by decide), within_eq, k1, if_neg (by decide)]; rw [hR.2.2.1 c hc 0 (by omega)]; exact congrArg (fun o => Option.bind o (fun q => some (q, u))) (mc (f := 0) (by omega) (by omega))
    · refine hf (u (1 + 12 + c) 1) ?_ ?_
      · unfold FX9_of; rw [c_has hR hW, g1, if_neg (by decide), if_pos (inb_t (by omega) (by omega)), ncl (by omega)]; rfl
      · unfold FX10_of; rw [m_isC rfl hW, g1, if_neg (by decide), within_eq, k1, if_neg (by decide)]; rw [hR.2.2.1 c hc 1 (by omega)]; exact congrArg (fun o => Option.bind o (fun q => some (q, u))) (mc (f := 1) (by omega) (by omega))
    · refine hf (u (1 + 12 + c) 2) ?_ ?_
      · unfold FX9_of; rw [c_has hR hW, g1, if_neg (by decide), if_pos (inb_t (by omega) (by omega)), ncl (by omega)]; rfl
      · unfold FX10_of; rw [m_isC rfl hW, g1, if_neg (by decide), within_eq, k1, if_neg (by decide)]; rw [hR.2.2.1 c hc 2 (by omega)]; exact congrArg (fun o => Option.bind o (fun q => some (q, u))) (mc (f := 2) (by omega) (by omega))
    · refine hf (u (1 + 12 + c) 3) ?_ ?_
      · unfold FX9_of; rw [c_has hR hW, g1, if_neg (by decide), if_pos (inb_t (by omega) (by omega)), ncl (by omega)]; rfl
      · unfold FX10_of; rw [m_isC rfl hW, g1, if_neg (by decide), within_eq, k1, if_neg (by decide)]; rw [hR.2.2.1 c hc 3 (by omega)]; exact congrArg (fun o => Option.bind o (fun q => some (q, u))) (mc (f := 3) (by omega) (by omega))
    · refine hf (u (1 + 12 + c) 4) ?_ ?_
      · unfold FX9_of; rw [c_has hR hW, g1, if_neg (by decide), if_pos (inb_t (by omega) (by omega)), ncl (by omega)]; rfl
      · unfold FX10_of; rw [m_isC rfl hW, g1, if_neg (by decide), within_eq, k1, if_neg (by decide)]; rw [hR.2.2.1 c hc 4 (by omega)]; exact congrArg (fun o => Option.bind o (fun q => some (q, u))) (mc (f := 4) (by omega) (by omega))
    · refine hf (nI (bc (u 117) c)) ?_ ?_
      · unfold FX9_of; rw [c_has hR hW, g1, if_neg (by decide), if_pos (inb_t (by omega) (by omega)), ncl (by omega)]; rw [c_canBear hR hW hc]; rfl
      · unfold FX10_of; rw [m_isC rfl hW, g1, if_neg (by decide), within_eq, k1, if_neg (by decide)]; rw [m_bears rfl hW hc]; rfl
    · refine hf (nI (kS (u 117) c)) ?_ ?_
      · unfold FX9_of; rw [c_has hR hW, g1, if_neg (by decide), if_pos (inb_t (by omega) (by omega)), ncl (by omega)]; rw [c_carriedBy hR hW c]; rfl
      · unfold FX10_of; rw [m_isC rfl hW, g1, if_neg (by decide), within_eq, k1, if_neg (by decide)]; rw [m_carries rfl hW c]; rfl
    · refine hf (nI (wS (u 117) (kS (u 117) c))) ?_ ?_
      · unfold FX9_of; rw [c_has hR hW, g1, if_neg (by decide), if_pos (inb_t (by omega) (by omega)), ncl (by omega)]; rw [c_carriedBy hR hW c]; dsimp only [Option.bind]; rw [c_weightOf hR hW (kS_lt hW c)]; rfl
      · unfold FX10_of; rw [m_isC rfl hW, g1, if_neg (by decide), within_eq, k1, if_neg (by decide)]; rw [m_carries rfl hW c]; dsimp only [Option.bind]; rw [m_weighs rfl hW (kS_lt hW c)]; rfl
