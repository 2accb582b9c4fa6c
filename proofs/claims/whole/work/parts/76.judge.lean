/-! the call judge -/
section JUDGE2
variable {u m : Mem} {r : Nat → Int32} {B : Nat}
theorem first_not (P : Nat → Prop) : ∀ n, ∃ N, N ≤ n ∧ (∀ j, j < N → P j) ∧ (N = n ∨ N < n ∧ ¬ P N)
  | 0 => ⟨0, Nat.le_refl _, fun j hj => by omega, Or.inl rfl⟩
  | n + 1 => by
    obtain ⟨N, h1, h2, h3⟩ := first_not P n
    rcases h3 with h3 | h3
    · by_cases c : P n
      · refine ⟨n + 1, Nat.le_refl _, fun j hj => ?_, Or.inl rfl⟩
        by_cases e : j = n
        · subst e; exact c
        · exact h2 j (by omega)
      · exact ⟨N, by omega, h2, Or.inr ⟨by omega, by rw [h3]; exact c⟩⟩
    · exact ⟨N, by omega, h2, Or.inr ⟨by omega, h3.2⟩⟩
theorem s_judge (h : Inv u) (p1 p2 : Int32) : Same (FX9_judge p1 p2) (FX10_judge p1 p2) u := by
  have hR := h.1.1
  have hW := h.2.1
  have h6 := nc_eq hW
  rcases wi_lit p1 (n := 4) (m := 3) (by omega) rfl with ⟨g0, -⟩ | ⟨s, hs', rfl, g1⟩
  · refine same_fin 0 (by omega) w0 h (Qc_refl u) ?_ (fun m hm => ⟨m, Qm_refl m, ?_⟩)
    · unfold FX9_judge FX9_isSheet; rw [g0, if_pos rfl, bind_eta]
    · unfold FX10_judge FX10_isSheet; rw [within_eq, g0, if_pos rfl, bind_eta]
  obtain ⟨j1, j2, j3⟩ := h.1.2.2.2.2.1 s hs'
  obtain ⟨b4, sz⟩ := h.2.2.2.2.1 s hs'
  have hmiss : FX5_isMissing (108 + 2 * s) u = if u 128 s = 0 then 1 else 0 := by unfold FX5_isMissing; rw [j1]
  by_cases z : u 128 s = 0
  · rw [if_pos z] at hmiss
    refine same_fin 5 (by omega) w5 h (Qc_refl u) ?_ (fun m hm => ⟨m, Qm_refl m, ?_⟩)
    · unfold FX9_judge FX9_isSheet; rw [g1, if_neg (by decide), if_pos (inb_t (by omega) (by omega)), if_neg (by rw [ncl (by omega), hmiss]; decide), bind_eta]
    · unfold FX10_judge FX10_isSheet; rw [within_eq, g1, if_neg (by decide), if_pos (inb_t (by omega) (by omega)), if_pos (by rw [ncl (by omega), hm 128 (by omega)]; exact z), bind_eta]
  rw [if_neg z] at hmiss
  rcases wi_cases p2 (n := nc (u 117)) (by omega) with ⟨k0, -⟩ | ⟨c, hc, rfl, k1⟩
  · refine same_fin 0 (by omega) w0 h (Qc_refl u) ?_ (fun m hm => ⟨m, Qm_refl m, ?_⟩)
    · unfold FX9_judge FX9_isSheet; rw [g1, if_neg (by decide), if_pos (inb_t (by omega) (by omega)), if_pos (by rw [ncl (by omega), hmiss]), c_has hR hW, k0, if_pos rfl, bind_eta]
    · unfold FX10_judge FX10_isSheet; rw [within_eq, g1, if_neg (by decide), if_pos (inb_t (by omega) (by omega)), if_neg (by rw [ncl (by omega), hm 128 (by omega)]; exact z), m_isC (hm117 hm) hW, k0, if_pos rfl, bind_eta]
  obtain ⟨n, hn, en⟩ : ∃ n, n ≤ 40 ∧ u 129 s = nI n := ⟨_, sz.2, sz.1⟩
  obtain ⟨N, N1, N2, N3⟩ := first_not (jOk (fun i => u 130 (40 * s + i)) (u 117) c) n
  obtain ⟨ub, b1, b2, b3⟩ := c_become (p := 65) hR hW (by omega)
  obtain ⟨u1, f1, f2, f3⟩ := c_takeUpAll (c := c) b2 hW hc
  have F : Fr 65 u u1 := Fr_trans b3 f3
  have f2 : Rep u1 65 (jP (fun i => u 130 (40 * s + i)) (u 117) c 0) := f2
  obtain ⟨o, ⟨o1, o2, o3⟩, oe⟩ := c_judge (u := u) (s := s) (n := n) (N := N) hs' hW hc hn N1 (by rw [j2]; exact en) j3 N2 N3 f2 F
  have C9 : FX9_judge (nI s) (nI c) u = if N = n then some (nI (jS (fun i => u 130 (40 * s + i)) (u 117) c N), o.2.2.2) else FX9_finding (-1000004) o.2.2.2 := by
    unfold FX9_judge FX9_isSheet
    rw [g1, if_neg (by decide), if_pos (inb_t (by omega) (by omega)), if_pos (by rw [ncl (by omega), hmiss]), c_has hR hW, k1, if_neg (by decide), b1, bs, f1, bs, oe, bs, o1, o2, bind_eta]
    by_cases y : N = n
    · rw [if_pos y, if_neg (by decide), if_pos y]
    · rw [if_neg y, if_pos rfl, if_neg y]
  have key : ∀ m, Hm u m → ∃ m', Qm m m' ∧ FX10_judge (nI s) (nI c) m = if N = n then some (nI (jS (fun i => u 130 (40 * s + i)) (u 117) c N), m') else FX10_finding (-1000004) m' := by
    intro m hm
    have e7 := hm117 hm
    have em : mrow m 119 (cpR (u 117) (m 119) 138) 117 = u 117 := by rw [mrow_ne (by omega)]; exact e7
    obtain ⟨o', ⟨q1, ⟨q, jw, q2⟩, q3⟩, qe⟩ := m_judge (m := mrow m 119 (cpR (u 117) (m 119) 138)) (f := fun i => u 130 (40 * s + i)) (s := s) (n := n) (N := N) hs' hW hc hn N1 em (by rw [mrow_ne (by omega), hm 129 (by omega)]; exact en) (fun i _ => by rw [mrow_ne (by omega), hm 130 (by omega)]) N2 N3
    rw [mrow_at] at q3
    have m7 : o'.2.2.2 117 = q := by rw [q2.1 117 (by unfold keepM; omega), mrow_at]
    have hb := fun p => m_back (m := o'.2.2.2) (r := u 117) q3 (fun x hx => by rw [m7]; exact jw.2.2.2 x hx) p
    refine ⟨mrow o'.2.2.2 117 (u 117), ?_, ?_⟩
    · have k := Qm_117' (ρ' := u 117) q2
      have : mrow (mrow m 119 (cpR (u 117) (m 119) 138)) 117 (u 117) = mrow m 119 (cpR (u 117) (m 119) 138) := by
        have := mrow_self (mrow m 119 (cpR (u 117) (m 119) 138)) 117
        rw [em] at this
        exact this
      rw [this] at k
      exact Qm_trans (Qm_mrow (by omega) _) k
    · unfold FX10_judge FX10_isSheet
      rw [within_eq, g1, if_neg (by decide), if_pos (inb_t (by omega) (by omega)), if_neg (by rw [ncl (by omega), hm 128 (by omega)]; exact z), m_isC e7 hW, k1, if_neg (by decide), m_copyRow (by omega), bs, e7, qe, bs, hb, bs]
      dsimp only
      rw [bind_eta]
      by_cases y : N = n
      · rw [if_pos y] at q1
        obtain ⟨q1, g, g1, g2⟩ := q1
        rw [if_pos y, g2, if_pos (nI_pos' (by omega)), q1]
      · rw [if_neg y] at q1
        rw [if_neg y, q1, if_neg (by decide)]
  by_cases y : N = n
  · obtain ⟨m', y1, y2⟩ := key o.2.2.2 (Qc_Hm (Fr_Qc o3))
    rw [if_pos y] at y2 C9
    exact same_val h (Fr_Qc o3) C9 y2 y1
  · rw [if_neg y] at C9
    refine same_fin 3 (by omega) w3 h (Fr_Qc o3) C9 (fun m hm => ?_)
    obtain ⟨m', y1, y2⟩ := key m hm
    rw [if_neg y] at y2
    exact ⟨m', y1, y2⟩
end JUDGE2
