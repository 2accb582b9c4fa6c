/-! the calls day and ahead -/
section DAY3
variable {u m : Mem} {r : Nat → Int32} {B : Nat}
theorem takR_hi {c e x : Nat} (he : e < 8) (hx : 138 ≤ x) : takR r c e x = r x := by
  unfold takR
  rw [pk_un (by omega), pk_un (by omega)]
theorem tkR_hi (c : Nat) {x : Nat} (hx : 138 ≤ x) : ∀ k, k ≤ 8 → tkR r c k x = r x
  | 0, _ => rfl
  | k + 1, hk => by
    have ih := tkR_hi c hx k (by omega)
    unfold tkR
    split
    · rw [takR_hi (by omega) hx]; exact ih
    · exact ih
theorem fiR_hi {c t x : Nat} (hc : c < 6) (hn : ne r ≤ 8) (hx : 138 ≤ x) : fiR r c t x = r x := by
  unfold fiR
  rw [pk_un (by omega), goR_un c t _ (fun e he => by omega), stR_un c t (by omega) (by omega)]
theorem turR_hi (hw : Wf r) (h0 : 0 < nc r) {x : Nat} (hx : 138 ≤ x) : turR r x = r x := by
  have h6 := nc_eq hw
  have h8 := ne_eq hw
  have hc : tuC r < nc r := Nat.mod_lt _ h0
  have h1 : zN (tu2 r) x = r x := by
    rw [zN_lo (by omega)]
    unfold tu2
    rw [tkR_hi _ hx _ h8.2, zN_lo (by omega)]
  unfold turR
  split
  · rw [fiR_hi (by omega) (by rw [ne_zN, ne_tu2]; exact h8.2) hx]; exact h1
  · exact h1
theorem itR_hi (hw : Wf r) (h0 : 0 < nc r) {x : Nat} (hx : 138 ≤ x) : ∀ k, itR r k x = r x
  | 0 => rfl
  | k + 1 => by
    obtain ⟨i1, i2, i3, i4⟩ := itR_ok hw h0 k
    show turR (itR r k) x = r x
    rw [turR_hi i1 (by rw [i2]; exact h0) hx]
    exact itR_hi hw h0 hx k
theorem m_back {g : Nat → Int32} (h9 : m 119 = cpR r g 138) (hhi : ∀ x, 138 ≤ x → m 117 x = r x) (p : Int32) : FX10_putBack p m = some (p, mrow m 117 r) := by
  unfold FX10_putBack
  rw [m_copyRow (by omega), bs, h9]
  have : cpR (cpR r g 138) (m 117) 138 = r := by
    funext x
    by_cases c : x < 138
    · rw [cpR_at c, cpR_at c]
    · exact (if_neg c).trans (hhi x (by omega))
  rw [this]
theorem day_cases (h : Inv u) (p1 : Int32) : (∃ i, i < 7 ∧ FX9_dayLack p1 u = wv i ∧ (FX9_dayLack p1 u ≠ 0) ∧ ∀ m, m 117 = u 117 → FX10_refusesDays p1 m = wv i) ∨ ∃ n, n ≤ 12 ∧ p1 = nI n ∧ 0 < nc (u 117) ∧ FX9_dayLack p1 u = 0 ∧ ∀ m, m 117 = u 117 → FX10_refusesDays p1 m = 0 := by
  have hR := h.1.1
  have hW := h.2.1
  have h6 := nc_eq hW
  unfold FX9_dayLack FX10_refusesDays
  rcases wi_range p1 (lo := 1) (hi := 12) (a := 1) (b := 12) rfl rfl (by omega) (by omega) with g0 | ⟨n, n1, n2, rfl, g1⟩
  · left
    rw [g0, if_pos rfl]
    exact ⟨0, by omega, w0, by decide, fun m hm => by rw [within_eq, g0, if_pos rfl, w0]⟩
  · rw [g1, if_neg (by decide)]
    by_cases z : nc (u 117) = 0
    · left
      have e5 : u 1 5 = 0 := by rw [q5 hR hW, z]; rfl
      rw [e5, if_pos (by decide)]
      refine ⟨4, by omega, w4, by decide, fun m hm => ?_⟩
      rw [within_eq, g1, if_neg (by decide), hm, h6.1, z, if_pos (by decide), w4]
    · right
      refine ⟨n, n2, rfl, by omega, ?_, fun m hm => ?_⟩
      · rw [if_neg]
        rw [q5 hR hW, L0, nle (by omega) (by omega)]
        omega
      · rw [within_eq, g1, if_neg (by decide), hm, h6.1, if_neg (nI_ne0 (by omega) (by omega))]
theorem s_day (h : Inv u) (p1 : Int32) : Same (FX9_day p1) (FX10_day p1) u := by
  have hR := h.1.1
  have hW := h.2.1
  rcases day_cases h p1 with ⟨i, hi, e1, e2, e3⟩ | ⟨n, hn, rfl, h0, e1, e3⟩
  · refine same_fin i hi rfl h (Qc_refl u) ?_ (fun m hm => ⟨m, Qm_refl m, ?_⟩)
    · unfold FX9_day; rw [if_neg e2, e1, bind_eta]
    · unfold FX10_day; rw [e3 m (hm117 hm), if_neg (by rw [← e1]; exact e2), bind_eta]
  · obtain ⟨u', f1, f2, f3⟩ := c_turns hR hW h0 hn
    have e7 : u' 117 = u 117 := f3 117 (by omega)
    obtain ⟨m', q1, q2, q3⟩ := m_days e7 hW h0 hn
    refine same_row (x := nI (dnc (itR (u 117) n) - dnc (u 117))) (r' := itR (u 117) n) h f2 (itR_ok hW h0 n).1 (Fr_Qf f3) ?_ ?_ q2
    · unfold FX9_day; rw [e1, if_pos rfl, bind_eta]; exact f1
    · unfold FX10_day; rw [e3 u' e7, if_pos rfl, bind_eta]; exact q1
theorem s_ahead (h : Inv u) (p1 : Int32) : Same (FX9_ahead p1) (FX10_ahead p1) u := by
  have hR := h.1.1
  have hW := h.2.1
  rcases day_cases h p1 with ⟨i, hi, e1, e2, e3⟩ | ⟨n, hn, rfl, h0, e1, e3⟩
  · refine same_fin i hi rfl h (Qc_refl u) ?_ (fun m hm => ⟨m, Qm_refl m, ?_⟩)
    · unfold FX9_ahead; rw [if_neg e2, e1, bind_eta]
    · unfold FX10_ahead; rw [e3 m (hm117 hm), if_neg (by rw [← e1]; exact e2), bind_eta]
  · obtain ⟨ub, b1, b2, b3⟩ := c_become (p := 65) hR hW (by omega)
    obtain ⟨u', f1, f2, f3⟩ := c_turns b2 hW h0 hn
    have F : Fr 65 u u' := Fr_trans b3 f3
    have e7 : u' 117 = u 117 := F 117 (by omega)
    have e7b : mrow u' 119 (cpR (u' 117) (u' 119) 138) 117 = u 117 := by rw [mrow_ne (by omega)]; exact e7
    obtain ⟨m', q1, q2, q3⟩ := m_days e7b hW h0 hn
    rw [mrow_at, e7] at q3
    have m7 : m' 117 = itR (u 117) n := by rw [q2.1 117 (by unfold keepM; omega), mrow_at]
    have hb := fun p => m_back (m := m') (r := u 117) q3 (fun x hx => by rw [m7]; exact itR_hi hW h0 hx n) p
    refine same_val (x := nI (dnc (itR (u 117) n) - dnc (u 117))) (u2 := mrow m' 117 (u 117)) h (Fr_Qc F) ?_ ?_ ?_
    · unfold FX9_ahead
      rw [e1, if_pos rfl, b1, bs, bind_eta]
      exact f1
    · unfold FX10_ahead
      rw [e3 u' e7, if_pos rfl, m_copyRow (by omega), bs, q1, bs]
      dsimp only
      rw [bind_eta]
      exact hb _
    · have k := Qm_117' (ρ' := u 117) q2
      have : mrow (mrow u' 119 (cpR (u' 117) (u' 119) 138)) 117 (u 117) = mrow u' 119 (cpR (u' 117) (u' 119) 138) := by
        rw [← e7b]; exact mrow_self _ _
      rw [this] at k
      exact Qm_trans (Qm_mrow (by omega) _) k
end DAY3
