/-! the calls, seventh part: change, wipe, tear -/
section OPS7
variable {u m : Mem} {r : Nat → Int32} {B : Nat}
theorem s_change (h : Inv u) (p1 p2 p3 : Int32) : Same (FX9_change p1 p2 p3) (FX10_change p1 p2 p3) u := by
  have hR := h.1.1
  have hW := h.2.1
  have h6 := nc_eq hW
  have key : ∀ f, f < 4 → FX9_isChange (nI f) p3 = FX9_within p3 (if f = 2 then 1 else 0) (if f = 0 then 6 else if f = 1 then 6 else if f = 2 then 99 else 999999) := by
    intro f hf
    have f4 : f = 0 ∨ f = 1 ∨ f = 2 ∨ f = 3 := by omega
    rcases f4 with rfl | rfl | rfl | rfl <;> rfl
  have tail : ∀ m, FX10_isCarrier p1 m = 0 ∨ FX9_isChange p2 p3 = 0 → FX10_change p1 p2 p3 m = FX10_finding (-1000001) m := by
    intro m hz
    unfold FX10_change JX10_change_11 JX10_change_23 JX10_change_38 FX10_isKind
    simp only [bind_eta, np10, within_eq]
    by_cases e0 : p2 = 0
    · subst e0
      by_cases a : FX9_within p3 0 6 = 0
      · simp [a]
      · have : FX9_isChange 0 p3 ≠ 0 := a
        have hc : FX10_isCarrier p1 m = 0 := hz.resolve_right this
        simp [a, hc]
    · by_cases e1 : p2 = 1
      · subst e1
        by_cases a : FX9_within p3 0 6 = 0
        · simp [a]
        · have : FX9_isChange 1 p3 ≠ 0 := a
          have hc : FX10_isCarrier p1 m = 0 := hz.resolve_right this
          simp [a, hc]
      · by_cases e2 : p2 = 2
        · subst e2
          by_cases a : FX9_within p3 1 99 = 0
          · simp [a]
          · have : FX9_isChange 2 p3 ≠ 0 := a
            have hc : FX10_isCarrier p1 m = 0 := hz.resolve_right this
            simp [a, hc]
        · by_cases e3 : p2 = 3
          · subst e3
            by_cases a : FX9_within p3 0 999999 = 0
            · simp [a]
            · have : FX9_isChange 3 p3 ≠ 0 := a
              have hc : FX10_isCarrier p1 m = 0 := hz.resolve_right this
              simp [a, hc]
          · simp [e0, e1, e2, e3]
  have good10 : ∀ m f, f < 4 → p2 = nI f → FX10_isCarrier p1 m ≠ 0 → FX9_isChange p2 p3 ≠ 0 → FX10_change p1 p2 p3 m = FX10_become (FX10_cAt p1 p2) p3 m := by
    intro m f hf hp hc hg
    subst hp
    unfold FX10_change JX10_change_11 JX10_change_23 JX10_change_38 FX10_isKind
    simp only [bind_eta, np10, within_eq]
    have f4 : f = 0 ∨ f = 1 ∨ f = 2 ∨ f = 3 := by omega
    rcases f4 with rfl | rfl | rfl | rfl
    · have : FX9_within p3 0 6 ≠ 0 := hg
      rw [if_pos (by decide), if_neg this, if_neg hc]
    · have : FX9_within p3 0 6 ≠ 0 := hg
      rw [if_neg (by decide), if_pos (by decide), if_neg this, if_neg hc]
    · have : FX9_within p3 1 99 ≠ 0 := hg
      rw [if_neg (by decide), if_neg (by decide), if_pos (by decide), if_neg this, if_neg hc]
    · have : FX9_within p3 0 999999 ≠ 0 := hg
      rw [if_neg (by decide), if_neg (by decide), if_neg (by decide), if_pos (by decide), if_neg this, if_neg hc]
  rcases wi_cases p1 (n := nc (u 117)) (by omega) with ⟨g0, -⟩ | ⟨c, hc, rfl, g1⟩
  · refine same_fin 0 (by omega) w0 h (Qc_refl u) ?_ (fun m hm => ⟨m, Qm_refl m, ?_⟩)
    · unfold FX9_change; rw [c_has hR hW, g0, if_pos rfl, bind_eta]
    · exact tail m (Or.inl (by rw [m_isC (hm117 hm) hW, g0]))
  by_cases hg : FX9_isChange p2 p3 = 0
  · refine same_fin 0 (by omega) w0 h (Qc_refl u) ?_ (fun m hm => ⟨m, Qm_refl m, tail m (Or.inr hg)⟩)
    unfold FX9_change; rw [c_has hR hW, g1, if_neg (by decide), if_pos hg, bind_eta]
  · have hf : ∃ f, f < 4 ∧ p2 = nI f := by
      by_cases e0 : p2 = 0
      · exact ⟨0, by omega, e0⟩
      by_cases e1 : p2 = 1
      · exact ⟨1, by omega, e1⟩
      by_cases e2 : p2 = 2
      · exact ⟨2, by omega, e2⟩
      by_cases e3 : p2 = 3
      · exact ⟨3, by omega, e3⟩
      exfalso
      apply hg
      unfold FX9_isChange
      rw [if_neg e0, if_neg e1, if_neg e2, if_neg e3]
    obtain ⟨f, hf, rfl⟩ := hf
    have hv : (f = 0 → In p3 6) ∧ (f = 1 → In p3 6) ∧ (f = 2 → In p3 99) ∧ (f = 3 → In p3 999999) := by
      rw [key f hf] at hg
      have f4 : f = 0 ∨ f = 1 ∨ f = 2 ∨ f = 3 := by omega
      rcases f4 with rfl | rfl | rfl | rfl
      · refine ⟨fun _ => ?_, fun z => by omega, fun z => by omega, fun z => by omega⟩
        rcases wi_range p3 (lo := 0) (hi := 6) (a := 0) (b := 6) rfl rfl (by omega) (by omega) with q | ⟨k, k1, k2, rfl, _⟩
        · exact absurd q hg
        · exact In_nI k2 (by omega)
      · refine ⟨fun z => by omega, fun _ => ?_, fun z => by omega, fun z => by omega⟩
        rcases wi_range p3 (lo := 0) (hi := 6) (a := 0) (b := 6) rfl rfl (by omega) (by omega) with q | ⟨k, k1, k2, rfl, _⟩
        · exact absurd q hg
        · exact In_nI k2 (by omega)
      · refine ⟨fun z => by omega, fun z => by omega, fun _ => ?_, fun z => by omega⟩
        rcases wi_range p3 (lo := 1) (hi := 99) (a := 1) (b := 99) rfl rfl (by omega) (by omega) with q | ⟨k, k1, k2, rfl, _⟩
        · exact absurd q hg
        · exact In_nI k2 (by omega)
      · refine ⟨fun z => by omega, fun z => by omega, fun z => by omega, fun _ => ?_⟩
        rcases wi_range p3 (lo := 0) (hi := 999999) (a := 0) (b := 999999) rfl rfl (by omega) (by omega) with q | ⟨k, k1, k2, rfl, _⟩
        · exact absurd q hg
        · exact In_nI k2 (by omega)
    have R1 := Rep_setC (v := p3) hR hW (c := c) (f := f) (by omega) (by omega)
    have W1 := Wf_setC (v := p3) hW (c := c) (f := f) (by omega) (by omega) (fun _ => ⟨hv.1, hv.2.1, hv.2.2.1, fun z => In_mono (hv.2.2.2 z) (Nat.le_add_right _ _)⟩)
    refine same_row (x := u 117 (56 + 5 * c + f)) (u2 := mrow (mst u (1 + 12 + c) f p3) 117 (upd (u 117) (56 + 5 * c + f) p3)) h R1 W1 (Qf_mst (by omega) _ _) ?_ ?_ (Qm_refl _)
    · unfold FX9_change
      rw [c_has hR hW, g1, if_neg (by decide), if_neg hg, if_pos (inb_t (by omega) (by omega)), ncl (by omega), ← hR.2.2.1 c hc f (by omega)]
      have f4 : f = 0 ∨ f = 1 ∨ f = 2 ∨ f = 3 := by omega
      rcases f4 with rfl | rfl | rfl | rfl <;> rfl
    · have e7 : mst u (1 + 12 + c) f p3 117 = u 117 := mst_k (by omega) _ _
      rw [good10 _ f hf rfl (by rw [m_isC e7 hW, g1]; decide) hg]
      unfold FX10_become
      rw [cAt_eq, if_pos (inb_t (by omega) (by omega)), if_pos (inb_t (by omega) (by omega)), ncl (by omega), mst_as_mrow (mst u (1 + 12 + c) f p3) 117, e7]
/-- the one slot of the reference's object and of the class' that say the same -/
theorem s_wipe (h : Inv u) : Same (fun u => some (FX9_wipe u)) (fun u => some (FX10_wipe u)) u := by
  have ht := h.1.2.2.2.1.1
  refine ⟨u 104 1, mst u 104 1 0, mst (mst u 104 1 0) 116 14 0, rfl, ?_, ?_⟩
  · show some (FX10_wipe (mst u 104 1 0)) = _
    unfold FX10_wipe
    rw [mst_k (by omega), ht]
  · refine Inv_mk (u1 := mst u 104 1 0) (m := mst u 116 14 0) ?_ ?_ (fun a ha => mst_k (by omega) _ _) (fun a ha hk => ?_) ?_ ?_
    · obtain ⟨h1, h2, h3, h4, h5, h6, h7⟩ := h.1
      have hM := h.2
      unfold Cs
      rw [mst_k (show 117 ≠ 116 by omega), mst_k (show 118 ≠ 116 by omega), mst_k (show 125 ≠ 116 by omega), mst_k (show 128 ≠ 116 by omega), mst_k (show 129 ≠ 116 by omega), mst_k (show 130 ≠ 116 by omega), mst_k (show 120 ≠ 116 by omega), mst_j (show 3 ≠ 14 by omega), mst_s, mst_s, mst_k (show 0 ≠ 104 by omega), mst_k (show 107 ≠ 104 by omega)]
      refine ⟨Rep_congr (fun a _ _ => mst_k (by omega) _ _) hM.1 h1, h2, fun z => ?_, ⟨rfl, fun i hi => absurd (show i < 0 from hi) (Nat.not_lt_zero i)⟩, fun s hs => ?_, h6, h7⟩
      · rcases hM.2.1 with y | y
        · exact absurd y z
        · exact Rep_congr (fun a _ _ => mst_k (by omega) _ _) y.2 (h3 z)
      · rw [mst_k (by omega), mst_k (by omega)]; exact h5 s hs
    · obtain ⟨h1, h2, h3, h4, h5⟩ := h.2
      unfold Ms
      rw [mst_k (show 117 ≠ 116 by omega), mst_k (show 118 ≠ 116 by omega), mst_k (show 125 ≠ 116 by omega), mst_k (show 128 ≠ 116 by omega), mst_k (show 129 ≠ 116 by omega), mst_k (show 124 ≠ 116 by omega), mst_j (show 3 ≠ 14 by omega), mst_s]
      exact ⟨h1, h2, ⟨⟨rfl, Nat.zero_le _⟩, h3.2⟩, h4, h5⟩
    · by_cases c : a = 116
      · exfalso; unfold keepM at hk; omega
      · rw [mst_k c, mst_k c, mst_k (by omega)]
    · rw [mst_j (by omega), mst_k (by omega), mst_j (by omega)]
    · rw [mst_s, mst_s]
theorem s_tear (h : Inv u) : Same (fun u => some (FX9_tear u)) (fun u => some (FX10_tear u)) u := by
  have ht := h.1.2.1
  have hA : ∀ x, some (FX9_tear u) = some (x, mst u 0 8 0) → FX10_tear (mst u 0 8 0) = (x, mst (mst u 0 8 0) 116 3 0) → Same (fun u => some (FX9_tear u)) (fun u => some (FX10_tear u)) u := fun x f1 f2 => by
    refine ⟨x, mst u 0 8 0, mst (mst u 0 8 0) 116 3 0, f1, congrArg some f2, ?_⟩
    refine Inv_mk (u1 := mst u 0 8 0) (m := mst u 116 3 0) ?_ ?_ (fun a ha => mst_k (by omega) _ _) (fun a ha hk => ?_) ?_ ?_
    · obtain ⟨h1, h2, h3, h4, h5, h6, h7⟩ := h.1
      have hM := h.2
      unfold Cs
      rw [mst_k (show 117 ≠ 116 by omega), mst_k (show 118 ≠ 116 by omega), mst_k (show 125 ≠ 116 by omega), mst_k (show 128 ≠ 116 by omega), mst_k (show 129 ≠ 116 by omega), mst_k (show 130 ≠ 116 by omega), mst_k (show 120 ≠ 116 by omega), mst_j (show 14 ≠ 3 by omega), mst_s, mst_s, mst_k (show 104 ≠ 0 by omega), mst_k (show 105 ≠ 0 by omega), mst_k (show 107 ≠ 0 by omega)]
      refine ⟨Rep_congr (fun a _ _ => mst_k (by omega) _ _) hM.1 h1, rfl, fun z => absurd rfl z, h4, fun s hs => ?_, h6, h7⟩
      rw [mst_k (by omega), mst_k (by omega)]; exact h5 s hs
    · obtain ⟨h1, h2, h3, h4, h5⟩ := h.2
      unfold Ms
      rw [mst_k (show 117 ≠ 116 by omega), mst_k (show 118 ≠ 116 by omega), mst_k (show 125 ≠ 116 by omega), mst_k (show 128 ≠ 116 by omega), mst_k (show 129 ≠ 116 by omega), mst_k (show 124 ≠ 116 by omega), mst_j (show 14 ≠ 3 by omega), mst_s]
      exact ⟨h1, Or.inl rfl, h3, h4, h5⟩
    · by_cases c : a = 116
      · exfalso; unfold keepM at hk; omega
      · rw [mst_k c, mst_k c, mst_k (by omega)]
    · rw [mst_s, mst_s]
    · rw [mst_j (by omega), mst_k (by omega), mst_j (by omega)]
  have hx : mst u 0 8 0 116 3 = u 0 8 := by rw [mst_k (by omega), ht]
  by_cases z : u 0 8 = 0
  · refine hA 0 ?_ ?_
    · unfold FX9_tear; rw [if_pos z]
    · unfold FX10_tear; rw [if_pos (by rw [hx]; exact z)]
  · refine hA 1 ?_ ?_
    · unfold FX9_tear; rw [if_neg z]
    · unfold FX10_tear; rw [if_neg (by rw [hx]; exact z)]
end OPS7
