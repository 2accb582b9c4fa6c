/-! sheets: begun, copied -/
section SHEET2
variable {u m : Mem} {r : Nat → Int32} {B : Nat}
/-- only sheets have changed -/
theorem same_sheet {f g : Mem → Option (Int32 × Mem)} {u u1 u2 : Mem} {x : Int32} (h : Inv u) (hf : f u = some (x, u1)) (hg : g u1 = some (x, u2)) (c1 : ∀ a, (a < 108 ∨ 116 ≤ a) → u1 a = u a) (m1 : ∀ a, a ≠ 128 → a ≠ 129 → a ≠ 130 → a ≠ 131 → u2 a = u1 a) (hs' : ∀ s, s < 4 → u1 (108 + 2 * s) 1 = u2 128 s ∧ u1 (108 + 2 * s) 2 = u2 129 s ∧ ∀ i, i < 40 → u1 (108 + 2 * s + 1) i = u2 130 (40 * s + i)) (hb : ∀ s, s < 4 → (u2 128 s = 0 ∨ u2 128 s = 8 ∨ u2 128 s = 16 ∨ u2 128 s = 32) ∧ In (u2 129 s) 40) : Same f g u := by
  have e : ∀ a, (a < 108 ∨ 116 ≤ a) → a ≠ 128 → a ≠ 129 → a ≠ 130 → a ≠ 131 → u2 a = u a := fun a h0 h1 h2 h3 h4 => by rw [m1 a h1 h2 h3 h4, c1 a h0]
  refine ⟨x, u1, u2, hf, hg, ?_, ?_⟩
  · obtain ⟨h1, h2, h3, h4, h5, h6, h7⟩ := h.1
    have hM := h.2
    unfold Cs
    rw [e 117 (by omega) (by omega) (by omega) (by omega) (by omega), e 118 (by omega) (by omega) (by omega) (by omega) (by omega), e 0 (by omega) (by omega) (by omega) (by omega) (by omega), e 107 (by omega) (by omega) (by omega) (by omega) (by omega), e 120 (by omega) (by omega) (by omega) (by omega) (by omega), e 116 (by omega) (by omega) (by omega) (by omega) (by omega), e 125 (by omega) (by omega) (by omega) (by omega) (by omega), e 104 (by omega) (by omega) (by omega) (by omega) (by omega), e 105 (by omega) (by omega) (by omega) (by omega) (by omega)]
    refine ⟨Rep_congr (fun a _ _ => e a (by omega) (by omega) (by omega) (by omega) (by omega)) hM.1 h1, h2, fun z => ?_, h4, fun s hs2 => ?_, h6, h7⟩
    · rcases hM.2.1 with y | y
      · exact absurd y z
      · exact Rep_congr (fun a _ _ => e a (by omega) (by omega) (by omega) (by omega) (by omega)) y.2 (h3 z)
    · rw [m1 (108 + 2 * s) (by omega) (by omega) (by omega) (by omega), m1 (108 + 2 * s + 1) (by omega) (by omega) (by omega) (by omega)]; exact hs' s hs2
  · obtain ⟨h1, h2, h3, h4, h5⟩ := h.2
    unfold Ms
    rw [e 117 (by omega) (by omega) (by omega) (by omega) (by omega), e 118 (by omega) (by omega) (by omega) (by omega) (by omega), e 116 (by omega) (by omega) (by omega) (by omega) (by omega), e 125 (by omega) (by omega) (by omega) (by omega) (by omega), e 124 (by omega) (by omega) (by omega) (by omega) (by omega)]
    exact ⟨h1, h2, h3, hb, h5⟩
def zR (g : Nat → Int32) (a k : Nat) : Nat → Int32 := fun x => if a ≤ x ∧ x < a + k then 0 else g x
theorem zR_0 (g : Nat → Int32) (a : Nat) : zR g a 0 = g := by funext x; exact if_neg (by omega)
theorem zR_up (g : Nat → Int32) (a k : Nat) : upd (zR g a k) (a + k) 0 = zR g a (k + 1) := by
  funext x
  unfold upd zR
  by_cases c : x = a + k
  · rw [if_pos c, if_pos (by omega)]
  · rw [if_neg c]
    by_cases d : a ≤ x ∧ x < a + k
    · rw [if_pos d, if_pos (by omega)]
    · rw [if_neg d, if_neg (by omega)]
theorem L40 : (40 : Int32) = nI 40 := rfl
theorem c_zero (p0 : Nat) (p1 p2 : Int32) (w : Mem) : lp (BX5_begin_20 p0 p1 p2) FU (0, w) = some (nI 40, mrow w (p0 + 1) (zR (w (p0 + 1)) 0 40)) := by
  have h0 : (fun k => (nI k, mrow w (p0 + 1) (zR (w (p0 + 1)) 0 k))) 0 = (0, w) := by
    show (nI 0, mrow w (p0 + 1) (zR (w (p0 + 1)) 0 0)) = (0, w)
    rw [zR_0, mrow_self]; rfl
  rw [← h0]
  refine lp_for (BX5_begin_20 p0 p1 p2) (fun k => (nI k, mrow w (p0 + 1) (zR (w (p0 + 1)) 0 k))) _ 40 (by omega) (fun k hk rec => ?_) (fun rec => ?_)
  · show BX5_begin_20 p0 p1 p2 rec (nI k, mrow w (p0 + 1) (zR (w (p0 + 1)) 0 k)) = rec (nI (k + 1), mrow w (p0 + 1) (zR (w (p0 + 1)) 0 (k + 1)))
    have e := zR_up (w (p0 + 1)) 0 k
    rw [Nat.zero_add] at e
    dsimp only [BX5_begin_20]
    rw [L40, if_neg (n_ngt hk (by omega)), if_pos (inb_t (by omega) (by omega)), ncl (by omega), nI_1, mst_mrow, e]
  · show BX5_begin_20 p0 p1 p2 rec (nI 40, mrow w (p0 + 1) (zR (w (p0 + 1)) 0 40)) = _
    dsimp only [BX5_begin_20]
    rw [L40, if_pos (n_ge (Nat.le_refl _) (by omega))]
theorem m_zero {s : Nat} (hs' : s < 4) (p2 p3 : Int32) (w : Mem) : lp (BX10_sheet_86 (nI s) p2 p3) FU (0, w) = some (nI 40, mrow w 130 (zR (w 130) (40 * s) 40)) := by
  have h0 : (fun k => (nI k, mrow w 130 (zR (w 130) (40 * s) k))) 0 = (0, w) := by
    show (nI 0, mrow w 130 (zR (w 130) (40 * s) 0)) = (0, w)
    rw [zR_0, mrow_self]; rfl
  rw [← h0]
  refine lp_for (BX10_sheet_86 (nI s) p2 p3) (fun k => (nI k, mrow w 130 (zR (w 130) (40 * s) k))) _ 40 (by omega) (fun k hk rec => ?_) (fun rec => ?_)
  · show BX10_sheet_86 (nI s) p2 p3 rec (nI k, mrow w 130 (zR (w 130) (40 * s) k)) = rec (nI (k + 1), mrow w 130 (zR (w 130) (40 * s) (k + 1)))
    have e := zR_up (w 130) (40 * s) k
    dsimp only [BX10_sheet_86]
    rw [L40, nmul, nadd, if_neg (n_ngt hk (by omega)), if_pos (inb_t (by omega) (by omega)), ncl (by omega), nI_1, mst_mrow, e]
  · show BX10_sheet_86 (nI s) p2 p3 rec (nI 40, mrow w 130 (zR (w 130) (40 * s) 40)) = _
    dsimp only [BX10_sheet_86]
    rw [L40, if_pos (n_ge (Nat.le_refl _) (by omega))]
def shL (b : Int32) (n : Nat) : Nat := if b = 0 then 0 else n
theorem c_begin {s n : Nat} (hs' : s < 4) (b : Int32) : FX5_begin (108 + 2 * s) b (nI n) u = some (mrow (mst (mst u (108 + 2 * s) 1 b) (108 + 2 * s) 2 (nI (shL b n))) (108 + 2 * s + 1) (zR (u (108 + 2 * s + 1)) 0 40)) := by
  have e : ∀ x, mst (mst u (108 + 2 * s) 1 b) (108 + 2 * s) 2 x (108 + 2 * s + 1) = u (108 + 2 * s + 1) := fun x => by rw [mst_k (by omega), mst_k (by omega)]
  unfold FX5_begin JX5_begin_15 shL
  by_cases z : b = 0
  · rw [if_pos z, if_pos z, c_zero, bs, e]
    rfl
  · rw [if_neg z, if_neg z, c_zero, bs, e]
theorem m_begin {s n : Nat} (hs' : s < 4) (b : Int32) (hn : n ≤ 40) : JX10_sheet_36 (nI s) b (nI n) m = some (nI (shL b n), mrow (mst (mst m 128 s b) 129 s (nI (shL b n))) 130 (zR (m 130) (40 * s) 40)) := by
  have e : ∀ x, mst (mst m 128 s b) 129 s x 130 = m 130 := fun x => by rw [mst_k (by omega), mst_k (by omega)]
  unfold JX10_sheet_36 JX10_sheet_82 shL
  have hs4 : inb (nI s) 4 := inb_t (by omega) (by omega)
  have cs : (nI s).toNatClampNeg = s := ncl (by omega)
  rw [if_pos (nI_pos' (by omega)), L40, if_pos (n_ge hn (by omega))]
  simp only [if_pos hs4, cs]
  by_cases z : b = 0
  · rw [if_pos z, if_pos z, m_zero hs', bs, e]
    dsimp only
    rw [mrow_ne (show 129 ≠ 130 by omega), mst_s]
    rfl
  · rw [if_neg z, if_neg z, m_zero hs', bs, e]
    dsimp only
    rw [mrow_ne (show 129 ≠ 130 by omega), mst_s]
theorem s_sheet (h : Inv u) (p1 p2 p3 : Int32) : Same (FX9_sheet p1 p2 p3) (FX10_sheet p1 p2 p3) u := by
  rcases wi_lit p1 (n := 4) (m := 3) (by omega) rfl with ⟨g0, -⟩ | ⟨s, hs', rfl, g1⟩
  · refine same_fin 0 (by omega) w0 h (Qc_refl u) ?_ (fun m hm => ⟨m, Qm_refl m, ?_⟩)
    · unfold FX9_sheet FX9_isSheet; rw [g0, if_pos rfl, bind_eta]
    · unfold FX10_sheet FX10_isSheet; rw [within_eq, g0, if_pos rfl, bind_eta]
  by_cases hb : p2 = 0 ∨ p2 = 8 ∨ p2 = 16 ∨ p2 = 32
  · have E9 : ∀ w, FX9_sheet (nI s) p2 p3 w = JX9_sheet_36 (nI s) p2 p3 w := fun w => by
      unfold FX9_sheet FX9_isSheet
      rw [g1, if_neg (by decide)]
      rcases hb with rfl | rfl | rfl | rfl <;> rfl
    have E10 : ∀ w, FX10_sheet (nI s) p2 p3 w = JX10_sheet_36 (nI s) p2 p3 w := fun w => by
      unfold FX10_sheet FX10_isSheet
      rw [within_eq, g1, if_neg (by decide)]
      rcases hb with rfl | rfl | rfl | rfl <;> rfl
    by_cases z : 0 ≤ p3
    · by_cases y : p3 ≤ 40
      · obtain ⟨n, hn, rfl⟩ := nI_of2 (x := p3) (M := 40) (n := 40) (by decide) (fun q => by
          have a1 := Int32.lt_iff_toInt_lt.mp q
          have a2 := Int32.le_iff_toInt_le.mp z
          omega) y
        have hsl : shL p2 n ≤ 40 := by unfold shL; split <;> omega
        have h5 := h.1.2.2.2.2.1
        have hM := h.2.2.2.2.1
        refine same_sheet (x := nI (shL p2 n)) (u1 := mrow (mst (mst u (108 + 2 * s) 1 p2) (108 + 2 * s) 2 (nI (shL p2 n))) (108 + 2 * s + 1) (zR (u (108 + 2 * s + 1)) 0 40)) (u2 := mrow (mst (mst (mrow (mst (mst u (108 + 2 * s) 1 p2) (108 + 2 * s) 2 (nI (shL p2 n))) (108 + 2 * s + 1) (zR (u (108 + 2 * s + 1)) 0 40)) 128 s p2) 129 s (nI (shL p2 n))) 130 (zR (u 130) (40 * s) 40)) h ?_ ?_ (fun a ha => ?_) (fun a a1 a2 a3 a4 => ?_) (fun t ht => ?_) (fun t ht => ?_)
        · rw [E9]
          unfold JX9_sheet_36
          have cs : (nI s).toNatClampNeg = s := ncl (by omega)
          have hs4 : inb (nI s) 4 := inb_t (by omega) (by omega)
          rw [if_pos z, if_pos y]
          simp only [if_pos hs4, cs]
          rw [c_begin hs', bs, mrow_ne (by omega), mst_s]
        · rw [E10, m_begin hs' p2 hn, mrow_ne (show 130 ≠ 108 + 2 * s + 1 by omega), mst_k (show 130 ≠ 108 + 2 * s by omega), mst_k (show 130 ≠ 108 + 2 * s by omega)]
        · rw [mrow_ne (by omega), mst_k (by omega), mst_k (by omega)]
        · rw [mrow_ne a3, mst_k a2, mst_k a1]
        · obtain ⟨k1, k2, k3⟩ := h5 t ht
          rw [mrow_ne (show 128 ≠ 130 by omega), mst_k (show 128 ≠ 129 by omega), mrow_ne (show 129 ≠ 130 by omega), mrow_at]
          by_cases c : t = s
          · subst c
            rw [mst_s, mst_s, mrow_ne (show 108 + 2 * t ≠ 108 + 2 * t + 1 by omega), mrow_at]
            refine ⟨by rw [mst_j (by omega), mst_s], mst_s _ _ _ _, fun i hi => ?_⟩
            unfold zR
            rw [if_pos (by omega), if_pos (by omega)]
          · rw [mst_j c, mst_j c, mst_k (show 129 ≠ 128 by omega), mrow_ne (show 128 ≠ 108 + 2 * s + 1 by omega), mrow_ne (show 129 ≠ 108 + 2 * s + 1 by omega), mst_k (show 128 ≠ 108 + 2 * s by omega), mst_k (show 128 ≠ 108 + 2 * s by omega), mst_k (show 129 ≠ 108 + 2 * s by omega), mst_k (show 129 ≠ 108 + 2 * s by omega), mrow_ne (show 108 + 2 * t ≠ 108 + 2 * s + 1 by omega), mst_k (show 108 + 2 * t ≠ 108 + 2 * s by omega), mst_k (show 108 + 2 * t ≠ 108 + 2 * s by omega), mrow_ne (show 108 + 2 * t + 1 ≠ 108 + 2 * s + 1 by omega), mst_k (show 108 + 2 * t + 1 ≠ 108 + 2 * s by omega), mst_k (show 108 + 2 * t + 1 ≠ 108 + 2 * s by omega)]
            refine ⟨k1, k2, fun i hi => ?_⟩
            unfold zR
            rw [if_neg (by omega)]
            exact k3 i hi
        · rw [mrow_ne (show 128 ≠ 130 by omega), mst_k (show 128 ≠ 129 by omega), mrow_ne (show 129 ≠ 130 by omega)]
          by_cases c : t = s
          · subst c
            rw [mst_s, mst_s]
            exact ⟨hb, In_nI hsl (by omega)⟩
          · rw [mst_j c, mst_j c, mst_k (show 129 ≠ 128 by omega), mrow_ne (show 128 ≠ 108 + 2 * s + 1 by omega), mrow_ne (show 129 ≠ 108 + 2 * s + 1 by omega), mst_k (show 128 ≠ 108 + 2 * s by omega), mst_k (show 128 ≠ 108 + 2 * s by omega), mst_k (show 129 ≠ 108 + 2 * s by omega), mst_k (show 129 ≠ 108 + 2 * s by omega)]
            exact hM t ht
      · refine same_fin 0 (by omega) w0 h (Qc_refl u) ?_ (fun m hm => ⟨m, Qm_refl m, ?_⟩)
        · rw [E9]; unfold JX9_sheet_36; rw [if_pos z, if_neg y, bind_eta]
        · rw [E10]; unfold JX10_sheet_36; rw [if_pos z, if_neg y, bind_eta]
    · refine same_fin 6 (by omega) w6 h (Qc_refl u) ?_ (fun m hm => ⟨m, Qm_refl m, ?_⟩)
      · rw [E9]; unfold JX9_sheet_36; rw [if_neg z, bind_eta]
      · rw [E10]; unfold JX10_sheet_36; rw [if_neg z, bind_eta]
  · have n0 : ¬ p2 = 0 := fun q => hb (Or.inl q)
    have n8 : ¬ p2 = 8 := fun q => hb (Or.inr (Or.inl q))
    have n16 : ¬ p2 = 16 := fun q => hb (Or.inr (Or.inr (Or.inl q)))
    have n32 : ¬ p2 = 32 := fun q => hb (Or.inr (Or.inr (Or.inr q)))
    refine same_fin 0 (by omega) w0 h (Qc_refl u) ?_ (fun m hm => ⟨m, Qm_refl m, ?_⟩)
    · unfold FX9_sheet FX9_isSheet; rw [g1, if_neg (by decide), if_neg n0, if_neg n8, if_neg n16, if_neg n32, bind_eta]
    · unfold FX10_sheet FX10_isSheet; rw [within_eq, g1, if_neg (by decide), if_neg n0, if_neg n8, if_neg n16, if_neg n32, bind_eta]
end SHEET2
