/-! sheets: writing and loading -/
section SHEET
variable {u m : Mem} {r : Nat → Int32} {B : Nat}
theorem same_num {f g : Mem → Option (Int32 × Mem)} {x v : Int32} {s i : Nat} (h : Inv u) (hs' : s < 4) (hi : i < 40) (hf : f u = some (x, mst u (108 + 2 * s + 1) i v)) (hg : g (mst u (108 + 2 * s + 1) i v) = some (x, mst (mst u (108 + 2 * s + 1) i v) 130 (40 * s + i) v)) : Same f g u := by
  refine ⟨x, _, _, hf, hg, ?_⟩
  refine Inv_mk (u1 := mst u (108 + 2 * s + 1) i v) (m := mst u 130 (40 * s + i) v) ?_ ?_ (fun a ha => mst_k (by omega) _ _) (fun a ha hk => ?_) ?_ ?_
  · obtain ⟨h1, h2, h3, h4, h5, h6, h7⟩ := h.1
    have hM := h.2
    unfold Cs
    rw [mst_k (show 117 ≠ 130 by omega), mst_k (show 118 ≠ 130 by omega), mst_k (show 116 ≠ 130 by omega), mst_k (show 125 ≠ 130 by omega), mst_k (show 128 ≠ 130 by omega), mst_k (show 129 ≠ 130 by omega), mst_k (show 120 ≠ 130 by omega), mst_k (show 0 ≠ 108 + 2 * s + 1 by omega), mst_k (show 104 ≠ 108 + 2 * s + 1 by omega), mst_k (show 105 ≠ 108 + 2 * s + 1 by omega), mst_k (show 107 ≠ 108 + 2 * s + 1 by omega)]
    refine ⟨Rep_congr (fun a _ _ => mst_k (by omega) _ _) hM.1 h1, h2, fun z => ?_, h4, fun t ht => ?_, h6, h7⟩
    · rcases hM.2.1 with y | y
      · exact absurd y z
      · exact Rep_congr (fun a _ _ => mst_k (by omega) _ _) y.2 (h3 z)
    · obtain ⟨j1, j2, j3⟩ := h5 t ht
      rw [mst_k (show 108 + 2 * t ≠ 108 + 2 * s + 1 by omega)]
      refine ⟨j1, j2, fun k hk => ?_⟩
      by_cases c : t = s
      · subst c
        by_cases d : k = i
        · subst d; rw [mst_s, mst_s]
        · rw [mst_j d, mst_j (by omega)]; exact j3 k hk
      · rw [mst_k (by omega), mst_j (by omega)]; exact j3 k hk
  · have hM := h.2
    unfold Ms
    rw [mst_k (show 117 ≠ 130 by omega), mst_k (show 118 ≠ 130 by omega), mst_k (show 116 ≠ 130 by omega), mst_k (show 125 ≠ 130 by omega), mst_k (show 128 ≠ 130 by omega), mst_k (show 129 ≠ 130 by omega), mst_k (show 124 ≠ 130 by omega)]
    exact hM
  · by_cases c : a = 130
    · subst c; rw [mst_row, mst_row, mst_k (by omega)]
    · rw [mst_k c, mst_k c, mst_k (by omega)]
  · rw [mst_k (by omega), mst_k (by omega), mst_k (by omega)]
  · rw [mst_k (by omega), mst_k (by omega), mst_k (by omega)]
theorem s_write (h : Inv u) (p1 p2 p3 : Int32) : Same (FX9_write p1 p2 p3) (FX10_write p1 p2 p3) u := by
  rcases wi_lit p1 (n := 4) (m := 3) (by omega) rfl with ⟨g0, -⟩ | ⟨s, hs', rfl, g1⟩
  · refine same_fin 0 (by omega) w0 h (Qc_refl u) ?_ (fun m hm => ⟨m, Qm_refl m, ?_⟩)
    · unfold FX9_write FX9_isSheet; rw [g0, if_pos rfl, bind_eta]
    · unfold FX10_write FX10_isSheet; rw [within_eq, g0, if_pos rfl, bind_eta]
  obtain ⟨j1, j2, j3⟩ := h.1.2.2.2.2.1 s hs'
  obtain ⟨b4, sz⟩ := h.2.2.2.2.1 s hs'
  have hmiss : FX5_isMissing (108 + 2 * s) u = if u 128 s = 0 then 1 else 0 := by unfold FX5_isMissing; rw [j1]
  by_cases z : u 128 s = 0
  · rw [if_pos z] at hmiss
    refine same_fin 5 (by omega) w5 h (Qc_refl u) ?_ (fun m hm => ⟨m, Qm_refl m, ?_⟩)
    · unfold FX9_write FX9_isSheet; rw [g1, if_neg (by decide), if_pos (inb_t (by omega) (by omega)), if_neg (by rw [ncl (by omega), hmiss]; decide), bind_eta]
    · unfold FX10_write FX10_isSheet; rw [within_eq, g1, if_neg (by decide), if_pos (inb_t (by omega) (by omega)), if_pos (by rw [ncl (by omega), hm 128 (by omega)]; exact z), bind_eta]
  rw [if_neg z] at hmiss
  have key : ∀ n, n ≤ 40 → u 129 s = nI n → Same (FX9_write (nI s) p2 p3) (FX10_write (nI s) p2 p3) u := by
    intro n hn en
    rcases wi_cases p2 (n := n) (by omega) with ⟨k0, -⟩ | ⟨i, hi, rfl, k1⟩
    · refine same_fin 0 (by omega) w0 h (Qc_refl u) ?_ (fun m hm => ⟨m, Qm_refl m, ?_⟩)
      · unfold FX9_write FX9_isSheet; rw [g1, if_neg (by decide), if_pos (inb_t (by omega) (by omega)), if_pos (by rw [ncl (by omega), hmiss]), if_pos (inb_t (by omega) (by omega)), if_pos (by rw [ncl (by omega), j2, en]; exact k0), bind_eta]
      · unfold FX10_write FX10_isSheet; rw [within_eq, g1, if_neg (by decide), if_pos (inb_t (by omega) (by omega)), if_neg (by rw [ncl (by omega), hm 128 (by omega)]; exact z), if_pos (inb_t (by omega) (by omega)), if_pos (by rw [ncl (by omega), hm 129 (by omega), en]; exact k0), bind_eta]
    · refine same_num (i := i) (x := 1) (v := FX10_cutTo p3 (u 128 s)) h hs' (by omega) ?_ ?_
      · unfold FX9_write FX9_isSheet
        rw [g1, if_neg (by decide), if_pos (inb_t (by omega) (by omega)), if_pos (by rw [ncl (by omega), hmiss]), if_pos (inb_t (by omega) (by omega)), if_neg (by rw [ncl (by omega), j2, en, k1]; decide), if_pos (inb_t (by omega) (by omega)), ncl (by omega)]
        unfold FX5_put FX10_cutTo
        rw [if_pos (inb_t (by omega) (by omega)), if_pos (inb_t (by omega) (by omega)), if_pos (inb_t (by omega) (by omega)), ncl (by omega)]
        by_cases c8 : u 128 s = 8
        · rw [if_pos (by rw [j1]; exact c8), if_pos c8]; rfl
        · rw [if_neg (by rw [j1]; exact c8), if_neg c8]
          by_cases c16 : u 128 s = 16
          · rw [if_pos (by rw [j1]; exact c16), if_pos c16]; rfl
          · rw [if_neg (by rw [j1]; exact c16), if_neg c16]; rfl
      · have e8 : ∀ v, mst u (108 + 2 * s + 1) i v 128 = u 128 := fun v => mst_k (by omega) _ _
        have e9 : ∀ v, mst u (108 + 2 * s + 1) i v 129 = u 129 := fun v => mst_k (by omega) _ _
        unfold FX10_write FX10_isSheet
        rw [within_eq, g1, if_neg (by decide), if_pos (inb_t (by omega) (by omega)), if_neg (by rw [ncl (by omega), e8]; exact z), if_pos (inb_t (by omega) (by omega)), if_neg (by rw [ncl (by omega), e9, en, k1]; decide), if_pos (inb_t (by omega) (by omega)), show (40 : Int32) = nI 40 from rfl, nmul, nadd, if_pos (inb_t (by omega) (by omega)), ncl (by omega), ncl (by omega), e8]
  exact key _ sz.2 sz.1
end SHEET
