/-! images: rows copied -/
section IMAGE
variable {u m : Mem} {r r' : Nat → Int32} {B : Nat}
theorem Wf_row (H : ∀ x, x < 138 → r' x = r x) (h : Wf r) : Wf r' := by
  have n6 := (nc_eq h).2
  have n8 := (ne_eq h).2
  have n9 := (nw_eq h).2
  have e1 : nc r' = nc r := congrArg tn (H 42 (by omega))
  have e2 : ne r' = ne r := congrArg tn (H 43 (by omega))
  have e3 : nw r' = nw r := congrArg tn (H 44 (by omega))
  have e4 : dnc r' = dnc r := dnc_congr (H 43 (by omega)) (fun e he => H _ (by omega))
  obtain ⟨k1, k2, k3, k4, k5, k6⟩ := h
  refine ⟨?_, fun i' j' hi' hj' hij' => ?_, fun s2 hs => ?_, fun c' hc' => ?_, fun e he => ?_, fun w hw => ?_⟩
  · rw [H 42 (by omega), H 43 (by omega), H 44 (by omega)]; exact k1
  · have := wy_lt hi' hj' hij'
    rw [H _ (by omega), H _ (by omega)]; exact k2 i' j' hi' hj' hij'
  · rw [e1, H _ (by omega)]; exact k3 s2 hs
  · rw [e1] at hc'
    unfold wfC
    rw [e4, H _ (by omega), H _ (by omega), H _ (by omega), H _ (by omega)]; exact k4 c' hc'
  · rw [e2] at he
    unfold wfE
    rw [H _ (by omega), H _ (by omega), H _ (by omega), H _ (by omega)]; exact k5 e he
  · rw [e3] at hw
    unfold wfW
    rw [e1, H _ (by omega), H _ (by omega)]; exact k6 w hw
theorem Rep_row (H : ∀ x, x < 138 → r' x = r x) (hw : Wf r) (h : Rep u B r) : Rep u B r' := by
  have n6 := (nc_eq hw).2
  have n8 := (ne_eq hw).2
  have n9 := (nw_eq hw).2
  have e1 : nc r' = nc r := congrArg tn (H 42 (by omega))
  have e2 : ne r' = ne r := congrArg tn (H 43 (by omega))
  have e3 : nw r' = nw r := congrArg tn (H 44 (by omega))
  obtain ⟨k1, k2, k3, k4, k5, k6, k7⟩ := h
  refine ⟨?_, fun s hs => ?_, fun c' hc' f' hf' => ?_, fun e he f' hf' => ?_, fun w hw' => ?_, ?_, ?_⟩
  · unfold RepN; rw [H _ (by omega), H _ (by omega), H _ (by omega), H _ (by omega)]; exact k1
  · rw [H _ (by omega)]; exact k2 s hs
  · rw [e1] at hc'
    rw [H _ (by omega)]; exact k3 c' hc' f' hf'
  · rw [e2] at he
    rw [H _ (by omega)]; exact k4 e he f' hf'
  · rw [e3] at hw'
    unfold RepW
    rw [H _ (by omega), H _ (by omega)]; exact k5 w hw'
  · exact RepY_congr (fun x hx => H x (by omega)) rfl rfl k6
  · exact RepT_congr (fun x hx => H x (by omega)) (fun g hg => rfl) k7
/-- the first k numbers of one row put into another -/
def cpR (a b : Nat → Int32) (k : Nat) : Nat → Int32 := fun j => if j < k then a j else b j
theorem cpR_at {a b : Nat → Int32} {k j : Nat} (h : j < k) : cpR a b k j = a j := if_pos h
theorem m_copyRow {p q : Nat} (hpq : p ≠ q) : FX10_copyRow p q m = some (mrow m q (cpR (m p) (m q) 138)) := by
  have in1 : lp (BX10_copyRow_2 p q) FU (0, m) = some (nI 138, mrow m q (cpR (m p) (m q) 138)) := by
    have h0 : (fun k => (nI k, mrow m q (cpR (m p) (m q) k))) 0 = (0, m) := by
      show (nI 0, mrow m q (cpR (m p) (m q) 0)) = (0, m)
      have : cpR (m p) (m q) 0 = m q := by funext j; exact if_neg (by omega)
      rw [this, mrow_self]; rfl
    rw [← h0]
    refine lp_for (BX10_copyRow_2 p q) (fun k => (nI k, mrow m q (cpR (m p) (m q) k))) _ 138 (by omega) (fun k hk rec => ?_) (fun rec => ?_)
    · show BX10_copyRow_2 p q rec (nI k, mrow m q (cpR (m p) (m q) k)) = rec (nI (k + 1), mrow m q (cpR (m p) (m q) (k + 1)))
      dsimp only [BX10_copyRow_2]
      rw [show (138 : Int32) = nI 138 from rfl, if_neg (n_ngt hk (by omega)), if_pos (inb_t (by omega) (by omega)), if_pos (inb_t (by omega) (by omega)), ncl (by omega), nI_1, mrow_ne hpq, mst_mrow]
      congr 2
      congr 1
      funext j
      unfold upd cpR
      by_cases c : j = k
      · subst c; rw [if_pos rfl, if_pos (by omega)]
      · rw [if_neg c]
        by_cases d : j < k
        · rw [if_pos d, if_pos (by omega)]
        · rw [if_neg d, if_neg (by omega)]
    · show BX10_copyRow_2 p q rec (nI 138, mrow m q (cpR (m p) (m q) 138)) = _
      dsimp only [BX10_copyRow_2]
      rw [show (138 : Int32) = nI 138 from rfl, if_pos (n_ge (Nat.le_refl _) (by omega))]
  exact lp_bind in1 rfl
theorem s_undo (h : Inv u) : Same FX9_undo FX10_undo u := by
  have hk := h.1.2.1
  rcases h.2.2.1 with z | ⟨z, hW8⟩
  · refine same_fin 3 (by omega) w3 h (Qc_refl u) ?_ (fun m hm => ⟨m, Qm_refl m, ?_⟩)
    · unfold FX9_undo; rw [if_pos (by rw [hk]; exact z), bind_eta]
    · unfold FX10_undo; rw [if_pos (by rw [hm 116 (by omega)]; exact z), bind_eta]
  · have hnz : u 116 3 ≠ 0 := by rw [z]; decide
    have hR8 := h.1.2.2.1 hnz
    obtain ⟨u', f1, f2, f3⟩ := c_become (p := 1) hR8 hW8 (by omega)
    have H : ∀ x, x < 138 → cpR (u 118) (u 117) 138 x = u 118 x := fun x hx => cpR_at hx
    have e7 : u' 117 = u 117 := f3 117 (by omega)
    have e8 : u' 118 = u 118 := f3 118 (by omega)
    refine same_row (x := u 118 43) (u2 := mrow u' 117 (cpR (u 118) (u 117) 138)) h (Rep_row H hW8 f2) (Wf_row H hW8) (Fr_Qf f3) ?_ ?_ (Qm_refl _)
    · unfold FX9_undo
      rw [if_neg (by rw [hk]; exact hnz), f1, bs, f2.1.2.1]
    · unfold FX10_undo
      rw [if_neg (by rw [f3 116 (by omega)]; exact hnz), m_copyRow (by omega), bs, e8, e7, mrow_at, H 43 (by omega)]
theorem s_image (h : Inv u) : Same FX9_image FX10_image u := by
  have hR := h.1.1
  have hW := h.2.1
  obtain ⟨u', f1, f2, f3⟩ := c_become (p := 33) hR hW (by omega)
  have H : ∀ x, x < 138 → cpR (u 117) (u 118) 138 x = u 117 x := fun x hx => cpR_at hx
  have e7 : u' 117 = u 117 := f3 117 (by omega)
  have e8 : u' 118 = u 118 := f3 118 (by omega)
  refine ⟨1, mst u' 0 8 1, mst (mrow (mst u' 0 8 1) 118 (cpR (u 117) (u 118) 138)) 116 3 1, ?_, ?_, ?_⟩
  · unfold FX9_image
    rw [f1, bs]
  · unfold FX10_image
    rw [m_copyRow (by omega), bs, mst_k (by omega), mst_k (by omega), e7, e8]
  · refine Inv_mk (u1 := mst u' 0 8 1) (m := mst (mrow u 118 (cpR (u 117) (u 118) 138)) 116 3 1) ?_ ?_ (fun a ha => by rw [mst_k (by omega), mrow_ne (by omega)]) (fun a ha hk => ?_) ?_ ?_
    · obtain ⟨h1, h2, h3, h4, h5, h6, h7⟩ := h.1
      have hM := h.2
      unfold Cs
      rw [mst_k (show 117 ≠ 116 by omega), mst_k (show 118 ≠ 116 by omega), mst_k (show 125 ≠ 116 by omega), mst_k (show 128 ≠ 116 by omega), mst_k (show 129 ≠ 116 by omega), mst_k (show 130 ≠ 116 by omega), mst_k (show 120 ≠ 116 by omega), mst_j (show 14 ≠ 3 by omega), mst_s, mst_s, mrow_at, mrow_ne (show 116 ≠ 118 by omega), mrow_ne (show 117 ≠ 118 by omega), mrow_ne (show 125 ≠ 118 by omega), mrow_ne (show 128 ≠ 118 by omega), mrow_ne (show 129 ≠ 118 by omega), mrow_ne (show 130 ≠ 118 by omega), mrow_ne (show 120 ≠ 118 by omega), mst_k (show 104 ≠ 0 by omega), mst_k (show 105 ≠ 0 by omega), mst_k (show 107 ≠ 0 by omega), f3 104 (by omega), f3 105 (by omega), f3 107 (by omega)]
      refine ⟨Rep_congr (fun a _ _ => by rw [mst_k (by omega), f3 a (by omega)]) hM.1 h1, rfl, fun _ => Rep_congr (fun a _ _ => mst_k (by omega) _ _) (Wf_row H hM.1) (Rep_row H hM.1 f2), h4, fun s hs => ?_, h6, h7⟩
      rw [mst_k (by omega), mst_k (by omega), f3 _ (by omega), f3 _ (by omega)]; exact h5 s hs
    · obtain ⟨h1, h2, h3, h4, h5⟩ := h.2
      unfold Ms
      rw [mst_k (show 117 ≠ 116 by omega), mst_k (show 118 ≠ 116 by omega), mst_k (show 125 ≠ 116 by omega), mst_k (show 128 ≠ 116 by omega), mst_k (show 129 ≠ 116 by omega), mst_k (show 124 ≠ 116 by omega), mst_j (show 14 ≠ 3 by omega), mst_s, mrow_at, mrow_ne (show 116 ≠ 118 by omega), mrow_ne (show 117 ≠ 118 by omega), mrow_ne (show 125 ≠ 118 by omega), mrow_ne (show 128 ≠ 118 by omega), mrow_ne (show 129 ≠ 118 by omega), mrow_ne (show 124 ≠ 118 by omega)]
      exact ⟨h1, Or.inr ⟨rfl, Wf_row H h1⟩, h3, h4, h5⟩
    · by_cases c : a = 116
      · exfalso; unfold keepM at hk; omega
      · rw [mst_k c, mst_k c]
        by_cases d : a = 118
        · subst d; rw [mrow_at, mrow_at]
        · rw [mrow_ne d, mrow_ne d, mst_k (by omega), f3 a (by omega)]
    · rw [mst_s, mst_s]
    · rw [mst_j (by omega), mst_j (by omega), mrow_ne (by omega), mrow_ne (by omega), mst_k (by omega), f3 116 (by omega)]
end IMAGE
