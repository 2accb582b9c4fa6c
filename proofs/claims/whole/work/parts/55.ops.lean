/-! the calls, fourth part: what adds -/
section OPS4
variable {u m : Mem} {r : Nat → Int32}
theorem c_addErrand {B : Nat} (hR : Rep u B r) (hW : Wf r) (hn : ne r < 8) {k p s : Int32} (hk : In k 60) (hp : In p 6) (hs' : In s 6) : ∃ u', FX2_addErrand B k p s u = some (nI (ne r), u') ∧ Rep u' B (addE r k p s) ∧ Wf (addE r k p s) ∧ Fr B u u' := by
  have q6' := q6 hR hW
  have hnr : tn (r 43) = ne r := rfl
  unfold addE
  generalize hnn : ne r = n at *
  have n1 : ne (upd r (86 + 5 * n + 0) k) = n := by unfold ne; rw [pk_un (by omega)]; exact hnr
  have R1 := Rep_setE (v := k) hR hW (c := n) (f := 0) hn (by omega)
  have W1 := Wf_setE (v := k) hW (c := n) (f := 0) hn (by omega) (dncE_f (by omega) (by omega)) (fun z => by omega)
  have n2 : ne (upd (upd r (86 + 5 * n + 0) k) (86 + 5 * n + 1) p) = n := by unfold ne; rw [pk_un (by omega)]; exact n1
  have R2 := Rep_setE (v := p) R1 W1 (c := n) (f := 1) hn (by omega)
  have W2 := Wf_setE (v := p) W1 (c := n) (f := 1) hn (by omega) (dncE_f (by omega) (by omega)) (fun z => by omega)
  have n3 : ne (upd (upd (upd r (86 + 5 * n + 0) k) (86 + 5 * n + 1) p) (86 + 5 * n + 2) s) = n := by unfold ne; rw [pk_un (by omega)]; exact n2
  have R3 := Rep_setE (v := s) R2 W2 (c := n) (f := 2) hn (by omega)
  have W3 := Wf_setE (v := s) W2 (c := n) (f := 2) hn (by omega) (dncE_f (by omega) (by omega)) (fun z => by omega)
  have n4 : ne (upd (upd (upd (upd r (86 + 5 * n + 0) k) (86 + 5 * n + 1) p) (86 + 5 * n + 2) s) (86 + 5 * n + 3) 0) = n := by unfold ne; rw [pk_un (by omega)]; exact n3
  have d4 : dnc (upd (upd (upd r (86 + 5 * n + 0) k) (86 + 5 * n + 1) p) (86 + 5 * n + 2) s) ≤ dnc (upd (upd (upd (upd r (86 + 5 * n + 0) k) (86 + 5 * n + 1) p) (86 + 5 * n + 2) s) (86 + 5 * n + 3) 0) := Nat.le_of_eq (dnc_congr (pk_un (by omega)) (fun e he => pk_un (by rw [n3] at he; omega))).symm
  have R4 := Rep_setE (v := 0) R3 W3 (c := n) (f := 3) hn (by omega)
  have W4 := Wf_setE (v := 0) W3 (c := n) (f := 3) hn (by omega) d4 (fun z => by omega)
  have n5 : ne (upd (upd (upd (upd (upd r (86 + 5 * n + 0) k) (86 + 5 * n + 1) p) (86 + 5 * n + 2) s) (86 + 5 * n + 3) 0) (86 + 5 * n + 4) (-1)) = n := by unfold ne; rw [pk_un (by omega)]; exact n4
  have R5 := Rep_setE (v := -1) R4 W4 (c := n) (f := 4) hn (by omega)
  have W5 := Wf_setE (v := -1) W4 (c := n) (f := 4) hn (by omega) (dncE_f (by omega) (by omega)) (fun z => by omega)
  have hcell : RepE (mst (mst (mst (mst (mst u (B + 18 + n) 0 k) (B + 18 + n) 1 p) (B + 18 + n) 2 s) (B + 18 + n) 3 0) (B + 18 + n) 4 (-1)) B (upd (upd (upd (upd (upd r (86 + 5 * n + 0) k) (86 + 5 * n + 1) p) (86 + 5 * n + 2) s) (86 + 5 * n + 3) 0) (86 + 5 * n + 4) (-1)) n := by
    intro f hf
    have f5 : f = 0 ∨ f = 1 ∨ f = 2 ∨ f = 3 ∨ f = 4 := by omega
    rcases f5 with rfl | rfl | rfl | rfl | rfl <;> simp [mst, upd]
  have R6 := Rep_setN (v := nI (n + 1)) R5 W5 (f := 6) (by omega) (fun z => by omega) (fun _ => ⟨by rw [n5]; unfold ne; rw [pk_us]; show tn (nI (n + 1)) ≤ _; unfold tn; rw [ncl (by omega)]; exact Nat.le_refl _, by rw [n5]; exact hcell, by omega⟩) (fun z => by omega)
  have W6 := Wf_incE W5 (by omega) (by
    rw [n5]
    unfold wfE
    refine ⟨?_, ?_, ?_, ?_⟩
    · rw [pk_un (by omega), pk_un (by omega), pk_un (by omega), pk_un (by omega), pk_us]; exact hk
    · rw [pk_un (by omega), pk_un (by omega), pk_un (by omega), pk_us]; exact hp
    · rw [pk_un (by omega), pk_un (by omega), pk_us]; exact hs'
    · rw [pk_un (by omega), pk_us]; exact ⟨rfl, Nat.zero_le _⟩)
  rw [n5] at W6
  refine ⟨_, ?_, R6, W6, ?_⟩
  · unfold FX2_addErrand
    dsimp only [nm]
    rw [q6', if_pos (inb_t hn (by omega)), ncl (by omega)]
    have hv : (mst (mst (mst (mst (mst u (B + 18 + n) 0 k) (B + 18 + n) 1 p) (B + 18 + n) 2 s) (B + 18 + n) 3 0) (B + 18 + n) 4 (-1)) B 6 = nI n := by rw [mst_k (by omega), mst_k (by omega), mst_k (by omega), mst_k (by omega), mst_k (by omega)]; exact q6'
    rw [hv, nI_1]
  · exact Fr_trans (Fr_mst (by omega) _ _ _) (Fr_trans (Fr_mst (by omega) _ _ _) (Fr_trans (Fr_mst (by omega) _ _ _) (Fr_trans (Fr_mst (by omega) _ _ _) (Fr_trans (Fr_mst (by omega) _ _ _) (Fr_mst (by omega) _ _ _)))))
theorem m_newErrand (hm : m 117 = r) (hW : Wf r) (hn : ne r < 8) (k p s : Int32) : FX10_newErrand k p s m = some (nI (ne r), mrow m 117 (addE r k p s)) := by
  have e43 := (ne_eq hW).1
  unfold FX10_newErrand
  dsimp only [nm]
  rw [hm, e43]
  have a0 : FX10_eAt (nI (ne r)) 0 = nI (86 + 5 * ne r + 0) := eAt_eq (f := 0)
  have a1 : FX10_eAt (nI (ne r)) 1 = nI (86 + 5 * ne r + 1) := eAt_eq (f := 1)
  have a2 : FX10_eAt (nI (ne r)) 2 = nI (86 + 5 * ne r + 2) := eAt_eq (f := 2)
  have a3 : FX10_eAt (nI (ne r)) 3 = nI (86 + 5 * ne r + 3) := eAt_eq (f := 3)
  have a4 : FX10_eAt (nI (ne r)) 4 = nI (86 + 5 * ne r + 4) := eAt_eq (f := 4)
  rw [a0, a1, a2, a3, a4, if_pos (inb_t (by omega) (by omega)), if_pos (inb_t (by omega) (by omega)), if_pos (inb_t (by omega) (by omega)), if_pos (inb_t (by omega) (by omega)), if_pos (inb_t (by omega) (by omega)), ncl (by omega), ncl (by omega), ncl (by omega), ncl (by omega), ncl (by omega)]
  rw [mst_as_mrow m, hm, mst_mrow, mst_mrow, mst_mrow, mst_mrow, mrow_at, mst_mrow, pk_un (by omega), pk_un (by omega), pk_un (by omega), pk_un (by omega), pk_un (by omega), e43, nI_1]
  rfl
theorem c_addWare {B : Nat} (hR : Rep u B r) (hW : Wf r) (hn : nw r < 6) {k : Int32} (hk : In k 9999) : ∃ u', FX2_addWare B k u = some (nI (nw r), u') ∧ Rep u' B (addW r k) ∧ Wf (addW r k) ∧ Fr B u u' := by
  have q7' := q7 hR hW
  have hnr : tn (r 44) = nw r := rfl
  unfold addW
  generalize hnn : nw r = n at *
  have n1 : nw (upd r (126 + 2 * n + 0) k) = n := by unfold nw; rw [pk_un (by omega)]; exact hnr
  have R1 := Rep_setW (v := k) hR hW (c := n) (f := 0) hn (by omega)
  have W1 := Wf_setW (v := k) hW (c := n) (f := 0) hn (by omega) (fun z => by omega)
  have n2 : nw (upd (upd r (126 + 2 * n + 0) k) (126 + 2 * n + 1) (-1)) = n := by unfold nw; rw [pk_un (by omega)]; exact n1
  have R2 := Rep_setW (v := -1) R1 W1 (c := n) (f := 1) hn (by omega)
  have W2 := Wf_setW (v := -1) W1 (c := n) (f := 1) hn (by omega) (fun z => by omega)
  have hcell : RepW (mst (mst u (B + 26 + n) 0 k) (B + 26 + n) 1 (-1)) B (upd (upd r (126 + 2 * n + 0) k) (126 + 2 * n + 1) (-1)) n := by
    unfold RepW
    constructor <;> simp [mst, upd]
  have R6 := Rep_setN (v := nI (n + 1)) R2 W2 (f := 7) (by omega) (fun z => by omega) (fun z => by omega) (fun _ => ⟨by rw [n2]; unfold nw; rw [pk_us]; show tn (nI (n + 1)) ≤ _; unfold tn; rw [ncl (by omega)]; exact Nat.le_refl _, by rw [n2]; exact hcell, by omega⟩)
  have W6 := Wf_incW W2 (by omega) (by
    rw [n2]
    unfold wfW
    refine ⟨?_, ?_⟩
    · rw [pk_un (by omega)]; exact (show In (upd r (126 + 2 * n + 0) k (126 + 2 * n + 0)) 9999 by rw [pk_us]; exact hk)
    · rw [pk_us]; exact Or.inl rfl)
  rw [n2] at W6
  refine ⟨_, ?_, R6, W6, ?_⟩
  · unfold FX2_addWare
    dsimp only [nm]
    have hv0 : (mst u (B + 26 + n) 0 k) B 7 = nI n := by rw [mst_k (by omega)]; exact q7'
    have hv : (mst (mst u (B + 26 + n) 0 k) (B + 26 + n) 1 (-1)) B 7 = nI n := by rw [mst_k (by omega)]; exact hv0
    rw [q7', if_pos (inb_t hn (by omega)), if_pos (show inb (mst u (B + 26 + (nI n).toNatClampNeg) 0 k B 7) 6 by rw [ncl (by omega), hv0]; exact inb_t hn (by omega)), ncl (by omega), hv0, ncl (by omega), hv, nI_1]
  · exact Fr_trans (Fr_mst (by omega) _ _ _) (Fr_trans (Fr_mst (by omega) _ _ _) (Fr_mst (by omega) _ _ _))
theorem m_newWare (hm : m 117 = r) (hW : Wf r) (hn : nw r < 6) (k : Int32) : FX10_newWare k m = some (nI (nw r), mrow m 117 (addW r k)) := by
  have e44 := (nw_eq hW).1
  unfold FX10_newWare
  dsimp only [nm]
  rw [hm, e44]
  have a0 : FX10_wAt (nI (nw r)) 0 = nI (126 + 2 * nw r + 0) := wAt_eq (f := 0)
  have a1 : FX10_wAt (nI (nw r)) 1 = nI (126 + 2 * nw r + 1) := wAt_eq (f := 1)
  rw [a0, a1, if_pos (inb_t (by omega) (by omega)), if_pos (inb_t (by omega) (by omega)), ncl (by omega), ncl (by omega)]
  rw [mst_as_mrow m, hm, mst_mrow, mrow_at, mst_mrow, pk_un (by omega), pk_un (by omega), e44, nI_1]
  rfl
theorem Qm_of_row {m : Mem} {ρ : Nat → Int32} : Qm (mrow m 117 ρ) (mrow m 117 ρ) := Qm_refl _
theorem s_carrier (h : Inv u) (p1 : Int32) : Same (FX9_carrier p1) (FX10_carrier p1) u := by
  have hR := h.1.1
  have hW := h.2.1
  have h6 := nc_eq hW
  have q5' := q5 hR hW
  rcases pl_cases p1 with ⟨g0, -⟩ | ⟨k, hk, rfl, g1⟩
  · refine same_fin 0 (by omega) w0 h (Qc_refl u) ?_ (fun m hm => ⟨m, Qm_refl m, ?_⟩)
    · unfold FX9_carrier; rw [g0, if_pos rfl, bind_eta]
    · unfold FX10_carrier FX10_isKind; rw [within_eq, g0, if_pos rfl, bind_eta]
  by_cases hn : nc (u 117) < 6
  · obtain ⟨u', f1, f2, f3, f4⟩ := c_addCarrier (k := nI k) (p := 0) (s := 20) hR hW hn (In_nI (by omega) (by omega)) ⟨rfl, by decide⟩ ⟨rfl, by decide⟩
    refine same_row h f2 f3 (Fr_Qf f4) (x := nI (nc (u 117))) (u2 := mrow u' 117 (addC (u 117) (nI k) 0 20)) ?_ ?_ (Qm_refl _)
    · unfold FX9_carrier
      rw [g1, if_neg (by decide), if_pos (by rw [q5', L6, nlt (by omega) (by omega)]; exact hn), bind_eta]
      exact f1
    · unfold FX10_carrier FX10_isKind
      have e7 : u' 117 = u 117 := f4 117 (by omega)
      rw [within_eq, g1, if_neg (by decide), if_neg (by rw [e7, h6.1, L6, neq (by omega) (by omega)]; omega), bind_eta]
      exact m_newCarrier e7 hW hn _ _ _
  · refine same_fin 1 (by omega) w1 h (Qc_refl u) ?_ (fun m hm => ⟨m, Qm_refl m, ?_⟩)
    · unfold FX9_carrier; rw [g1, if_neg (by decide), if_neg (by rw [q5', L6, nlt (by omega) (by omega)]; exact hn), bind_eta]
    · unfold FX10_carrier FX10_isKind; rw [within_eq, g1, if_neg (by decide), if_pos (by rw [hm117 hm, h6.1, show nc (u 117) = 6 by omega]; rfl), bind_eta]
theorem s_errand (h : Inv u) (p1 p2 p3 : Int32) : Same (FX9_errand p1 p2 p3) (FX10_errand p1 p2 p3) u := by
  have hR := h.1.1
  have hW := h.2.1
  have h6 := ne_eq hW
  have q6' := q6 hR hW
  rcases wi_range p1 (lo := 1) (hi := 60) (a := 1) (b := 60) rfl rfl (by omega) (by omega) with g0 | ⟨k, hk1, hk2, rfl, g1⟩
  · refine same_fin 0 (by omega) w0 h (Qc_refl u) ?_ (fun m hm => ⟨m, Qm_refl m, ?_⟩)
    · unfold FX9_errand; rw [g0, if_pos rfl, bind_eta]
    · unfold FX10_errand; rw [within_eq, g0, if_pos rfl, bind_eta]
  have bad : FX9_areUnlikePlaces p2 p3 = 0 → (∀ m, FX10_errand (nI k) p2 p3 m = FX10_finding (-1000001) m) → Same (FX9_errand (nI k) p2 p3) (FX10_errand (nI k) p2 p3) u := fun h9 h10 =>
    same_fin 0 (by omega) w0 h (Qc_refl u) (by unfold FX9_errand; rw [g1, if_neg (by decide), h9, if_pos rfl, bind_eta]) (fun m _ => ⟨m, Qm_refl m, h10 m⟩)
  rcases pl_cases p2 with ⟨a0, -⟩ | ⟨i, hi, rfl, a1⟩
  · exact bad (by unfold FX9_areUnlikePlaces; rw [np9, a0, if_pos rfl]) (fun m => by unfold FX10_errand; rw [within_eq, g1, if_neg (by decide), np10, a0, if_pos rfl, bind_eta])
  rcases pl_cases p3 with ⟨b0, -⟩ | ⟨j, hj, rfl, b1⟩
  · exact bad (by unfold FX9_areUnlikePlaces; rw [np9, a1, if_neg (by decide), np9, b0, if_pos rfl]) (fun m => by unfold FX10_errand; rw [within_eq, g1, if_neg (by decide), np10, a1, if_neg (by decide), np10, b0, if_pos rfl, bind_eta])
  by_cases hij : i = j
  · subst hij
    exact bad (by unfold FX9_areUnlikePlaces; rw [np9, a1, if_neg (by decide), if_neg (by decide), if_pos rfl]) (fun m => by unfold FX10_errand; rw [within_eq, g1, if_neg (by decide), np10, a1, if_neg (by decide), if_neg (by decide), if_pos rfl, bind_eta])
  have hne : ¬ nI i = nI j := by rw [neq (by omega) (by omega)]; exact hij
  have g9 : FX9_areUnlikePlaces (nI i) (nI j) = 1 := by unfold FX9_areUnlikePlaces; rw [np9, a1, if_neg (by decide), np9, b1, if_neg (by decide), if_neg hne]
  by_cases hn : ne (u 117) < 8
  · obtain ⟨u', f1, f2, f3, f4⟩ := c_addErrand (k := nI k) (p := nI i) (s := nI j) hR hW hn (In_nI (by omega) (by omega)) (In_nI (by omega) (by omega)) (In_nI (by omega) (by omega))
    refine same_row h f2 f3 (Fr_Qf f4) (x := nI (ne (u 117))) (u2 := mrow u' 117 (addE (u 117) (nI k) (nI i) (nI j))) ?_ ?_ (Qm_refl _)
    · unfold FX9_errand
      rw [g1, if_neg (by decide), g9, if_neg (by decide), if_pos (by rw [q6', L8, nlt (by omega) (by omega)]; exact hn), bind_eta]
      exact f1
    · unfold FX10_errand
      have e7 : u' 117 = u 117 := f4 117 (by omega)
      rw [within_eq, g1, if_neg (by decide), np10, a1, if_neg (by decide), np10, b1, if_neg (by decide), if_neg hne, if_neg (by rw [e7, h6.1, L8, neq (by omega) (by omega)]; omega), bind_eta]
      exact m_newErrand e7 hW hn _ _ _
  · refine same_fin 1 (by omega) w1 h (Qc_refl u) ?_ (fun m hm => ⟨m, Qm_refl m, ?_⟩)
    · unfold FX9_errand; rw [g1, if_neg (by decide), g9, if_neg (by decide), if_neg (by rw [q6', L8, nlt (by omega) (by omega)]; exact hn), bind_eta]
    · unfold FX10_errand; rw [within_eq, g1, if_neg (by decide), np10, a1, if_neg (by decide), np10, b1, if_neg (by decide), if_neg hne, if_pos (by rw [hm117 hm, h6.1, show ne (u 117) = 8 by omega]; rfl), bind_eta]
theorem s_ware (h : Inv u) (p1 : Int32) : Same (FX9_ware p1) (FX10_ware p1) u := by
  have hR := h.1.1
  have hW := h.2.1
  have h6 := nw_eq hW
  have q7' := q7 hR hW
  rcases wi_range p1 (lo := 1) (hi := 9999) (a := 1) (b := 9999) rfl rfl (by omega) (by omega) with g0 | ⟨k, hk1, hk2, rfl, g1⟩
  · refine same_fin 0 (by omega) w0 h (Qc_refl u) ?_ (fun m hm => ⟨m, Qm_refl m, ?_⟩)
    · unfold FX9_ware; rw [g0, if_pos rfl, bind_eta]
    · unfold FX10_ware; rw [within_eq, g0, if_pos rfl, bind_eta]
  by_cases hn : nw (u 117) < 6
  · obtain ⟨u', f1, f2, f3, f4⟩ := c_addWare (k := nI k) hR hW hn (In_nI (by omega) (by omega))
    refine same_row h f2 f3 (Fr_Qf f4) (x := nI (nw (u 117))) (u2 := mrow u' 117 (addW (u 117) (nI k))) ?_ ?_ (Qm_refl _)
    · unfold FX9_ware
      rw [g1, if_neg (by decide), if_pos (by rw [q7', L6, nlt (by omega) (by omega)]; exact hn), bind_eta]
      exact f1
    · unfold FX10_ware
      have e7 : u' 117 = u 117 := f4 117 (by omega)
      rw [within_eq, g1, if_neg (by decide), if_neg (by rw [e7, h6.1, L6, neq (by omega) (by omega)]; omega), bind_eta]
      exact m_newWare e7 hW hn _
  · refine same_fin 1 (by omega) w1 h (Qc_refl u) ?_ (fun m hm => ⟨m, Qm_refl m, ?_⟩)
    · unfold FX9_ware; rw [g1, if_neg (by decide), if_neg (by rw [q7', L6, nlt (by omega) (by omega)]; exact hn), bind_eta]
    · unfold FX10_ware; rw [within_eq, g1, if_neg (by decide), if_pos (by rw [hm117 hm, h6.1, show nw (u 117) = 6 by omega]; rfl), bind_eta]
end OPS4
