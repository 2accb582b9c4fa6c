/-! one turn by draws, on both sides -/
section TURN
variable {u m : Mem} {r : Nat → Int32} {B : Nat}
def dv (r : Nat → Int32) : Nat := tn (jushr (zN r 45) 8)
theorem dv_eq (r : Nat → Int32) : jushr (zN r 45) 8 = nI (dv r) ∧ dv r < 16777216 := by
  obtain ⟨a, h1, h2⟩ := ush8 (zN r 45)
  have : dv r = a := by unfold dv; rw [h2]; exact ncl (by omega)
  rw [this]
  exact ⟨h2, h1⟩
theorem zN_lo {x : Nat} (h : x ≠ 45) : zN r x = r x := pk_un h
theorem zN_wf (h : Wf r) : Wf (zN r) := Wf_setZ h
def tuC (r : Nat → Int32) : Nat := dv r % nc r
def tu2 (r : Nat → Int32) : Nat → Int32 := tkR (zN r) (tuC r) (ne r)
def tuT (r : Nat → Int32) : Nat := dv (tu2 r) % 7
def tuY (r : Nat → Int32) : Nat := Ds (zN (tu2 r)) (cF (zN (tu2 r)) (tuC r) 0) (cF (zN (tu2 r)) (tuC r) 1) (tuT r)
def turR (r : Nat → Int32) : Nat → Int32 := if tuY r < 1000000 then fiR (zN (tu2 r)) (tuC r) (tuT r) else zN (tu2 r)
theorem nc_zN : nc (zN r) = nc r := congrArg tn (zN_lo (by omega))
theorem ne_zN : ne (zN r) = ne r := congrArg tn (zN_lo (by omega))
theorem tu2_wf (h : Wf r) : Wf (tu2 r) := tkR_wf (zN_wf h) _ _ (by rw [ne_zN]; exact Nat.le_refl _)
theorem nc_tu2 : nc (tu2 r) = nc r := (tkR_nc _ _).trans nc_zN
theorem ne_tu2 : ne (tu2 r) = ne r := (tkR_ne _ _).trans ne_zN
theorem c_turn (h : Rep u B r) (hw : Wf r) (h0 : 0 < nc r) : ∃ u', FX2_turn B u = some u' ∧ Rep u' B (turR r) ∧ Fr B u u' := by
  have h6 := nc_eq hw
  obtain ⟨dA, RA⟩ := c_draw h hw
  have WA := zN_wf hw
  have hc : tuC r < nc r := Nat.mod_lt _ h0
  obtain ⟨v1, v2⟩ := dv_eq r
  obtain ⟨u2, f1, f2, f3⟩ := c_takeUpAll (c := tuC r) RA WA (by rw [nc_zN]; exact hc)
  rw [ne_zN] at f2
  have f2 : Rep u2 B (tu2 r) := f2
  have W2 := tu2_wf hw
  obtain ⟨dB, RB⟩ := c_draw f2 W2
  have WB := zN_wf W2
  obtain ⟨x1, x2⟩ := dv_eq (tu2 r)
  have ht : tuT r < 7 := Nat.mod_lt _ (by omega)
  have hcB : tuC r < nc (zN (tu2 r)) := by rw [nc_zN, nc_tu2]; exact hc
  have hl := Ds_le WB (cF (zN (tu2 r)) (tuC r) 0) (cF (zN (tu2 r)) (tuC r) 1) (tuT r)
  have e5 : u B 5 = nI (nc r) := q5 h hw
  have e5' : mst u B 8 (zN r 45) B 5 = nI (nc r) := by rw [mst_j (by omega)]; exact e5
  have ec : jrem (nI (dv r)) (nI (nc r)) = nI (tuC r) := nrem (by omega) h0 (by omega)
  have et : jrem (nI (dv (tu2 r))) 7 = nI (tuT r) := by rw [L7]; exact nrem (by omega) (by omega) (by omega)
  have F1 : Fr B u (mst u2 B 8 (zN (tu2 r) 45)) := Fr_trans (Fr_mst (by omega) _ _ _) (Fr_trans f3 (Fr_mst (by omega) _ _ _))
  have hT : FX2_turn B u = if 1000000 ≤ nI (tuY r) then some (mst u2 B 8 (zN (tu2 r) 45)) else Option.bind (FX2_go B (nI (tuC r)) (nI (tuT r)) (mst u2 B 8 (zN (tu2 r) 45))) (fun q4 => some q4.2) := by
    unfold FX2_turn
    rw [dA]
    dsimp only
    rw [if_neg (by rw [e5]; exact nI_ne0 h0 (by omega)), if_pos (by rw [e5']; exact nI_ne0 h0 (by omega)), e5', v1, ec, f1, bs, dB]
    dsimp only
    rw [x1, et, c_yardsTo RB WB hcB ht, bs]
    rfl
  rw [hT]
  unfold turR
  have hl' : tuY r ≤ 1000000 := hl
  by_cases z : tuY r < 1000000
  · obtain ⟨u4, g1, g2, g3⟩ := c_go RB WB hcB ht
    refine ⟨u4, ?_, ?_, Fr_trans F1 g3⟩
    · rw [if_neg (by rw [LM, nle (by omega) (by omega)]; omega), g1, bs]
    · rw [if_pos z]; exact g2
  · refine ⟨_, if_pos (by rw [LM, nle (by omega) (by omega)]; omega), ?_, F1⟩
    rw [if_neg z]; exact RB
end TURN
