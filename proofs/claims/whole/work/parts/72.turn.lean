/-! turns: how many errands are done -/
section TURN2
variable {u m : Mem} {r : Nat → Int32} {B : Nat}
def turN (r : Nat → Int32) : Nat := if tuY r < 1000000 then cntS (gB (stR (zN (tu2 r)) (tuC r) (tuT r)) (tuC r) (tuT r)) (ne r) else 0
theorem tkR_dnc (hw : Wf r) (c : Nat) : ∀ k, k ≤ ne r → dnc (tkR r c k) = dnc r
  | 0, _ => rfl
  | k + 1, hk => by
    have ih := tkR_dnc hw c k (by omega)
    unfold tkR
    split
    · next z =>
      rw [← ih]
      unfold takR
      have e1 : dnc (upd (upd (tkR r c k) (86 + 5 * k + 3) 1) (86 + 5 * k + 4) (nI c)) = dnc (upd (tkR r c k) (86 + 5 * k + 3) 1) := dnc_congr (pk_un (by omega)) (fun e he => pk_un (by omega))
      rw [e1]
      exact dnc_same (by have := z.1.1; omega) (by decide)
    · exact ih
theorem dnc_zN (r : Nat → Int32) : dnc (zN r) = dnc r := dnc_congr (zN_lo (by omega)) (fun e he => zN_lo (by omega))
theorem dnc_tu2 (hw : Wf r) : dnc (tu2 r) = dnc r := by
  unfold tu2
  rw [tkR_dnc (zN_wf hw) _ _ (by rw [ne_zN]; exact Nat.le_refl _), dnc_zN]
theorem turR_ok (hw : Wf r) (h0 : 0 < nc r) : Wf (turR r) ∧ nc (turR r) = nc r ∧ ne (turR r) = ne r ∧ dnc (turR r) = dnc r + turN r := by
  have W2 := tu2_wf hw
  have WB := zN_wf W2
  have hc : tuC r < nc r := Nat.mod_lt _ h0
  have h6 := (nc_eq hw).2
  have ht : tuT r < 7 := Nat.mod_lt _ (by omega)
  have hcB : tuC r < nc (zN (tu2 r)) := by rw [nc_zN, nc_tu2]; exact hc
  have hnB : ne (zN (tu2 r)) = ne r := ne_zN.trans ne_tu2
  have hdB : dnc (zN (tu2 r)) = dnc r := (dnc_zN _).trans (dnc_tu2 hw)
  unfold turR turN
  by_cases z : tuY r < 1000000
  · rw [if_pos z, if_pos z]
    have W1 := stR_wf WB (c := tuC r) (t := tuT r) (by omega) ht
    obtain ⟨W3, d3⟩ := goR_wf W1 (tuC r) (tuT r) (ne (zN (tu2 r))) (by rw [stR_ne]; exact Nat.le_refl _)
    have d1 : dnc (stR (zN (tu2 r)) (tuC r) (tuT r)) = dnc (zN (tu2 r)) := dnc_congr (stR_un _ _ (by omega) (by omega)) (fun e he => stR_un _ _ (by omega) (by omega))
    refine ⟨fiR_wf WB hcB ht, ?_, ?_, ?_⟩
    · unfold fiR
      have : nc (upd (goR (stR (zN (tu2 r)) (tuC r) (tuT r)) (tuC r) (tuT r) (ne (zN (tu2 r)))) (56 + 5 * tuC r + 3) (nI (cF (zN (tu2 r)) (tuC r) 3 + gS (stR (zN (tu2 r)) (tuC r) (tuT r)) (tuC r) (tuT r) (ne (zN (tu2 r)))))) = nc (goR (stR (zN (tu2 r)) (tuC r) (tuT r)) (tuC r) (tuT r) (ne (zN (tu2 r)))) := congrArg tn (pk_un (by omega))
      rw [this, goR_nc, stR_nc, nc_zN, nc_tu2]
    · unfold fiR
      have : ne (upd (goR (stR (zN (tu2 r)) (tuC r) (tuT r)) (tuC r) (tuT r) (ne (zN (tu2 r)))) (56 + 5 * tuC r + 3) (nI (cF (zN (tu2 r)) (tuC r) 3 + gS (stR (zN (tu2 r)) (tuC r) (tuT r)) (tuC r) (tuT r) (ne (zN (tu2 r)))))) = ne (goR (stR (zN (tu2 r)) (tuC r) (tuT r)) (tuC r) (tuT r) (ne (zN (tu2 r)))) := congrArg tn (pk_un (by omega))
      rw [this, goR_ne, stR_ne, hnB]
    · unfold fiR
      have : dnc (upd (goR (stR (zN (tu2 r)) (tuC r) (tuT r)) (tuC r) (tuT r) (ne (zN (tu2 r)))) (56 + 5 * tuC r + 3) (nI (cF (zN (tu2 r)) (tuC r) 3 + gS (stR (zN (tu2 r)) (tuC r) (tuT r)) (tuC r) (tuT r) (ne (zN (tu2 r)))))) = dnc (goR (stR (zN (tu2 r)) (tuC r) (tuT r)) (tuC r) (tuT r) (ne (zN (tu2 r)))) := dnc_congr (pk_un (by omega)) (fun e he => pk_un (by omega))
      rw [this, d3, d1, hdB, hnB]
  · rw [if_neg z, if_neg z]
    exact ⟨WB, nc_zN.trans nc_tu2, hnB, hdB⟩
end TURN2
