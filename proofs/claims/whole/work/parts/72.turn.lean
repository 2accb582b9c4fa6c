/-! turns: how many errands are done -/
section TURN2
variable {u m : Mem} {r : Nat → Int32} {B : Nat}
def turN (r : Nat → Int32) : Nat := if tuY r < 1000000 then cntS (gB (stR (zN (tu2 r)) (tuC r) (tuT r)) (tuC r) (tuT r)) (ne r) else 0
theorem tkR_dnc (hw : Wf r) (c : Nat) : ∀ k, k ≤ ne r → dnc (tkR r c k) = dnc r
  | 0, _ => rfl
  | k + 1, hk => by
    have ih := tkR_dnc hw c k (by omega)
    unfold tkR
    split
    · next z =>
      rw [← ih]
      unfold takR
      have e1 : dnc (upd (upd (tkR r c k) (86 + 5 * k + 3) 1) (86 + 5 * k + 4) (nI c)) = dnc (upd (tkR r c k) (86 + 5 * k + 3) 1) := dnc_congr (pk_un (by omega)) (fun e he => pk_un (by omega))
      rw [e1]
      exact dnc_same (by have := z.1.1; omega) (by decide)
    · exact ih
theorem dnc_zN (r : Nat → Int32) : dnc (zN r) = dnc r := dnc_congr (zN_lo (by omega)) (fun e he => zN_lo (by omega))
theorem dnc_tu2 (hw : Wf r) : dnc (tu2 r) = dnc r := by
  unfold tu2
  rw [tkR_dnc (zN_wf hw) _ _ (by rw [ne_zN]; exact Nat.le_refl _), dnc_zN]
theorem updC_nc {F : Nat → Int32} {c f : Nat} (hf : f < 5) (v : Int32) : nc (upd F (56 + 5 * c + f) v) = nc F := by unfold nc; rw [pk_un (by omega)]
theorem updC_ne {F : Nat → Int32} {c f : Nat} (hf : f < 5) (hc : c < 6) (v : Int32) : ne (upd F (56 + 5 * c + f) v) = ne F := by unfold ne; rw [pk_un (by omega)]
theorem updC_dnc {F : Nat → Int32} {c f : Nat} (hf : f < 5) (hc : c < 6) (v : Int32) : dnc (upd F (56 + 5 * c + f) v) = dnc F := dnc_congr (pk_un (by omega)) (fun e he => pk_un (by omega))
theorem fiR_nc (c t : Nat) : nc (fiR r c t) = nc r := by
  unfold fiR
  rw [updC_nc (by omega), goR_nc, stR_nc]
theorem fiR_ne {c : Nat} (hc : c < 6) (t : Nat) : ne (fiR r c t) = ne r := by
  unfold fiR
  rw [updC_ne (by omega) hc, goR_ne, stR_ne]
theorem fiR_dnc (hw : Wf r) {c t : Nat} (hc : c < 6) (ht : t < 7) : dnc (fiR r c t) = dnc r + cntS (gB (stR r c t) c t) (ne r) := by
  have W1 := stR_wf hw hc ht
  have h := (goR_wf W1 c t (ne r) (by rw [stR_ne]; exact Nat.le_refl _)).2
  unfold fiR
  rw [updC_dnc (by omega) hc, h]
  unfold stR
  rw [updC_dnc (by omega) hc, updC_dnc (by omega) hc]
theorem turR_ok (hw : Wf r) (h0 : 0 < nc r) : Wf (turR r) ∧ nc (turR r) = nc r ∧ ne (turR r) = ne r ∧ dnc (turR r) = dnc r + turN r := by
  have W2 := tu2_wf hw
  have WB := zN_wf W2
  have hc : tuC r < nc r := Nat.mod_lt _ h0
  have h6 := (nc_eq hw).2
  have ht : tuT r < 7 := Nat.mod_lt _ (by omega)
  have hcB : tuC r < nc (zN (tu2 r)) := by rw [nc_zN, nc_tu2]; exact hc
  have hnB : ne (zN (tu2 r)) = ne r := ne_zN.trans ne_tu2
  have hdB : dnc (zN (tu2 r)) = dnc r := (dnc_zN _).trans (dnc_tu2 hw)
  have hcc : tuC r < 6 := by omega
  have hcq : nc (zN (tu2 r)) = nc r := nc_zN.trans nc_tu2
  unfold turR turN
  generalize tuC r = c at *
  generalize tuT r = t at *
  generalize zN (tu2 r) = q at *
  have hnq : nc q = nc r := hcq
  by_cases z : tuY r < 1000000
  · rw [if_pos z, if_pos z]
    exact ⟨fiR_wf WB hcB ht, (fiR_nc c t).trans hnq, (fiR_ne hcc t).trans hnB, by rw [fiR_dnc WB hcc ht, hdB, hnB]⟩
  · rw [if_neg z, if_neg z]
    exact ⟨WB, hnq, hnB, hdB⟩
end TURN2
