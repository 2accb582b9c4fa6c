/-! a walk, on both sides -/
section WALK
variable {u m : Mem} {r : Nat → Int32} {B : Nat}
def stR (r : Nat → Int32) (c t : Nat) : Nat → Int32 := upd (upd r (56 + 5 * c + 4) (r (56 + 5 * c + 4) + nI (Ds r (cF r c 0) (cF r c 1) t))) (56 + 5 * c + 1) (nI t)
def fiR (r : Nat → Int32) (c t : Nat) : Nat → Int32 := upd (goR (stR r c t) c t (ne r)) (56 + 5 * c + 3) (nI (cF r c 3 + gS (stR r c t) c t (ne r)))
theorem stR_wf (hw : Wf r) {c t : Nat} (hc : c < 6) (ht : t < 7) : Wf (stR r c t) :=
  Wf_setC (v := nI t) (Wf_setC hw (c := c) (f := 4) hc (by omega) (fun _ => ⟨fun z => by omega, fun z => by omega, fun z => by omega, fun z => by omega⟩)) (c := c) (f := 1) hc (by omega) (fun _ => ⟨fun z => by omega, fun _ => In_nI (by omega) (by omega), fun z => by omega, fun z => by omega⟩)
theorem stR_un (c t : Nat) {x : Nat} (h1 : x ≠ 56 + 5 * c + 4) (h2 : x ≠ 56 + 5 * c + 1) : stR r c t x = r x := by unfold stR; rw [pk_un h2, pk_un h1]
theorem stR_ne (c t : Nat) : ne (stR r c t) = ne r := congrArg tn (stR_un c t (by omega) (by omega))
theorem stR_nc (c t : Nat) : nc (stR r c t) = nc r := congrArg tn (stR_un c t (by omega) (by omega))
theorem fiR_wf (hw : Wf r) {c t : Nat} (hc : c < nc r) (ht : t < 7) : Wf (fiR r c t) := by
  have h6 := (nc_eq hw).2
  have h8 := (ne_eq hw).2
  have W1 := stR_wf hw (c := c) (t := t) (by omega) ht
  obtain ⟨W2, d2⟩ := goR_wf W1 c t (ne r) (by rw [stR_ne]; exact Nat.le_refl _)
  obtain ⟨g1, g2⟩ := gS_le W1 c t (ne r) (by rw [stR_ne]; exact Nat.le_refl _)
  have d1 : dnc (stR r c t) = dnc r := dnc_congr (stR_un c t (by omega) (by omega)) (fun e he => stR_un c t (by omega) (by omega))
  have e3 := (cE hw hc).2
  refine Wf_setC W2 (c := c) (f := 3) (by omega) (by omega) (fun _ => ⟨fun z => by omega, fun z => by omega, fun z => by omega, fun _ => ?_⟩)
  rw [d2, d1]
  have hP : PM = 2000000 := rfl
  rw [hP] at e3 ⊢
  refine In_mono (In_nI (Nat.le_refl _) (by omega)) ?_
  omega
theorem c_go (h : Rep u B r) (hw : Wf r) {c t : Nat} (hc : c < nc r) (ht : t < 7) : ∃ u', FX2_go B (nI c) (nI t) u = some (nI (gS (stR r c t) c t (ne r)), u') ∧ Rep u' B (fiR r c t) ∧ Fr B u u' := by
  have h6 := (nc_eq hw).2
  have h8 := (ne_eq hw).2
  have W1 := stR_wf hw (c := c) (t := t) (by omega) ht
  have Wa : Wf (upd r (56 + 5 * c + 4) (r (56 + 5 * c + 4) + nI (Ds r (cF r c 0) (cF r c 1) t))) := Wf_setC hw (c := c) (f := 4) (by omega) (by omega) (fun _ => ⟨fun z => by omega, fun z => by omega, fun z => by omega, fun z => by omega⟩)
  have R1 : Rep (mst (mst u (B + 12 + c) 4 (r (56 + 5 * c + 4) + nI (Ds r (cF r c 0) (cF r c 1) t))) (B + 12 + c) 1 (nI t)) B (stR r c t) := Rep_setC (Rep_setC h hw (by omega) (by omega)) Wa (by omega) (by omega)
  have F1 : Fr B u (mst (mst u (B + 12 + c) 4 (r (56 + 5 * c + 4) + nI (Ds r (cF r c 0) (cF r c 1) t))) (B + 12 + c) 1 (nI t)) := Fr_trans (Fr_mst (by omega) _ _ _) (Fr_mst (by omega) _ _ _)
  have hc1 : c < nc (stR r c t) := by rw [stR_nc]; exact hc
  unfold FX2_go
  dsimp only [nm]
  rw [if_pos (inb_t (by omega) (by omega)), c_yardsTo h hw hc ht, bs, ncl (by omega), qw h hc]
  generalize mst (mst u (B + 12 + c) 4 (r (56 + 5 * c + 4) + nI (Ds r (cF r c 0) (cF r c 1) t))) (B + 12 + c) 1 (nI t) = u1 at *
  rw [c_carriedBy R1 W1 c, bs]
  have hkl := kS_lt W1 c
  obtain ⟨o, ⟨o1, o2, o3⟩, e⟩ := lp_inv (Bf := BX2_go_40 B (nI c) (nI t) (B + 12 + c) (nI (kS (stR r c t) c))) (s0 := (0, 0, u1)) (fun k s => s.1 = nI (gS (stR r c t) c t k) ∧ s.2.1 = nI k ∧ Rep s.2.2 B (goR (stR r c t) c t k) ∧ Fr B u s.2.2) (fun o => o.1 = nI (gS (stR r c t) c t (ne r)) ∧ Rep o.2.2 B (goR (stR r c t) c t (ne r)) ∧ Fr B u o.2.2) (N := ne r) (by omega) (fun k hk s hI rec => by
      obtain ⟨s1, s2, s3⟩ := s
      obtain ⟨i1, i2, i3, i4⟩ := hI
      have i1 : s1 = nI (gS (stR r c t) c t k) := i1
      have i2 : s2 = nI k := i2
      subst i1
      subst i2
      have i3 : Rep s3 B (goR (stR r c t) c t k) := i3
      left
      obtain ⟨Wk, dk⟩ := goR_wf W1 c t k (by rw [stR_ne]; omega)
      have hkk : k < ne (goR (stR r c t) c t k) := by rw [goR_ne, stR_ne]; exact hk
      have hks : k < ne (stR r c t) := by rw [stR_ne]; exact hk
      have hh := kS_has (c := c) W1 hks
      have e2 : eF (goR (stR r c t) c t k) k 2 = eF (stR r c t) k 2 := goR_E c t (by omega) (by omega)
      have hb2 := (eB W1 hks).2
      have hdef : gB (stR r c t) c t k = (hs (kS (stR r c t) c) k && decide (eF (stR r c t) k 2 = t)) := by rw [hh]; rfl
      by_cases z : gB (stR r c t) c t k = true
      · have et : goR (stR r c t) c t (k + 1) = upd (goR (stR r c t) c t k) (86 + 5 * k + 3) 2 := if_pos z
        have es : gS (stR r c t) c t (k + 1) = gS (stR r c t) c t k + payE (stR r c t) (cF (stR r c t) c 0) k := if_pos z
        have R2 : Rep (mst s3 (B + 18 + k) 3 2) B (goR (stR r c t) c t (k + 1)) := by rw [et]; exact Rep_setE i3 Wk (by omega) (by omega)
        have W2 := (goR_wf W1 c t (k + 1) (by rw [stR_ne]; omega)).1
        have hp := c_payFor R2 W2 (c := c) (e := k) (by rw [goR_nc]; exact hc1) (by rw [goR_ne, stR_ne]; exact hk)
        have hcf : cF (goR (stR r c t) c t (k + 1)) c 0 = cF (stR r c t) c 0 := congrArg tn (goR_un c t _ (fun e he => by omega))
        rw [goR_pay, hcf] at hp
        rw [hdef] at z
        simp only [Bool.and_eq_true, decide_eq_true_eq] at z
        refine ⟨(nI (gS (stR r c t) c t (k + 1)), nI (k + 1), mst s3 (B + 18 + k) 3 2), ⟨rfl, rfl, R2, Fr_trans i4 (Fr_mst (by omega) _ _ _)⟩, ?_⟩
        dsimp only [BX2_go_40]
        rw [if_neg (by rw [q6 i3 Wk, goR_ne, stR_ne]; exact n_ngt hk (by omega)), nhas hkl (by omega), b2, if_pos z.1, if_pos (inb_t (by omega) (by omega)), if_pos (by rw [ncl (by omega), qb i3 Wk hkk, e2, z.2]), if_pos (inb_t (by omega) (by omega)), ncl (by omega), hp, bs, nadd, nI_1, es]
      · have et : goR (stR r c t) c t (k + 1) = goR (stR r c t) c t k := if_neg z
        have es : gS (stR r c t) c t (k + 1) = gS (stR r c t) c t k := if_neg z
        refine ⟨(nI (gS (stR r c t) c t (k + 1)), nI (k + 1), s3), ⟨rfl, rfl, by rw [et]; exact i3, i4⟩, ?_⟩
        dsimp only [BX2_go_40]
        rw [if_neg (by rw [q6 i3 Wk, goR_ne, stR_ne]; exact n_ngt hk (by omega)), nhas hkl (by omega), b2, es]
        by_cases y : hs (kS (stR r c t) c) k = true
        · rw [if_pos y, if_pos (inb_t (by omega) (by omega)), if_neg (by
            rw [ncl (by omega), qb i3 Wk hkk, e2, neq (by omega) (by omega)]
            intro q
            apply z
            rw [hdef, y, q]
            simp), nI_1]
        · rw [if_neg y, nI_1])
    (fun s hI rec => by
      obtain ⟨s1, s2, s3⟩ := s
      obtain ⟨i1, i2, i3, i4⟩ := hI
      have i2 : s2 = nI (ne r) := i2
      subst i2
      have i3 : Rep s3 B (goR (stR r c t) c t (ne r)) := i3
      obtain ⟨Wk, dk⟩ := goR_wf W1 c t (ne r) (by rw [stR_ne]; exact Nat.le_refl _)
      refine ⟨(s1, nI (ne r), s3), ⟨i1, i3, i4⟩, ?_⟩
      dsimp only [BX2_go_40]
      rw [if_pos (by rw [q6 i3 Wk, goR_ne, stR_ne]; exact n_ge (Nat.le_refl _) (by omega))])
    ⟨rfl, rfl, R1, F1⟩
  rw [e, bs]
  obtain ⟨W2, -⟩ := goR_wf W1 c t (ne r) (by rw [stR_ne]; exact Nat.le_refl _)
  have e3 : o.2.2 (B + 12 + c) 3 = nI (cF r c 3) := by
    rw [qE o2 W2 (by rw [goR_nc]; exact hc1)]
    have : cF (goR (stR r c t) c t (ne r)) c 3 = cF r c 3 := congrArg tn ((goR_un c t _ (fun e he => by omega)).trans (stR_un c t (by omega) (by omega)))
    rw [this]
  refine ⟨_, by rw [o1, e3, nadd], Rep_setC o2 W2 (by omega) (by omega), Fr_trans o3 (Fr_mst (by omega) _ _ _)⟩
end WALK
