/-! the calls, third part: small changes -/
section OPS3
variable {u m : Mem} {r : Nat → Int32}
theorem Qm_117 {m : Mem} (j : Nat) (x : Int32) : Qm (mrow m 117 (upd (m 117) j x)) (mst m 117 j x) := Qm_refl _
theorem s_seed (h : Inv u) (p1 : Int32) : Same (fun u => some (FX9_seed p1 u)) (FX10_seed p1) u := by
  have hR := h.1.1
  have hW := h.2.1
  have e : u 1 8 = u 117 45 := hR.1.2.2.2
  have hN := Rep_setN (v := p1) hR hW (f := 8) (by omega) (fun z => by omega) (fun z => by omega) (fun z => by omega)
  refine same_row h hN (Wf_setZ hW) (Qf_mst (by omega) _ _) rfl ?_ ?_ (u2 := mst (mst u 1 8 p1) 117 45 p1)
  · show FX10_seed p1 (mst u 1 8 p1) = _
    unfold FX10_seed FX10_become
    rw [show (45 : Int32) = nI 45 from rfl, if_pos (inb_t (by omega) (by omega)), if_pos (inb_t (by omega) (by omega)), ncl (by omega), bind_eta, mst_k (by omega), e]
  · rw [mst_as_mrow (mst u 1 8 p1) 117, mst_k (show 117 ≠ 1 by omega)]
    exact Qm_refl _
/-- one more carrier, errand, ware -/
def Fr (B : Nat) (u u' : Mem) : Prop := ∀ a, (a < B ∨ B + 32 ≤ a) → u' a = u a
theorem Fr_refl (B : Nat) (u : Mem) : Fr B u u := fun _ _ => rfl
theorem Fr_trans {B : Nat} {a b c : Mem} (h : Fr B a b) (k : Fr B b c) : Fr B a c := fun x hx => by rw [k x hx, h x hx]
theorem Fr_mst {B F : Nat} (h : B ≤ F ∧ F < B + 32) (u : Mem) (j : Nat) (x : Int32) : Fr B u (mst u F j x) := fun a ha => mst_k (by omega) _ _
theorem Fr_Qf {u u' : Mem} (h : Fr 1 u u') : Qf u u' := ⟨fun a ha => h a (by omega), by rw [h 104 (by omega)]⟩
theorem Fr_Qc {u u' : Mem} (h : Fr 65 u u') : Qc u u' := ⟨fun a ha => h a (by omega), by rw [h 104 (by omega)]⟩
def addC (r : Nat → Int32) (k p s : Int32) : Nat → Int32 := upd (upd (upd (upd (upd (upd r (56 + 5 * nc r + 0) k) (56 + 5 * nc r + 1) p) (56 + 5 * nc r + 2) s) (56 + 5 * nc r + 3) 0) (56 + 5 * nc r + 4) 0) 42 (nI (nc r + 1))
def addE (r : Nat → Int32) (k p s : Int32) : Nat → Int32 := upd (upd (upd (upd (upd (upd r (86 + 5 * ne r + 0) k) (86 + 5 * ne r + 1) p) (86 + 5 * ne r + 2) s) (86 + 5 * ne r + 3) 0) (86 + 5 * ne r + 4) (-1)) 43 (nI (ne r + 1))
def addW (r : Nat → Int32) (k : Int32) : Nat → Int32 := upd (upd (upd r (126 + 2 * nw r + 0) k) (126 + 2 * nw r + 1) (-1)) 44 (nI (nw r + 1))
theorem c_addCarrier {B : Nat} (hR : Rep u B r) (hW : Wf r) (hn : nc r < 6) {k p s : Int32} (hk : In k 6) (hp : In p 6) (hs' : In s 99) : ∃ u', FX2_addCarrier B k p s u = some (nI (nc r), u') ∧ Rep u' B (addC r k p s) ∧ Wf (addC r k p s) ∧ Fr B u u' := by
  have q5' := q5 hR hW
  have hnr : tn (r 42) = nc r := rfl
  unfold addC
  generalize hnn : nc r = n at *
  have n1 : nc (upd r (56 + 5 * n + 0) k) = n := by unfold nc; rw [pk_un (by omega)]; exact hnr
  have R1 := Rep_setC (v := k) hR hW (c := n) (f := 0) hn (by omega)
  have W1 := Wf_setC (v := k) hW (c := n) (f := 0) hn (by omega) (fun z => by omega)
  have n2 : nc (upd (upd r (56 + 5 * n + 0) k) (56 + 5 * n + 1) p) = n := by unfold nc; rw [pk_un (by omega)]; exact n1
  have R2 := Rep_setC (v := p) R1 W1 (c := n) (f := 1) hn (by omega)
  have W2 := Wf_setC (v := p) W1 (c := n) (f := 1) hn (by omega) (fun z => by omega)
  have n3 : nc (upd (upd (upd r (56 + 5 * n + 0) k) (56 + 5 * n + 1) p) (56 + 5 * n + 2) s) = n := by unfold nc; rw [pk_un (by omega)]; exact n2
  have R3 := Rep_setC (v := s) R2 W2 (c := n) (f := 2) hn (by omega)
  have W3 := Wf_setC (v := s) W2 (c := n) (f := 2) hn (by omega) (fun z => by omega)
  have n4 : nc (upd (upd (upd (upd r (56 + 5 * n + 0) k) (56 + 5 * n + 1) p) (56 + 5 * n + 2) s) (56 + 5 * n + 3) 0) = n := by unfold nc; rw [pk_un (by omega)]; exact n3
  have R4 := Rep_setC (v := 0) R3 W3 (c := n) (f := 3) hn (by omega)
  have W4 := Wf_setC (v := 0) W3 (c := n) (f := 3) hn (by omega) (fun z => by omega)
  have n5 : nc (upd (upd (upd (upd (upd r (56 + 5 * n + 0) k) (56 + 5 * n + 1) p) (56 + 5 * n + 2) s) (56 + 5 * n + 3) 0) (56 + 5 * n + 4) 0) = n := by unfold nc; rw [pk_un (by omega)]; exact n4
  have R5 := Rep_setC (v := 0) R4 W4 (c := n) (f := 4) hn (by omega)
  have W5 := Wf_setC (v := 0) W4 (c := n) (f := 4) hn (by omega) (fun z => by omega)
  have hcell : RepC (mst (mst (mst (mst (mst u (B + 12 + n) 0 k) (B + 12 + n) 1 p) (B + 12 + n) 2 s) (B + 12 + n) 3 0) (B + 12 + n) 4 0) B (upd (upd (upd (upd (upd r (56 + 5 * n + 0) k) (56 + 5 * n + 1) p) (56 + 5 * n + 2) s) (56 + 5 * n + 3) 0) (56 + 5 * n + 4) 0) n := by
    intro f hf
    have f5 : f = 0 ∨ f = 1 ∨ f = 2 ∨ f = 3 ∨ f = 4 := by omega
    rcases f5 with rfl | rfl | rfl | rfl | rfl <;> simp [mst, upd]
  have R6 := Rep_setN (v := nI (n + 1)) R5 W5 (f := 5) (by omega) (fun _ => ⟨by rw [n5]; unfold nc; rw [pk_us]; show tn (nI (n + 1)) ≤ _; unfold tn; rw [ncl (by omega)]; exact Nat.le_refl _, by rw [n5]; exact hcell, by omega⟩) (fun z => by omega) (fun z => by omega)
  have W6 := Wf_incC W5 (by omega) (by
    rw [n5]
    unfold wfC
    have c0 : In (0 : Int32) (999999 + PM * dnc (upd (upd (upd (upd (upd r (56 + 5 * n + 0) k) (56 + 5 * n + 1) p) (56 + 5 * n + 2) s) (56 + 5 * n + 3) 0) (56 + 5 * n + 4) 0)) := ⟨rfl, Nat.zero_le _⟩
    refine ⟨?_, ?_, ?_, ?_⟩
    · rw [pk_un (by omega), pk_un (by omega), pk_un (by omega), pk_un (by omega), pk_us]; exact hk
    · rw [pk_un (by omega), pk_un (by omega), pk_un (by omega), pk_us]; exact hp
    · rw [pk_un (by omega), pk_un (by omega), pk_us]; exact hs'
    · rw [pk_un (by omega), pk_us]; exact c0)
  rw [n5] at W6
  refine ⟨_, ?_, R6, W6, ?_⟩
  · unfold FX2_addCarrier
    dsimp only [nm]
    rw [q5', if_pos (inb_t hn (by omega)), ncl (by omega)]
    have hv : (mst (mst (mst (mst (mst u (B + 12 + n) 0 k) (B + 12 + n) 1 p) (B + 12 + n) 2 s) (B + 12 + n) 3 0) (B + 12 + n) 4 0) B 5 = nI n := by rw [mst_k (by omega), mst_k (by omega), mst_k (by omega), mst_k (by omega), mst_k (by omega)]; exact q5'
    rw [hv, nI_1]
  · exact Fr_trans (Fr_mst (by omega) _ _ _) (Fr_trans (Fr_mst (by omega) _ _ _) (Fr_trans (Fr_mst (by omega) _ _ _) (Fr_trans (Fr_mst (by omega) _ _ _) (Fr_trans (Fr_mst (by omega) _ _ _) (Fr_mst (by omega) _ _ _)))))
theorem m_newCarrier (hm : m 117 = r) (hW : Wf r) (hn : nc r < 6) (k p s : Int32) : FX10_newCarrier k p s m = some (nI (nc r), mrow m 117 (addC r k p s)) := by
  have e42 := (nc_eq hW).1
  unfold FX10_newCarrier
  dsimp only [nm]
  rw [hm, e42]
  have a0 : FX10_cAt (nI (nc r)) 0 = nI (56 + 5 * nc r + 0) := cAt_eq (f := 0)
  have a1 : FX10_cAt (nI (nc r)) 1 = nI (56 + 5 * nc r + 1) := cAt_eq (f := 1)
  have a2 : FX10_cAt (nI (nc r)) 2 = nI (56 + 5 * nc r + 2) := cAt_eq (f := 2)
  have a3 : FX10_cAt (nI (nc r)) 3 = nI (56 + 5 * nc r + 3) := cAt_eq (f := 3)
  have a4 : FX10_cAt (nI (nc r)) 4 = nI (56 + 5 * nc r + 4) := cAt_eq (f := 4)
  rw [a0, a1, a2, a3, a4, if_pos (inb_t (by omega) (by omega)), if_pos (inb_t (by omega) (by omega)), if_pos (inb_t (by omega) (by omega)), if_pos (inb_t (by omega) (by omega)), if_pos (inb_t (by omega) (by omega)), ncl (by omega), ncl (by omega), ncl (by omega), ncl (by omega), ncl (by omega)]
  rw [mst_as_mrow m, hm, mst_mrow, mst_mrow, mst_mrow, mst_mrow, mrow_at, mst_mrow, pk_un (by omega), pk_un (by omega), pk_un (by omega), pk_un (by omega), pk_un (by omega), e42, nI_1]
  rfl
end OPS3
