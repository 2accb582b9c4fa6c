/-! the row stays in order; a call that changes the row -/
section WF
variable {r : Nat → Int32} {v : Int32}
theorem In_mono {x : Int32} {a b : Nat} (h : In x a) (hab : a ≤ b) : In x b := ⟨h.1, Nat.le_trans h.2 hab⟩
theorem dnc_same {c : Nat} (hc : eF r c 3 ≠ 2) (hv : tn v ≠ 2) : dnc (upd r (86 + 5 * c + 3) v) = dnc r := by
  have hn : ne (upd r (86 + 5 * c + 3) v) = ne r := by unfold ne; rw [pk_un (by omega)]
  unfold dnc
  rw [hn]
  refine cntS_congr _ (fun e he => ?_)
  by_cases z : e = c
  · subst z
    have e1 : eF (upd r (86 + 5 * e + 3) v) e 3 = tn v := congrArg tn pk_us
    rw [e1, decide_eq_false hv, decide_eq_false hc]
  · have e1 : eF (upd r (86 + 5 * c + 3) v) e 3 = eF r e 3 := congrArg tn (pk_un (by omega))
    rw [e1]
theorem Wf_setE (h : Wf r) {c f : Nat} (hc : c < 8) (hf : f < 5) (hd : dnc r ≤ dnc (upd r (86 + 5 * c + f) v)) (hv : c < ne r → (f = 0 → In v 60) ∧ (f = 1 → In v 6) ∧ (f = 2 → In v 6) ∧ (f = 3 → In v 2)) : Wf (upd r (86 + 5 * c + f) v) := by
  have n6 := (nc_eq h).2
  have n9 := (nw_eq h).2
  have e1 : nc (upd r (86 + 5 * c + f) v) = nc r := by unfold nc; rw [pk_un (by omega)]
  have e2 : ne (upd r (86 + 5 * c + f) v) = ne r := by unfold ne; rw [pk_un (by omega)]
  have e3 : nw (upd r (86 + 5 * c + f) v) = nw r := by unfold nw; rw [pk_un (by omega)]
  obtain ⟨k1, k2, k3, k4, k5, k6⟩ := h
  refine ⟨?_, fun i j hi hj hij => ?_, fun s hs => ?_, fun c' hc' => ?_, fun e he => ?_, fun w hw => ?_⟩
  · rw [pk_un (by omega), pk_un (by omega), pk_un (by omega)]; exact k1
  · have := wy_lt hi hj hij
    rw [pk_un (by omega), pk_un (by omega)]; exact k2 i j hi hj hij
  · rw [e1, pk_un (by omega)]; exact k3 s hs
  · rw [e1] at hc'
    obtain ⟨j0, j1, j2, j3⟩ := k4 c' hc'
    unfold wfC
    rw [pk_un (by omega), pk_un (by omega), pk_un (by omega), pk_un (by omega)]
    exact ⟨j0, j1, j2, In_mono j3 (Nat.add_le_add_left (Nat.mul_le_mul_left _ hd) _)⟩
  · rw [e2] at he
    obtain ⟨j0, j1, j2, j3⟩ := k5 e he
    unfold wfE
    by_cases z : e = c
    · subst z
      obtain ⟨v0, v1, v2, v3⟩ := hv he
      have f5 : f = 0 ∨ f = 1 ∨ f = 2 ∨ f = 3 ∨ f = 4 := by omega
      rcases f5 with rfl | rfl | rfl | rfl | rfl
      · rw [pk_us, pk_un (by omega), pk_un (by omega), pk_un (by omega)]; exact ⟨v0 rfl, j1, j2, j3⟩
      · rw [pk_us, pk_un (by omega), pk_un (by omega), pk_un (by omega)]; exact ⟨j0, v1 rfl, j2, j3⟩
      · rw [pk_us, pk_un (by omega), pk_un (by omega), pk_un (by omega)]; exact ⟨j0, j1, v2 rfl, j3⟩
      · rw [pk_us, pk_un (by omega), pk_un (by omega), pk_un (by omega)]; exact ⟨j0, j1, j2, v3 rfl⟩
      · rw [pk_un (by omega), pk_un (by omega), pk_un (by omega), pk_un (by omega)]; exact ⟨j0, j1, j2, j3⟩
    · rw [pk_un (by omega), pk_un (by omega), pk_un (by omega), pk_un (by omega)]; exact ⟨j0, j1, j2, j3⟩
  · rw [e3] at hw
    unfold wfW
    rw [e1, pk_un (by omega), pk_un (by omega)]; exact k6 w hw
theorem dncE_f {c f : Nat} (hf : f < 5) (h3 : f ≠ 3) : dnc r ≤ dnc (upd r (86 + 5 * c + f) v) := Nat.le_of_eq (dnc_congr (pk_un (by omega)) (fun e he => pk_un (by omega))).symm
theorem Wf_setW (h : Wf r) {c f : Nat} (hc : c < 6) (hf : f < 2) (hv : c < nw r → (f = 0 → In v 9999) ∧ (f = 1 → wfH (nc r) v)) : Wf (upd r (126 + 2 * c + f) v) := by
  have n6 := (nc_eq h).2
  have n8 := (ne_eq h).2
  have e1 : nc (upd r (126 + 2 * c + f) v) = nc r := by unfold nc; rw [pk_un (by omega)]
  have e2 : ne (upd r (126 + 2 * c + f) v) = ne r := by unfold ne; rw [pk_un (by omega)]
  have e3 : nw (upd r (126 + 2 * c + f) v) = nw r := by unfold nw; rw [pk_un (by omega)]
  have e4 : dnc (upd r (126 + 2 * c + f) v) = dnc r := dnc_congr (pk_un (by omega)) (fun e he => pk_un (by omega))
  obtain ⟨k1, k2, k3, k4, k5, k6⟩ := h
  refine ⟨?_, fun i j hi hj hij => ?_, fun s hs => ?_, fun c' hc' => ?_, fun e he => ?_, fun w hw => ?_⟩
  · rw [pk_un (by omega), pk_un (by omega), pk_un (by omega)]; exact k1
  · have := wy_lt hi hj hij
    rw [pk_un (by omega), pk_un (by omega)]; exact k2 i j hi hj hij
  · rw [e1, pk_un (by omega)]; exact k3 s hs
  · rw [e1] at hc'
    unfold wfC
    rw [e4, pk_un (by omega), pk_un (by omega), pk_un (by omega), pk_un (by omega)]; exact k4 c' hc'
  · rw [e2] at he
    unfold wfE
    rw [pk_un (by omega), pk_un (by omega), pk_un (by omega), pk_un (by omega)]; exact k5 e he
  · rw [e3] at hw
    obtain ⟨j0, j1⟩ := k6 w hw
    unfold wfW
    rw [e1]
    by_cases z : w = c
    · subst z
      obtain ⟨v0, v1⟩ := hv hw
      have f5 : f = 0 ∨ f = 1 := by omega
      rcases f5 with rfl | rfl
      · rw [Nat.add_zero, pk_us, pk_un (by omega)]; exact ⟨v0 rfl, j1⟩
      · rw [pk_us, pk_un (by omega)]; exact ⟨j0, v1 rfl⟩
    · rw [pk_un (by omega), pk_un (by omega)]; exact ⟨j0, j1⟩
theorem Wf_setS (h : Wf r) {s : Nat} (hs' : s < 10) (hv : wfH (nc r) v) : Wf (upd r (46 + s) v) := by
  have n6 := (nc_eq h).2
  have n8 := (ne_eq h).2
  have e1 : nc (upd r (46 + s) v) = nc r := by unfold nc; rw [pk_un (by omega)]
  have e2 : ne (upd r (46 + s) v) = ne r := by unfold ne; rw [pk_un (by omega)]
  have e3 : nw (upd r (46 + s) v) = nw r := by unfold nw; rw [pk_un (by omega)]
  have e4 : dnc (upd r (46 + s) v) = dnc r := dnc_congr (pk_un (by omega)) (fun e he => pk_un (by omega))
  obtain ⟨k1, k2, k3, k4, k5, k6⟩ := h
  refine ⟨?_, fun i j hi hj hij => ?_, fun s2 hs => ?_, fun c' hc' => ?_, fun e he => ?_, fun w hw => ?_⟩
  · rw [pk_un (by omega), pk_un (by omega), pk_un (by omega)]; exact k1
  · have := wy_lt hi hj hij
    rw [pk_un (by omega), pk_un (by omega)]; exact k2 i j hi hj hij
  · rw [e1]
    by_cases z : s2 = s
    · subst z; rw [pk_us]; exact hv
    · rw [pk_un (by omega)]; exact k3 s2 hs
  · rw [e1] at hc'
    unfold wfC
    rw [e4, pk_un (by omega), pk_un (by omega), pk_un (by omega), pk_un (by omega)]; exact k4 c' hc'
  · rw [e2] at he
    unfold wfE
    rw [pk_un (by omega), pk_un (by omega), pk_un (by omega), pk_un (by omega)]; exact k5 e he
  · rw [e3] at hw
    unfold wfW
    rw [e1, pk_un (by omega), pk_un (by omega)]; exact k6 w hw
theorem Wf_setZ (h : Wf r) : Wf (upd r 45 v) := by
  have e1 : nc (upd r 45 v) = nc r := by unfold nc; rw [pk_un (by omega)]
  have e2 : ne (upd r 45 v) = ne r := by unfold ne; rw [pk_un (by omega)]
  have e3 : nw (upd r 45 v) = nw r := by unfold nw; rw [pk_un (by omega)]
  have e4 : dnc (upd r 45 v) = dnc r := dnc_congr (pk_un (by omega)) (fun e he => pk_un (by omega))
  obtain ⟨k1, k2, k3, k4, k5, k6⟩ := h
  refine ⟨?_, fun i j hi hj hij => ?_, fun s2 hs => ?_, fun c' hc' => ?_, fun e he => ?_, fun w hw => ?_⟩
  · rw [pk_un (by omega), pk_un (by omega), pk_un (by omega)]; exact k1
  · have := wy_lt hi hj hij
    rw [pk_un (by omega), pk_un (by omega)]; exact k2 i j hi hj hij
  · rw [e1, pk_un (by omega)]; exact k3 s2 hs
  · rw [e1] at hc'
    unfold wfC
    rw [e4, pk_un (by omega), pk_un (by omega), pk_un (by omega), pk_un (by omega)]; exact k4 c' hc'
  · rw [e2] at he
    unfold wfE
    rw [pk_un (by omega), pk_un (by omega), pk_un (by omega), pk_un (by omega)]; exact k5 e he
  · rw [e3] at hw
    unfold wfW
    rw [e1, pk_un (by omega), pk_un (by omega)]; exact k6 w hw
theorem wfH_mono {n n' : Nat} {x : Int32} (h : wfH n x) (hn : n ≤ n') : wfH n' x := by
  rcases h with h | ⟨c, hc, h⟩
  · exact Or.inl h
  · exact Or.inr ⟨c, by omega, h⟩
theorem Wf_incC (h : Wf r) (hn : nc r < 6) (hv : wfC r (nc r)) : Wf (upd r 42 (nI (nc r + 1))) := by
  have e1 : nc (upd r 42 (nI (nc r + 1))) = nc r + 1 := by unfold nc; rw [pk_us]; exact ncl (by have : tn (r 42) < 6 := hn; omega)
  have e2 : ne (upd r 42 (nI (nc r + 1))) = ne r := by unfold ne; rw [pk_un (by omega)]
  have e3 : nw (upd r 42 (nI (nc r + 1))) = nw r := by unfold nw; rw [pk_un (by omega)]
  have e4 : dnc (upd r 42 (nI (nc r + 1))) = dnc r := dnc_congr (pk_un (by omega)) (fun e he => pk_un (by omega))
  obtain ⟨k1, k2, k3, k4, k5, k6⟩ := h
  refine ⟨?_, fun i j hi hj hij => ?_, fun s2 hs => ?_, fun c' hc' => ?_, fun e he => ?_, fun w hw => ?_⟩
  · rw [pk_us, pk_un (by omega), pk_un (by omega)]; exact ⟨In_nI (by omega) (by omega), k1.2⟩
  · have := wy_lt hi hj hij
    rw [pk_un (by omega), pk_un (by omega)]; exact k2 i j hi hj hij
  · rw [e1, pk_un (by omega)]; exact wfH_mono (k3 s2 hs) (by omega)
  · rw [e1] at hc'
    unfold wfC
    rw [e4, pk_un (by omega), pk_un (by omega), pk_un (by omega), pk_un (by omega)]
    by_cases z : c' < nc r
    · exact k4 c' z
    · rw [show c' = nc r by omega]; exact hv
  · rw [e2] at he
    unfold wfE
    rw [pk_un (by omega), pk_un (by omega), pk_un (by omega), pk_un (by omega)]; exact k5 e he
  · rw [e3] at hw
    unfold wfW
    rw [e1, pk_un (by omega), pk_un (by omega)]; exact ⟨(k6 w hw).1, wfH_mono (k6 w hw).2 (by omega)⟩
theorem Wf_incE (h : Wf r) (hn : ne r < 8) (hv : wfE r (ne r)) : Wf (upd r 43 (nI (ne r + 1))) := by
  have e1 : nc (upd r 43 (nI (ne r + 1))) = nc r := by unfold nc; rw [pk_un (by omega)]
  have e2 : ne (upd r 43 (nI (ne r + 1))) = ne r + 1 := by unfold ne; rw [pk_us]; exact ncl (by have : tn (r 43) < 8 := hn; omega)
  have e3 : nw (upd r 43 (nI (ne r + 1))) = nw r := by unfold nw; rw [pk_un (by omega)]
  have e4 : dnc r ≤ dnc (upd r 43 (nI (ne r + 1))) := by
    unfold dnc
    rw [e2]
    have : cntS (fun e => decide (eF r e 3 = 2)) (ne r) = cntS (fun e => decide (eF (upd r 43 (nI (ne r + 1))) e 3 = 2)) (ne r) := cntS_congr _ (fun e he => by
      have : eF (upd r 43 (nI (ne r + 1))) e 3 = eF r e 3 := congrArg tn (pk_un (by omega))
      rw [this])
    rw [this]
    show _ ≤ (if _ then _ else _)
    split
    · exact Nat.le_succ _
    · exact Nat.le_refl _
  obtain ⟨k1, k2, k3, k4, k5, k6⟩ := h
  refine ⟨?_, fun i j hi hj hij => ?_, fun s2 hs => ?_, fun c' hc' => ?_, fun e he => ?_, fun w hw => ?_⟩
  · rw [pk_us, pk_un (by omega), pk_un (by omega)]; exact ⟨k1.1, In_nI (by omega) (by omega), k1.2.2⟩
  · have := wy_lt hi hj hij
    rw [pk_un (by omega), pk_un (by omega)]; exact k2 i j hi hj hij
  · rw [e1, pk_un (by omega)]; exact k3 s2 hs
  · rw [e1] at hc'
    unfold wfC
    rw [pk_un (by omega), pk_un (by omega), pk_un (by omega), pk_un (by omega)]
    obtain ⟨j0, j1, j2, j3⟩ := k4 c' hc'
    exact ⟨j0, j1, j2, In_mono j3 (Nat.add_le_add_left (Nat.mul_le_mul_left _ e4) _)⟩
  · rw [e2] at he
    unfold wfE
    rw [pk_un (by omega), pk_un (by omega), pk_un (by omega), pk_un (by omega)]
    by_cases z : e < ne r
    · exact k5 e z
    · rw [show e = ne r by omega]; exact hv
  · rw [e3] at hw
    unfold wfW
    rw [e1, pk_un (by omega), pk_un (by omega)]; exact k6 w hw
theorem Wf_incW (h : Wf r) (hn : nw r < 6) (hv : wfW r (nw r)) : Wf (upd r 44 (nI (nw r + 1))) := by
  have e1 : nc (upd r 44 (nI (nw r + 1))) = nc r := by unfold nc; rw [pk_un (by omega)]
  have e2 : ne (upd r 44 (nI (nw r + 1))) = ne r := by unfold ne; rw [pk_un (by omega)]
  have e3 : nw (upd r 44 (nI (nw r + 1))) = nw r + 1 := by unfold nw; rw [pk_us]; exact ncl (by have : tn (r 44) < 6 := hn; omega)
  have e4 : dnc (upd r 44 (nI (nw r + 1))) = dnc r := dnc_congr (pk_un (by omega)) (fun e he => pk_un (by omega))
  obtain ⟨k1, k2, k3, k4, k5, k6⟩ := h
  refine ⟨?_, fun i j hi hj hij => ?_, fun s2 hs => ?_, fun c' hc' => ?_, fun e he => ?_, fun w hw => ?_⟩
  · rw [pk_us, pk_un (by omega), pk_un (by omega)]; exact ⟨k1.1, k1.2.1, In_nI (by omega) (by omega)⟩
  · have := wy_lt hi hj hij
    rw [pk_un (by omega), pk_un (by omega)]; exact k2 i j hi hj hij
  · rw [e1, pk_un (by omega)]; exact k3 s2 hs
  · rw [e1] at hc'
    unfold wfC
    rw [e4, pk_un (by omega), pk_un (by omega), pk_un (by omega), pk_un (by omega)]; exact k4 c' hc'
  · rw [e2] at he
    unfold wfE
    rw [pk_un (by omega), pk_un (by omega), pk_un (by omega), pk_un (by omega)]; exact k5 e he
  · rw [e3] at hw
    unfold wfW
    rw [e1, pk_un (by omega), pk_un (by omega)]
    by_cases z : w < nw r
    · exact k6 w z
    · rw [show w = nw r by omega]; exact hv
end WF
/-- the class changed its own fair alone -/
def Qf (u u' : Mem) : Prop := (∀ a, (a = 0 ∨ (33 ≤ a ∧ a < 65) ∨ 105 ≤ a) → u' a = u a) ∧ u' 104 1 = u 104 1
theorem Qf_refl (u : Mem) : Qf u u := ⟨fun _ _ => rfl, rfl⟩
theorem Qf_trans {a b c : Mem} (h : Qf a b) (k : Qf b c) : Qf a c := ⟨fun x hx => by rw [k.1 x hx, h.1 x hx], by rw [k.2, h.2]⟩
theorem Qf_mst {u : Mem} {F : Nat} (h : (1 ≤ F ∧ F < 33) ∨ (65 ≤ F ∧ F < 104)) (j : Nat) (x : Int32) : Qf u (mst u F j x) := ⟨fun a ha => mst_k (by omega) _ _, by rw [mst_k (by omega)]⟩
theorem Qf_Qc {u u' : Mem} (h : Qc u u') : Qf u u' := ⟨fun a ha => h.1 a (by omega), h.2⟩
theorem same_row {f g : Mem → Option (Int32 × Mem)} {u u1 u2 : Mem} {x : Int32} {r' : Nat → Int32} (h : Inv u) (hR : Rep u1 1 r') (hW : Wf r') (q : Qf u u1) (hf : f u = some (x, u1)) (hg : g u1 = some (x, u2)) (hq : Qm (mrow u1 117 r') u2) : Same f g u := by
  refine ⟨x, u1, u2, hf, hg, Inv_mk (u1 := u1) (m := mrow u 117 r') ?_ ?_ (fun a ha => ?_) (fun a ha hk => ?_) ?_ ?_⟩
  · obtain ⟨h1, h2, h3, h4, h5, h6, h7⟩ := h.1
    have hM := h.2
    obtain ⟨q1, q2⟩ := q
    unfold Cs
    rw [mrow_at, mrow_ne (show 116 ≠ 117 by omega), mrow_ne (show 118 ≠ 117 by omega), mrow_ne (show 125 ≠ 117 by omega), mrow_ne (show 128 ≠ 117 by omega), mrow_ne (show 129 ≠ 117 by omega), mrow_ne (show 130 ≠ 117 by omega), mrow_ne (show 120 ≠ 117 by omega), q1 0 (by omega), q2, q1 105 (by omega), q1 107 (by omega)]
    refine ⟨hR, h2, fun z => ?_, h4, fun s hs => ?_, h6, h7⟩
    · rcases hM.2.1 with y | y
      · exact absurd y z
      · exact Rep_congr (fun a _ _ => q1 a (by omega)) y.2 (h3 z)
    · rw [q1 _ (by omega), q1 _ (by omega)]; exact h5 s hs
  · have hM := h.2
    unfold Ms
    rw [mrow_at, mrow_ne (show 116 ≠ 117 by omega), mrow_ne (show 118 ≠ 117 by omega), mrow_ne (show 125 ≠ 117 by omega), mrow_ne (show 128 ≠ 117 by omega), mrow_ne (show 129 ≠ 117 by omega), mrow_ne (show 124 ≠ 117 by omega)]
    exact ⟨hW, hM.2⟩
  · rw [hq.1 a (Or.inl ha), mrow_ne (by omega)]
  · rw [hq.1 a hk]
    by_cases c : a = 117
    · subst c; rw [mrow_at, mrow_at]
    · rw [mrow_ne c, mrow_ne c, q.1 a (by omega)]
  · rw [hq.2.1, mrow_ne (by omega), mrow_ne (by omega), q.1 116 (by omega)]
  · rw [hq.2.2, mrow_ne (by omega), mrow_ne (by omega), q.1 116 (by omega)]
