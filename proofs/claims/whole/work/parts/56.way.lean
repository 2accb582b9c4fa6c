/-! ways -/
def Rep0 (u : Mem) (B : Nat) (r : Nat → Int32) : Prop := RepN u B r ∧ RepS u B r ∧ (∀ c, c < nc r → RepC u B r c) ∧ (∀ e, e < ne r → RepE u B r e) ∧ (∀ w, w < nw r → RepW u B r w) ∧ RepY u B r
theorem Rep_0 {u : Mem} {B : Nat} {r : Nat → Int32} (h : Rep u B r) : Rep0 u B r := ⟨h.1, h.2.1, h.2.2.1, h.2.2.2.1, h.2.2.2.2.1, h.2.2.2.2.2.1⟩
theorem Rep_of0 {u : Mem} {B : Nat} {r : Nat → Int32} (h : Rep0 u B r) (t : RepT u B r) : Rep u B r := ⟨h.1, h.2.1, h.2.2.1, h.2.2.2.1, h.2.2.2.2.1, h.2.2.2.2.2, t⟩
def layR (r : Nat → Int32) (i j : Nat) (y v : Int32) : Nat → Int32 := upd (upd r (wy i j + 1) v) (wy i j) y
section WAY
variable {u m : Mem} {r : Nat → Int32} {B : Nat}
theorem layR_hi {i j : Nat} (hi : i < 7) (hj : j < 7) (hij : i ≠ j) (y v : Int32) {x : Nat} (hx : 42 ≤ x) : layR r i j y v x = r x := by
  have := wy_lt hi hj hij
  unfold layR
  rw [pk_un (by omega), pk_un (by omega)]
theorem layR_wf (h : Wf r) {i j : Nat} (hi : i < 7) (hj : j < 7) (hij : i ≠ j) {y v : Int32} (hy : In y 99) (hv : In v 1) : Wf (layR r i j y v) := by
  have H : ∀ x, 42 ≤ x → layR r i j y v x = r x := fun x hx => layR_hi hi hj hij y v hx
  have e1 : nc (layR r i j y v) = nc r := congrArg tn (H 42 (by omega))
  have e2 : ne (layR r i j y v) = ne r := congrArg tn (H 43 (by omega))
  have e3 : nw (layR r i j y v) = nw r := congrArg tn (H 44 (by omega))
  have e4 : dnc (layR r i j y v) = dnc r := dnc_congr (H 43 (by omega)) (fun e he => H _ (by omega))
  obtain ⟨k1, k2, k3, k4, k5, k6⟩ := h
  refine ⟨?_, fun i' j' hi' hj' hij' => ?_, fun s2 hs => ?_, fun c' hc' => ?_, fun e he => ?_, fun w hw => ?_⟩
  · rw [H 42 (by omega), H 43 (by omega), H 44 (by omega)]; exact k1
  · have a := wy_inj hi' hj' hij' hi hj hij
    have b := wy_inj hi hj hij hi' hj' hij'
    obtain ⟨k21, k22⟩ := k2 i' j' hi' hj' hij'
    unfold layR
    by_cases z : wy i' j' = wy i j
    · rw [z, pk_us, pk_un (by omega), pk_us]; exact ⟨hy, hv⟩
    · rw [pk_un z, pk_un (fun q => b.1 q.symm), pk_un (fun q => a.1 q), pk_un (by omega)]; exact ⟨k21, k22⟩
  · rw [e1, H _ (by omega)]; exact k3 s2 hs
  · rw [e1] at hc'
    unfold wfC
    rw [e4, H _ (by omega), H _ (by omega), H _ (by omega), H _ (by omega)]; exact k4 c' hc'
  · rw [e2] at he
    unfold wfE
    rw [H _ (by omega), H _ (by omega), H _ (by omega), H _ (by omega)]; exact k5 e he
  · rw [e3] at hw
    unfold wfW
    rw [e1, H _ (by omega), H _ (by omega)]; exact k6 w hw
def layM (u : Mem) (B i j : Nat) (y v : Int32) : Mem := mst (mst (mst (mst u (B + 4 + 1) (7 * i + j) y) (B + 4 + 1) (7 * j + i) y) (B + 4 + 2) (7 * i + j) v) (B + 4 + 2) (7 * j + i) v
theorem layM_k {i j : Nat} {y v : Int32} {a : Nat} (h : a ≠ B + 4 + 1) (h2 : a ≠ B + 4 + 2) : layM u B i j y v a = u a := by
  unfold layM; rw [mst_k h2, mst_k h2, mst_k h, mst_k h]
theorem c_lay {i j : Nat} (hi : i < 7) (hj : j < 7) (y v : Int32) : FX8_lay (B + 4) (nI i) (nI j) y v u = some (layM u B i j y v) := by
  unfold FX8_lay
  dsimp only [nm]
  rw [i7, i7, if_pos (inb_t (by omega) (by omega)), if_pos (inb_t (by omega) (by omega)), if_pos (inb_t (by omega) (by omega)), if_pos (inb_t (by omega) (by omega)), ncl (by omega), ncl (by omega)]
  rfl
theorem layM_Y {i j : Nat} (hi : i < 7) (hj : j < 7) (hij : i ≠ j) {y v : Int32} (h : RepY u B r) : RepY (layM u B i j y v) B (layR r i j y v) := by
  intro i' j' hi' hj'
  have e1 : layM u B i j y v (B + 4 + 1) (7 * i' + j') = if (i' = i ∧ j' = j) ∨ (i' = j ∧ j' = i) then y else u (B + 4 + 1) (7 * i' + j') := by
    unfold layM
    rw [mst_k (by omega), mst_k (by omega), mst_row, mst_row]
    unfold upd
    by_cases c : (i' = i ∧ j' = j) ∨ (i' = j ∧ j' = i)
    · rw [if_pos c]
      by_cases d : 7 * i' + j' = 7 * j + i
      · rw [if_pos d]
      · rw [if_neg d, if_pos (by omega)]
    · rw [if_neg c, if_neg (by omega), if_neg (by omega)]
  have e2 : layM u B i j y v (B + 4 + 2) (7 * i' + j') = if (i' = i ∧ j' = j) ∨ (i' = j ∧ j' = i) then v else u (B + 4 + 2) (7 * i' + j') := by
    unfold layM
    rw [mst_row, mst_row, mst_k (by omega), mst_k (by omega)]
    unfold upd
    by_cases c : (i' = i ∧ j' = j) ∨ (i' = j ∧ j' = i)
    · rw [if_pos c]
      by_cases d : 7 * i' + j' = 7 * j + i
      · rw [if_pos d]
      · rw [if_neg d, if_pos (by omega)]
    · rw [if_neg c, if_neg (by omega), if_neg (by omega)]
  rw [e1, e2]
  obtain ⟨h1, h2⟩ := h i' j' hi' hj'
  by_cases q : i' = j'
  · rw [if_pos q] at h1 ⊢
    rw [if_neg (by omega)]
    exact ⟨h1, fun z => absurd q z⟩
  · rw [if_neg q] at h1 ⊢
    have a := wy_inj hi' hj' q hi hj hij
    have b := wy_inj hi hj hij hi' hj' q
    unfold layR
    by_cases c : (i' = i ∧ j' = j) ∨ (i' = j ∧ j' = i)
    · have z : wy i' j' = wy i j := by
        rcases c with ⟨rfl, rfl⟩ | ⟨rfl, rfl⟩
        · rfl
        · exact wy_sym _ _
      rw [if_pos c, if_pos c, z, pk_us, pk_un (by omega), pk_us]
      exact ⟨rfl, fun _ => rfl⟩
    · have z : wy i' j' ≠ wy i j := fun z => c (a.2 z)
      rw [if_neg c, if_neg c, pk_un z, pk_un (fun w => b.1 w.symm), pk_un (fun w => a.1 w), pk_un (by omega)]
      exact ⟨h1, h2⟩
theorem c_layR (h : Rep0 u B r) (hw : Wf r) {i j : Nat} (hi : i < 7) (hj : j < 7) (hij : i ≠ j) (y v : Int32) : Rep0 (layM u B i j y v) B (layR r i j y v) := by
  have H : ∀ x, 42 ≤ x → layR r i j y v x = r x := fun x hx => layR_hi hi hj hij y v hx
  have e1 : nc (layR r i j y v) = nc r := congrArg tn (H 42 (by omega))
  have e2 : ne (layR r i j y v) = ne r := congrArg tn (H 43 (by omega))
  have e3 : nw (layR r i j y v) = nw r := congrArg tn (H 44 (by omega))
  have n6 := (nc_eq hw).2
  have n8 := (ne_eq hw).2
  have n9 := (nw_eq hw).2
  obtain ⟨k1, k2, k3, k4, k5, k6⟩ := h
  refine ⟨?_, fun s hs => ?_, fun c' hc' f' hf' => ?_, fun e he f' hf' => ?_, fun w hw' => ?_, layM_Y hi hj hij k6⟩
  · unfold RepN; rw [layM_k (by omega) (by omega), H _ (by omega), H _ (by omega), H _ (by omega), H _ (by omega)]; exact k1
  · rw [layM_k (by omega) (by omega), H _ (by omega)]; exact k2 s hs
  · rw [e1] at hc'
    rw [layM_k (by omega) (by omega), H _ (by omega)]; exact k3 c' hc' f' hf'
  · rw [e2] at he
    rw [layM_k (by omega) (by omega), H _ (by omega)]; exact k4 e he f' hf'
  · rw [e3] at hw'
    unfold RepW
    rw [layM_k (by omega) (by omega), H _ (by omega), H _ (by omega)]; exact k5 w hw'
theorem msr_Rep (h : Rep0 u B r) (hw : Wf r) : Rep (msr u B r 3) B r := by
  have n6 := (nc_eq hw).2
  have n8 := (ne_eq hw).2
  have n9 := (nw_eq hw).2
  obtain ⟨k1, k2, k3, k4, k5, k6⟩ := h
  refine ⟨?_, fun s hs => ?_, fun c' hc' f' hf' => ?_, fun e he f' hf' => ?_, fun w hw' => ?_, fun i j hi hj => ?_, msr_RepT⟩
  · unfold RepN; rw [msr_ne (by omega)]; exact k1
  · rw [msr_ne (by omega)]; exact k2 s hs
  · rw [msr_ne (by omega)]; exact k3 c' hc' f' hf'
  · rw [msr_ne (by omega)]; exact k4 e he f' hf'
  · unfold RepW; rw [msr_ne (by omega)]; exact k5 w hw'
  · rw [msr_ne (by omega), msr_ne (by omega)]; exact k6 i j hi hj
theorem Fr_msr (u : Mem) (B : Nat) (r : Nat → Int32) : Fr B u (msr u B r 3) := fun a ha => msr_ne (by omega)
theorem Fr_lay (u : Mem) (B i j : Nat) (y v : Int32) : Fr B u (layM u B i j y v) := fun a ha => layM_k (by omega) (by omega)
theorem m_wayIs (hm : m 117 = r) {i j : Nat} (hi : i < 7) (hj : j < 7) (hij : i ≠ j) (y v : Int32) : FX10_wayIs (nI i) (nI j) y v m = some (r (wy i j), mrow m 117 (layR r i j y v)) := by
  have hl := wy_lt hi hj hij
  unfold FX10_wayIs FX10_become
  rw [wayAt_eq hi hj hij, L1, nadd, if_pos (inb_t (by omega) (by omega)), if_pos (inb_t (by omega) (by omega)), if_pos (inb_t (by omega) (by omega)), ncl (by omega), ncl (by omega), bind_eta, mst_as_mrow m, hm, mst_mrow, mrow_at, pk_un (by omega)]
  rfl
theorem s_way (h : Inv u) (p1 p2 p3 p4 : Int32) : Same (FX9_way p1 p2 p3 p4) (FX10_way p1 p2 p3 p4) u := by
  have hR := h.1.1
  have hW := h.2.1
  have bad : FX9_areUnlikePlaces p1 p2 = 0 → (∀ m, FX10_way p1 p2 p3 p4 m = FX10_finding (-1000001) m) → Same (FX9_way p1 p2 p3 p4) (FX10_way p1 p2 p3 p4) u := fun h9 h10 =>
    same_fin 0 (by omega) w0 h (Qc_refl u) (by unfold FX9_way; rw [h9, if_pos rfl, bind_eta]) (fun m _ => ⟨m, Qm_refl m, h10 m⟩)
  rcases pl_cases p1 with ⟨a0, -⟩ | ⟨i, hi, rfl, a1⟩
  · exact bad (by unfold FX9_areUnlikePlaces; rw [np9, a0, if_pos rfl]) (fun m => by unfold FX10_way; rw [np10, a0, if_pos rfl, bind_eta])
  rcases pl_cases p2 with ⟨b0, -⟩ | ⟨j, hj, rfl, b1⟩
  · exact bad (by unfold FX9_areUnlikePlaces; rw [np9, a1, if_neg (by decide), np9, b0, if_pos rfl]) (fun m => by unfold FX10_way; rw [np10, a1, if_neg (by decide), np10, b0, if_pos rfl, bind_eta])
  by_cases hij : i = j
  · subst hij
    exact bad (by unfold FX9_areUnlikePlaces; rw [np9, a1, if_neg (by decide), if_neg (by decide), if_pos rfl]) (fun m => by unfold FX10_way; rw [np10, a1, if_neg (by decide), if_neg (by decide), if_pos rfl, bind_eta])
  have hne : ¬ nI i = nI j := by rw [neq (by omega) (by omega)]; exact hij
  have g9 : FX9_areUnlikePlaces (nI i) (nI j) = 1 := by unfold FX9_areUnlikePlaces; rw [np9, a1, if_neg (by decide), np9, b1, if_neg (by decide), if_neg hne]
  rcases wi_lit p3 (n := 100) (m := 99) (by omega) rfl with ⟨c0, -⟩ | ⟨y, hy, rfl, c1⟩
  · refine same_fin 0 (by omega) w0 h (Qc_refl u) ?_ (fun m _ => ⟨m, Qm_refl m, ?_⟩)
    · unfold FX9_way; rw [g9, if_neg (by decide), c0, if_pos rfl, bind_eta]
    · unfold FX10_way; rw [np10, a1, if_neg (by decide), np10, b1, if_neg (by decide), if_neg hne, within_eq, c0, if_pos rfl, bind_eta]
  rcases wi_lit p4 (n := 2) (m := 1) (by omega) rfl with ⟨d0, -⟩ | ⟨v, hv, rfl, d1⟩
  · refine same_fin 0 (by omega) w0 h (Qc_refl u) ?_ (fun m _ => ⟨m, Qm_refl m, ?_⟩)
    · unfold FX9_way; rw [g9, if_neg (by decide), c1, if_neg (by decide), d0, if_pos rfl, bind_eta]
    · unfold FX10_way; rw [np10, a1, if_neg (by decide), np10, b1, if_neg (by decide), if_neg hne, within_eq, c1, if_neg (by decide), d0, if_pos rfl, bind_eta]
  obtain ⟨y1, -⟩ := hR.2.2.2.2.2.1 i j hi hj
  rw [if_neg hij] at y1
  have hW' := layR_wf hW hi hj hij (y := nI y) (v := nI v) (In_nI (by omega) (by omega)) (In_nI (by omega) (by omega))
  have hR0 := c_layR (Rep_0 hR) hW hi hj hij (nI y) (nI v)
  have hR' := msr_Rep hR0 hW'
  refine same_row (x := u 117 (wy i j)) h hR' hW' (Fr_Qf (Fr_trans (Fr_lay _ _ _ _ _ _) (Fr_msr _ _ _))) ?_ ?_ (Qm_refl _)
  · unfold FX9_way
    rw [g9, if_neg (by decide), c1, if_neg (by decide), d1, if_neg (by decide)]
    unfold FX8_yardsOf
    rw [i7, if_pos (inb_t (by omega) (by omega)), ncl (by omega), bs, c_lay hi hj, bs, c_measure hR0.2.2.2.2.2 hW', bs, y1]
  · unfold FX10_way
    rw [np10, a1, if_neg (by decide), np10, b1, if_neg (by decide), if_neg hne, within_eq, c1, if_neg (by decide), d1, if_neg (by decide), bind_eta]
    exact m_wayIs (by rw [Fr_msr _ _ _ 117 (by omega), Fr_lay _ _ _ _ _ _ 117 (by omega)]) hi hj hij (nI y) (nI v)
end WAY
