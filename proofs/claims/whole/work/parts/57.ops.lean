/-! the calls, fifth part: take, drop, change, hold, buy -/
section OPS5
variable {u m : Mem} {r : Nat → Int32} {B : Nat}
theorem c_liesBy (h : Rep u B r) (hw : Wf r) {c e : Nat} (hc : c < nc r) (he : e < ne r) : FX2_liesBy B (nI e) (nI c) u = some (if eF r e 3 = 0 ∧ eF r e 1 = cF r c 1 then 1 else 0) := by
  have h6 := nc_eq hw
  have h8 := ne_eq hw
  have e3 := eH hw he
  have e1 := eA hw he
  have c1 := cP hw hc
  unfold FX2_liesBy
  rw [if_pos (inb_t (by omega) (by omega)), if_pos (inb_t (by omega) (by omega)), if_pos (inb_t (by omega) (by omega)), ncl (by omega), ncl (by omega), qh h hw he, qa h hw he, qP h hw hc]
  by_cases a : eF r e 3 = 0
  · rw [if_pos (by rw [a]; rfl)]
    by_cases b : eF r e 1 = cF r c 1
    · rw [if_pos (by rw [b]), if_pos ⟨a, b⟩]
    · rw [if_neg (by rw [neq (by omega) (by omega)]; exact b), if_neg (fun z => b z.2)]
  · rw [if_neg (by rw [L0, neq (by omega) (by omega)]; exact a), if_neg (fun z => a z.1)]
theorem m_liesAt (hm : m 117 = r) (hw : Wf r) {c e : Nat} (hc : c < nc r) (he : e < ne r) : FX10_liesAt (nI e) (nI (cF r c 1)) m = some (if eF r e 3 = 0 ∧ eF r e 1 = cF r c 1 then 1 else 0) := by
  have e3 := eH hw he
  have e1 := eA hw he
  have c1 := cP hw hc
  unfold FX10_liesAt
  rw [mh hm hw he, bs, ma hm hw he]
  by_cases a : eF r e 3 = 0
  · rw [if_pos (by rw [a]; rfl), bs]
    by_cases b : eF r e 1 = cF r c 1
    · rw [if_pos (by rw [b]), if_pos ⟨a, b⟩]
    · rw [if_neg (by rw [neq (by omega) (by omega)]; exact b), if_neg (fun z => b z.2)]
  · rw [if_neg (by rw [L0, neq (by omega) (by omega)]; exact a), if_neg (fun z => a z.1)]
theorem c_couldAdd (h : Rep u B r) (hw : Wf r) {c e : Nat} (hc : c < nc r) (he : e < ne r) : FX2_couldAdd B (nI c) (nI e) u = some (if wS r (kS r c) + eF r e 0 ≤ bc r c then 1 else 0) := by
  have h6 := nc_eq hw
  have h8 := ne_eq hw
  have w1 := wS_le hw (kS r c)
  have w2 := (eW hw he).2
  have w3 := bc_le hw hc
  unfold FX2_couldAdd
  rw [c_carriedBy h hw c, bs, c_weightOf h hw (kS_lt hw c), bs, if_pos (inb_t (by omega) (by omega)), if_pos (inb_t (by omega) (by omega)), ncl (by omega), ncl (by omega), c_canBear h hw hc, qp h hw he, nadd]
  by_cases a : wS r (kS r c) + eF r e 0 ≤ bc r c
  · rw [if_neg (by rw [nlt (by omega) (by omega)]; omega), if_pos a]
  · rw [if_pos (by rw [nlt (by omega) (by omega)]; omega), if_neg a]
theorem m_fitsTo (hm : m 117 = r) (hw : Wf r) {c e : Nat} (hc : c < nc r) (he : e < ne r) : FX10_fitsTo (nI c) (nI e) m = some (if wS r (kS r c) + eF r e 0 ≤ bc r c then 1 else 0) := by
  have w1 := wS_le hw (kS r c)
  have w2 := (eW hw he).2
  have w3 := bc_le hw hc
  unfold FX10_fitsTo
  rw [m_carries hm hw c, bs, m_weighs hm hw (kS_lt hw c), bs, mp hm hw he, bs, m_bears hm hw hc, bs, nadd]
  by_cases a : wS r (kS r c) + eF r e 0 ≤ bc r c
  · rw [if_neg (by rw [nlt (by omega) (by omega)]; omega), if_pos a]
  · rw [if_pos (by rw [nlt (by omega) (by omega)]; omega), if_neg a]
/-- the row after a taking up -/
def takR (r : Nat → Int32) (c e : Nat) : Nat → Int32 := upd (upd r (86 + 5 * e + 3) 1) (86 + 5 * e + 4) (nI c)
theorem takR_wf (hw : Wf r) {c e : Nat} (he : e < ne r) (h0 : eF r e 3 = 0) : Wf (takR r c e) := by
  have h8 := (ne_eq hw).2
  have d : dnc r ≤ dnc (upd r (86 + 5 * e + 3) 1) := Nat.le_of_eq (dnc_same (by omega) (by decide)).symm
  have W1 := Wf_setE (v := 1) hw (c := e) (f := 3) (by omega) (by omega) d (fun _ => ⟨fun z => by omega, fun z => by omega, fun z => by omega, fun _ => ⟨rfl, by decide⟩⟩)
  exact Wf_setE (v := nI c) W1 (c := e) (f := 4) (by omega) (by omega) (dncE_f (by omega) (by omega)) (fun _ => ⟨fun z => by omega, fun z => by omega, fun z => by omega, fun z => by omega⟩)
def takM (u : Mem) (B c e : Nat) : Mem := mst (mst u (B + 18 + e) 3 1) (B + 18 + e) 4 (nI c)
theorem takM_Rep (h : Rep u B r) (hw : Wf r) {c e : Nat} (he : e < ne r) (h0 : eF r e 3 = 0) : Rep (takM u B c e) B (takR r c e) := by
  have h8 := (ne_eq hw).2
  have d : dnc r ≤ dnc (upd r (86 + 5 * e + 3) 1) := Nat.le_of_eq (dnc_same (by omega) (by decide)).symm
  have W1 := Wf_setE (v := 1) hw (c := e) (f := 3) (by omega) (by omega) d (fun _ => ⟨fun z => by omega, fun z => by omega, fun z => by omega, fun _ => ⟨rfl, by decide⟩⟩)
  exact Rep_setE (Rep_setE h hw (by omega) (by omega)) W1 (by omega) (by omega)
theorem c_pickUp {c e : Nat} (he : e < 8) : FX2_pickUp B (nI c) (nI e) u = some (takM u B c e) := by
  unfold FX2_pickUp
  rw [if_pos (inb_t (by omega) (by omega)), if_pos (inb_t (by omega) (by omega)), ncl (by omega)]
  rfl
theorem m_taken (hm : m 117 = r) {c e : Nat} (he : e < 8) : FX10_taken (nI c) (nI e) m = some (mrow m 117 (takR r c e)) := by
  unfold FX10_taken
  have a3 : FX10_eAt (nI e) 3 = nI (86 + 5 * e + 3) := eAt_eq (f := 3)
  have a4 : FX10_eAt (nI e) 4 = nI (86 + 5 * e + 4) := eAt_eq (f := 4)
  rw [a3, a4, if_pos (inb_t (by omega) (by omega)), if_pos (inb_t (by omega) (by omega)), ncl (by omega), ncl (by omega), mst_as_mrow m, hm, mst_mrow]
  rfl
theorem Fr_tak {c e : Nat} (he : e < 8) : Fr B u (takM u B c e) := Fr_trans (Fr_mst (by omega) _ _ _) (Fr_mst (by omega) _ _ _)
theorem s_take (h : Inv u) (p1 p2 : Int32) : Same (FX9_take p1 p2) (FX10_take p1 p2) u := by
  have hR := h.1.1
  have hW := h.2.1
  have h6 := nc_eq hW
  have h8 := ne_eq hW
  rcases wi_cases p1 (n := nc (u 117)) (by omega) with ⟨g0, -⟩ | ⟨c, hc, rfl, g1⟩
  · refine same_fin 0 (by omega) w0 h (Qc_refl u) ?_ (fun m hm => ⟨m, Qm_refl m, ?_⟩)
    · unfold FX9_take; rw [c_has hR hW, g0, if_pos rfl, bind_eta]
    · unfold FX10_take; rw [m_isC (hm117 hm) hW, g0, if_pos rfl, bind_eta]
  rcases wi_cases p2 (n := ne (u 117)) (by omega) with ⟨k0, -⟩ | ⟨e, he, rfl, k1⟩
  · refine same_fin 0 (by omega) w0 h (Qc_refl u) ?_ (fun m hm => ⟨m, Qm_refl m, ?_⟩)
    · unfold FX9_take; rw [c_has hR hW, g1, if_neg (by decide), c_hasE hR hW, k0, if_pos rfl, bind_eta]
    · unfold FX10_take; rw [m_isC (hm117 hm) hW, g1, if_neg (by decide), m_isE (hm117 hm) hW, k0, if_pos rfl, bind_eta]
  by_cases a : eF (u 117) e 3 = 0 ∧ eF (u 117) e 1 = cF (u 117) c 1
  · by_cases b : wS (u 117) (kS (u 117) c) + eF (u 117) e 0 ≤ bc (u 117) c
    · have hR' := takM_Rep (c := c) hR hW he a.1
      have hW' := takR_wf (c := c) hW he a.1
      refine same_row (x := nI (wS (takR (u 117) c e) (kS (takR (u 117) c e) c))) h hR' hW' (Fr_Qf (Fr_tak (by omega))) ?_ ?_ (Qm_refl _)
      · unfold FX9_take
        rw [c_has hR hW, g1, if_neg (by decide), c_hasE hR hW, k1, if_neg (by decide), c_liesBy hR hW hc he, bs, if_pos a, if_neg (by decide), c_couldAdd hR hW hc he, bs, if_pos b, if_neg (by decide), c_pickUp (by omega), bs, c_carriedBy hR' hW' c, bs, c_weightOf hR' hW' (kS_lt hW' c), bs]
      · have e7 : takM u 1 c e 117 = u 117 := Fr_tak (by omega) 117 (by omega)
        unfold FX10_take
        rw [m_isC e7 hW, g1, if_neg (by decide), m_isE e7 hW, k1, if_neg (by decide), mP e7 hW hc, bs, m_liesAt e7 hW hc he, bs, if_pos a, if_neg (by decide), m_fitsTo e7 hW hc he, bs, if_pos b, if_neg (by decide), m_taken e7 (by omega), bs, m_carries (mrow_at _ _ _) hW' c, bs, m_weighs (mrow_at _ _ _) hW' (kS_lt hW' c), bs]
    · refine same_fin 1 (by omega) w1 h (Qc_refl u) ?_ (fun m hm => ⟨m, Qm_refl m, ?_⟩)
      · unfold FX9_take
        rw [c_has hR hW, g1, if_neg (by decide), c_hasE hR hW, k1, if_neg (by decide), c_liesBy hR hW hc he, bs, if_pos a, if_neg (by decide), c_couldAdd hR hW hc he, bs, if_neg b, if_pos rfl, bind_eta]
      · unfold FX10_take
        rw [m_isC (hm117 hm) hW, g1, if_neg (by decide), m_isE (hm117 hm) hW, k1, if_neg (by decide), mP (hm117 hm) hW hc, bs, m_liesAt (hm117 hm) hW hc he, bs, if_pos a, if_neg (by decide), m_fitsTo (hm117 hm) hW hc he, bs, if_neg b, if_pos rfl, bind_eta]
  · refine same_fin 4 (by omega) w4 h (Qc_refl u) ?_ (fun m hm => ⟨m, Qm_refl m, ?_⟩)
    · unfold FX9_take
      rw [c_has hR hW, g1, if_neg (by decide), c_hasE hR hW, k1, if_neg (by decide), c_liesBy hR hW hc he, bs, if_neg a, if_pos rfl, bind_eta]
    · unfold FX10_take
      rw [m_isC (hm117 hm) hW, g1, if_neg (by decide), m_isE (hm117 hm) hW, k1, if_neg (by decide), mP (hm117 hm) hW hc, bs, m_liesAt (hm117 hm) hW hc he, bs, if_neg a, if_pos rfl, bind_eta]
/-- the row after a setting down elsewhere -/
def drpR (r : Nat → Int32) (e p : Nat) : Nat → Int32 := upd (upd (upd r (86 + 5 * e + 3) 0) (86 + 5 * e + 4) (-1)) (86 + 5 * e + 1) (nI p)
theorem kS_has (hw : Wf r) {c e : Nat} (he : e < ne r) : hs (kS r c) e = (decide (eF r e 3 = 1) && decide (r (86 + 5 * e + 4) = nI c)) := by
  unfold kS
  rw [setS_bit, decide_eq_true he, Bool.true_and]
theorem s_drop (h : Inv u) (p1 p2 : Int32) : Same (FX9_drop p1 p2) (FX10_drop p1 p2) u := by
  have hR := h.1.1
  have hW := h.2.1
  have h6 := nc_eq hW
  have h8 := ne_eq hW
  rcases wi_cases p1 (n := nc (u 117)) (by omega) with ⟨g0, -⟩ | ⟨c, hc, rfl, g1⟩
  · refine same_fin 0 (by omega) w0 h (Qc_refl u) ?_ (fun m hm => ⟨m, Qm_refl m, ?_⟩)
    · unfold FX9_drop; rw [c_has hR hW, g0, if_pos rfl, bind_eta]
    · unfold FX10_drop; rw [m_isC (hm117 hm) hW, g0, if_pos rfl, bind_eta]
  rcases wi_cases p2 (n := ne (u 117)) (by omega) with ⟨k0, -⟩ | ⟨e, he, rfl, k1⟩
  · refine same_fin 0 (by omega) w0 h (Qc_refl u) ?_ (fun m hm => ⟨m, Qm_refl m, ?_⟩)
    · unfold FX9_drop; rw [c_has hR hW, g1, if_neg (by decide), c_hasE hR hW, k0, if_pos rfl, bind_eta]
    · unfold FX10_drop; rw [m_isC (hm117 hm) hW, g1, if_neg (by decide), m_isE (hm117 hm) hW, k0, if_pos rfl, bind_eta]
  have e3 := eH hW he
  have e2 := eB hW he
  have c1 := cP hW hc
  have hk := kS_has (c := c) hW he
  have hkl := kS_lt hW c
  have F9 : FX9_drop (nI c) (nI e) u = if eF (u 117) e 3 = 1 ∧ u 117 (86 + 5 * e + 4) = nI c ∧ eF (u 117) e 2 ≠ cF (u 117) c 1 then (Option.bind (FX2_carriedBy 1 (nI c) (mst (mst (mst u (1 + 18 + e) 3 0) (1 + 18 + e) 4 (-1)) (1 + 18 + e) 1 (nI (cF (u 117) c 1)))) (fun q7 => Option.bind (FX2_weightOf 1 q7 (mst (mst (mst u (1 + 18 + e) 3 0) (1 + 18 + e) 4 (-1)) (1 + 18 + e) 1 (nI (cF (u 117) c 1)))) (fun q8 => some (q8, (mst (mst (mst u (1 + 18 + e) 3 0) (1 + 18 + e) 4 (-1)) (1 + 18 + e) 1 (nI (cF (u 117) c 1))))))) else FX9_finding (-1000005) u := by
    unfold FX9_drop
    dsimp only [nm]
    rw [c_has hR hW, g1, if_neg (by decide), c_hasE hR hW, k1, if_neg (by decide), if_pos (inb_t (by omega) (by omega)), if_pos (inb_t (by omega) (by omega)), ncl (by omega), ncl (by omega), qh hR hW he, qo hR he, qb hR hW he, qP hR hW hc, bind_eta]
    by_cases a : eF (u 117) e 3 = 1
    · rw [if_pos (by rw [a]; rfl)]
      by_cases b : u 117 (86 + 5 * e + 4) = nI c
      · rw [if_pos b]
        by_cases d : eF (u 117) e 2 = cF (u 117) c 1
        · rw [if_pos (by rw [d]), if_neg (fun z => z.2.2 d)]
        · rw [if_neg (by rw [neq (by omega) (by omega)]; exact d), if_pos ⟨a, b, d⟩]
      · rw [if_neg b, if_neg (fun z => b z.2.1)]
    · rw [if_neg (by rw [L1, neq (by omega) (by omega)]; exact a), if_neg (fun z => a z.1)]
  have F10 : ∀ m, m 117 = u 117 → FX10_drop (nI c) (nI e) m = if eF (u 117) e 3 = 1 ∧ u 117 (86 + 5 * e + 4) = nI c ∧ eF (u 117) e 2 ≠ cF (u 117) c 1 then (Option.bind (FX10_carries (nI c) (mrow m 117 (upd (upd (upd (u 117) (86 + 5 * e + 1) (nI (cF (u 117) c 1))) (86 + 5 * e + 3) 0) (86 + 5 * e + 4) (-1)))) (fun q7 => Option.bind (FX10_weighs q7 (mrow m 117 (upd (upd (upd (u 117) (86 + 5 * e + 1) (nI (cF (u 117) c 1))) (86 + 5 * e + 3) 0) (86 + 5 * e + 4) (-1)))) (fun q8 => some (q8, (mrow m 117 (upd (upd (upd (u 117) (86 + 5 * e + 1) (nI (cF (u 117) c 1))) (86 + 5 * e + 3) 0) (86 + 5 * e + 4) (-1))))))) else FX10_finding (-1000005) m := fun m hm => by
    have a1 : FX10_eAt (nI e) 1 = nI (86 + 5 * e + 1) := eAt_eq (f := 1)
    have a3 : FX10_eAt (nI e) 3 = nI (86 + 5 * e + 3) := eAt_eq (f := 3)
    have a4 : FX10_eAt (nI e) 4 = nI (86 + 5 * e + 4) := eAt_eq (f := 4)
    unfold FX10_drop
    dsimp only [nm]
    rw [m_isC hm hW, g1, if_neg (by decide), m_isE hm hW, k1, if_neg (by decide), m_carries hm hW c, bs, nhas2 hkl (by omega), b2, mb hm hW he, bs, mP hm hW hc, bs, bs, a1, a3, a4, if_pos (inb_t (by omega) (by omega)), if_pos (inb_t (by omega) (by omega)), if_pos (inb_t (by omega) (by omega)), ncl (by omega), ncl (by omega), ncl (by omega), mst_as_mrow m, hm, mst_mrow, mst_mrow, bind_eta, hk]
    by_cases a : eF (u 117) e 3 = 1
    · by_cases b : u 117 (86 + 5 * e + 4) = nI c
      · rw [if_pos (by simp [a, b])]
        by_cases d : eF (u 117) e 2 = cF (u 117) c 1
        · rw [if_pos (by rw [d]), if_neg (fun z => z.2.2 d)]
        · rw [if_neg (by rw [neq (by omega) (by omega)]; exact d), if_pos ⟨a, b, d⟩]
      · rw [if_neg (by simp [b]), if_neg (fun z => b z.2.1)]
    · rw [if_neg (by simp [a]), if_neg (fun z => a z.1)]
  by_cases z : eF (u 117) e 3 = 1 ∧ u 117 (86 + 5 * e + 4) = nI c ∧ eF (u 117) e 2 ≠ cF (u 117) c 1
  · have d1 : dnc (u 117) ≤ dnc (upd (u 117) (86 + 5 * e + 3) 0) := Nat.le_of_eq (dnc_same (by omega) (by decide)).symm
    have R1 := Rep_setE (v := 0) hR hW (c := e) (f := 3) (by omega) (by omega)
    have W1 := Wf_setE (v := 0) hW (c := e) (f := 3) (by omega) (by omega) d1 (fun _ => ⟨fun y => by omega, fun y => by omega, fun y => by omega, fun _ => ⟨rfl, by decide⟩⟩)
    have R2 := Rep_setE (v := -1) R1 W1 (c := e) (f := 4) (by omega) (by omega)
    have W2 := Wf_setE (v := -1) W1 (c := e) (f := 4) (by omega) (by omega) (dncE_f (by omega) (by omega)) (fun _ => ⟨fun y => by omega, fun y => by omega, fun y => by omega, fun y => by omega⟩)
    have R3 := Rep_setE (v := nI (cF (u 117) c 1)) R2 W2 (c := e) (f := 1) (by omega) (by omega)
    have W3 := Wf_setE (v := nI (cF (u 117) c 1)) W2 (c := e) (f := 1) (by omega) (by omega) (dncE_f (by omega) (by omega)) (fun _ => ⟨fun y => by omega, fun _ => In_nI (by omega) (by omega), fun y => by omega, fun y => by omega⟩)
    have hcom : upd (upd (upd (u 117) (86 + 5 * e + 1) (nI (cF (u 117) c 1))) (86 + 5 * e + 3) 0) (86 + 5 * e + 4) (-1) = upd (upd (upd (u 117) (86 + 5 * e + 3) 0) (86 + 5 * e + 4) (-1)) (86 + 5 * e + 1) (nI (cF (u 117) c 1)) := by
      funext x
      unfold upd
      by_cases x1 : x = 86 + 5 * e + 1
      · rw [if_neg (show ¬ x = 86 + 5 * e + 4 by omega), if_neg (show ¬ x = 86 + 5 * e + 3 by omega), if_pos x1]
        rw [if_pos x1]
      · rw [if_neg x1, if_neg x1]
    have hF : Fr 1 u (mst (mst (mst u (1 + 18 + e) 3 0) (1 + 18 + e) 4 (-1)) (1 + 18 + e) 1 (nI (cF (u 117) c 1))) := Fr_trans (Fr_mst (by omega) _ _ _) (Fr_trans (Fr_mst (by omega) _ _ _) (Fr_mst (by omega) _ _ _))
    refine same_row (x := nI (wS (upd (upd (upd (u 117) (86 + 5 * e + 3) 0) (86 + 5 * e + 4) (-1)) (86 + 5 * e + 1) (nI (cF (u 117) c 1))) (kS (upd (upd (upd (u 117) (86 + 5 * e + 3) 0) (86 + 5 * e + 4) (-1)) (86 + 5 * e + 1) (nI (cF (u 117) c 1))) c))) (u2 := mrow (mst (mst (mst u (1 + 18 + e) 3 0) (1 + 18 + e) 4 (-1)) (1 + 18 + e) 1 (nI (cF (u 117) c 1))) 117 (upd (upd (upd (u 117) (86 + 5 * e + 3) 0) (86 + 5 * e + 4) (-1)) (86 + 5 * e + 1) (nI (cF (u 117) c 1)))) h R3 W3 (Fr_Qf hF) (F9.trans ((if_pos z).trans ?_)) ((F10 _ (hF 117 (by omega))).trans ((if_pos z).trans ?_)) ?_
    · rw [c_carriedBy R3 W3 c, bs, c_weightOf R3 W3 (kS_lt W3 c), bs]
    · rw [hcom, m_carries (mrow_at _ _ _) W3 c, bs, m_weighs (mrow_at _ _ _) W3 (kS_lt W3 c), bs]
    · exact Qm_refl _
  · exact same_fin 4 (by omega) w4 h (Qc_refl u) (F9.trans (if_neg z)) (fun m hm => ⟨m, Qm_refl m, (F10 m (hm117 hm)).trans (if_neg z)⟩)
end OPS5
