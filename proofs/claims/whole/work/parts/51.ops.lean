/-! the calls, second part: what only asks -/
section OPS2
theorem bs {A X : Type} (a : A) (f : A → Option X) : Option.bind (some a) f = f a := rfl
variable {u m : Mem} {r : Nat → Int32}
theorem np9 (p : Int32) : FX9_isPlace p = FX9_within p 0 6 := rfl
theorem np10 (p : Int32) : FX10_isPlace p = FX9_within p 0 6 := by unfold FX10_isPlace; rw [within_eq]
theorem pl_cases (p : Int32) : (FX9_within p 0 6 = 0 ∧ ∀ k, k < 7 → p ≠ nI k) ∨ ∃ k, k < 7 ∧ p = nI k ∧ FX9_within p 0 6 = 1 := wi_lit p (by omega) rfl
theorem m_farFor (hm : m 117 = r) (hw : Wf r) {k i j : Nat} (hk : k < 7) (hi : i < 7) (hj : j < 7) : FX10_farFor (nI k) (nI i) (nI j) m = some (nI (Ds r k i j), mrow m 121 (tb 49 (flat (Ds r k)) (m 121))) := by
  unfold FX10_farFor
  rw [m_findFar hm hw hk]
  dsimp only [Option.bind]
  rw [j7, if_pos (inb_t (by omega) (by omega)), ncl (by omega), mrow_at, tb_get (by omega)]
  unfold flat
  rw [(dm7 hj).1, (dm7 hj).2]
theorem m_worthOf (hm : m 117 = r) (hw : Wf r) {e : Nat} (he : e < ne r) : FX10_worthOf (nI e) m = some (if wo r e < 1000000 then nI (eF r e 0 * wo r e) else -1, mrow m 121 (tb 49 (flat (Ds r 0)) (m 121))) := by
  have hl := Ds_le hw 0 (eF r e 1) (eF r e 2)
  unfold FX10_worthOf
  rw [ma hm hw he, mb hm hw he]
  dsimp only [Option.bind]
  rw [show (0 : Int32) = nI 0 from rfl, m_farFor hm hw (by omega) (eA hw he).2 (eB hw he).2]
  dsimp only
  by_cases c : wo r e < 1000000
  · rw [if_pos (by rw [LM, nlt (by omega) (by omega)]; exact c), if_pos c, ← L0, mp (by rw [mrow_ne (by omega)]; exact hm) hw he]
    dsimp only
    rw [nmul]
    rfl
  · rw [if_neg (by rw [LM, nlt (by omega) (by omega)]; exact c), if_neg c]
theorem c_orNone {x : Nat} (hx : x ≤ 1000000) : FX9_orNone (nI x) u = if x < 1000000 then some (nI x, u) else FX9_finding (-1000004) u := by
  unfold FX9_orNone
  rw [bind_eta]
  by_cases c : x < 1000000
  · rw [if_pos c, if_pos (by rw [LM, nlt (by omega) (by omega)]; exact c)]
  · rw [if_neg c, if_neg (by rw [LM, nlt (by omega) (by omega)]; exact c)]
theorem s_wayOf (h : Inv u) (p1 p2 p3 : Int32) : Same (FX9_wayOf p1 p2 p3) (FX10_wayOf p1 p2 p3) u := by
  have hR := h.1.1
  have hW := h.2.1
  have bad : FX9_areUnlikePlaces p1 p2 = 0 → (∀ m, FX10_wayOf p1 p2 p3 m = FX10_finding (-1000001) m) → Same (FX9_wayOf p1 p2 p3) (FX10_wayOf p1 p2 p3) u := fun h9 h10 =>
    same_fin 0 (by omega) w0 h (Qc_refl u) (by unfold FX9_wayOf; rw [h9, if_pos rfl, bind_eta]) (fun m _ => ⟨m, Qm_refl m, h10 m⟩)
  rcases pl_cases p1 with ⟨a0, -⟩ | ⟨i, hi, rfl, a1⟩
  · exact bad (by unfold FX9_areUnlikePlaces; rw [np9, a0, if_pos rfl]) (fun m => by unfold FX10_wayOf; rw [np10, a0, if_pos rfl, bind_eta])
  rcases pl_cases p2 with ⟨b0, -⟩ | ⟨j, hj, rfl, b1⟩
  · exact bad (by unfold FX9_areUnlikePlaces; rw [np9, a1, if_neg (by decide), np9, b0, if_pos rfl]) (fun m => by unfold FX10_wayOf; rw [np10, a1, if_neg (by decide), np10, b0, if_pos rfl, bind_eta])
  by_cases hij : i = j
  · subst hij
    exact bad (by unfold FX9_areUnlikePlaces; rw [np9, a1, if_neg (by decide), if_neg (by decide), if_pos rfl]) (fun m => by unfold FX10_wayOf; rw [np10, a1, if_neg (by decide), if_neg (by decide), if_pos rfl, bind_eta])
  have hne : ¬ nI i = nI j := by rw [neq (by omega) (by omega)]; exact hij
  have g9 : FX9_areUnlikePlaces (nI i) (nI j) = 1 := by unfold FX9_areUnlikePlaces; rw [np9, a1, if_neg (by decide), np9, b1, if_neg (by decide), if_neg hne]
  have hl := wy_lt hi hj hij
  obtain ⟨y1, y2⟩ := hR.2.2.2.2.2.1 i j hi hj
  have y2 := y2 hij
  rw [if_neg hij] at y1
  rcases wi_lit p3 (n := 2) (m := 1) (by omega) rfl with ⟨c0, -⟩ | ⟨k, hk, rfl, c1⟩
  · refine same_fin 0 (by omega) w0 h (Qc_refl u) ?_ (fun m _ => ⟨m, Qm_refl m, ?_⟩)
    · unfold FX9_wayOf; rw [g9, if_neg (by decide), c0, if_pos rfl, bind_eta]
    · unfold FX10_wayOf; rw [np10, a1, if_neg (by decide), np10, b1, if_neg (by decide), if_neg hne, within_eq, c0, if_pos rfl, bind_eta]
  · have hk2 : k = 0 ∨ k = 1 := by omega
    refine same_val (x := u 117 (wy i j + k)) h (Qc_refl u) ?_ ?_ (Qm_refl u)
    · unfold FX9_wayOf
      rw [g9, if_neg (by decide), c1, if_neg (by decide)]
      unfold FX8_yardsOf FX8_riverOf
      rw [i7, if_pos (inb_t (by omega) (by omega)), if_pos (inb_t (by omega) (by omega)), ncl (by omega)]
      rcases hk2 with rfl | rfl
      · rw [if_pos (show nI 0 = (0 : Int32) from rfl), y1]; rfl
      · rw [if_neg (by decide), y2]; rfl
    · unfold FX10_wayOf
      rw [np10, a1, if_neg (by decide), np10, b1, if_neg (by decide), if_neg hne, within_eq, c1, if_neg (by decide), wayAt_eq hi hj hij, nadd, if_pos (inb_t (by omega) (by omega)), ncl (by omega)]
theorem s_errandOf (h : Inv u) (p1 p2 : Int32) : Same (FX9_errandOf p1 p2) (FX10_errandOf p1 p2) u := by
  have hR := h.1.1
  have hW := h.2.1
  have h8 := ne_eq hW
  rcases wi_cases p1 (n := ne (u 117)) (by omega) with ⟨g0, -⟩ | ⟨e, he, rfl, g1⟩
  · refine same_fin 0 (by omega) w0 h (Qc_refl u) ?_ (fun m hm => ⟨m, Qm_refl m, ?_⟩)
    · unfold FX9_errandOf; rw [c_hasE hR hW, g0, if_pos rfl, bind_eta]
    · unfold FX10_errandOf; rw [m_isE (hm117 hm) hW, g0, if_pos rfl, bind_eta]
  rcases wi_lit p2 (n := 6) (m := 5) (by omega) rfl with ⟨k0, kn⟩ | ⟨k, hk, rfl, k1⟩
  · have e0 : ¬ p2 = 0 := kn 0 (by omega)
    have e1 : ¬ p2 = 1 := kn 1 (by omega)
    have e2 : ¬ p2 = 2 := kn 2 (by omega)
    have e3 : ¬ p2 = 3 := kn 3 (by omega)
    have e4 : ¬ p2 = 4 := kn 4 (by omega)
    have e5 : ¬ p2 = 5 := kn 5 (by omega)
    refine same_fin 0 (by omega) w0 h (Qc_refl u) ?_ (fun m hm => ⟨m, Qm_refl m, ?_⟩)
    · unfold FX9_errandOf; rw [c_hasE hR hW, g1, if_neg (by decide), if_pos (inb_t (by omega) (by omega)), if_neg e0, if_neg e1, if_neg e2, if_neg e3, if_neg e4, if_neg e5, bind_eta]
    · unfold FX10_errandOf; rw [m_isE (hm117 hm) hW, g1, if_neg (by decide), within_eq, k0, if_pos rfl, bind_eta]
  · by_cases hk5 : k < 5
    · have hf : FX9_errandOf (nI e) (nI k) u = some (u (1 + 18 + e) k, u) → FX10_errandOf (nI e) (nI k) u = some (u (1 + 18 + e) k, u) → Same (FX9_errandOf (nI e) (nI k)) (FX10_errandOf (nI e) (nI k)) u := fun f1 f2 => same_val h (Qc_refl u) f1 f2 (Qm_refl u)
      refine hf ?_ ?_
      · unfold FX9_errandOf; rw [c_hasE hR hW, g1, if_neg (by decide), if_pos (inb_t (by omega) (by omega)), ncl (by omega)]
        have hk8 : k = 0 ∨ k = 1 ∨ k = 2 ∨ k = 3 ∨ k = 4 := by omega
        rcases hk8 with rfl | rfl | rfl | rfl | rfl <;> rfl
      · unfold FX10_errandOf; rw [m_isE rfl hW, g1, if_neg (by decide), within_eq, k1, if_neg (by decide), L5, if_neg (n_ngt hk5 (by omega)), me (by omega) hk5, hR.2.2.2.1 e he k hk5]
        rfl
    · have : k = 5 := by omega
      subst this
      have hwo := wo_fin hW he
      have F9 : FX9_errandOf (nI e) (nI 5) u = FX9_orNone (nI (woV (u 117) e)) u := by
        unfold FX9_errandOf; rw [c_hasE hR hW, g1, if_neg (by decide), if_pos (inb_t (by omega) (by omega)), if_neg (by decide), if_neg (by decide), if_neg (by decide), if_neg (by decide), if_neg (by decide), if_pos (by decide), c_worthOf hR hW he, bs, bind_eta]
      have F10 : ∀ m, m 117 = u 117 → FX10_errandOf (nI e) (nI 5) m = if wo (u 117) e < 1000000 then some (nI (eF (u 117) e 0 * wo (u 117) e), mrow m 121 (tb 49 (flat (Ds (u 117) 0)) (m 121))) else FX10_finding (-1000004) (mrow m 121 (tb 49 (flat (Ds (u 117) 0)) (m 121))) := fun m hm => by
        unfold FX10_errandOf; rw [m_isE hm hW, g1, if_neg (by decide), within_eq, k1, if_neg (by decide), if_pos (by decide), m_worthOf hm hW he, bs]
        dsimp only
        by_cases c : wo (u 117) e < 1000000
        · have := hwo c
          rw [if_pos c, if_pos c, if_pos (nI_pos' (by omega))]
        · rw [if_neg c, if_neg c, if_neg (by decide), bind_eta]
      by_cases c : wo (u 117) e < 1000000
      · have := hwo c
        rw [show woV (u 117) e = eF (u 117) e 0 * wo (u 117) e from if_pos c, c_orNone (by omega), if_pos (by omega)] at F9
        exact same_val h (Qc_refl u) F9 ((F10 u rfl).trans (if_pos c)) (Qm_mrow (by omega) _)
      · rw [show woV (u 117) e = 1000000 from if_neg c, c_orNone (by omega), if_neg (by omega)] at F9
        exact same_fin 3 (by omega) w3 h (Qc_refl u) F9 (fun m hm => ⟨_, Qm_mrow (by omega) _, (F10 m (hm117 hm)).trans (if_neg c)⟩)
theorem s_wareOf (h : Inv u) (p1 p2 : Int32) : Same (FX9_wareOf p1 p2) (FX10_wareOf p1 p2) u := by
  have hR := h.1.1
  have hW := h.2.1
  have h8 := nw_eq hW
  rcases wi_cases p1 (n := nw (u 117)) (by omega) with ⟨g0, -⟩ | ⟨e, he, rfl, g1⟩
  · refine same_fin 0 (by omega) w0 h (Qc_refl u) ?_ (fun m hm => ⟨m, Qm_refl m, ?_⟩)
    · unfold FX9_wareOf; rw [c_hasW hR hW, g0, if_pos rfl, bind_eta]
    · unfold FX10_wareOf; rw [m_isW (hm117 hm) hW, g0, if_pos rfl, bind_eta]
  rcases wi_lit p2 (n := 2) (m := 1) (by omega) rfl with ⟨k0, kn⟩ | ⟨k, hk, rfl, k1⟩
  · refine same_fin 0 (by omega) w0 h (Qc_refl u) ?_ (fun m hm => ⟨m, Qm_refl m, ?_⟩)
    · unfold FX9_wareOf; rw [c_hasW hR hW, g1, if_neg (by decide), k0, if_pos rfl, bind_eta]
    · unfold FX10_wareOf; rw [m_isW (hm117 hm) hW, g1, if_neg (by decide), within_eq, k0, if_pos rfl, bind_eta]
  · have hw2 := hR.2.2.2.2.1 e he
    refine same_val (x := u (1 + 26 + e) k) h (Qc_refl u) ?_ ?_ (Qm_refl u)
    · unfold FX9_wareOf; rw [c_hasW hR hW, g1, if_neg (by decide), k1, if_neg (by decide), if_pos (inb_t (by omega) (by omega)), if_pos (inb_t (by omega) (by omega)), ncl (by omega)]
      have hk2 : k = 0 ∨ k = 1 := by omega
      rcases hk2 with rfl | rfl <;> rfl
    · unfold FX10_wareOf; rw [m_isW rfl hW, g1, if_neg (by decide), within_eq, k1, if_neg (by decide), wAt_eq, if_pos (inb_t (by omega) (by omega)), ncl (by omega)]
      have hk2 : k = 0 ∨ k = 1 := by omega
      rcases hk2 with rfl | rfl
      · rw [hw2.1]; rfl
      · rw [hw2.2]
theorem s_far (h : Inv u) (p1 p2 p3 : Int32) : Same (FX9_far p1 p2 p3) (FX10_far p1 p2 p3) u := by
  have hR := h.1.1
  have hW := h.2.1
  have h6 := nc_eq hW
  rcases wi_cases p1 (n := nc (u 117)) (by omega) with ⟨g0, -⟩ | ⟨c, hc, rfl, g1⟩
  · refine same_fin 0 (by omega) w0 h (Qc_refl u) ?_ (fun m hm => ⟨m, Qm_refl m, ?_⟩)
    · unfold FX9_far; rw [c_has hR hW, g0, if_pos rfl, bind_eta]
    · unfold FX10_far; rw [m_isC (hm117 hm) hW, g0, if_pos rfl, bind_eta]
  rcases pl_cases p2 with ⟨a0, -⟩ | ⟨i, hi, rfl, a1⟩
  · refine same_fin 0 (by omega) w0 h (Qc_refl u) ?_ (fun m hm => ⟨m, Qm_refl m, ?_⟩)
    · unfold FX9_far; rw [c_has hR hW, g1, if_neg (by decide), np9, a0, if_pos rfl, bind_eta]
    · unfold FX10_far; rw [m_isC (hm117 hm) hW, g1, if_neg (by decide), np10, a0, if_pos rfl, bind_eta]
  rcases pl_cases p3 with ⟨b0, -⟩ | ⟨j, hj, rfl, b1⟩
  · refine same_fin 0 (by omega) w0 h (Qc_refl u) ?_ (fun m hm => ⟨m, Qm_refl m, ?_⟩)
    · unfold FX9_far; rw [c_has hR hW, g1, if_neg (by decide), np9, a1, if_neg (by decide), np9, b0, if_pos rfl, bind_eta]
    · unfold FX10_far; rw [m_isC (hm117 hm) hW, g1, if_neg (by decide), np10, a1, if_neg (by decide), np10, b0, if_pos rfl, bind_eta]
  have hk := (cK hW hc).2
  have hl := Ds_le hW (cF (u 117) c 0) i j
  have F9 : FX9_far (nI c) (nI i) (nI j) u = if Ds (u 117) (cF (u 117) c 0) i j < 1000000 then some (nI (Ds (u 117) (cF (u 117) c 0) i j), u) else FX9_finding (-1000004) u := by
    unfold FX9_far
    rw [c_has hR hW, g1, if_neg (by decide), np9, a1, if_neg (by decide), np9, b1, if_neg (by decide), if_pos (inb_t (by omega) (by omega)), ncl (by omega), qK hR hW hc, c_yardsFor hR.2.2.2.2.2.2 hk hi hj, bs, bind_eta, c_orNone hl]
  have F10 : ∀ m, m 117 = u 117 → FX10_far (nI c) (nI i) (nI j) m = if Ds (u 117) (cF (u 117) c 0) i j < 1000000 then some (nI (Ds (u 117) (cF (u 117) c 0) i j), mrow m 121 (tb 49 (flat (Ds (u 117) (cF (u 117) c 0))) (m 121))) else FX10_finding (-1000004) (mrow m 121 (tb 49 (flat (Ds (u 117) (cF (u 117) c 0))) (m 121))) := fun m hm => by
    unfold FX10_far
    rw [m_isC hm hW, g1, if_neg (by decide), np10, a1, if_neg (by decide), np10, b1, if_neg (by decide), mK hm hW hc, bs, m_farFor hm hW hk hi hj, bs]
    dsimp only
    by_cases z : Ds (u 117) (cF (u 117) c 0) i j < 1000000
    · rw [if_pos z, if_pos (by rw [LM, nlt (by omega) (by omega)]; exact z)]
    · rw [if_neg z, if_neg (by rw [LM, nlt (by omega) (by omega)]; exact z), bind_eta]
  by_cases z : Ds (u 117) (cF (u 117) c 0) i j < 1000000
  · exact same_val h (Qc_refl u) (F9.trans (if_pos z)) ((F10 u rfl).trans (if_pos z)) (Qm_mrow (by omega) _)
  · exact same_fin 3 (by omega) w3 h (Qc_refl u) (F9.trans (if_neg z)) (fun m hm => ⟨_, Qm_mrow (by omega) _, (F10 m (hm117 hm)).trans (if_neg z)⟩)
theorem s_now (h : Inv u) (p1 : Int32) : Same (FX9_now p1) (FX10_now p1) u := by
  have hR := h.1.1
  have hW := h.2.1
  rcases wi_lit p1 (n := 5) (m := 4) (by omega) rfl with ⟨k0, kn⟩ | ⟨k, hk, rfl, k1⟩
  · have e0 : ¬ p1 = 0 := kn 0 (by omega)
    have e1 : ¬ p1 = 1 := kn 1 (by omega)
    have e2 : ¬ p1 = 2 := kn 2 (by omega)
    have e3 : ¬ p1 = 3 := kn 3 (by omega)
    have e4 : ¬ p1 = 4 := kn 4 (by omega)
    refine same_fin 0 (by omega) w0 h (Qc_refl u) ?_ (fun m hm => ⟨m, Qm_refl m, ?_⟩)
    · unfold FX9_now; rw [if_neg e0, if_neg e1, if_neg e2, if_neg e3, if_neg e4, bind_eta]
    · unfold FX10_now; rw [if_neg e0, if_neg e1, if_neg e2, if_neg e3, if_neg e4, bind_eta]
  · have hf : ∀ x, FX9_now (nI k) u = some (x, u) → FX10_now (nI k) u = some (x, u) → Same (FX9_now (nI k)) (FX10_now (nI k)) u := fun x f1 f2 => same_val h (Qc_refl u) f1 f2 (Qm_refl u)
    have hk8 : k = 0 ∨ k = 1 ∨ k = 2 ∨ k = 3 ∨ k = 4 := by omega
    rcases hk8 with rfl | rfl | rfl | rfl | rfl
    · refine hf (nI (eS (u 117) 0)) ?_ ?_
      · show Option.bind (FX2_errandsThat 1 (nI 0) u) _ = _; rw [c_errandsThat hR hW (by omega)]; rfl
      · show Option.bind (FX10_errandsThat (nI 0) u) _ = _; rw [m_errandsThat rfl hW (by omega)]; rfl
    · refine hf (nI (eS (u 117) 2)) ?_ ?_
      · show Option.bind (FX2_errandsThat 1 (nI 2) u) _ = _; rw [c_errandsThat hR hW (by omega)]; rfl
      · show Option.bind (FX10_errandsThat (nI 2) u) _ = _; rw [m_errandsThat rfl hW (by omega)]; rfl
    · refine hf (nI (soS (u 117))) ?_ ?_
      · show Option.bind (FX2_soldWares 1 u) _ = _; rw [c_soldWares hR hW]; rfl
      · show Option.bind (lp (BX10_now_50 (nI 2) u) FU (0, 0)) _ = _; rw [m_sold rfl hW]; rfl
    · refine hf (aS (u 117) 3) ?_ ?_
      · show Option.bind (FX2_earnedByAll 1 u) _ = _; rw [c_earnedByAll hR hW]; rfl
      · show Option.bind (FX10_ofAll (nI 3) u) _ = _; rw [m_ofAll rfl hW (by omega)]; rfl
    · refine hf (aS (u 117) 4) ?_ ?_
      · show Option.bind (FX2_walkedByAll 1 u) _ = _; rw [c_walkedByAll hR hW]; rfl
      · show Option.bind (FX10_ofAll (nI 4) u) _ = _; rw [m_ofAll rfl hW (by omega)]; rfl
theorem s_count (h : Inv u) (p1 : Int32) : Same (FX9_count p1) (FX10_count p1) u := by
  have hR := h.1.1
  have hW := h.2.1
  rcases wi_lit p1 (n := 8) (m := 7) (by omega) rfl with ⟨k0, kn⟩ | ⟨k, hk, rfl, k1⟩
  · have e0 : ¬ p1 = 0 := kn 0 (by omega)
    have e1 : ¬ p1 = 1 := kn 1 (by omega)
    have e2 : ¬ p1 = 2 := kn 2 (by omega)
    have e3 : ¬ p1 = 3 := kn 3 (by omega)
    have e4 : ¬ p1 = 4 := kn 4 (by omega)
    have e5 : ¬ p1 = 5 := kn 5 (by omega)
    have e6 : ¬ p1 = 6 := kn 6 (by omega)
    have e7 : ¬ p1 = 7 := kn 7 (by omega)
    refine same_fin 0 (by omega) w0 h (Qc_refl u) ?_ (fun m hm => ⟨m, Qm_refl m, ?_⟩)
    · unfold FX9_count; rw [if_neg e0, if_neg e1, if_neg e2, if_neg e3, if_neg e4, if_neg e5, if_neg e6, if_neg e7, bind_eta]
    · unfold FX10_count; rw [if_neg e0, if_neg e1, if_neg e2, if_neg e3, if_neg e4, if_neg e5, if_neg e6, if_neg e7, bind_eta]
  · have hf : ∀ x, FX9_count (nI k) u = some (x, u) → FX10_count (nI k) u = some (x, u) → Same (FX9_count (nI k)) (FX10_count (nI k)) u := fun x f1 f2 => same_val h (Qc_refl u) f1 f2 (Qm_refl u)
    have hk8 : k = 0 ∨ k = 1 ∨ k = 2 ∨ k = 3 ∨ k = 4 ∨ k = 5 ∨ k = 6 ∨ k = 7 := by omega
    rcases hk8 with rfl | rfl | rfl | rfl | rfl | rfl | rfl | rfl
    · exact hf (u 1 5) rfl (by rw [hR.1.1]; rfl)
    · exact hf (u 1 6) rfl (by rw [hR.1.2.1]; rfl)
    · exact hf (u 1 7) rfl (by rw [hR.1.2.2.1]; rfl)
    · refine hf (aS (u 117) 3) ?_ ?_
      · show Option.bind (FX2_earnedByAll 1 u) _ = _; rw [c_earnedByAll hR hW]; rfl
      · show Option.bind (FX10_ofAll (nI 3) u) _ = _; rw [m_ofAll rfl hW (by omega)]; rfl
    · refine hf (aS (u 117) 4) ?_ ?_
      · show Option.bind (FX2_walkedByAll 1 u) _ = _; rw [c_walkedByAll hR hW]; rfl
      · show Option.bind (FX10_ofAll (nI 4) u) _ = _; rw [m_ofAll rfl hW (by omega)]; rfl
    · exact hf (u 104 1) rfl (by rw [h.1.2.2.2.1.1]; rfl)
    · exact hf (u 1 8) rfl (by rw [hR.1.2.2.2]; rfl)
    · refine hf (nI (hS (u 117))) ?_ ?_
      · show Option.bind (FX2_heldSpots 1 u) _ = _; rw [c_heldSpots hR]; rfl
      · show Option.bind (lp (BX10_count_99 (nI 7) u) FU (0, 0)) _ = _; rw [m_held rfl hW]; rfl
theorem s_status (h : Inv u) (p1 : Int32) : Same (FX9_status p1) (FX10_status p1) u := by
  have h6 := h.1.2.2.2.2.2.1
  have h7 := h.1.2.2.2.2.2.2
  rcases wi_lit p1 (n := 7) (m := 6) (by omega) rfl with ⟨k0, kn⟩ | ⟨k, hk, rfl, k1⟩
  · by_cases hm1 : p1 = -1
    · subst hm1
      refine same_val (x := u 120 0) h (Qc_refl u) ?_ ?_ (Qm_refl u)
      · unfold FX9_status
        rw [show FX9_within (-1) (-1) 6 = 1 by decide, if_neg (by decide), if_pos (by decide)]
        refine lp_bind (sumI_loop (fun i => u 120 (i + 1)) (n := 7) (by omega) (fun k hk a rec => ?_) (fun a rec => ?_)) (by rw [h7])
        · dsimp only [BX9_status_32]
          rw [L7, if_neg (n_ngt hk (by omega)), if_pos (inb_t (by omega) (by omega)), ncl (by omega), h6 k hk]
        · dsimp only [BX9_status_32]
          rw [L7, if_pos (n_ge (Nat.le_refl _) (by omega))]
      · unfold FX10_status
        rw [within_eq, show FX9_within (-1) (-1) 6 = 1 by decide, if_neg (by decide), show (-1 : Int32) + 1 = nI 0 by decide, if_pos (inb_t (by omega) (by omega)), ncl (by omega)]
    · have g0 : FX9_within p1 (-1) 6 = 0 := by
        unfold FX9_within at k0 ⊢
        by_cases a : p1 < -1
        · rw [if_pos a]
        · rw [if_neg a]
          by_cases b : 6 < p1
          · rw [if_pos b]
          · exfalso
            rw [if_neg b] at k0
            have a0 : p1 < 0 := by
              by_cases c : p1 < 0
              · exact c
              · rw [if_neg c] at k0; exact absurd k0 (by decide)
            have e1 := Int32.lt_iff_toInt_lt.mp a0
            have e2 : ¬ p1.toInt < (-1 : Int32).toInt := fun z => a (Int32.lt_iff_toInt_lt.mpr z)
            have e3 : (0 : Int32).toInt = 0 := by decide
            have e4 : (-1 : Int32).toInt = -1 := by decide
            exact hm1 (Int32.toInt_inj.mp (by omega))
      refine same_fin 0 (by omega) w0 h (Qc_refl u) ?_ (fun m hm => ⟨m, Qm_refl m, ?_⟩)
      · unfold FX9_status; rw [g0, if_pos rfl, bind_eta]
      · unfold FX10_status; rw [within_eq, g0, if_pos rfl, bind_eta]
  · have g1 : FX9_within (nI k) (-1) 6 = 1 := by
      have key : ∀ k, k < 7 → FX9_within (nI k) (-1) 6 = 1 := by decide +kernel
      exact key k hk
    refine same_val (x := u 107 k) h (Qc_refl u) ?_ ?_ (Qm_refl u)
    · unfold FX9_status; rw [g1, if_neg (by decide), if_neg (nI_pos (by omega)), if_pos (inb_t (by omega) (by omega)), ncl (by omega)]
    · unfold FX10_status; rw [within_eq, g1, if_neg (by decide), nI_1, if_pos (inb_t (by omega) (by omega)), ncl (by omega), h6 k hk]
end OPS2
