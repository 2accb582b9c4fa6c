/-! sheets: loaded as prices -/
section LOAD
variable {u m : Mem} {r : Nat → Int32} {B : Nat}
theorem wi_in {k n : Nat} (h : k < n) (hn : n < 2147483648) : FX9_within (nI k) 0 (nI n - 1) = 1 := by
  rcases wi_cases (nI k) hn with ⟨-, h2⟩ | ⟨j, hj, e, h3⟩
  · exact absurd rfl (h2 k h)
  · exact h3
theorem wi_out {k n : Nat} (h : n ≤ k) (hk : k < 2147483648) : FX9_within (nI k) 0 (nI n - 1) = 0 := by
  rcases wi_cases (nI k) (n := n) (by omega) with ⟨h1, -⟩ | ⟨j, hj, e, h3⟩
  · exact h1
  · rw [neq hk (by omega)] at e; omega
def loR (f : Nat → Int32) (r : Nat → Int32) : Nat → Nat → Int32
  | 0 => r
  | k + 1 => upd (loR f r k) (126 + 2 * k + 0) (f k)
theorem loR_lo (f : Nat → Int32) {x : Nat} (hx : x < 126) : ∀ k, loR f r k x = r x
  | 0 => rfl
  | k + 1 => by
    unfold loR
    rw [pk_un (by omega)]
    exact loR_lo f hx k
def loP (f : Nat → Int32) (k : Nat) : Prop := ∃ p, 1 ≤ p ∧ p ≤ 9999 ∧ f k = nI p
theorem loP_1 {f : Nat → Int32} {k : Nat} (h : loP f k) : FX9_within (f k) 1 9999 = 1 := by
  obtain ⟨p, p1, p2, e⟩ := h
  rw [e]
  unfold FX9_within
  rw [if_neg (by rw [L1, nlt (by omega) (by omega)]; omega), if_neg (by rw [show (9999 : Int32) = nI 9999 from rfl, nlt (by omega) (by omega)]; omega)]
theorem loP_0 {f : Nat → Int32} {k : Nat} (h : ¬ loP f k) : FX9_within (f k) 1 9999 = 0 := by
  rcases wi_range (f k) (lo := 1) (hi := 9999) (a := 1) (b := 9999) rfl rfl (by omega) (by omega) with g0 | ⟨n, n1, n2, e, g1⟩
  · exact g0
  · exact absurd ⟨n, n1, n2, e⟩ h
theorem loR_wf {f : Nat → Int32} (hw : Wf r) : ∀ k, k ≤ 6 → (∀ j, j < k → loP f j) → Wf (loR f r k)
  | 0, _, _ => hw
  | k + 1, hk, h => by
    have ih := loR_wf hw k (by omega) (fun j hj => h j (by omega))
    obtain ⟨p, p1, p2, e⟩ := h k (by omega)
    exact Wf_setW ih (by omega) (by omega) (fun _ => ⟨fun _ => by rw [e]; exact In_nI p2 (by omega), fun z => by omega⟩)
theorem c_load {f : Nat → Int32} {s n N : Nat} (hs' : s < 4) (h : Rep u 1 r) (hw : Wf r) (hn : n ≤ 40) (e3 : ∀ i, i < 40 → u (108 + 2 * s + 1) i = f i) (hN : N ≤ min n (nw r)) (hall : ∀ j, j < N → loP f j) (hst : N = min n (nw r) ∨ N < min n (nw r) ∧ ¬ loP f N) : ∃ o, (o.1 = nI N ∧ Rep o.2 1 (loR f r N) ∧ Fr 1 u o.2) ∧ lp (BX9_load_56 (nI s) (nI (min n (nw r)))) FU (0, u) = some o := by
  have h6 := (nw_eq hw).2
  refine lp_inv (Bf := BX9_load_56 (nI s) (nI (min n (nw r)))) (fun k s' => s'.1 = nI k ∧ Rep s'.2 1 (loR f r k) ∧ Fr 1 u s'.2) (fun o => o.1 = nI N ∧ Rep o.2 1 (loR f r N) ∧ Fr 1 u o.2) (N := N) (by omega) (fun k hk s' hI rec => ?_) (fun s' hI rec => ?_) ⟨rfl, h, Fr_refl 1 u⟩
  · obtain ⟨s1, s2⟩ := s'
    obtain ⟨i1, i2, i3⟩ := hI
    have i1 : s1 = nI k := i1
    subst i1
    have i2 : Rep s2 1 (loR f r k) := i2
    left
    have hk2 : k < min n (nw r) := by omega
    have i3 : Fr 1 u s2 := i3
    have ev : s2 (108 + 2 * s + 1) k = f k := by rw [i3 _ (by omega), e3 k (by omega)]
    have hwk := loR_wf (f := f) hw k (by omega) (fun j hj => hall j (by omega))
    refine ⟨(nI (k + 1), mst s2 (1 + 26 + k) 0 (f k)), ⟨rfl, Rep_setW i2 hwk (by omega) (by omega), Fr_trans i3 (Fr_mst (by omega) _ _ _)⟩, ?_⟩
    have cs : (nI s).toNatClampNeg = s := ncl (by omega)
    have ck : (nI k).toNatClampNeg = k := ncl (by omega)
    dsimp only [BX9_load_56, nm]
    simp only [cs, ck, ev]
    rw [if_neg (n_ngt hk2 (by omega)), if_pos (inb_t (by omega) (by omega)), if_pos (inb_t (by omega) (by omega)), if_neg (by rw [loP_1 (hall k hk)]; decide), if_pos (inb_t (by omega) (by omega)), if_pos (inb_t (by omega) (by omega)), if_pos (inb_t (by omega) (by omega)), nI_1]
  · obtain ⟨s1, s2⟩ := s'
    obtain ⟨i1, i2, i3⟩ := hI
    have i1 : s1 = nI N := i1
    subst i1
    refine ⟨(nI N, s2), ⟨rfl, i2, i3⟩, ?_⟩
    dsimp only [BX9_load_56, nm]
    rcases hst with y | ⟨y1, y2⟩
    · rw [if_pos (n_ge (by omega) (by omega))]
    · have i3 : Fr 1 u s2 := i3
      have ev : s2 (108 + 2 * s + 1) N = f N := by rw [i3 _ (by omega), e3 N (by omega)]
      have cs : (nI s).toNatClampNeg = s := ncl (by omega)
      have ck : (nI N).toNatClampNeg = N := ncl (by omega)
      simp only [cs, ck, ev]
      rw [if_neg (n_ngt y1 (by omega)), if_pos (inb_t (by omega) (by omega)), if_pos (inb_t (by omega) (by omega)), if_pos (loP_0 y2)]
theorem m_load {f : Nat → Int32} {s n N : Nat} (hs' : s < 4) (hm : m 117 = r) (hw : Wf r) (hn : n ≤ 40) (e2 : m 129 s = nI n) (e3 : ∀ i, i < 40 → m 130 (40 * s + i) = f i) (hN : N ≤ min n (nw r)) (hall : ∀ j, j < N → loP f j) (hst : N = min n (nw r) ∨ N < min n (nw r) ∧ ¬ loP f N) : lp (BX10_load_33 (nI s)) FU (0, m) = some (nI N, mrow m 117 (loR f r N)) := by
  have h6 := nw_eq hw
  have h0 : (fun k => (nI k, mrow m 117 (loR f r k))) 0 = (0, m) := by
    show (nI 0, mrow m 117 r) = (0, m)
    rw [← hm, mrow_self]; rfl
  rw [← h0]
  have nwk : ∀ k, nw (loR f r k) = nw r := fun k => congrArg tn (loR_lo f (by omega) k)
  refine lp_for (BX10_load_33 (nI s)) (fun k => (nI k, mrow m 117 (loR f r k))) _ N (by omega) (fun k hk rec => ?_) (fun rec => ?_)
  · show BX10_load_33 (nI s) rec (nI k, mrow m 117 (loR f r k)) = rec (nI (k + 1), mrow m 117 (loR f r (k + 1)))
    have hwk := loR_wf (f := f) hw k (by omega) (fun j hj => hall j (by omega))
    have a0 : FX10_wAt (nI k) 0 = nI (126 + 2 * k + 0) := wAt_eq (f := 0)
    have cs : (nI s).toNatClampNeg = s := ncl (by omega)
    have ck : (nI (40 * s + k)).toNatClampNeg = 40 * s + k := ncl (by omega)
    have ex : 40 * nI s + nI k = nI (40 * s + k) := by rw [L40, nmul, nadd]
    have m29 : mrow m 117 (loR f r k) 129 s = nI n := by rw [mrow_ne (by omega), e2]
    have m30 : mrow m 117 (loR f r k) 130 (40 * s + k) = f k := by rw [mrow_ne (by omega), e3 k (by omega)]
    have mW : FX10_isWare (nI k) (mrow m 117 (loR f r k)) = 1 := by rw [m_isW (mrow_at _ _ _) hwk, nwk, wi_in (show k < nw r by omega) (by omega)]
    have ca : (nI (126 + 2 * k + 0)).toNatClampNeg = 126 + 2 * k + 0 := ncl (by omega)
    dsimp only [BX10_load_33]
    simp only [cs, ex, ck, m29, m30, mW, within_eq, a0, ca]
    rw [if_pos (inb_t (by omega) (by omega)), if_neg (n_ngt (show k < n by omega) (by omega)), if_neg (by decide), if_pos (inb_t (by omega) (by omega)), if_neg (by rw [loP_1 (hall k hk)]; decide), if_pos (inb_t (by omega) (by omega)), if_pos (inb_t (by omega) (by omega)), nI_1, mst_mrow]
    rfl
  · show BX10_load_33 (nI s) rec (nI N, mrow m 117 (loR f r N)) = _
    have hwk := loR_wf (f := f) hw N (by omega) hall
    have cs : (nI s).toNatClampNeg = s := ncl (by omega)
    have ex : 40 * nI s + nI N = nI (40 * s + N) := by rw [L40, nmul, nadd]
    have ck : (nI (40 * s + N)).toNatClampNeg = 40 * s + N := ncl (by omega)
    have m29 : mrow m 117 (loR f r N) 129 s = nI n := by rw [mrow_ne (by omega), e2]
    have mW : FX10_isWare (nI N) (mrow m 117 (loR f r N)) = FX9_within (nI N) 0 (nI (nw r) - 1) := by rw [m_isW (mrow_at _ _ _) hwk, nwk]
    dsimp only [BX10_load_33]
    simp only [cs, ex, ck, m29, mW, within_eq]
    rw [if_pos (inb_t (by omega) (by omega))]
    by_cases a : n ≤ N
    · rw [if_pos (n_ge a (by omega))]
    · rw [if_neg (n_ngt (by omega) (by omega))]
      by_cases b : nw r ≤ N
      · rw [if_pos (wi_out b (by omega))]
      · rcases hst with y | ⟨y1, y2⟩
        · omega
        · rw [if_neg (by rw [wi_in (by omega) (by omega)]; decide), if_pos (inb_t (by omega) (by omega)), if_pos (by rw [mrow_ne (by omega), e3 N (by omega)]; exact loP_0 y2)]
theorem s_load (h : Inv u) (p1 : Int32) : Same (FX9_load p1) (FX10_load p1) u := by
  have hR := h.1.1
  have hW := h.2.1
  have h6 := nw_eq hW
  rcases wi_lit p1 (n := 4) (m := 3) (by omega) rfl with ⟨g0, -⟩ | ⟨s, hs', rfl, g1⟩
  · refine same_fin 0 (by omega) w0 h (Qc_refl u) ?_ (fun m hm => ⟨m, Qm_refl m, ?_⟩)
    · unfold FX9_load FX9_isSheet; rw [g0, if_pos rfl, bind_eta]
    · unfold FX10_load FX10_isSheet; rw [within_eq, g0, if_pos rfl, bind_eta]
  obtain ⟨j1, j2, j3⟩ := h.1.2.2.2.2.1 s hs'
  obtain ⟨b4, sz⟩ := h.2.2.2.2.1 s hs'
  have hmiss : FX5_isMissing (108 + 2 * s) u = if u 128 s = 0 then 1 else 0 := by unfold FX5_isMissing; rw [j1]
  by_cases z : u 128 s = 0
  · rw [if_pos z] at hmiss
    refine same_fin 5 (by omega) w5 h (Qc_refl u) ?_ (fun m hm => ⟨m, Qm_refl m, ?_⟩)
    · unfold FX9_load FX9_isSheet; rw [g1, if_neg (by decide), if_pos (inb_t (by omega) (by omega)), if_neg (by rw [ncl (by omega), hmiss]; decide), bind_eta]
    · unfold FX10_load FX10_isSheet; rw [within_eq, g1, if_neg (by decide), if_pos (inb_t (by omega) (by omega)), if_pos (by rw [ncl (by omega), hm 128 (by omega)]; exact z), bind_eta]
  rw [if_neg z] at hmiss
  obtain ⟨n, hn, en⟩ : ∃ n, n ≤ 40 ∧ u 129 s = nI n := ⟨_, sz.2, sz.1⟩
  obtain ⟨N, N1, N2, N3⟩ := first_not (loP (fun i => u 130 (40 * s + i))) (min n (nw (u 117)))
  obtain ⟨o, ⟨o1, o2, o3⟩, oe⟩ := c_load (u := u) (s := s) (n := n) (N := N) hs' hR hW hn j3 N1 N2 N3
  have e7 : o.2 117 = u 117 := o3 117 (by omega)
  have me := m_load (m := o.2) (f := fun i => u 130 (40 * s + i)) (s := s) (n := n) (N := N) hs' e7 hW hn (by rw [o3 129 (by omega)]; exact en) (fun i _ => by rw [o3 130 (by omega)]) N1 N2 N3
  refine same_row (x := nI N) (r' := loR (fun i => u 130 (40 * s + i)) (u 117) N) h o2 (loR_wf hW N (by omega) N2) (Fr_Qf o3) ?_ ?_ (Qm_refl _)
  · unfold FX9_load FX9_isSheet
    rw [g1, if_neg (by decide), if_pos (inb_t (by omega) (by omega)), if_pos (by rw [ncl (by omega), hmiss]), if_pos (inb_t (by omega) (by omega)), ncl (by omega), j2, en, q7 hR hW, nmin (by omega) (by omega), oe, bs, o1]
  · unfold FX10_load FX10_isSheet
    rw [within_eq, g1, if_neg (by decide), if_pos (inb_t (by omega) (by omega)), if_neg (by rw [ncl (by omega), o3 128 (by omega)]; exact z), me, bs]
end LOAD
