/-! the middle place -/
section MIDDLE
variable {u m : Mem} {r : Nat → Int32} {B : Nat}
def waN (r : Nat → Int32) (p q : Nat) : Bool := decide (p ≠ q) && decide (tn (r (wy p q)) ≠ 0)
def hyW (r : Nat → Int32) (p : Nat) : Bool := decide (0 < cntS (waN r p) 7)
theorem cnt_pos {P : Nat → Bool} : ∀ n, (∃ k, k < n ∧ P k = true) → 0 < cntS P n
  | 0, ⟨k, h, _⟩ => by omega
  | n + 1, ⟨k, h, hp⟩ => by
    by_cases c : P n = true
    · rw [show cntS P (n + 1) = cntS P n + 1 from if_pos c]; omega
    · rw [show cntS P (n + 1) = cntS P n from if_neg c]
      refine cnt_pos n ⟨k, ?_, hp⟩
      by_cases e : k = n
      · subst e; exact absurd hp c
      · omega
theorem cnt_zero {P : Nat → Bool} : ∀ n, (∀ k, k < n → P k = false) → cntS P n = 0
  | 0, _ => rfl
  | n + 1, h => by
    rw [show cntS P (n + 1) = cntS P n from if_neg (by rw [h n (by omega)]; decide)]
    exact cnt_zero n (fun k hk => h k (by omega))
theorem c_hasAny (h : RepY u B r) (hw : Wf r) {p : Nat} (hp : p < 7) : FX8_hasAny (B + 4) (nI p) u = some (if hyW r p then 1 else 0) := by
  rcases find_loop (Bf := BX8_hasAny_2 (B + 4) (nI p) u) (waN r p) (n := 7) (fo := fun q => (0, nI q)) (fe := (1, nI 7)) (by omega) (fun q hq rec => by
      have hcl : (nI (7 * p + q)).toNatClampNeg = 7 * p + q := ncl (by omega)
      have hY := (h p q hp hq).1
      dsimp only [BX8_hasAny_2]
      unfold FX8_yardsOf
      rw [i7, L7, if_neg (n_ngt hq (by omega)), if_pos (inb_t (by omega) (by omega)), bs, hcl, hY]
      by_cases c : p = q
      · subst c
        rw [if_pos rfl, if_pos (by decide), if_neg (by simp [waN])]
      · have hy := yY hw hp hq c
        rw [if_neg c]
        by_cases z : tn (r (wy p q)) = 0
        · rw [if_pos (by rw [hy.1, z]; decide), if_neg (by simp [waN, z])]
        · rw [if_neg (by rw [hy.1, L0, nle (by omega) (by omega)]; omega), if_pos (by simp [waN, z, c])])
    (fun rec => by
      dsimp only [BX8_hasAny_2]
      rw [L7, if_pos (n_ge (Nat.le_refl _) (by omega))]) with ⟨q, p1, p2, p3, p4⟩ | ⟨p1, p2⟩
  · have : hyW r p = true := decide_eq_true (cnt_pos 7 ⟨q, p1, p2⟩)
    unfold FX8_hasAny
    rw [p4, bs, this]
    rfl
  · have : hyW r p = false := by
      unfold hyW
      rw [cnt_zero 7 p1]
      rfl
    unfold FX8_hasAny
    rw [p2, bs, this]
    rfl
def mdV (r : Nat → Int32) (k p : Nat) : Nat := mxS (hyW r) (Ds r k p) 7
theorem mdV_le (hw : Wf r) (k p : Nat) : mdV r k p ≤ 1000000 := mxS_le _ _ _ 7 (fun q _ _ => Ds_le hw k p q)
theorem c_farthest (h : Rep u B r) (hw : Wf r) {k p : Nat} (hk : k < 7) (hp : p < 7) : FX8_farthest (B + 4) (nI k) (nI p) u = some (nI (mdV r k p)) := by
  refine lp_bind (max_loop (hyW r) (Ds r k p) (n := 7) (by omega) (fun q hq _ => Nat.le_trans (Ds_le hw k p q) (by omega)) (fun q hq a rec => ?_) (fun a rec => ?_)) rfl
  · dsimp only [BX8_farthest_5]
    rw [L7, if_neg (n_ngt hq (by omega)), c_hasAny h.2.2.2.2.2.1 hw hq, bs, b2]
    by_cases y : hyW r q = true
    · rw [if_pos y, if_pos y, c_yardsFor h.2.2.2.2.2.2 hk hp hq, bs]
    · rw [if_neg y, if_neg y]
  · dsimp only [BX8_farthest_5]
    rw [L7, if_pos (n_ge (Nat.le_refl _) (by omega))]
theorem c_middleL (h : Rep u 1 r) (hw : Wf r) {c : Nat} (hc : c < nc r) : lp (BX9_middle_24 (nI c) u) FU (256000000, 0) = some (nI (bm (hyW r) (mdV r (cF r c 0)) (fun p => p) 7), nI 7) := by
  have h6 := nc_eq hw
  have hk := (cK hw hc).2
  refine lp_for (BX9_middle_24 (nI c) u) (fun p => (nI (bm (hyW r) (mdV r (cF r c 0)) (fun p => p) p), nI p)) _ 7 (by omega) (fun p hp rec => ?_) (fun rec => ?_)
  · show BX9_middle_24 (nI c) u rec (nI (bm (hyW r) (mdV r (cF r c 0)) (fun p => p) p), nI p) = rec (nI (bm (hyW r) (mdV r (cF r c 0)) (fun p => p) (p + 1)), nI (p + 1))
    have hb := bm_le (hyW r) (mdV r (cF r c 0)) (fun p => p) p
    have hv := mdV_le hw (cF r c 0) p
    have hcl : (nI c).toNatClampNeg = c := ncl (by omega)
    dsimp only [BX9_middle_24]
    rw [L7, if_neg (n_ngt hp (by omega)), c_hasAny h.2.2.2.2.2.1 hw hp, bs, b2]
    by_cases y : hyW r p = true
    · rw [if_pos y, if_pos (inb_t (by omega) (by omega)), hcl, qK h hw hc, c_farthest h hw hk hp, bs, L256, nmul, nadd, nmin (by omega) (by omega), nI_1, bm_up, if_pos y]
    · rw [if_neg y, nI_1, bm_up, if_neg y]
  · show BX9_middle_24 (nI c) u rec (nI (bm (hyW r) (mdV r (cF r c 0)) (fun p => p) 7), nI 7) = _
    dsimp only [BX9_middle_24]
    rw [L7, if_pos (n_ge (Nat.le_refl _) (by omega))]
/-- the reference: places with ways as a set -/
def wiS (r : Nat → Int32) (a b : Nat) : Nat := if 0 < cntS (waN r a) b then setS (hyW r) a ||| 2 ^ a else setS (hyW r) a
theorem m_mid38 (hm : m 117 = r) (hw : Wf r) {a : Nat} (ha : a < 7) (p1 : Int32) : lp (BX10_middle_38 p1 (nI a) m) FU (nI (setS (hyW r) a), 0) = some (nI (setS (hyW r) (a + 1)), nI 7) := by
  have e7 : setS (hyW r) (a + 1) = wiS r a 7 := by
    have es : setS (hyW r) (a + 1) = if hyW r a = true then setS (hyW r) a + 2 ^ a else setS (hyW r) a := rfl
    rw [es]
    unfold wiS
    by_cases y : 0 < cntS (waN r a) 7
    · rw [if_pos y, setS_or, if_pos (show hyW r a = true from decide_eq_true y)]
    · rw [if_neg y, if_neg (show ¬ hyW r a = true from fun q => y (of_decide_eq_true q))]
  rw [e7]
  refine lp_for (BX10_middle_38 p1 (nI a) m) (fun b => (nI (wiS r a b), nI b)) _ 7 (by omega) (fun b hb rec => ?_) (fun rec => ?_)
  · show BX10_middle_38 p1 (nI a) m rec (nI (wiS r a b), nI b) = rec (nI (wiS r a (b + 1)), nI (b + 1))
    have eno : waN r a b = false → wiS r a (b + 1) = wiS r a b := fun q => by
      unfold wiS
      rw [show cntS (waN r a) (b + 1) = cntS (waN r a) b from if_neg (by rw [q]; decide)]
    dsimp only [BX10_middle_38]
    rw [L7, if_neg (n_ngt hb (by omega))]
    by_cases c : a = b
    · rw [if_pos (by rw [c]), or0, nI_1, eno (by simp [waN, c])]
    · have hl := wy_lt ha hb c
      have hy := yY hw ha hb c
      have hcl : (nI (wy a b)).toNatClampNeg = wy a b := ncl (by omega)
      rw [if_neg (by rw [neq (by omega) (by omega)]; exact c), wayAt_eq ha hb c, if_pos (inb_t (by omega) (by omega))]
      by_cases z : tn (r (wy a b)) = 0
      · rw [if_pos (by rw [hcl, hm, hy.1, z]; decide), or0, nI_1, eno (by simp [waN, z])]
      · have ey : waN r a b = true := by simp [waN, z, c]
        have ec : cntS (waN r a) (b + 1) = cntS (waN r a) b + 1 := if_pos ey
        rw [if_neg (by rw [hcl, hm, hy.1, L0, nle (by omega) (by omega)]; omega), nshl1 (by omega), nor, nI_1]
        have : wiS r a b ||| 2 ^ a = wiS r a (b + 1) := by
          unfold wiS
          rw [ec, if_pos (show 0 < cntS (waN r a) b + 1 by omega)]
          by_cases w : 0 < cntS (waN r a) b
          · rw [if_pos w, Nat.or_assoc, Nat.or_self]
          · rw [if_neg w]
        rw [this]
  · show BX10_middle_38 p1 (nI a) m rec (nI (wiS r a 7), nI 7) = _
    dsimp only [BX10_middle_38]
    rw [L7, if_pos (n_ge (Nat.le_refl _) (by omega))]
theorem m_mid29 (hm : m 117 = r) (hw : Wf r) (p1 : Int32) : lp (BX10_middle_29 p1 m) FU (0, 0) = some (nI (setS (hyW r) 7), nI 7) := by
  refine lp_for (BX10_middle_29 p1 m) (fun a => (nI (setS (hyW r) a), nI a)) _ 7 (by omega) (fun a ha rec => ?_) (fun rec => ?_)
  · show BX10_middle_29 p1 m rec (nI (setS (hyW r) a), nI a) = rec (nI (setS (hyW r) (a + 1)), nI (a + 1))
    dsimp only [BX10_middle_29]
    rw [L7, if_neg (n_ngt ha (by omega)), m_mid38 hm hw ha, bs, nI_1]
  · show BX10_middle_29 p1 m rec (nI (setS (hyW r) 7), nI 7) = _
    dsimp only [BX10_middle_29]
    rw [L7, if_pos (n_ge (Nat.le_refl _) (by omega))]
theorem m_mid123 {k a : Nat} (hw : Wf r) (ha : a < 7) (h21 : ∀ p, p < 7 → m 121 (7 * a + p) = nI (Ds r k a p)) {x0 : Nat} (hx : x0 ≤ 1000000) (p1 v3 v4 : Int32) : lp (BX10_middle_123 p1 (nI (setS (hyW r) 7)) v3 v4 (nI a) m) FU (nI x0, 0) = some (nI (max x0 (mdV r k a)), nI 7) := by
  have h0 : (fun b => (nI (max x0 (mxS (hyW r) (Ds r k a) b)), nI b)) 0 = (nI x0, 0) := by
    show (nI (max x0 0), nI 0) = (nI x0, 0)
    rw [Nat.max_zero]; rfl
  rw [← h0]
  refine lp_for (BX10_middle_123 p1 (nI (setS (hyW r) 7)) v3 v4 (nI a) m) (fun b => (nI (max x0 (mxS (hyW r) (Ds r k a) b)), nI b)) _ 7 (by omega) (fun b hb rec => ?_) (fun rec => ?_)
  · show BX10_middle_123 p1 (nI (setS (hyW r) 7)) v3 v4 (nI a) m rec (nI (max x0 (mxS (hyW r) (Ds r k a) b)), nI b) = rec (nI (max x0 (mxS (hyW r) (Ds r k a) (b + 1))), nI (b + 1))
    have hcl : (nI (7 * a + b)).toNatClampNeg = 7 * a + b := ncl (by omega)
    have hs7 : setS (hyW r) 7 < 256 := setS_256 _ (by omega)
    have hbit : hs (setS (hyW r) 7) b = hyW r b := by rw [setS_bit, decide_eq_true hb]; rfl
    have hd := Ds_le hw k a b
    have hmx := mxS_le (hyW r) (Ds r k a) 1000000 b (fun q _ _ => Ds_le hw k a q)
    dsimp only [BX10_middle_123]
    rw [L7, if_neg (n_ngt hb (by omega)), nhas2 hs7 (by omega), hbit, b2]
    by_cases y : hyW r b = true
    · rw [if_pos y, nmul, nadd, if_pos (inb_t (by omega) (by omega)), hcl, h21 b hb, nmax (by omega) (by omega), nI_1]
      rw [show mxS (hyW r) (Ds r k a) (b + 1) = max (mxS (hyW r) (Ds r k a) b) (Ds r k a b) from if_pos y, Nat.max_assoc]
    · rw [if_neg y, nI_1]
      rw [show mxS (hyW r) (Ds r k a) (b + 1) = mxS (hyW r) (Ds r k a) b from if_neg y]
  · show BX10_middle_123 p1 (nI (setS (hyW r) 7)) v3 v4 (nI a) m rec (nI (max x0 (mxS (hyW r) (Ds r k a) 7)), nI 7) = _
    dsimp only [BX10_middle_123]
    rw [L7, if_pos (n_ge (Nat.le_refl _) (by omega))]
    rfl
theorem m_mid96 {k : Nat} (hw : Wf r) (h21 : ∀ a p, a < 7 → p < 7 → m 121 (7 * a + p) = nI (Ds r k a p)) (p1 : Int32) : lp (BX10_middle_96 p1 (nI (setS (hyW r) 7)) m) FU (-1, 1000000, 0) = some (bT (hyW r) (mdV r k) (fun p => p) 7, nI (bv (hyW r) (mdV r k) 7), nI 7) := by
  have h0 : (fun a => (bT (hyW r) (mdV r k) (fun p => p) a, nI (bv (hyW r) (mdV r k) a), nI a)) 0 = (-1, 1000000, 0) := by
    show (bT (hyW r) (mdV r k) (fun p => p) 0, nI 1000000, nI 0) = (-1, 1000000, 0)
    rw [bT_0]; rfl
  rw [← h0]
  refine lp_for (BX10_middle_96 p1 (nI (setS (hyW r) 7)) m) (fun a => (bT (hyW r) (mdV r k) (fun p => p) a, nI (bv (hyW r) (mdV r k) a), nI a)) _ 7 (by omega) (fun a ha rec => ?_) (fun rec => ?_)
  · show BX10_middle_96 p1 (nI (setS (hyW r) 7)) m rec (bT (hyW r) (mdV r k) (fun p => p) a, nI (bv (hyW r) (mdV r k) a), nI a) = rec (bT (hyW r) (mdV r k) (fun p => p) (a + 1), nI (bv (hyW r) (mdV r k) (a + 1)), nI (a + 1))
    have hs7 : setS (hyW r) 7 < 256 := setS_256 _ (by omega)
    have hbit : hs (setS (hyW r) 7) a = hyW r a := by rw [setS_bit, decide_eq_true ha]; rfl
    have hl := bv_le (hyW r) (mdV r k) a
    have hv := mdV_le hw k a
    dsimp only [BX10_middle_96]
    unfold JX10_middle_118_96
    rw [L7, if_neg (n_ngt ha (by omega)), nhas2 hs7 (by omega), hbit, b2]
    by_cases y : hyW r a = true
    · have q0 := m_mid123 (m := m) (k := k) hw ha (fun p hp => h21 a p ha hp) (x0 := 0) (by omega) p1 (bT (hyW r) (mdV r k) (fun p => p) a) (nI (bv (hyW r) (mdV r k) a))
      rw [show nI 0 = 0 from rfl, Nat.zero_max] at q0
      rw [if_pos y, q0, bs]
      dsimp only
      rw [nmin (by omega) (by omega), nI_1, bT_up, bv_up, if_pos y]
      by_cases z : mdV r k a < bv (hyW r) (mdV r k) a
      · rw [if_neg (n_ngt z (by omega)), if_pos ⟨y, z⟩]
      · rw [if_pos (n_ge (by omega) (by omega)), if_neg (fun q => z q.2)]
    · have q0 := m_mid123 (m := m) (k := k) hw ha (fun p hp => h21 a p ha hp) (x0 := 1000000) (by omega) p1 (bT (hyW r) (mdV r k) (fun p => p) a) (nI (bv (hyW r) (mdV r k) a))
      rw [show nI 1000000 = 1000000 from rfl, Nat.max_eq_left hv, show nI 1000000 = 1000000 from rfl] at q0
      rw [if_neg y, q0, bs]
      dsimp only
      rw [LM, if_pos (n_ge hl (by omega)), nmin (by omega) (by omega), Nat.min_eq_left hl, nI_1, bT_up, bv_up, if_neg y, if_neg (show ¬ (hyW r a = true ∧ mdV r k a < bv (hyW r) (mdV r k) a) from fun q => y q.1)]
  · show BX10_middle_96 p1 (nI (setS (hyW r) 7)) m rec (bT (hyW r) (mdV r k) (fun p => p) 7, nI (bv (hyW r) (mdV r k) 7), nI 7) = _
    dsimp only [BX10_middle_96]
    rw [L7, if_pos (n_ge (Nat.le_refl _) (by omega))]
theorem s_middle (h : Inv u) (p1 : Int32) : Same (FX9_middle p1) (FX10_middle p1) u := by
  have hR := h.1.1
  have hW := h.2.1
  have h6 := nc_eq hW
  rcases wi_cases p1 (n := nc (u 117)) (by omega) with ⟨g0, -⟩ | ⟨c, hc, rfl, g1⟩
  · refine same_fin 0 (by omega) w0 h (Qc_refl u) ?_ (fun m hm => ⟨m, Qm_refl m, ?_⟩)
    · unfold FX9_middle; rw [c_has hR hW, g0, if_pos rfl, bind_eta]
    · unfold FX10_middle; rw [m_isC (hm117 hm) hW, g0, if_pos rfl, bind_eta]
  have hk := (cK hW hc).2
  have hb := bm_le (hyW (u 117)) (mdV (u 117) (cF (u 117) c 0)) (fun p => p) 7
  have C : FX9_middle (nI c) u = if bm (hyW (u 117)) (mdV (u 117) (cF (u 117) c 0)) (fun p => p) 7 < 256000000 then some (nI (bm (hyW (u 117)) (mdV (u 117) (cF (u 117) c 0)) (fun p => p) 7 % 256), u) else FX9_finding (-1000004) u := by
    unfold FX9_middle
    rw [c_has hR hW, g1, if_neg (by decide), c_middleL hR hW hc, bs, bind_eta]
    exact c_second hb
  have M : ∀ m, m 117 = u 117 → FX10_middle (nI c) m = if 0 ≤ bT (hyW (u 117)) (mdV (u 117) (cF (u 117) c 0)) (fun p => p) 7 then some (bT (hyW (u 117)) (mdV (u 117) (cF (u 117) c 0)) (fun p => p) 7, mrow m 121 (tb 49 (flat (Ds (u 117) (cF (u 117) c 0))) (m 121))) else FX10_finding (-1000004) (mrow m 121 (tb 49 (flat (Ds (u 117) (cF (u 117) c 0))) (m 121))) := by
    intro m hm
    have e7 : mrow m 121 (tb 49 (flat (Ds (u 117) (cF (u 117) c 0))) (m 121)) 117 = u 117 := by rw [mrow_ne (by omega)]; exact hm
    unfold FX10_middle
    rw [m_isC hm hW, g1, if_neg (by decide), mK hm hW hc, bs, m_findFar hm hW hk, bs, m_mid29 e7 hW, bs, m_mid96 (k := cF (u 117) c 0) hW (fun a p ha hp => by
      rw [mrow_at, tb_get (by omega)]
      unfold flat
      rw [(dm7 hp).1, (dm7 hp).2]), bs, bind_eta]
  have hQ : ∀ m, Qm m (mrow m 121 (tb 49 (flat (Ds (u 117) (cF (u 117) c 0))) (m 121))) := fun m => Qm_mrow (by omega) _
  rcases best_ok (hyW (u 117)) (mdV (u 117) (cF (u 117) c 0)) (fun p => p) 7 (fun k hk _ => by omega) (fun j k hj hk _ _ => hj) with ⟨b1, b2⟩ | ⟨b1, b2, j, j1, j2, j3⟩
  · have e : bT (hyW (u 117)) (mdV (u 117) (cF (u 117) c 0)) (fun p => p) 7 = -1 := if_neg (by omega)
    rw [if_neg (by omega)] at C
    refine same_fin 3 (by omega) w3 h (Qc_refl u) C (fun m hm => ⟨_, hQ m, ?_⟩)
    rw [M m (hm117 hm), e, if_neg (by decide)]
  · have e : bT (hyW (u 117)) (mdV (u 117) (cF (u 117) c 0)) (fun p => p) 7 = nI j := by unfold bT; rw [if_pos b1, j3]
    rw [if_pos (by omega), b2, j3] at C
    rw [show (bv (hyW (u 117)) (mdV (u 117) (cF (u 117) c 0)) 7 * 256 + (fun p => p) j) % 256 = j by show (_ * 256 + j) % 256 = j; omega] at C
    refine same_val (x := nI j) h (Qc_refl u) C ?_ (hQ u)
    rw [M u rfl, e, if_pos (nI_pos' (by omega))]
end MIDDLE
