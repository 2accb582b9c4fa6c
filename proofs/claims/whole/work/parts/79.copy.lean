/-! sheets: copied -/
section COPY
variable {u m : Mem} {r : Nat → Int32} {B : Nat}
theorem cpy_0 (f g : Nat → Int32) (sp dp : Nat) : va_cpy f g sp dp 0 = g := by funext x; exact if_neg (by omega)
theorem cpy_up (f g : Nat → Int32) (sp dp k : Nat) : upd (va_cpy f g sp dp k) (dp + k) (f (sp + k)) = va_cpy f g sp dp (k + 1) := by
  funext x
  unfold upd va_cpy
  by_cases c : x = dp + k
  · rw [if_pos c, if_pos (by omega), show x - dp = k by omega]
  · rw [if_neg c]
    by_cases d : dp ≤ x ∧ x < dp + k
    · rw [if_pos d, if_pos (by omega)]
    · rw [if_neg d, if_neg (by omega)]
theorem m_cp1 {s a b t n : Nat} (hs' : s < 4) (h : a + n ≤ 40) (p : Int32) (q : Int32) : lp (BX10_copy_129 (nI s) (nI a) p q (nI n)) FU (0, m) = some (nI n, mrow m 131 (va_cpy (m 130) (m 131) (40 * s + a) 0 n)) := by
  have h0 : (fun k => (nI k, mrow m 131 (va_cpy (m 130) (m 131) (40 * s + a) 0 k))) 0 = (0, m) := by
    show (nI 0, mrow m 131 (va_cpy (m 130) (m 131) (40 * s + a) 0 0)) = (0, m)
    rw [cpy_0, mrow_self]; rfl
  rw [← h0]
  refine lp_for (BX10_copy_129 (nI s) (nI a) p q (nI n)) (fun k => (nI k, mrow m 131 (va_cpy (m 130) (m 131) (40 * s + a) 0 k))) _ n (by omega) (fun k hk rec => ?_) (fun rec => ?_)
  · show BX10_copy_129 (nI s) (nI a) p q (nI n) rec (nI k, mrow m 131 (va_cpy (m 130) (m 131) (40 * s + a) 0 k)) = rec (nI (k + 1), mrow m 131 (va_cpy (m 130) (m 131) (40 * s + a) 0 (k + 1)))
    have e := cpy_up (m 130) (m 131) (40 * s + a) 0 k
    rw [Nat.zero_add] at e
    dsimp only [BX10_copy_129]
    simp only [L40, nmul, nadd]
    rw [if_neg (n_ngt hk (by omega)), if_pos (inb_t (by omega) (by omega)), if_pos (inb_t (by omega) (by omega)), ncl (by omega), ncl (by omega), nI_1, mrow_ne (by omega), mst_mrow, e]
  · show BX10_copy_129 (nI s) (nI a) p q (nI n) rec (nI n, mrow m 131 (va_cpy (m 130) (m 131) (40 * s + a) 0 n)) = _
    dsimp only [BX10_copy_129]
    rw [if_pos (n_ge (Nat.le_refl _) (by omega))]
theorem m_cp2 {t b n : Nat} (ht : t < 4) (h : b + n ≤ 40) (p : Int32) (q : Int32) : lp (BX10_copy_166 p q (nI t) (nI b) (nI n)) FU (0, m) = some (nI n, mrow m 130 (va_cpy (m 131) (m 130) 0 (40 * t + b) n)) := by
  have h0 : (fun k => (nI k, mrow m 130 (va_cpy (m 131) (m 130) 0 (40 * t + b) k))) 0 = (0, m) := by
    show (nI 0, mrow m 130 (va_cpy (m 131) (m 130) 0 (40 * t + b) 0)) = (0, m)
    rw [cpy_0, mrow_self]; rfl
  rw [← h0]
  refine lp_for (BX10_copy_166 p q (nI t) (nI b) (nI n)) (fun k => (nI k, mrow m 130 (va_cpy (m 131) (m 130) 0 (40 * t + b) k))) _ n (by omega) (fun k hk rec => ?_) (fun rec => ?_)
  · show BX10_copy_166 p q (nI t) (nI b) (nI n) rec (nI k, mrow m 130 (va_cpy (m 131) (m 130) 0 (40 * t + b) k)) = rec (nI (k + 1), mrow m 130 (va_cpy (m 131) (m 130) 0 (40 * t + b) (k + 1)))
    have e := cpy_up (m 131) (m 130) 0 (40 * t + b) k
    rw [Nat.zero_add] at e
    dsimp only [BX10_copy_166]
    simp only [L40, nmul, nadd]
    rw [if_neg (n_ngt hk (by omega)), if_pos (inb_t (by omega) (by omega)), if_pos (inb_t (by omega) (by omega)), ncl (by omega), ncl (by omega), nI_1, mrow_ne (by omega), mst_mrow, e]
  · show BX10_copy_166 p q (nI t) (nI b) (nI n) rec (nI n, mrow m 130 (va_cpy (m 131) (m 130) 0 (40 * t + b) n)) = _
    dsimp only [BX10_copy_166]
    rw [if_pos (n_ge (Nat.le_refl _) (by omega))]
theorem hf_cases {B L : Nat} (p q : Int32) (hL : L ≤ 40) (e : u B 2 = nI L) : (FX5_hasFrom B p q u = 0 ∧ ¬ ∃ a n, p = nI a ∧ q = nI n ∧ a + n ≤ L) ∨ ∃ a n, p = nI a ∧ q = nI n ∧ a + n ≤ L ∧ FX5_hasFrom B p q u = 1 := by
  unfold FX5_hasFrom
  rw [e]
  have inr : ∀ (x : Int32) (k h : Nat), k ≤ h → h < 2147483648 → x = nI k → FX9_within x 0 (nI h) = 1 := fun x k h hk hh hx => by
    rw [hx]
    unfold FX9_within
    rw [if_neg (nI_pos (by omega)), if_neg (by rw [nlt (by omega) (by omega)]; omega)]
  rcases wi_range q (lo := 0) (hi := L) (a := 0) (b := nI L) rfl rfl (by omega) (by omega) with g0 | ⟨n, -, n2, rfl, g1⟩
  · left
    rw [g0, if_pos rfl]
    refine ⟨rfl, fun ⟨a, n, e1, e2, e3⟩ => ?_⟩
    rw [inr q n L (by omega) (by omega) e2] at g0
    exact absurd g0 (by decide)
  · rw [g1, if_neg (by decide), nsub n2]
    rcases wi_range p (lo := 0) (hi := L - n) (a := 0) (b := nI (L - n)) rfl rfl (by omega) (by omega) with k0 | ⟨a, -, a2, rfl, k1⟩
    · left
      rw [k0, if_pos rfl]
      refine ⟨rfl, fun ⟨a, n', e1, e2, e3⟩ => ?_⟩
      have en : n = n' := by
        have hb : n' < 4294967296 ∨ True := Or.inr trivial
        by_cases hn' : n' < 2147483648
        · rw [neq (by omega) hn'] at e2; exact e2
        · omega
      rw [inr p a (L - n) (by omega) (by omega) e1] at k0
      exact absurd k0 (by decide)
    · right
      refine ⟨a, n, rfl, rfl, by omega, ?_⟩
      rw [k1, if_neg (by decide)]
theorem lN_tI {n : Nat} (h : n < 8589934592) : (lN n).toInt = (n : Int) := Int64.toInt_ofNat_of_lt (by omega)
theorem long_gt {a n L : Nat} (ha : a < 2147483648) (hn : n < 2147483648) (hL : L ≤ 40) : (0 < lg_cmp ((nI a).toInt64 + (nI n).toInt64) (nI L).toInt64) = (L < a + n) := by
  apply propext
  rw [lg_cmp_gt, nI_l (by omega), nI_l (by omega), nI_l (by omega), lN_add, Int64.lt_iff_toInt_lt, lN_tI (by omega), lN_tI (by omega)]
  omega
theorem long_le {a n L : Nat} (ha : a < 2147483648) (hn : n < 2147483648) (hL : L ≤ 40) : (lg_cmp ((nI a).toInt64 + (nI n).toInt64) (nI L).toInt64 ≤ 0) = (a + n ≤ L) := by
  apply propext
  rw [lg_cmp_le, nI_l (by omega), nI_l (by omega), nI_l (by omega), lN_add, Int64.le_iff_toInt_le, lN_tI (by omega), lN_tI (by omega)]
  omega
theorem s_copy (h : Inv u) (p1 p2 p3 p4 p5 : Int32) : Same (FX9_copy p1 p2 p3 p4 p5) (FX10_copy p1 p2 p3 p4 p5) u := by
  have h5 := h.1.2.2.2.2.1
  have hM := h.2.2.2.2.1
  rcases wi_lit p1 (n := 4) (m := 3) (by omega) rfl with ⟨g0, -⟩ | ⟨s, hs', rfl, g1⟩
  · refine same_fin 0 (by omega) w0 h (Qc_refl u) ?_ (fun m hm => ⟨m, Qm_refl m, ?_⟩)
    · unfold FX9_copy FX9_isSheet; rw [g0, if_pos rfl, bind_eta]
    · unfold FX10_copy FX10_isSheet; rw [within_eq, g0, if_pos rfl, bind_eta]
  rcases wi_lit p3 (n := 4) (m := 3) (by omega) rfl with ⟨k0, -⟩ | ⟨t, ht, rfl, k1⟩
  · refine same_fin 0 (by omega) w0 h (Qc_refl u) ?_ (fun m hm => ⟨m, Qm_refl m, ?_⟩)
    · unfold FX9_copy FX9_isSheet; rw [g1, if_neg (by decide), k0, if_pos rfl, bind_eta]
    · unfold FX10_copy FX10_isSheet; rw [within_eq, g1, if_neg (by decide), k0, if_pos rfl, bind_eta]
  have hs4 : inb (nI s) 4 := inb_t (by omega) (by omega)
  have ht4 : inb (nI t) 4 := inb_t (by omega) (by omega)
  obtain ⟨s1, s2, s3⟩ := h5 s hs'
  obtain ⟨t1, t2, t3⟩ := h5 t ht
  have ms : FX5_isMissing (108 + 2 * s) u = if u 128 s = 0 then 1 else 0 := by unfold FX5_isMissing; rw [s1]
  have mt : FX5_isMissing (108 + 2 * t) u = if u 128 t = 0 then 1 else 0 := by unfold FX5_isMissing; rw [t1]
  by_cases zs : u 128 s = 0
  · rw [if_pos zs] at ms
    refine same_fin 5 (by omega) w5 h (Qc_refl u) ?_ (fun m hm => ⟨m, Qm_refl m, ?_⟩)
    · unfold FX9_copy FX9_isSheet; rw [g1, if_neg (by decide), k1, if_neg (by decide), if_pos hs4, if_neg (by rw [ncl (by omega), ms]; decide), bind_eta]
    · unfold FX10_copy FX10_isSheet; rw [within_eq, g1, if_neg (by decide), k1, if_neg (by decide), if_pos hs4, if_pos (by rw [ncl (by omega), hm 128 (by omega)]; exact zs), bind_eta]
  rw [if_neg zs] at ms
  by_cases zt : u 128 t = 0
  · rw [if_pos zt] at mt
    refine same_fin 5 (by omega) w5 h (Qc_refl u) ?_ (fun m hm => ⟨m, Qm_refl m, ?_⟩)
    · unfold FX9_copy FX9_isSheet; rw [g1, if_neg (by decide), k1, if_neg (by decide), if_pos hs4, if_pos (by rw [ncl (by omega), ms]), if_pos ht4, if_neg (by rw [ncl (by omega), mt]; decide), bind_eta]
    · unfold FX10_copy FX10_isSheet; rw [within_eq, g1, if_neg (by decide), k1, if_neg (by decide), if_pos hs4, if_neg (by rw [ncl (by omega), hm 128 (by omega)]; exact zs), if_pos ht4, if_pos (by rw [ncl (by omega), hm 128 (by omega)]; exact zt), bind_eta]
  rw [if_neg zt] at mt
  have pre9 : FX9_copy (nI s) p2 (nI t) p4 p5 u = (if u 128 s = u 128 t then (if (FX5_hasFrom (108 + 2 * s) p2 p5 u) = 0 then FX9_finding (-1000001) u else (if (FX5_hasFrom (108 + 2 * t) p4 p5 u) = 0 then FX9_finding (-1000001) u else (if ¬ p2 < 0 ∧ ¬ p4 < 0 ∧ ¬ p5 < 0 ∧ (p2).toNatClampNeg + (p5).toNatClampNeg ≤ 40 ∧ (p4).toNatClampNeg + (p5).toNatClampNeg ≤ 40 then some (p5, mcp u (108 + 2 * s + 1) (108 + 2 * t + 1) (p2).toNatClampNeg (p4).toNatClampNeg (p5).toNatClampNeg) else none))) else FX9_finding (-1000003) u) := by
    unfold FX9_copy FX9_isSheet
    have cs : (nI s).toNatClampNeg = s := ncl (by omega)
    have ct : (nI t).toNatClampNeg = t := ncl (by omega)
    simp only [g1, k1, cs, ct, ms, mt, if_pos hs4, if_pos ht4, s1, t1, bind_eta, nm]
    rfl
  have pre10 : ∀ m, Hm u m → FX10_copy (nI s) p2 (nI t) p4 p5 m = (if u 128 s = u 128 t then (if p2 < 0 then FX10_finding (-1000001) m else (if p4 < 0 then FX10_finding (-1000001) m else (if p5 < 0 then FX10_finding (-1000001) m else (if 0 < (lg_cmp ((p2).toInt64 + (p5).toInt64) ((u 129 s)).toInt64) then FX10_finding (-1000001) m else (if (lg_cmp ((p4).toInt64 + (p5).toInt64) ((u 129 t)).toInt64) ≤ 0 then Option.bind (lp (BX10_copy_129 (nI s) p2 (nI t) p4 p5) FU (0, m)) (fun q129_16 => Option.bind (lp (BX10_copy_166 (nI s) p2 (nI t) p4 p5) FU (0, q129_16.2)) (fun q166_20 => some (p5, q166_20.2))) else FX10_finding (-1000001) m))))) else FX10_finding (-1000003) m) := by
    intro m hm
    unfold FX10_copy FX10_isSheet
    have cs : (nI s).toNatClampNeg = s := ncl (by omega)
    have ct : (nI t).toNatClampNeg = t := ncl (by omega)
    simp only [within_eq, g1, k1, cs, ct, if_pos hs4, if_pos ht4, hm 128 (by omega), hm 129 (by omega), if_neg zs, if_neg zt, bind_eta]
    rfl
  by_cases eb : u 128 s = u 128 t
  case neg =>
    rw [if_neg eb] at pre9
    refine same_fin 2 (by omega) w2 h (Qc_refl u) pre9 (fun m hm => ⟨m, Qm_refl m, ?_⟩)
    rw [pre10 m hm, if_neg eb]
  rw [if_pos eb] at pre9
  obtain ⟨ls, hls, es⟩ : ∃ n, n ≤ 40 ∧ u 129 s = nI n := ⟨_, (hM s hs').2.2, (hM s hs').2.1⟩
  obtain ⟨lt, hlt, et⟩ : ∃ n, n ≤ 40 ∧ u 129 t = nI n := ⟨_, (hM t ht).2.2, (hM t ht).2.1⟩
  have bad : (FX5_hasFrom (108 + 2 * s) p2 p5 u = 0 ∧ ¬ ∃ a n, p2 = nI a ∧ p5 = nI n ∧ a + n ≤ ls) ∨ (FX5_hasFrom (108 + 2 * t) p4 p5 u = 0 ∧ ¬ ∃ a n, p4 = nI a ∧ p5 = nI n ∧ a + n ≤ lt) → Same (FX9_copy (nI s) p2 (nI t) p4 p5) (FX10_copy (nI s) p2 (nI t) p4 p5) u := by
    intro hbad
    refine same_fin 0 (by omega) w0 h (Qc_refl u) ?_ (fun m hm => ⟨m, Qm_refl m, ?_⟩)
    · rw [pre9]
      rcases hbad with ⟨b1, -⟩ | ⟨b1, -⟩
      · rw [if_pos b1]
      · rw [if_pos b1]
        split <;> rfl
    · rw [pre10 m hm, if_pos eb, es, et]
      by_cases n2 : p2 < 0
      · rw [if_pos n2]
      rw [if_neg n2]
      by_cases n4 : p4 < 0
      · rw [if_pos n4]
      rw [if_neg n4]
      by_cases n5 : p5 < 0
      · rw [if_pos n5]
      rw [if_neg n5]
      obtain ⟨a, ha, rfl⟩ := nI_of n2
      obtain ⟨b, hb, rfl⟩ := nI_of n4
      obtain ⟨n, hn, rfl⟩ := nI_of n5
      by_cases z : ls < a + n
      · rw [if_pos (by rw [long_gt (by omega) (by omega) hls]; exact z)]
      · rw [if_neg (by rw [long_gt (by omega) (by omega) hls]; exact z), if_neg]
        rw [long_le (by omega) (by omega) hlt]
        intro y
        rcases hbad with ⟨-, b1⟩ | ⟨-, b1⟩
        · exact b1 ⟨a, n, rfl, rfl, by omega⟩
        · exact b1 ⟨b, n, rfl, rfl, by omega⟩
  rcases hf_cases (u := u) (B := 108 + 2 * s) p2 p5 hls (by rw [s2]; exact es) with y | ⟨a, n, rfl, rfl, y1, y2⟩
  · exact bad (Or.inl y)
  rcases hf_cases (u := u) (B := 108 + 2 * t) p4 (nI n) hlt (by rw [t2]; exact et) with x | ⟨b, n', rfl, x0, x1, x2⟩
  · exact bad (Or.inr x)
  have en : n = n' := by
    by_cases hn' : n' < 2147483648
    · rw [neq (by omega) hn'] at x0; exact x0
    · omega
  subst en
  have ca : (nI a).toNatClampNeg = a := ncl (by omega)
  have cb : (nI b).toNatClampNeg = b := ncl (by omega)
  have cn : (nI n).toNatClampNeg = n := ncl (by omega)
  rw [if_neg (by rw [y2]; decide), if_neg (by rw [x2]; decide), ca, cb, cn, if_pos ⟨nI_pos (by omega), nI_pos (by omega), nI_pos (by omega), by omega, by omega⟩] at pre9
  have hH : Hm u (mcp u (108 + 2 * s + 1) (108 + 2 * t + 1) a b n) := fun x hx => mcp_k (by omega) _ _ _
  have pre := pre10 _ hH
  rw [if_pos eb, if_neg (nI_pos (by omega)), if_neg (nI_pos (by omega)), if_neg (nI_pos (by omega)), es, et, if_neg (by rw [long_gt (by omega) (by omega) hls]; omega), if_pos (by rw [long_le (by omega) (by omega) hlt]; omega), m_cp1 (t := 0) (b := 0) hs' (by omega), bs, m_cp2 ht (by omega), bs] at pre
  dsimp only at pre
  have e130 : mcp u (108 + 2 * s + 1) (108 + 2 * t + 1) a b n 130 = u 130 := hH 130 (by omega)
  refine same_sheet h pre9 pre (fun x hx => mcp_k (by omega) _ _ _) (fun x x1 x2 x3 x4 => by rw [mrow_ne x3, mrow_ne x4]) (fun s' hs2 => ?_) (fun s' hs2 => ?_)
  · obtain ⟨j1, j2, j3⟩ := h5 s' hs2
    rw [mrow_ne (show 128 ≠ 130 by omega), mrow_ne (show 128 ≠ 131 by omega), mrow_ne (show 129 ≠ 130 by omega), mrow_ne (show 129 ≠ 131 by omega), hH 128 (by omega), hH 129 (by omega), mrow_at, mrow_at, mrow_ne (show 130 ≠ 131 by omega), e130, mcp_k (show 108 + 2 * s' ≠ 108 + 2 * t + 1 by omega)]
    refine ⟨j1, j2, fun i hi => ?_⟩
    by_cases c : s' = t
    · subst c
      rw [mcp_row]
      by_cases d : b ≤ i ∧ i < b + n
      · rw [pk_cpy_in (by omega) (by omega), pk_cpy_in (by omega) (by omega), pk_cpy_in (by omega) (by omega), s3 _ (by omega)]
        exact congrArg (u 130) (by omega)
      · rw [pk_cpy_out (by omega), pk_cpy_out (by omega)]
        exact j3 i hi
    · rw [mcp_k (by omega), pk_cpy_out (by omega)]
      exact j3 i hi
  · rw [mrow_ne (show 128 ≠ 130 by omega), mrow_ne (show 128 ≠ 131 by omega), mrow_ne (show 129 ≠ 130 by omega), mrow_ne (show 129 ≠ 131 by omega), hH 128 (by omega), hH 129 (by omega)]
    exact hM s' hs2
end COPY
