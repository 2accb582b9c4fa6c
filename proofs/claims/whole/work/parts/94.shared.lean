/-! calls about rounds: shared, part -/
theorem diff_sub {s p e : Nat} (h : hs (s ^^^ (s &&& p)) e = true) : hs s e = true := by
  unfold hs at h ⊢
  rw [Nat.testBit_xor, Nat.testBit_and] at h
  by_cases c : s.testBit e = true
  · exact c
  · have c2 : s.testBit e = false := by simpa using c
    rw [c2] at h
    cases h
theorem sub_le {p s : Nat} (h : ∀ e, hs p e = true → hs s e = true) : p ≤ s := by
  have e : p = p &&& s := by
    apply Nat.eq_of_testBit_eq
    intro i
    rw [Nat.testBit_and]
    by_cases c : p.testBit i = true
    · have := h i c
      unfold hs at this
      rw [c, this]; rfl
    · have c2 : p.testBit i = false := by simpa using c
      rw [c2]; rfl
  rw [e]
  exact Nat.and_le_right
theorem cnt_mono {P Q : Nat → Bool} : ∀ n, (∀ k, k < n → P k = true → Q k = true) → cntS P n ≤ cntS Q n
  | 0, _ => Nat.le_refl _
  | n + 1, h => by
    have ih := cnt_mono (P := P) (Q := Q) n (fun k hk => h k (by omega))
    by_cases c : P n = true
    · rw [show cntS P (n + 1) = cntS P n + 1 from if_pos c, show cntS Q (n + 1) = cntS Q n + 1 from if_pos (h n (by omega) c)]; omega
    · rw [show cntS P (n + 1) = cntS P n from if_neg c]
      by_cases d : Q n = true
      · rw [show cntS Q (n + 1) = cntS Q n + 1 from if_pos d]; omega
      · rw [show cntS Q (n + 1) = cntS Q n from if_neg d]; exact ih
theorem pcn_sub {p s : Nat} (h : ∀ e, hs p e = true → hs s e = true) : pcn p ≤ pcn s := cnt_mono 8 (fun k _ => h k)
theorem best_end {P : Nat → Bool} {v t : Nat → Nat} {n : Nat} (h1 : ∀ k, k < n → P k = true → t k < 256) (h2 : ∀ j k, j < k → k < n → P j = true → P k = true → t j < t k) : (bv P v n = 1000000 ∧ bm P v t n = 256000000) ∨ (bv P v n < 1000000 ∧ bm P v t n < 256000000 ∧ bm P v t n / 256 = bv P v n ∧ bm P v t n % 256 = ba P v t n) := by
  rcases best_ok P v t n h1 h2 with b | ⟨b1, b2, j, j1, j2, j3⟩
  · exact Or.inl b
  · have := h1 j j1 j2
    right
    refine ⟨b1, by omega, by omega, by omega⟩
section SHARE
variable {u m : Mem} {r : Nat → Int32} {B : Nat}
theorem part_103 (p : Int32) (u : Mem) (ρ : Nat → Int32) : FX4_yardsOfPart p (mrow u 103 ρ) = FX4_yardsOfPart p u := by
  have e1 : BX4_yardsOfPart_4 p (mrow u 103 ρ) = BX4_yardsOfPart_4 p u := by
    funext rec x
    unfold BX4_yardsOfPart_4
    rw [mrow_ne (show 97 ≠ 103 by omega), mrow_ne (show 98 ≠ 103 by omega)]
  have e2 : ∀ v, BX4_yardsOfPart_47 p (mrow u 103 ρ) v = BX4_yardsOfPart_47 p u v := fun v => by
    funext rec x
    unfold BX4_yardsOfPart_47
    rw [mrow_ne (show 102 ≠ 103 by omega)]
  unfold FX4_yardsOfPart
  rw [e1]
  simp only [e2]
def sbP (s p : Nat) : Bool := decide (nI p &&& (nI s ^^^ (-1)) = 0)
theorem sbP_sub {s p : Nat} (hs' : s < 256) (hp : p < 256) (h : sbP s p = true) : ∀ e, hs p e = true → hs s e = true := (sub_bits hp hs').mp (of_decide_eq_true h)
noncomputable def shV (r : Nat → Int32) (a b s p : Nat) : Nat := RC r a p + RC r b (s ^^^ (s &&& p))
theorem shV_le (r : Nat → Int32) (a b s p : Nat) : shV r a b s p ≤ 2000000 := by
  have h1 := RC_le r a p
  have h2 := RC_le r b (s ^^^ (s &&& p))
  unfold shV
  omega
theorem c_share (h : Rep u 1 r) (hw : Wf r) {a b s : Nat} (ha : a < nc r) (hb : b < nc r) (hs1 : s < 2 ^ ne r) (hs2 : s < 256) (hp : pcn s ≤ 5) : ∃ u', FX9_shortestShare (nI a) (nI b) (nI s) u = some (nI (bm (sbP s) (shV r a b s) (fun p => p) (s + 1)), u') ∧ Qc u u' := by
  have h6 := nc_eq hw
  have ca : (nI a).toNatClampNeg = a := ncl (by omega)
  have cb : (nI b).toNatClampNeg = b := ncl (by omega)
  obtain ⟨u1, f1, f2, f3⟩ := c_find h hw (by omega) ha (cK hw ha).2 hs1 hs2 hp
  obtain ⟨o, ⟨ρ, o1, o2⟩, e⟩ := lp_inv (Bf := BX9_shortestShare_28 (nI a) (nI b) (nI s)) (s0 := (0, u1)) (fun p st => st.1 = nI p ∧ ∃ ρ, st.2 = mrow u1 103 ρ ∧ ∀ q, q < p → sbP s q = true → ρ q = nI (RC r a q)) (fun o => ∃ ρ, o.2 = mrow u1 103 ρ ∧ ∀ q, q < s + 1 → sbP s q = true → ρ q = nI (RC r a q)) (N := s + 1) (by omega) (fun p hp' st hI rec => by
      obtain ⟨s1, s2⟩ := st
      obtain ⟨i1, ρ, i2, i3⟩ := hI
      have i1 : s1 = nI p := i1
      have i2 : s2 = mrow u1 103 ρ := i2
      subst i1
      subst i2
      left
      by_cases y : sbP s p = true
      · have hv : FX4_yardsOfPart (nI p) u1 = some (nI (RC r a p)) := f3 p (by omega) (sbP_sub hs2 (by omega) y)
        have cp : (nI p).toNatClampNeg = p := ncl (by omega)
        refine ⟨(nI (p + 1), mrow u1 103 (upd ρ p (nI (RC r a p)))), ⟨rfl, _, rfl, fun q hq hqs => ?_⟩, ?_⟩
        · by_cases z : q = p
          · subst z; exact pk_us
          · rw [pk_un z]; exact i3 q (by omega) hqs
        · dsimp only [BX9_shortestShare_28]
          rw [if_neg (by rw [nlt (by omega) (by omega)]; omega), if_pos (of_decide_eq_true y), part_103, hv, bs, if_pos (inb_t (by omega) (by omega)), cp, mst_mrow, nI_1]
      · refine ⟨(nI (p + 1), mrow u1 103 ρ), ⟨rfl, ρ, rfl, fun q hq hqs => ?_⟩, ?_⟩
        · by_cases z : q = p
          · subst z; exact absurd hqs y
          · exact i3 q (by omega) hqs
        · dsimp only [BX9_shortestShare_28]
          rw [if_neg (by rw [nlt (by omega) (by omega)]; omega), if_neg (fun z => y (decide_eq_true z)), nI_1])
    (fun st hI rec => by
      obtain ⟨s1, s2⟩ := st
      obtain ⟨i1, ρ, i2, i3⟩ := hI
      have i1 : s1 = nI (s + 1) := i1
      have i2 : s2 = mrow u1 103 ρ := i2
      subst i1
      subst i2
      refine ⟨(nI (s + 1), mrow u1 103 ρ), ⟨ρ, rfl, i3⟩, ?_⟩
      dsimp only [BX9_shortestShare_28]
      rw [if_pos (by rw [nlt (by omega) (by omega)]; omega)])
    ⟨rfl, u1 103, (mrow_self u1 103).symm, fun q hq => absurd hq (Nat.not_lt_zero _)⟩
  have q1 : Qc u (mrow u1 103 ρ) := Qc_trans (RQ_Qc f2) (Qc_mrow (by omega) _)
  have R1 : Rep (mrow u1 103 ρ) 1 r := Rep_congr (fun x _ _ => q1.1 x (by omega)) hw h
  obtain ⟨u2, g1, g2, g3⟩ := c_find R1 hw (by omega) hb (cK hw hb).2 hs1 hs2 hp
  have e103 : ∀ q, q < s + 1 → sbP s q = true → u2 103 q = nI (RC r a q) := fun q hq hqs => by rw [g2 103 (by omega), mrow_at]; exact o2 q hq hqs
  refine ⟨u2, ?_, Qc_trans q1 (RQ_Qc g2)⟩
  have lp2 : lp (BX9_shortestShare_98 (nI a) (nI b) (nI s) u2) FU (256000000, 0) = some (nI (bm (sbP s) (shV r a b s) (fun p => p) (s + 1)), nI (s + 1)) := by
    refine lp_for (BX9_shortestShare_98 (nI a) (nI b) (nI s) u2) (fun p => (nI (bm (sbP s) (shV r a b s) (fun p => p) p), nI p)) _ (s + 1) (by omega) (fun p hp' rec => ?_) (fun rec => ?_)
    · show BX9_shortestShare_98 (nI a) (nI b) (nI s) u2 rec (nI (bm (sbP s) (shV r a b s) (fun p => p) p), nI p) = rec (nI (bm (sbP s) (shV r a b s) (fun p => p) (p + 1)), nI (p + 1))
      have hbl := bm_le (sbP s) (shV r a b s) (fun p => p) p
      have hvl := shV_le r a b s p
      have cp : (nI p).toNatClampNeg = p := ncl (by omega)
      dsimp only [BX9_shortestShare_98]
      by_cases y : sbP s p = true
      · obtain ⟨d1, d2⟩ := diff_bits hs2 (show p < 256 by omega)
        have hv : FX4_yardsOfPart (nI (s ^^^ (s &&& p))) u2 = some (nI (RC r b (s ^^^ (s &&& p)))) := g3 _ d2 (fun e he => diff_sub he)
        rw [if_neg (by rw [nlt (by omega) (by omega)]; omega), if_pos (of_decide_eq_true y), if_pos (inb_t (by omega) (by omega)), d1, hv, bs, cp, e103 p hp' y, nadd, L256, nmul, nadd, nmin (by omega) (by unfold shV at hvl; omega), nI_1, bm_up, if_pos y]
        rfl
      · rw [if_neg (by rw [nlt (by omega) (by omega)]; omega), if_neg (fun z => y (decide_eq_true z)), nI_1, bm_up, if_neg y]
    · show BX9_shortestShare_98 (nI a) (nI b) (nI s) u2 rec (nI (bm (sbP s) (shV r a b s) (fun p => p) (s + 1)), nI (s + 1)) = _
      dsimp only [BX9_shortestShare_98]
      rw [if_pos (by rw [nlt (by omega) (by omega)]; omega)]
  unfold FX9_shortestShare
  rw [if_pos (inb_t (by omega) (by omega)), ca, qK h hw ha, f1, bs, e, bs, if_pos (inb_t (by omega) (by omega)), o1, cb, qK R1 hw hb, g1, bs, lp2, bs]
/-- the reference's best so far, in its cells -/
def BQ (m m' : Mem) (P : Nat → Bool) (v t : Nat → Nat) (n j : Nat) : Prop := Q3 m m' ∧ m' 116 11 = nI (bv P v n) ∧ (bv P v n < 1000000 → m' 116 j = nI (ba P v t n))
theorem BQ_0 (m : Mem) (P : Nat → Bool) (v t : Nat → Nat) (j : Nat) : BQ m (mst m 116 11 1000000) P v t 0 j := ⟨Q3_mst (by omega) _ _, mst_s _ _ _ _, fun z => absurd z (Nat.lt_irrefl _)⟩
theorem BQ_no {m m1 m2 : Mem} {P : Nat → Bool} {v t : Nat → Nat} {n j : Nat} (h : BQ m m1 P v t n j) (hq : Q3 m1 m2) (h16 : m2 116 = m1 116) (hn : ¬ (P n = true ∧ v n < bv P v n)) : BQ m m2 P v t (n + 1) j := by
  obtain ⟨h1, h2, h3⟩ := h
  have e1 : bv P v (n + 1) = bv P v n := by
    rw [bv_up]
    by_cases c : P n = true
    · rw [if_pos c, Nat.min_eq_left (by have : ¬ v n < bv P v n := fun z => hn ⟨c, z⟩
                                        omega)]
    · rw [if_neg c]
  have e2 : ba P v t (n + 1) = ba P v t n := if_neg hn
  unfold BQ
  rw [e1, e2, h16]
  exact ⟨Q3_trans h1 hq, h2, h3⟩
theorem BQ_yes {m m1 m2 : Mem} {P : Nat → Bool} {v t : Nat → Nat} {n j : Nat} (hj : j = 10 ∨ j = 12) (h : BQ m m1 P v t n j) (hq : Q3 m1 m2) (hn : P n = true ∧ v n < bv P v n) : BQ m (mst (mst m2 116 11 (nI (v n))) 116 j (nI (t n))) P v t (n + 1) j := by
  obtain ⟨h1, h2, h3⟩ := h
  have e1 : bv P v (n + 1) = v n := by
    rw [bv_up, if_pos hn.1]
    exact Nat.min_eq_right (by have := hn.2; omega)
  have e2 : ba P v t (n + 1) = t n := if_pos hn
  unfold BQ
  rw [e1, e2]
  refine ⟨Q3_trans h1 (Q3_trans hq (Q3_trans (Q3_mst (by omega) _ _) (Q3_mst (by omega) _ _))), ?_, fun _ => mst_s _ _ _ _⟩
  rw [mst_j (by omega), mst_s]
theorem m_share (hI : Inv u) (hm : m 117 = u 117) (h4 : m 124 = u 124) {a b s : Nat} (ha : a < nc (u 117)) (hb : b < nc (u 117)) (hs1 : s < 2 ^ ne (u 117)) (hs2 : s < 256) (hp : pcn s ≤ 5) : ∃ o, BQ m o.2 (sbP s) (shV (u 117) a b s) (fun p => p) (s + 1) 10 ∧ lp (BX10_refusesShared_69 (nI a) (nI b) (nI s)) FU (0, (mst m 116 11 1000000)) = some o := by
  have hW := hI.2.1
  refine lp_inv (Bf := BX10_refusesShared_69 (nI a) (nI b) (nI s)) (fun p st => st.1 = nI p ∧ BQ m st.2 (sbP s) (shV (u 117) a b s) (fun p => p) p 10) (fun o => BQ m o.2 (sbP s) (shV (u 117) a b s) (fun p => p) (s + 1) 10) (N := s + 1) (by omega) (fun p hp' st hIn rec => ?_) (fun st hIn rec => ?_) ⟨rfl, BQ_0 _ _ _ _ _⟩
  · obtain ⟨s1, s2⟩ := st
    obtain ⟨i1, i2⟩ := hIn
    have i1 : s1 = nI p := i1
    subst i1
    have i2 : BQ m s2 (sbP s) (shV (u 117) a b s) (fun p => p) p 10 := i2
    have q7 : s2 117 = u 117 := (Q3_7 i2.1).trans hm
    have q4 : s2 124 = u 124 := (Q3_4 i2.1).trans h4
    have hbl := bv_le (sbP s) (shV (u 117) a b s) p
    have hvl := shV_le (u 117) a b s p
    left
    by_cases y : sbP s p = true
    · have hsub := sbP_sub hs2 (show p < 256 by omega) y
      have hple := sub_le hsub
      obtain ⟨d1, d2⟩ := diff_bits hs2 (show p < 256 by omega)
      have hdle := sub_le (p := s ^^^ (s &&& p)) (s := s) (fun e he => diff_sub he)
      obtain ⟨m1, f1, f2, f3⟩ := m_RC q7 hW (Ms_pw hI q4) ha (show p < 2 ^ ne (u 117) by omega) (show p < 256 by omega) (Nat.le_trans (pcn_sub hsub) hp)
      have q7' : m1 117 = u 117 := (Q3_7 f2).trans q7
      have q4' : m1 124 = u 124 := (Q3_4 f2).trans q4
      obtain ⟨m2, g1, g2, g3⟩ := m_RC q7' hW (Ms_pw hI q4') hb (show s ^^^ (s &&& p) < 2 ^ ne (u 117) by omega) d2 (Nat.le_trans (pcn_sub (fun e he => diff_sub he)) hp)
      have e16 : m2 116 = s2 116 := g3.trans f3
      have e11 : m2 116 11 = nI (bv (sbP s) (shV (u 117) a b s) p) := by rw [e16]; exact i2.2.1
      have pre : BX10_refusesShared_69 (nI a) (nI b) (nI s) rec (nI p, s2) = if nI (bv (sbP s) (shV (u 117) a b s) p) ≤ nI (shV (u 117) a b s p) then rec (nI (p + 1), m2) else rec (nI (p + 1), mst (mst m2 116 11 (nI (shV (u 117) a b s p))) 116 10 (nI p)) := by
        dsimp only [BX10_refusesShared_69]
        rw [if_neg (by rw [nlt (by omega) (by omega)]; omega), if_pos (of_decide_eq_true y), f1, bs, d1]
        dsimp only
        rw [g1, bs]
        dsimp only
        simp only [e11, nadd, nI_1]
        rfl
      by_cases z : shV (u 117) a b s p < bv (sbP s) (shV (u 117) a b s) p
      · exact ⟨(nI (p + 1), mst (mst m2 116 11 (nI (shV (u 117) a b s p))) 116 10 (nI p)), ⟨rfl, BQ_yes (Or.inl rfl) i2 (Q3_trans f2 g2) ⟨y, z⟩⟩, by rw [pre, if_neg (n_ngt z (by omega))]⟩
      · exact ⟨(nI (p + 1), m2), ⟨rfl, BQ_no i2 (Q3_trans f2 g2) e16 (fun q => z q.2)⟩, by rw [pre, if_pos (n_ge (by omega) (by omega))]⟩
    · refine ⟨(nI (p + 1), s2), ⟨rfl, BQ_no i2 (Q3_refl _) rfl (fun q => y q.1)⟩, ?_⟩
      dsimp only [BX10_refusesShared_69]
      rw [if_neg (by rw [nlt (by omega) (by omega)]; omega), if_neg (fun z => y (decide_eq_true z)), nI_1]
  · obtain ⟨s1, s2⟩ := st
    obtain ⟨i1, i2⟩ := hIn
    have i1 : s1 = nI (s + 1) := i1
    subst i1
    refine ⟨(nI (s + 1), s2), i2, ?_⟩
    dsimp only [BX10_refusesShared_69]
    rw [if_pos (by rw [nlt (by omega) (by omega)]; omega)]
theorem share_cases (h : Inv u) (p1 p2 p3 : Int32) : (∃ i, i < 7 ∧ FX9_sharingLack p1 p2 p3 u = some (wv i) ∧ ∀ m, m 117 = u 117 → FX10_refusesShared p1 p2 p3 m = some (wv i, m)) ∨ ∃ a b s, a < nc (u 117) ∧ b < nc (u 117) ∧ s < 2 ^ ne (u 117) ∧ s < 256 ∧ p1 = nI a ∧ p2 = nI b ∧ p3 = nI s ∧ pcn s ≤ 5 ∧ FX9_sharingLack p1 p2 p3 u = some 0 ∧ ∀ m, m 117 = u 117 → FX10_refusesShared p1 p2 p3 m = Option.bind (lp (BX10_refusesShared_69 p1 p2 p3) FU (0, (mst m 116 11 1000000))) (fun q69_10 => (if (q69_10.2 116 11) < 1000000 then some (0, q69_10.2) else some ((-1000004), q69_10.2))) := by
  have hR := h.1.1
  have hW := h.2.1
  have h6 := nc_eq hW
  unfold FX9_sharingLack FX10_refusesShared FX9_roundLack
  rcases wi_cases p1 (n := nc (u 117)) (by omega) with ⟨g0, -⟩ | ⟨a, ha, rfl, g1⟩
  · refine Or.inl ⟨0, by omega, ?_, fun m hm => by rw [m_isC hm hW, g0, if_pos rfl, w0]⟩
    rw [c_has hR hW p1, g0, c_has hR hW p2]
    by_cases z : p1 = p2
    · rw [if_pos z, w0]
    · rw [if_neg z]
      split
      · rfl
      · rfl
  rcases wi_cases p2 (n := nc (u 117)) (by omega) with ⟨k0, -⟩ | ⟨b, hb, rfl, k1⟩
  · refine Or.inl ⟨0, by omega, ?_, fun m hm => by rw [m_isC hm hW, g1, if_neg (by decide), m_isC hm hW, k0, if_pos rfl, w0]⟩
    by_cases z : nI a = p2
    · rw [if_pos z, w0]
    · rw [if_neg z, c_has hR hW p2, k0, if_pos rfl, w0]
  by_cases z : nI a = nI b
  · refine Or.inl ⟨0, by omega, by rw [if_pos z, w0], fun m hm => by rw [m_isC hm hW, g1, if_neg (by decide), m_isC hm hW, k1, if_neg (by decide), if_pos z, w0]⟩
  rcases few_cases h p3 with ⟨l0, l1⟩ | ⟨s, hs1, hs2, rfl, hpc, l1, l2⟩
  · exact Or.inl ⟨0, by omega, by rw [if_neg z, c_has hR hW (nI b), k1, if_neg (by decide), c_has hR hW (nI a), g1, if_neg (by decide), l0, if_pos rfl]; rfl, fun m hm => by rw [m_isC hm hW, g1, if_neg (by decide), m_isC hm hW, k1, if_neg (by decide), if_neg z, l1 m hm, bs, if_pos rfl, w0]⟩
  rcases c_allLie hR hW hs2 with ⟨a1, a2⟩ | ⟨a1, a2⟩
  · have am : ∀ m, m 117 = u 117 → FX10_allLie (nI s) m = some 1 := fun m hm => by
      rcases m_allLie hm hW hs2 with ⟨b1, b2⟩ | ⟨b1, b2⟩
      · exact b2
      · exact absurd a1 b1
    have kl := kS_lt hW a
    have kl2 := kS_lt hW b
    by_cases y : kS (u 117) a = 0
    · by_cases x : kS (u 117) b = 0
      · refine Or.inr ⟨a, b, s, ha, hb, hs1, hs2, rfl, rfl, rfl, hpc, ?_, fun m hm => ?_⟩
        · rw [if_neg z, c_has hR hW (nI b), k1, if_neg (by decide), c_has hR hW (nI a), g1, if_neg (by decide), l1, if_neg (by decide), a2, bs, if_neg (by decide), c_carriedBy hR hW, bs, y, if_pos (by decide), bs, if_pos rfl, c_carriedBy hR hW, bs, x, if_pos (by decide)]
        · rw [m_isC hm hW, g1, if_neg (by decide), m_isC hm hW, k1, if_neg (by decide), if_neg z, l2 m hm, bs, if_neg (by decide), am m hm, bs, if_neg (by decide), m_carries hm hW, bs, y, if_pos (by decide), m_carries hm hW, bs, x, if_pos (by decide)]
      · refine Or.inl ⟨4, by omega, ?_, fun m hm => ?_⟩
        · rw [if_neg z, c_has hR hW (nI b), k1, if_neg (by decide), c_has hR hW (nI a), g1, if_neg (by decide), l1, if_neg (by decide), a2, bs, if_neg (by decide), c_carriedBy hR hW, bs, y, if_pos (by decide), bs, if_pos rfl, c_carriedBy hR hW, bs, if_neg (nI_ne0 (by omega) (by omega)), w4]
        · rw [m_isC hm hW, g1, if_neg (by decide), m_isC hm hW, k1, if_neg (by decide), if_neg z, l2 m hm, bs, if_neg (by decide), am m hm, bs, if_neg (by decide), m_carries hm hW, bs, y, if_pos (by decide), m_carries hm hW, bs, if_neg (nI_ne0 (by omega) (by omega)), w4]
    · refine Or.inl ⟨4, by omega, ?_, fun m hm => ?_⟩
      · rw [if_neg z, c_has hR hW (nI b), k1, if_neg (by decide), c_has hR hW (nI a), g1, if_neg (by decide), l1, if_neg (by decide), a2, bs, if_neg (by decide), c_carriedBy hR hW, bs, if_neg (nI_ne0 (by omega) (by omega)), bs, if_neg (by decide), w4]
      · rw [m_isC hm hW, g1, if_neg (by decide), m_isC hm hW, k1, if_neg (by decide), if_neg z, l2 m hm, bs, if_neg (by decide), am m hm, bs, if_neg (by decide), m_carries hm hW, bs, if_neg (nI_ne0 (by omega) (by omega)), w4]
  · have am : ∀ m, m 117 = u 117 → FX10_allLie (nI s) m = some 0 := fun m hm => by
      rcases m_allLie hm hW hs2 with ⟨b1, b2⟩ | ⟨b1, b2⟩
      · exact absurd b1 a1
      · exact b2
    refine Or.inl ⟨4, by omega, ?_, fun m hm => ?_⟩
    · rw [if_neg z, c_has hR hW (nI b), k1, if_neg (by decide), c_has hR hW (nI a), g1, if_neg (by decide), l1, if_neg (by decide), a2, bs, if_pos rfl, bs, if_neg (by decide), w4]
    · rw [m_isC hm hW, g1, if_neg (by decide), m_isC hm hW, k1, if_neg (by decide), if_neg z, l2 m hm, bs, if_neg (by decide), am m hm, bs, if_pos rfl, w4]
theorem s_shared (h : Inv u) (p1 p2 p3 : Int32) : Same (FX9_shared p1 p2 p3) (FX10_shared p1 p2 p3) u := by
  rcases share_cases h p1 p2 p3 with ⟨i, hi, e1, e2⟩ | ⟨a, b, s, ha, hb, hs1, hs2, rfl, rfl, rfl, hp, e1, e2⟩
  · refine same_fin i hi rfl h (Qc_refl u) ?_ (fun m hm => ⟨m, Qm_refl m, ?_⟩)
    · unfold FX9_shared; rw [e1, bs, if_neg (wv_ne i hi), bind_eta]
    · unfold FX10_shared; rw [e2 m (hm117 hm), bs, if_neg (wv_ne i hi), bind_eta]
  obtain ⟨u', f1, f2⟩ := c_share h.1.1 h.2.1 ha hb hs1 hs2 hp
  have hbm := bm_le (sbP s) (shV (u 117) a b s) (fun p => p) (s + 1)
  have hbe := best_end (P := sbP s) (v := shV (u 117) a b s) (t := fun p => p) (n := s + 1) (fun k hk _ => by omega) (fun j k hj _ _ _ => hj)
  refine same_if (c := bv (sbP s) (shV (u 117) a b s) (s + 1) < 1000000) (x := nI (bv (sbP s) (shV (u 117) a b s) (s + 1))) 3 (by omega) w3 h f2 ?_ (fun m hm => ?_)
  · unfold FX9_shared
    rw [e1, bs, if_pos rfl, f1, bs]
    dsimp only
    rw [bind_eta, L256, ndiv (by omega) (by omega) (by omega), c_orNone (by omega)]
    rcases hbe with ⟨b1, b2⟩ | ⟨b1, b2, b3, b4⟩
    · rw [b1, b2, if_neg (show ¬ 256000000 / 256 < 1000000 by omega)]
    · rw [b3]
  · obtain ⟨o, o1, oe⟩ := m_share h (hm117 hm) (hm 124 (by omega)) ha hb hs1 hs2 hp
    refine ⟨o.2, Q3_Qm o1.1, ?_⟩
    unfold FX10_shared
    rw [e2 m (hm117 hm), oe, bs, o1.2.1]
    by_cases z : bv (sbP s) (shV (u 117) a b s) (s + 1) < 1000000
    · rw [if_pos (by rw [LM, nlt (by omega) (by omega)]; exact z), if_pos z, bs, if_pos rfl, o1.2.1]
    · have := bv_le (sbP s) (shV (u 117) a b s) (s + 1)
      rw [if_neg (by rw [LM, nlt (by omega) (by omega)]; exact z), if_neg z, bs]
      dsimp only
      rw [if_neg (by decide), bind_eta]
theorem s_part (h : Inv u) (p1 p2 p3 : Int32) : Same (FX9_part p1 p2 p3) (FX10_part p1 p2 p3) u := by
  rcases share_cases h p1 p2 p3 with ⟨i, hi, e1, e2⟩ | ⟨a, b, s, ha, hb, hs1, hs2, rfl, rfl, rfl, hp, e1, e2⟩
  · refine same_fin i hi rfl h (Qc_refl u) ?_ (fun m hm => ⟨m, Qm_refl m, ?_⟩)
    · unfold FX9_part; rw [e1, bs, if_neg (wv_ne i hi), bind_eta]
    · unfold FX10_part; rw [e2 m (hm117 hm), bs, if_neg (wv_ne i hi), bind_eta]
  obtain ⟨u', f1, f2⟩ := c_share h.1.1 h.2.1 ha hb hs1 hs2 hp
  have hbm := bm_le (sbP s) (shV (u 117) a b s) (fun p => p) (s + 1)
  have hbe := best_end (P := sbP s) (v := shV (u 117) a b s) (t := fun p => p) (n := s + 1) (fun k hk _ => by omega) (fun j k hj _ _ _ => hj)
  refine same_if (c := bv (sbP s) (shV (u 117) a b s) (s + 1) < 1000000) (x := nI (ba (sbP s) (shV (u 117) a b s) (fun p => p) (s + 1))) 3 (by omega) w3 h f2 ?_ (fun m hm => ?_)
  · unfold FX9_part
    rw [e1, bs, if_pos rfl, f1, bs]
    dsimp only
    rw [bind_eta, c_second hbm]
    rcases hbe with ⟨b1, b2⟩ | ⟨b1, b2, b3, b4⟩
    · rw [b1, b2, if_neg (show ¬ 256000000 < 256000000 by omega), if_neg (show ¬ 1000000 < 1000000 by omega)]
    · rw [b4, if_pos b2, if_pos b1]
  · obtain ⟨o, o1, oe⟩ := m_share h (hm117 hm) (hm 124 (by omega)) ha hb hs1 hs2 hp
    refine ⟨o.2, Q3_Qm o1.1, ?_⟩
    unfold FX10_part
    rw [e2 m (hm117 hm), oe, bs, o1.2.1]
    by_cases z : bv (sbP s) (shV (u 117) a b s) (s + 1) < 1000000
    · rw [if_pos (by rw [LM, nlt (by omega) (by omega)]; exact z), if_pos z, bs, if_pos rfl, o1.2.2 z]
    · have := bv_le (sbP s) (shV (u 117) a b s) (s + 1)
      rw [if_neg (by rw [LM, nlt (by omega) (by omega)]; exact z), if_neg z, bs]
      dsimp only
      rw [if_neg (by decide), bind_eta]
end SHARE
