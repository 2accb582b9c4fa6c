/-! the reader: a row of walks -/
section JUDGE
variable {u m : Mem} {r : Nat → Int32} {B : Nat}
def jR (f : Nat → Int32) (r : Nat → Int32) (c : Nat) : Nat → Nat → Int32
  | 0 => r
  | k + 1 => fiR (tkR (jR f r c k) c (ne r)) c (tn (f k))
def jP (f : Nat → Int32) (r : Nat → Int32) (c k : Nat) : Nat → Int32 := tkR (jR f r c k) c (ne r)
def jOk (f : Nat → Int32) (r : Nat → Int32) (c k : Nat) : Prop := (f k = nI (tn (f k)) ∧ tn (f k) < 7) ∧ Ds (jP f r c k) (cF (jP f r c k) c 0) (cF (jP f r c k) c 1) (tn (f k)) < 1000000
def jG (f : Nat → Int32) (r : Nat → Int32) (c k : Nat) : Nat := gS (stR (jP f r c k) c (tn (f k))) c (tn (f k)) (ne r)
def jS (f : Nat → Int32) (r : Nat → Int32) (c : Nat) : Nat → Nat
  | 0 => 0
  | k + 1 => jS f r c k + jG f r c k
def jW (r q : Nat → Int32) : Prop := Wf q ∧ nc q = nc r ∧ ne q = ne r ∧ ∀ x, 138 ≤ x → q x = r x
theorem jP_ok {f : Nat → Int32} (hw : Wf r) {c k : Nat} (h : jW r (jR f r c k)) : jW r (jP f r c k) := by
  obtain ⟨h1, h2, h3, h4⟩ := h
  have h8 := (ne_eq hw).2
  refine ⟨tkR_wf h1 c _ (by rw [h3]; exact Nat.le_refl _), (tkR_nc c _).trans h2, (tkR_ne c _).trans h3, fun x hx => ?_⟩
  unfold jP
  rw [tkR_hi c hx _ h8]
  exact h4 x hx
theorem jR_ok {f : Nat → Int32} (hw : Wf r) {c : Nat} (hc : c < nc r) : ∀ k, (∀ j, j < k → jOk f r c j) → jW r (jR f r c k)
  | 0, _ => ⟨hw, rfl, rfl, fun _ _ => rfl⟩
  | k + 1, h => by
    obtain ⟨h1, h2, h3, h4⟩ := jP_ok hw (jR_ok hw hc k (fun j hj => h j (by omega)))
    have h6 := (nc_eq hw).2
    have h8 := (ne_eq hw).2
    obtain ⟨⟨-, h5⟩, -⟩ := h k (by omega)
    have e : jR f r c (k + 1) = fiR (jP f r c k) c (tn (f k)) := rfl
    rw [e]
    refine ⟨fiR_wf h1 (by omega) h5, (fiR_nc c _).trans h2, (fiR_ne (by omega) _).trans h3, fun x hx => ?_⟩
    rw [fiR_hi (by omega) (by omega) hx]
    exact h4 x hx
theorem jG_le {f : Nat → Int32} (hw : Wf r) {c k : Nat} (hc : c < nc r) (h : jW r (jP f r c k)) (h7 : tn (f k) < 7) : jG f r c k ≤ 627264 := by
  obtain ⟨h1, h2, h3, h4⟩ := h
  have h6 := (nc_eq hw).2
  have h8 := (ne_eq hw).2
  have W1 := stR_wf h1 (c := c) (t := tn (f k)) (by omega) h7
  have hg := (gS_le W1 c (tn (f k)) (ne r) (by rw [stR_ne, h3]; exact Nat.le_refl _)).2
  unfold jG
  omega
theorem pl_no {x : Int32} (h : ¬ (x = nI (tn x) ∧ tn x < 7)) : FX9_within x 0 6 = 0 := by
  rcases pl_cases x with ⟨k0, -⟩ | ⟨t, ht, rfl, k1⟩
  · exact k0
  · exfalso
    apply h
    have : tn (nI t) = t := ncl (by omega)
    rw [this]
    exact ⟨rfl, ht⟩
theorem pl_yes {x : Int32} (h : x = nI (tn x) ∧ tn x < 7) : FX9_within x 0 6 = 1 := by
  rcases pl_cases x with ⟨k0, kn⟩ | ⟨t, ht, rfl, k1⟩
  · exact absurd h.1 (kn _ h.2)
  · exact k1
theorem c_judge {f : Nat → Int32} {s c n N : Nat} (hs' : s < 4) (hw : Wf r) (hc : c < nc r) (hn : n ≤ 40) (hN : N ≤ n) (e2 : u (108 + 2 * s) 2 = nI n) (e3 : ∀ i, i < 40 → u (108 + 2 * s + 1) i = f i) (hall : ∀ j, j < N → jOk f r c j) (hst : N = n ∨ N < n ∧ ¬ jOk f r c N) {u1 : Mem} (h : Rep u1 65 (jP f r c 0)) (hF : Fr 65 u u1) : ∃ o, (o.1 = (if N = n then 1 else 0) ∧ o.2.1 = nI (jS f r c N) ∧ Fr 65 u o.2.2.2) ∧ lp (BX9_judge_76 (nI s) (nI c)) FU (0, 0, u1) = some o := by
  refine lp_inv (Bf := BX9_judge_76 (nI s) (nI c)) (fun j s' => s'.1 = nI (jS f r c j) ∧ s'.2.1 = nI j ∧ Rep s'.2.2 65 (jP f r c j) ∧ Fr 65 u s'.2.2) (fun o => o.1 = (if N = n then 1 else 0) ∧ o.2.1 = nI (jS f r c N) ∧ Fr 65 u o.2.2.2) (N := N) (by omega) (fun j hj s' hI rec => ?_) (fun s' hI rec => ?_) ⟨rfl, rfl, h, hF⟩
  · obtain ⟨s1, s2, s3⟩ := s'
    obtain ⟨i1, i2, i3, i4⟩ := hI
    have i1 : s1 = nI (jS f r c j) := i1
    have i2 : s2 = nI j := i2
    subst i1
    subst i2
    have i3 : Rep s3 65 (jP f r c j) := i3
    have i4 : Fr 65 u s3 := i4
    left
    have hok := hall j hj
    obtain ⟨⟨t1, t2⟩, t3⟩ := hok
    obtain ⟨p1, p2, p3, p4⟩ := jP_ok (f := f) (c := c) (k := j) hw (jR_ok hw hc j (fun i hi => hall i (by omega)))
    obtain ⟨q1, q2, q3, q4⟩ := jR_ok hw hc (j + 1) (fun i hi => hall i (by omega))
    have hcj : c < nc (jP f r c j) := by rw [p2]; exact hc
    obtain ⟨u4, g1, g2, g3⟩ := c_go i3 p1 hcj t2
    rw [p3] at g1
    have g2 : Rep u4 65 (jR f r c (j + 1)) := g2
    obtain ⟨u5, k1, k2, k3⟩ := c_takeUpAll (c := c) g2 q1 (by rw [q2]; exact hc)
    rw [q3] at k2
    refine ⟨(nI (jS f r c (j + 1)), nI (j + 1), u5), ⟨rfl, rfl, k2, Fr_trans i4 (Fr_trans g3 k3)⟩, ?_⟩
    have ev : s3 (108 + 2 * s + 1) j = nI (tn (f j)) := by rw [i4 _ (by omega), e3 j (by omega)]; exact t1
    have cs : (nI s).toNatClampNeg = s := ncl (by omega)
    have cj : (nI j).toNatClampNeg = j := ncl (by omega)
    have e8 : s3 (108 + 2 * s) 2 = nI n := by rw [i4 (108 + 2 * s) (by omega), e2]
    have hpl : FX9_within (nI (tn (f j))) 0 6 = 1 := pl_yes (by have : tn (nI (tn (f j))) = tn (f j) := ncl (by omega)
                                                                rw [this]; exact ⟨rfl, t2⟩)
    dsimp only [BX9_judge_76]
    simp only [cs, cj, e8, ev, np9, hpl]
    rw [if_pos (inb_t (by omega) (by omega)), if_neg (n_ngt (by omega) (by omega)), if_pos (inb_t (by omega) (by omega)), if_pos (inb_t (by omega) (by omega)), if_neg (by decide), c_yardsTo i3 p1 hcj t2, bs, if_pos (by rw [LM, nlt (by omega) (by omega)]; exact t3), g1, bs]
    dsimp only
    rw [k1, bs, nI_1, nadd]
    rfl
  · obtain ⟨s1, s2, s3⟩ := s'
    obtain ⟨i1, i2, i3, i4⟩ := hI
    have i1 : s1 = nI (jS f r c N) := i1
    have i2 : s2 = nI N := i2
    subst i1
    subst i2
    have i3 : Rep s3 65 (jP f r c N) := i3
    have i4 : Fr 65 u s3 := i4
    rcases hst with hst | ⟨hst, hno⟩
    · refine ⟨(1, nI (jS f r c N), nI N, s3), ⟨(if_pos hst).symm, rfl, i4⟩, ?_⟩
      have cs : (nI s).toNatClampNeg = s := ncl (by omega)
      have e8 : s3 (108 + 2 * s) 2 = nI n := by rw [i4 (108 + 2 * s) (by omega), e2]
      dsimp only [BX9_judge_76]
      simp only [cs, e8]
      rw [if_pos (inb_t (by omega) (by omega)), if_pos (n_ge (by omega) (by omega))]
    · refine ⟨(0, nI (jS f r c N), nI N, s3), ⟨(if_neg (by omega)).symm, rfl, i4⟩, ?_⟩
      have ev : s3 (108 + 2 * s + 1) N = f N := by rw [i4 _ (by omega), e3 N (by omega)]
      obtain ⟨p1, p2, p3, p4⟩ := jP_ok (f := f) (c := c) (k := N) hw (jR_ok hw hc N (fun i hi => hall i (by omega)))
      have hcj : c < nc (jP f r c N) := by rw [p2]; exact hc
      have cs : (nI s).toNatClampNeg = s := ncl (by omega)
      have cj : (nI N).toNatClampNeg = N := ncl (by omega)
      have e8 : s3 (108 + 2 * s) 2 = nI n := by rw [i4 (108 + 2 * s) (by omega), e2]
      dsimp only [BX9_judge_76]
      simp only [cs, cj, e8, ev, np9]
      rw [if_pos (inb_t (by omega) (by omega)), if_neg (n_ngt (by omega) (by omega)), if_pos (inb_t (by omega) (by omega)), if_pos (inb_t (by omega) (by omega))]
      by_cases z : f N = nI (tn (f N)) ∧ tn (f N) < 7
      · have hz : ¬ Ds (jP f r c N) (cF (jP f r c N) c 0) (cF (jP f r c N) c 1) (tn (f N)) < 1000000 := fun y => hno ⟨z, y⟩
        have hl := Ds_le p1 (cF (jP f r c N) c 0) (cF (jP f r c N) c 1) (tn (f N))
        have hy := c_yardsTo i3 p1 hcj z.2
        rw [← z.1] at hy
        rw [if_neg (by rw [pl_yes z]; decide), hy, bs, if_neg (by rw [LM, nlt (by omega) (by omega)]; exact hz)]
      · rw [if_pos (pl_no z)]
theorem m_judge {f : Nat → Int32} {s c n N : Nat} (hs' : s < 4) (hw : Wf r) (hc : c < nc r) (hn : n ≤ 40) (hN : N ≤ n) (hm : m 117 = r) (e2 : m 129 s = nI n) (e3 : ∀ i, i < 40 → m 130 (40 * s + i) = f i) (hall : ∀ j, j < N → jOk f r c j) (hst : N = n ∨ N < n ∧ ¬ jOk f r c N) : ∃ o, ((if N = n then o.1 = nI (jS f r c N) ∧ ∃ g, g ≤ 1000000 ∧ o.2.1 = nI g else o.2.1 = -1) ∧ (∃ q, jW r q ∧ Qm (mrow m 117 q) o.2.2.2) ∧ o.2.2.2 119 = m 119) ∧ lp (BX10_judge_65 (nI s) (nI c)) FU (0, 0, 0, m) = some o := by
  refine lp_inv (Bf := BX10_judge_65 (nI s) (nI c)) (fun j s' => (if j ≤ N then s'.1 = nI (jS f r c j) ∧ (∃ g, g ≤ 1000000 ∧ s'.2.1 = nI g) ∧ Qm (mrow m 117 (jR f r c j)) s'.2.2.2 else s'.2.1 = -1 ∧ (∃ q, jW r q ∧ Qm (mrow m 117 q) s'.2.2.2)) ∧ s'.2.2.1 = nI j ∧ s'.2.2.2 119 = m 119) (fun o => (if N = n then o.1 = nI (jS f r c N) ∧ ∃ g, g ≤ 1000000 ∧ o.2.1 = nI g else o.2.1 = -1) ∧ (∃ q, jW r q ∧ Qm (mrow m 117 q) o.2.2.2) ∧ o.2.2.2 119 = m 119) (N := if N = n then N else N + 1) (by split <;> omega) (fun j hj s' hI rec => ?_) (fun s' hI rec => ?_) ⟨?_, rfl, rfl⟩
  · obtain ⟨s1, s2, s3, s4⟩ := s'
    obtain ⟨i1, i2, i3⟩ := hI
    have hjN : j ≤ N := by
      by_cases y : N = n
      · rw [if_pos y] at hj; omega
      · rw [if_neg y] at hj; omega
    have hjn : j < n := by
      by_cases y : N = n
      · rw [if_pos y] at hj; omega
      · rw [if_neg y] at hj; omega
    rw [if_pos hjN] at i1
    obtain ⟨i1, ⟨g, g1, g2⟩, i4⟩ := i1
    have i1 : s1 = nI (jS f r c j) := i1
    have i2 : s3 = nI j := i2
    have g2 : s2 = nI g := g2
    subst i1
    subst i2
    subst g2
    have i3 : s4 119 = m 119 := i3
    have i4 : Qm (mrow m 117 (jR f r c j)) s4 := i4
    left
    have e7 : s4 117 = jR f r c j := by rw [i4.1 117 (by unfold keepM; omega), mrow_at]
    have e29 : s4 129 s = nI n := by rw [i4.1 129 (by unfold keepM; omega), mrow_ne (by omega), e2]
    have e30 : s4 130 (40 * s + j) = f j := by rw [i4.1 130 (by unfold keepM; omega), mrow_ne (by omega), e3 j (by omega)]
    have hjw := jR_ok (f := f) hw hc j (fun i hi => hall i (by omega))
    obtain ⟨q1, q2, q3, q4⟩ := hjw
    obtain ⟨p1, p2, p3, p4⟩ := jP_ok (f := f) (c := c) (k := j) hw ⟨q1, q2, q3, q4⟩
    have hT := m_takesAll e7 q1 (c := c) (by rw [q2]; exact hc)
    rw [q3] at hT
    have hT : FX10_takesAll (nI c) s4 = some (mrow s4 117 (jP f r c j)) := hT
    have eP : mrow s4 117 (jP f r c j) 117 = jP f r c j := mrow_at _ _ _
    have hcj : c < nc (jP f r c j) := by rw [p2]; exact hc
    have pre : BX10_judge_65 (nI s) (nI c) rec (nI (jS f r c j), nI g, nI j, s4) = (if (FX10_isPlace (f j)) = 0 then rec ((nI (jS f r c j) + (-1)), (-1), nI (j + 1), mrow s4 117 (jP f r c j)) else Option.bind (FX10_walked (nI c) (f j) (mrow s4 117 (jP f r c j))) (fun q6 => rec ((nI (jS f r c j) + q6.1), q6.1, nI (j + 1), q6.2))) := by
      have cs : (nI s).toNatClampNeg = s := ncl (by omega)
      have cj : (nI (40 * s + j)).toNatClampNeg = 40 * s + j := ncl (by omega)
      have ex : 40 * nI s + nI j = nI (40 * s + j) := by rw [show (40 : Int32) = nI 40 from rfl, nmul, nadd]
      dsimp only [BX10_judge_65]
      simp only [ex, cs, cj, e29, e30]
      rw [if_pos (inb_t (by omega) (by omega)), if_neg (n_ngt hjn (by omega)), if_neg (nI_pos (by omega)), if_pos (inb_t (by omega) (by omega)), hT, bs, nI_1]
    rw [pre]
    simp only [np10]
    by_cases hok : jOk f r c j
    · have hjlt : j < N ∨ j = N := by omega
      have hjl : j < N := by
        rcases hjlt with y | y
        · exact y
        · subst y
          rcases hst with y | y
          · omega
          · exact absurd hok y.2
      obtain ⟨⟨t1, t2⟩, t3⟩ := hok
      obtain ⟨m', y1, y2, y3, y4⟩ := m_walk_yes eP p1 hcj t2 t3
      rw [p3] at y1
      have hg : jG f r c j ≤ 627264 := jG_le hw hc ⟨p1, p2, p3, p4⟩ t2
      have y1 : FX10_walked (nI c) (nI (tn (f j))) (mrow s4 117 (jP f r c j)) = some (nI (jG f r c j), m') := y1
      rw [← t1] at y1
      rw [mrow_mrow] at y2
      have hq : Qm (mrow m 117 (jR f r c (j + 1))) m' := Qm_trans (Qm_117' (ρ' := jR f r c (j + 1)) i4) y2
      refine ⟨(nI (jS f r c (j + 1)), nI (jG f r c j), nI (j + 1), m'), ⟨?_, rfl, ?_⟩, ?_⟩
      · rw [if_pos (by omega)]
        exact ⟨rfl, ⟨_, by omega, rfl⟩, hq⟩
      · show m' 119 = _
        rw [y3, mrow_ne (by omega)]; exact i3
      · rw [if_neg (by rw [pl_yes ⟨t1, t2⟩]; decide), y1, bs]
        dsimp only
        rw [nadd]
        rfl
    · have hjN2 : ¬ j < N := fun y => hok (hall j y)
      by_cases z : f j = nI (tn (f j)) ∧ tn (f j) < 7
      · have hz : ¬ Ds (jP f r c j) (cF (jP f r c j) c 0) (cF (jP f r c j) c 1) (tn (f j)) < 1000000 := fun y => hok ⟨z, y⟩
        have y1 := m_walk_no eP p1 hcj z.2 hz
        rw [← z.1] at y1
        refine ⟨(nI (jS f r c j) + (-1), -1, nI (j + 1), _), ⟨?_, rfl, ?_⟩, by rw [if_neg (by rw [pl_yes z]; decide), y1, bs]⟩
        · rw [if_neg (by omega)]
          exact ⟨rfl, jP f r c j, ⟨p1, p2, p3, p4⟩, Qm_trans (Qm_117' (ρ' := jP f r c j) i4) (Qm_mrow (by omega) _)⟩
        · dsimp only
          rw [mrow_ne (by omega), mrow_ne (by omega)]; exact i3
      · refine ⟨(nI (jS f r c j) + (-1), -1, nI (j + 1), mrow s4 117 (jP f r c j)), ⟨?_, rfl, ?_⟩, by rw [if_pos (pl_no z)]⟩
        · rw [if_neg (by omega)]
          exact ⟨rfl, jP f r c j, ⟨p1, p2, p3, p4⟩, Qm_117' (ρ' := jP f r c j) i4⟩
        · dsimp only
          rw [mrow_ne (by omega)]; exact i3
  · obtain ⟨s1, s2, s3, s4⟩ := s'
    obtain ⟨i1, i2, i3⟩ := hI
    have i3 : s4 119 = m 119 := i3
    refine ⟨(s1, s2, s3, s4), ?_, ?_⟩
    · by_cases y : N = n
      · rw [if_pos y] at i1 i2 ⊢
        rw [if_pos (Nat.le_refl _)] at i1
        exact ⟨⟨i1.1, i1.2.1⟩, ⟨jR f r c N, jR_ok hw hc N hall, i1.2.2⟩, i3⟩
      · rw [if_neg y] at i1 i2 ⊢
        rw [if_neg (by omega)] at i1
        exact ⟨i1.1, i1.2, i3⟩
    · have e29 : s4 129 s = nI n := by
        by_cases y : N = n
        · rw [if_pos y, if_pos (Nat.le_refl _)] at i1
          have i4 := i1.2.2
          dsimp only at i4
          rw [i4.1 129 (by unfold keepM; omega), mrow_ne (by omega), e2]
        · rw [if_neg y, if_neg (by omega)] at i1
          obtain ⟨q, -, i4⟩ := i1.2
          dsimp only at i4
          rw [i4.1 129 (by unfold keepM; omega), mrow_ne (by omega), e2]
      have cs : (nI s).toNatClampNeg = s := ncl (by omega)
      dsimp only [BX10_judge_65]
      simp only [cs, e29]
      rw [if_pos (inb_t (by omega) (by omega))]
      by_cases y : N = n
      · rw [if_pos y] at i2
        have i2 : s3 = nI N := i2
        rw [i2, if_pos (n_ge (by omega) (by omega))]
      · rw [if_neg y] at i2
        rw [if_neg y, if_neg (by omega)] at i1
        have i2 : s3 = nI (N + 1) := i2
        have i5 : s2 = -1 := i1.1
        rw [i2, i5]
        by_cases z : n ≤ N + 1
        · rw [if_pos (n_ge z (by omega))]
        · rw [if_neg (n_ngt (by omega) (by omega)), if_pos (by decide)]
  · rw [if_pos (Nat.zero_le _)]
    refine ⟨rfl, ⟨0, by omega, rfl⟩, ?_⟩
    have : mrow m 117 (jR f r c 0) = m := by show mrow m 117 r = m; rw [← hm, mrow_self]
    rw [this]
    exact Qm_refl m
end JUDGE
