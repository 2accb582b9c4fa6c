/-! all that lies by a carrier is taken up, on both sides -/
section TAKE
variable {u m : Mem} {r : Nat → Int32} {B : Nat}

def tkR (r : Nat → Int32) (c : Nat) : Nat → Nat → Int32
  | 0 => r
  | k + 1 => if (eF (tkR r c k) k 3 = 0 ∧ eF (tkR r c k) k 1 = cF (tkR r c k) c 1) ∧ wS (tkR r c k) (kS (tkR r c k) c) + eF (tkR r c k) k 0 ≤ bc (tkR r c k) c then takR (tkR r c k) c k else tkR r c k
theorem tkR_lo (c : Nat) {x : Nat} (hx : x < 86) : ∀ k, tkR r c k x = r x
  | 0 => rfl
  | k + 1 => by
    have ih := tkR_lo c hx k
    unfold tkR
    split
    · unfold takR
      rw [pk_un (by omega), pk_un (by omega)]
      exact ih
    · exact ih
theorem tkR_nc (c k : Nat) : nc (tkR r c k) = nc r := congrArg tn (tkR_lo c (by omega) k)
theorem tkR_ne (c k : Nat) : ne (tkR r c k) = ne r := congrArg tn (tkR_lo c (by omega) k)
theorem tkR_wf (hw : Wf r) (c : Nat) : ∀ k, k ≤ ne r → Wf (tkR r c k)
  | 0, _ => hw
  | k + 1, hk => by
    have ih := tkR_wf hw c k (by omega)
    unfold tkR
    split
    · next z => exact takR_wf ih (by rw [tkR_ne]; omega) z.1.1
    · exact ih
theorem c_takeUpAll (h : Rep u B r) (hw : Wf r) {c : Nat} (hc : c < nc r) : ∃ u', FX2_takeUpAll B (nI c) u = some u' ∧ Rep u' B (tkR r c (ne r)) ∧ Fr B u u' := by
  have h8 := ne_eq hw
  obtain ⟨o, ⟨o1, o2⟩, e⟩ := lp_inv (Bf := BX2_takeUpAll_2 B (nI c)) (s0 := (0, u)) (fun k s => s.1 = nI k ∧ Rep s.2 B (tkR r c k) ∧ Fr B u s.2) (fun o => Rep o.2 B (tkR r c (ne r)) ∧ Fr B u o.2) (N := ne r) (by omega) (fun k hk s hI rec => by
      obtain ⟨s1, s2⟩ := s
      obtain ⟨i1, i2, i3⟩ := hI
      have i1 : s1 = nI k := i1
      subst i1
      have i2 : Rep s2 B (tkR r c k) := i2
      left
      have hwk := tkR_wf hw c k (by omega)
      have hck : c < nc (tkR r c k) := by rw [tkR_nc]; exact hc
      have hkk : k < ne (tkR r c k) := by rw [tkR_ne]; exact hk
      by_cases z : (eF (tkR r c k) k 3 = 0 ∧ eF (tkR r c k) k 1 = cF (tkR r c k) c 1) ∧ wS (tkR r c k) (kS (tkR r c k) c) + eF (tkR r c k) k 0 ≤ bc (tkR r c k) c
      · have et : tkR r c (k + 1) = takR (tkR r c k) c k := if_pos z
        refine ⟨(nI (k + 1), takM s2 B c k), ⟨rfl, by rw [et]; exact takM_Rep i2 hwk hkk z.1.1, Fr_trans i3 (Fr_tak (by omega))⟩, ?_⟩
        dsimp only [BX2_takeUpAll_2]
        rw [if_neg (by rw [q6 i2 hwk, tkR_ne]; exact n_ngt hk (by omega)), c_liesBy i2 hwk hck hkk, bs, if_pos z.1, if_neg (by decide), c_couldAdd i2 hwk hck hkk, bs, if_pos z.2, if_neg (by decide), c_pickUp (by omega), bs, nI_1]
      · have et : tkR r c (k + 1) = tkR r c k := if_neg z
        refine ⟨(nI (k + 1), s2), ⟨rfl, by rw [et]; exact i2, i3⟩, ?_⟩
        dsimp only [BX2_takeUpAll_2]
        rw [if_neg (by rw [q6 i2 hwk, tkR_ne]; exact n_ngt hk (by omega)), c_liesBy i2 hwk hck hkk, bs]
        by_cases y : eF (tkR r c k) k 3 = 0 ∧ eF (tkR r c k) k 1 = cF (tkR r c k) c 1
        · rw [if_pos y, if_neg (by decide), c_couldAdd i2 hwk hck hkk, bs, if_neg (fun q => z ⟨y, q⟩), if_pos rfl, nI_1]
        · rw [if_neg y, if_pos rfl, nI_1])
    (fun s hI rec => by
      obtain ⟨s1, s2⟩ := s
      obtain ⟨i1, i2, i3⟩ := hI
      have i1 : s1 = nI (ne r) := i1
      subst i1
      have i2 : Rep s2 B (tkR r c (ne r)) := i2
      refine ⟨(nI (ne r), s2), ⟨i2, i3⟩, ?_⟩
      dsimp only [BX2_takeUpAll_2]
      rw [if_pos (by rw [q6 i2 (tkR_wf hw c _ (Nat.le_refl _)), tkR_ne]; exact n_ge (Nat.le_refl _) (by omega))])
    ⟨rfl, h, Fr_refl B u⟩
  refine ⟨o.2, ?_, o1, o2⟩
  unfold FX2_takeUpAll
  rw [e, bs]
theorem m_takesAll (hm : m 117 = r) (hw : Wf r) {c : Nat} (hc : c < nc r) : FX10_takesAll (nI c) m = some (mrow m 117 (tkR r c (ne r))) := by
  have h8 := ne_eq hw
  have in1 : lp (BX10_takesAll_2 (nI c)) FU (0, m) = some (nI (ne r), mrow m 117 (tkR r c (ne r))) := by
    have h0 : (fun k => (nI k, mrow m 117 (tkR r c k))) 0 = (0, m) := by
      show (nI 0, mrow m 117 r) = (0, m)
      rw [← hm, mrow_self]; rfl
    rw [← h0]
    refine lp_for (BX10_takesAll_2 (nI c)) (fun k => (nI k, mrow m 117 (tkR r c k))) _ (ne r) (by omega) (fun k hk rec => ?_) (fun rec => ?_)
    · show BX10_takesAll_2 (nI c) rec (nI k, mrow m 117 (tkR r c k)) = rec (nI (k + 1), mrow m 117 (tkR r c (k + 1)))
      have hwk := tkR_wf hw c k (by omega)
      have hck : c < nc (tkR r c k) := by rw [tkR_nc]; exact hc
      have hkk : k < ne (tkR r c k) := by rw [tkR_ne]; exact hk
      have e7 : mrow m 117 (tkR r c k) 117 = tkR r c k := mrow_at _ _ _
      dsimp only [BX10_takesAll_2]
      rw [if_neg (by rw [e7, (ne_eq hwk).1, tkR_ne]; exact n_ngt hk (by omega)), mP e7 hwk hck, bs, m_liesAt e7 hwk hck hkk, bs]
      by_cases z : (eF (tkR r c k) k 3 = 0 ∧ eF (tkR r c k) k 1 = cF (tkR r c k) c 1) ∧ wS (tkR r c k) (kS (tkR r c k) c) + eF (tkR r c k) k 0 ≤ bc (tkR r c k) c
      · have et : tkR r c (k + 1) = takR (tkR r c k) c k := if_pos z
        rw [if_pos z.1, if_neg (by decide), m_fitsTo e7 hwk hck hkk, bs, if_pos z.2, if_neg (by decide), m_taken e7 (by omega), bs, nI_1, et, mrow_mrow]
      · have et : tkR r c (k + 1) = tkR r c k := if_neg z
        by_cases y : eF (tkR r c k) k 3 = 0 ∧ eF (tkR r c k) k 1 = cF (tkR r c k) c 1
        · rw [if_pos y, if_neg (by decide), m_fitsTo e7 hwk hck hkk, bs, if_neg (fun q => z ⟨y, q⟩), if_pos rfl, nI_1, et]
        · rw [if_neg y, if_pos rfl, nI_1, et]
    · show BX10_takesAll_2 (nI c) rec (nI (ne r), mrow m 117 (tkR r c (ne r))) = _
      have hwk := tkR_wf hw c _ (Nat.le_refl _)
      dsimp only [BX10_takesAll_2]
      rw [if_pos (by rw [mrow_at, (ne_eq hwk).1, tkR_ne]; exact n_ge (Nat.le_refl _) (by omega))]
  exact lp_bind in1 rfl
end TAKE
