/-! few errands; who is refused a round; reach, heavy, as -/
def pcn (s : Nat) : Nat := cntS (hs s) 8
section FEW
variable {u m : Mem} {r : Nat → Int32} {B : Nat}
theorem pc_eq {s : Nat} (h : s < 256) : FX10_bits (nI s) = some (nI (pcn s)) ∧ bitCount (nI s) = nI (pcn s) ∧ pcn s ≤ 8 := by
  have key : ∀ s, s < 256 → FX10_bits (nI s) = some (nI (pcn s)) ∧ bitCount (nI s) = nI (pcn s) ∧ pcn s ≤ 8 := by decide +kernel
  exact key s h
theorem pw_le {n : Nat} (h : n ≤ 8) : 2 ^ n ≤ 256 := by
  have : 2 ^ n ≤ 2 ^ 8 := Nat.pow_le_pow_right (by omega) h
  omega
theorem set_cases (hw : Wf r) (p : Int32) : (FX9_within p 0 (jshl 1 (nI (ne r)) - 1) = 0) ∨ ∃ s, s < 2 ^ ne r ∧ s < 256 ∧ p = nI s ∧ FX9_within p 0 (jshl 1 (nI (ne r)) - 1) = 1 := by
  have h8 := (ne_eq hw).2
  have hp := pw_le h8
  rw [nshl1 (by omega)]
  rcases wi_cases p (n := 2 ^ ne r) (by omega) with ⟨g, -⟩ | ⟨s, h1, h2, h3⟩
  · exact Or.inl g
  · exact Or.inr ⟨s, h1, by omega, h2, h3⟩
theorem c_areErrands (h : Rep u 1 r) (hw : Wf r) (p : Int32) : FX9_areErrands p u = FX9_within p 0 (jshl 1 (nI (ne r)) - 1) := by unfold FX9_areErrands; rw [q6 h hw]
theorem m_isSet0 (hm : m 117 = r) (hw : Wf r) {p : Int32} (q : Int32) (h0 : FX9_within p 0 (jshl 1 (nI (ne r)) - 1) = 0) : FX10_isSet p q m = some 0 := by
  unfold FX10_isSet
  rw [hm, (ne_eq hw).1, within_eq, h0, if_pos rfl]
theorem m_isSet1 (hm : m 117 = r) (hw : Wf r) {s n : Nat} (hs' : s < 256) (hn : n < 100) (h1 : FX9_within (nI s) 0 (jshl 1 (nI (ne r)) - 1) = 1) : FX10_isSet (nI s) (nI n) m = some (if pcn s ≤ n then 1 else 0) := by
  obtain ⟨a, b, c⟩ := pc_eq hs'
  unfold FX10_isSet
  rw [hm, (ne_eq hw).1, within_eq, h1, if_neg (by decide), a, bs]
  by_cases z : pcn s ≤ n
  · rw [if_pos z, if_neg (by rw [nlt (by omega) (by omega)]; omega)]
  · rw [if_neg z, if_pos (by rw [nlt (by omega) (by omega)]; omega)]
theorem c_isFew (h : Rep u 1 r) (hw : Wf r) {s : Nat} (hs' : s < 256) (h1 : FX9_within (nI s) 0 (jshl 1 (nI (ne r)) - 1) = 1) : FX9_isFewErrands (nI s) u = if pcn s ≤ 5 then 1 else 0 := by
  obtain ⟨a, b, c⟩ := pc_eq hs'
  unfold FX9_isFewErrands
  rw [c_areErrands h hw, h1, if_neg (by decide), b, L5]
  by_cases z : pcn s ≤ 5
  · rw [if_pos z, if_neg (by rw [nlt (by omega) (by omega)]; omega)]
  · rw [if_neg z, if_pos (by rw [nlt (by omega) (by omega)]; omega)]
theorem c_isFew0 (h : Rep u 1 r) (hw : Wf r) {p : Int32} (h0 : FX9_within p 0 (jshl 1 (nI (ne r)) - 1) = 0) : FX9_isFewErrands p u = 0 := by
  unfold FX9_isFewErrands
  rw [c_areErrands h hw, h0, if_pos rfl]
/-- all of a set lie: s &&& (l ^^^ -1) = 0 -/
theorem sub_bits {s l : Nat} (hs' : s < 256) (hl : l < 256) : (nI s &&& (nI l ^^^ (-1)) = 0) ↔ ∀ e, hs s e = true → hs l e = true := by
  have h1 : (nI s &&& (nI l ^^^ (-1)) = 0) ↔ s &&& l = s := by
    have key : ∀ s, s < 256 → ∀ l, l < 256 → ((nI s &&& (nI l ^^^ (-1)) = 0) ↔ s &&& l = s) := by decide +kernel
    exact key s hs' l hl
  rw [h1]
  constructor
  · intro h e he
    have := congrArg (fun x => x.testBit e) h
    simp only [Nat.testBit_and] at this
    unfold hs at he ⊢
    rw [he] at this
    simpa using this
  · intro h
    apply Nat.eq_of_testBit_eq
    intro e
    rw [Nat.testBit_and]
    by_cases c : s.testBit e = true
    · have := h e c
      unfold hs at this
      rw [c, this]; rfl
    · have c2 : s.testBit e = false := by simpa using c
      rw [c2]; rfl
def allLie (r : Nat → Int32) (s : Nat) : Prop := ∀ e, hs s e = true → hs (eS r 0) e = true
theorem c_allLie (h : Rep u B r) (hw : Wf r) {s : Nat} (hs' : s < 256) : (allLie r s ∧ FX2_allLie B (nI s) u = some 1) ∨ (¬ allLie r s ∧ FX2_allLie B (nI s) u = some 0) := by
  unfold FX2_allLie
  rw [show (0 : Int32) = nI 0 from rfl, c_errandsThat h hw (by omega), bs]
  by_cases z : allLie r s
  · exact Or.inl ⟨z, if_pos ((sub_bits hs' (eS_lt hw 0)).mpr z)⟩
  · exact Or.inr ⟨z, if_neg (fun q => z ((sub_bits hs' (eS_lt hw 0)).mp q))⟩
theorem m_allLie (hm : m 117 = r) (hw : Wf r) {s : Nat} (hs' : s < 256) : (allLie r s ∧ FX10_allLie (nI s) m = some 1) ∨ (¬ allLie r s ∧ FX10_allLie (nI s) m = some 0) := by
  unfold FX10_allLie
  rw [show (0 : Int32) = nI 0 from rfl, m_errandsThat hm hw (by omega), bs]
  by_cases z : allLie r s
  · exact Or.inl ⟨z, if_pos ((sub_bits hs' (eS_lt hw 0)).mpr z)⟩
  · exact Or.inr ⟨z, if_neg (fun q => z ((sub_bits hs' (eS_lt hw 0)).mp q))⟩
theorem s_as (h : Inv u) (p1 p2 : Int32) : Same (FX9_as p1 p2) (FX10_as p1 p2) u := by
  have hR := h.1.1
  have hW := h.2.1
  have h6 := nc_eq hW
  rcases wi_lit p1 (n := 10) (m := 9) (by omega) rfl with ⟨g0, -⟩ | ⟨s, hs', rfl, g1⟩
  · refine same_fin 0 (by omega) w0 h (Qc_refl u) ?_ (fun m hm => ⟨m, Qm_refl m, ?_⟩)
    · unfold FX9_as; rw [g0, if_pos rfl, bind_eta]
    · unfold FX10_as FX10_isSpot; rw [within_eq, g0, if_pos rfl, bind_eta]
  rcases pl_cases p2 with ⟨k0, -⟩ | ⟨k, hk, rfl, k1⟩
  · refine same_fin 0 (by omega) w0 h (Qc_refl u) ?_ (fun m hm => ⟨m, Qm_refl m, ?_⟩)
    · unfold FX9_as; rw [g1, if_neg (by decide), k0, if_pos rfl, bind_eta]
    · unfold FX10_as FX10_isSpot FX10_isKind; rw [within_eq, g1, if_neg (by decide), k0, if_pos rfl, bind_eta]
  have hsp := hR.2.1 s hs'
  rcases hW.2.2.1 s hs' with z | ⟨c, hc, z⟩
  · refine same_fin 5 (by omega) w5 h (Qc_refl u) ?_ (fun m hm => ⟨m, Qm_refl m, ?_⟩)
    · unfold FX9_as
      rw [g1, if_neg (by decide), k1, if_neg (by decide), if_pos (inb_t (by omega) (by omega)), if_pos (by rw [ncl (by omega), hsp, z, c_has hR hW]; unfold FX9_within; rw [if_pos (by decide)]), bind_eta]
    · unfold FX10_as FX10_isSpot FX10_isKind
      rw [within_eq, g1, if_neg (by decide), k1, if_neg (by decide), show (46 : Int32) = nI 46 from rfl, nadd, if_pos (inb_t (by omega) (by omega)), if_neg (by rw [ncl (by omega), hm117 hm, z]; decide), bind_eta]
  · have hkk := cK hW hc
    have hwi : FX9_within (nI c) 0 (nI (nc (u 117)) - 1) = 1 := by
      rcases wi_cases (nI c) (n := nc (u 117)) (by omega) with ⟨_, q⟩ | ⟨_, _, _, q⟩
      · exact absurd rfl (q c hc)
      · exact q
    have hund : ∀ o, o < 7 → ∃ b : Nat, b ≤ 1 ∧ FX3_isUnder (nI (cF (u 117) c 0)) (nI o) u = some (nI b) ∧ FX10_isUnder (nI (cF (u 117) c 0)) (nI o) = some (nI b) := by
      intro o ho
      have key : ∀ k, k < 7 → ∀ o, o < 7 → FX3_isUnder (nI k) (nI o) (fun _ _ => 0) = FX10_isUnder (nI k) (nI o) ∧ (FX10_isUnder (nI k) (nI o) = some (nI 0) ∨ FX10_isUnder (nI k) (nI o) = some (nI 1)) := by decide +kernel
      have k2 := key _ hkk.2 o ho
      have e : FX3_isUnder (nI (cF (u 117) c 0)) (nI o) u = FX3_isUnder (nI (cF (u 117) c 0)) (nI o) (fun _ _ => 0) := rfl
      rcases k2.2 with q | q
      · exact ⟨0, by omega, by rw [e, k2.1, q], q⟩
      · exact ⟨1, by omega, by rw [e, k2.1, q], q⟩
    obtain ⟨b, hb, n1, n2⟩ := hund k hk
    have F9 : FX9_as (nI s) (nI k) u = if b = 0 then FX9_finding (-1000003) u else some (nI c, u) := by
      unfold FX9_as
      rw [g1, if_neg (by decide), k1, if_neg (by decide), if_pos (inb_t (by omega) (by omega)), if_neg (by rw [ncl (by omega), hsp, z, c_has hR hW, hwi]; decide), if_pos (by rw [ncl (by omega), hsp, z]; exact inb_t (by omega) (by omega)), ncl (by omega), hsp, z, ncl (by omega), qK hR hW hc, n1, bs, bind_eta]
      by_cases y : b = 0
      · rw [if_pos y, if_pos (by rw [y]; rfl)]
      · rw [if_neg y, if_neg (by rw [L0, neq (by omega) (by omega)]; exact y)]
    have F10 : ∀ m, m 117 = u 117 → FX10_as (nI s) (nI k) m = if b = 0 then FX10_finding (-1000003) m else some (nI c, m) := fun m hm => by
      unfold FX10_as FX10_isSpot FX10_isKind
      rw [within_eq, g1, if_neg (by decide), k1, if_neg (by decide), show (46 : Int32) = nI 46 from rfl, nadd, if_pos (inb_t (by omega) (by omega)), if_pos (by rw [ncl (by omega), hm, z]; exact nI_pos' (by omega)), ncl (by omega), hm, z, mK hm hW hc, bs, n2, bs, bind_eta]
      by_cases y : b = 0
      · rw [if_pos y, if_pos (by rw [y]; rfl)]
      · rw [if_neg y, if_neg (by rw [L0, neq (by omega) (by omega)]; exact y)]
    by_cases y : b = 0
    · exact same_fin 2 (by omega) w2 h (Qc_refl u) (F9.trans (if_pos y)) (fun m hm => ⟨m, Qm_refl m, (F10 m (hm117 hm)).trans (if_pos y)⟩)
    · exact same_val h (Qc_refl u) (F9.trans (if_neg y)) ((F10 u rfl).trans (if_neg y)) (Qm_refl u)
end FEW
