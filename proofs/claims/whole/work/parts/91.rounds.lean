/-! calls about rounds, first part -/
section ROUNDS
variable {u m : Mem} {r : Nat → Int32} {B : Nat}
noncomputable def RC (r : Nat → Int32) (c s : Nat) : Nat := RV r (cF r c 0) (bc r c) (cF r c 1) s
theorem RV_le (r : Nat → Int32) (kd W p S : Nat) : RV r kd W p S ≤ 1000000 := (rv_is (aE r) (bE r) (wE r) (Ds r kd) W p S).1
theorem RV_congr {r' : Nat → Int32} (h : ∀ x, (x < 42 ∨ 86 ≤ x) → r' x = r x) (kd W p S : Nat) : RV r' kd W p S = RV r kd W p S := by
  have e1 : eg r' (gt kd) = eg r (gt kd) := eg_congr (fun x hx => h x (Or.inl hx)) _
  have e2 : ∀ e f, eF r' e f = eF r e f := fun e f => congrArg tn (h _ (Or.inr (by omega)))
  have e3 : aE r' = aE r := by funext e; unfold aE; rw [e2]
  have e4 : bE r' = bE r := by funext e; unfold bE; rw [e2]
  have e5 : wE r' = wE r := by funext e; exact e2 e 0
  unfold RV Ds
  rw [e1, e3, e4, e5]
/-- what the reference's loops over rounds may change -/
def Q3 (m m' : Mem) : Prop := (∀ a, a ≠ 116 → a ≠ 121 → a ≠ 122 → a ≠ 123 → m' a = m a) ∧ ∀ j, j ≠ 10 → j ≠ 11 → j ≠ 12 → m' 116 j = m 116 j
theorem Q3_refl (m : Mem) : Q3 m m := ⟨fun _ _ _ _ _ => rfl, fun _ _ _ _ => rfl⟩
theorem Q3_trans {a b c : Mem} (h : Q3 a b) (k : Q3 b c) : Q3 a c := ⟨fun x h1 h2 h3 h4 => by rw [k.1 x h1 h2 h3 h4, h.1 x h1 h2 h3 h4], fun j h1 h2 h3 => by rw [k.2 j h1 h2 h3, h.2 j h1 h2 h3]⟩
theorem Q3_Qm {m m' : Mem} (h : Q3 m m') : Qm m m' := ⟨fun a ha => h.1 a (by unfold keepM at ha; omega) (by unfold keepM at ha; omega) (by unfold keepM at ha; omega) (by unfold keepM at ha; omega), h.2 3 (by omega) (by omega) (by omega), h.2 14 (by omega) (by omega) (by omega)⟩
theorem Q3_rd {m m' : Mem} (h : ∀ a, a ≠ 121 → a ≠ 122 → a ≠ 123 → m' a = m a) : Q3 m m' := ⟨fun a _ h1 h2 h3 => h a h1 h2 h3, fun j _ _ _ => by rw [h 116 (by omega) (by omega) (by omega)]⟩
theorem Q3_mst {j : Nat} (h : j = 10 ∨ j = 11 ∨ j = 12) (m : Mem) (x : Int32) : Q3 m (mst m 116 j x) := ⟨fun a h1 _ _ _ => mst_k h1 _ _, fun i h1 h2 h3 => mst_j (by omega) _ _⟩
theorem Q3_7 {m m' : Mem} (h : Q3 m m') : m' 117 = m 117 := h.1 117 (by omega) (by omega) (by omega) (by omega)
theorem Q3_4 {m m' : Mem} (h : Q3 m m') : m' 124 = m 124 := h.1 124 (by omega) (by omega) (by omega) (by omega)
theorem m_RC (hm : m 117 = r) (hw : Wf r) (hpw : ∀ i, i < 6 → m 124 i = nI (3 ^ i)) {c s : Nat} (hc : c < nc r) (hs2 : s < 2 ^ ne r) (hs' : s < 256) (hp : pcn s ≤ 5) : ∃ m', FX10_roundOf (nI c) (nI s) m = some (nI (RC r c s), m') ∧ Q3 m m' ∧ m' 116 = m 116 := by
  obtain ⟨m', h1, h2, h3⟩ := m_roundOf hm hw hpw hc hs2 hs' hp
  exact ⟨m', h1, Q3_rd h2, h2 116 (by omega) (by omega) (by omega)⟩
theorem c_RC (h : Rep u B r) (hw : Wf r) (hB : B ≤ 65) {c s : Nat} (hc : c < nc r) (hs2 : s < 2 ^ ne r) (hs' : s < 256) (hp : pcn s ≤ 5) : ∃ u', FX9_yardsOfRound B (nI c) (nI s) u = some (nI (RC r c s), u') ∧ RQ u u' ∧ ∀ S, S < 256 → (∀ e, hs S e = true → hs s e = true) → FX4_yardsOfPart (nI S) u' = some (nI (RC r c S)) := by
  have h6 := nc_eq hw
  obtain ⟨u', f1, f2, f3⟩ := c_find h hw hB hc (cK hw hc).2 hs2 hs' hp
  have cc : (nI c).toNatClampNeg = c := ncl (by omega)
  refine ⟨u', ?_, f2, f3⟩
  unfold FX9_yardsOfRound
  rw [if_pos (inb_t (by omega) (by omega)), cc, qK h hw hc, f1, bs, f3 s hs' (fun e he => he), bs]
  rfl
theorem wv_ne : ∀ i, i < 7 → ¬ wv i = 0 := by decide +kernel
theorem lack_cases (h : Inv u) (p1 p2 : Int32) : (∃ i, i < 7 ∧ FX9_roundLack p1 p2 u = some (wv i) ∧ ∀ m, m 117 = u 117 → FX10_refuses p1 p2 m = some (wv i)) ∨ ∃ c s, c < nc (u 117) ∧ s < 2 ^ ne (u 117) ∧ s < 256 ∧ p1 = nI c ∧ p2 = nI s ∧ pcn s ≤ 5 ∧ allLie (u 117) s ∧ FX9_roundLack p1 p2 u = some 0 ∧ ∀ m, m 117 = u 117 → FX10_refuses p1 p2 m = some 0 := by
  have hR := h.1.1
  have hW := h.2.1
  have h6 := nc_eq hW
  unfold FX9_roundLack FX10_refuses
  rcases wi_cases p1 (n := nc (u 117)) (by omega) with ⟨g0, -⟩ | ⟨c, hc, rfl, g1⟩
  · exact Or.inl ⟨0, by omega, by rw [c_has hR hW, g0, if_pos rfl, w0], fun m hm => by rw [m_isC hm hW, g0, if_pos rfl, w0]⟩
  rcases few_cases h p2 with ⟨k0, k1⟩ | ⟨s, hs1, hs2, rfl, hpc, k1, k2⟩
  · exact Or.inl ⟨0, by omega, by rw [c_has hR hW, g1, if_neg (by decide), k0, if_pos rfl, w0], fun m hm => by rw [m_isC hm hW, g1, if_neg (by decide), k1 m hm, bs, if_pos rfl, w0]⟩
  rcases c_allLie hR hW hs2 with ⟨a1, a2⟩ | ⟨a1, a2⟩
  · have am : ∀ m, m 117 = u 117 → FX10_allLie (nI s) m = some 1 := fun m hm => by
      rcases m_allLie hm hW hs2 with ⟨b1, b2⟩ | ⟨b1, b2⟩
      · exact b2
      · exact absurd a1 b1
    have kl := kS_lt hW c
    by_cases z : kS (u 117) c = 0
    · refine Or.inr ⟨c, s, hc, hs1, hs2, rfl, rfl, hpc, a1, ?_, fun m hm => ?_⟩
      · rw [c_has hR hW, g1, if_neg (by decide), k1, if_neg (by decide), a2, bs, if_neg (by decide), c_carriedBy hR hW, bs, z, if_pos (by decide)]
      · rw [m_isC hm hW, g1, if_neg (by decide), k2 m hm, bs, if_neg (by decide), am m hm, bs, if_neg (by decide), m_carries hm hW, bs, z, if_pos (by decide)]
    · refine Or.inl ⟨4, by omega, ?_, fun m hm => ?_⟩
      · rw [c_has hR hW, g1, if_neg (by decide), k1, if_neg (by decide), a2, bs, if_neg (by decide), c_carriedBy hR hW, bs, if_neg (nI_ne0 (by omega) (by omega)), w4]
      · rw [m_isC hm hW, g1, if_neg (by decide), k2 m hm, bs, if_neg (by decide), am m hm, bs, if_neg (by decide), m_carries hm hW, bs, if_neg (nI_ne0 (by omega) (by omega)), w4]
  · have am : ∀ m, m 117 = u 117 → FX10_allLie (nI s) m = some 0 := fun m hm => by
      rcases m_allLie hm hW hs2 with ⟨b1, b2⟩ | ⟨b1, b2⟩
      · exact absurd b1 a1
      · exact b2
    refine Or.inl ⟨4, by omega, ?_, fun m hm => ?_⟩
    · rw [c_has hR hW, g1, if_neg (by decide), k1, if_neg (by decide), a2, bs, if_pos rfl, w4]
    · rw [m_isC hm hW, g1, if_neg (by decide), k2 m hm, bs, if_neg (by decide), am m hm, bs, if_pos rfl, w4]
theorem Ms_pw (h : Inv u) {m : Mem} (hm : m 124 = u 124) : ∀ i, i < 6 → m 124 i = nI (3 ^ i) := fun i hi => by rw [hm]; exact h.2.2.2.2.2 i hi
theorem s_round (h : Inv u) (p1 p2 : Int32) : Same (FX9_round p1 p2) (FX10_round p1 p2) u := by
  have hR := h.1.1
  have hW := h.2.1
  rcases lack_cases h p1 p2 with ⟨i, hi, e1, e2⟩ | ⟨c, s, hc, hs1, hs2, rfl, rfl, hp, hl, e1, e2⟩
  · refine same_fin i hi rfl h (Qc_refl u) ?_ (fun m hm => ⟨m, Qm_refl m, ?_⟩)
    · unfold FX9_round; rw [e1, bs, if_neg (wv_ne i hi), bind_eta]
    · unfold FX10_round; rw [e2 m (hm117 hm), bs, if_neg (wv_ne i hi), bind_eta]
  obtain ⟨u', f1, f2, f3⟩ := c_RC hR hW (by omega) hc hs1 hs2 hp
  have hrl := RV_le (u 117) (cF (u 117) c 0) (bc (u 117) c) (cF (u 117) c 1) s
  have hrl : RC (u 117) c s ≤ 1000000 := hrl
  have C : FX9_round (nI c) (nI s) u = if RC (u 117) c s < 1000000 then some (nI (RC (u 117) c s), u') else FX9_finding (-1000004) u' := by
    unfold FX9_round
    rw [e1, bs, if_pos rfl, f1, bs]
    dsimp only
    rw [bind_eta]
    exact c_orNone hrl
  have M : ∀ m, m 117 = u 117 → m 124 = u 124 → ∃ m', Qm m m' ∧ FX10_round (nI c) (nI s) m = if RC (u 117) c s < 1000000 then some (nI (RC (u 117) c s), m') else FX10_finding (-1000004) m' := by
    intro m hm h4
    obtain ⟨m', g1, g2, g3⟩ := m_RC hm hW (Ms_pw h h4) hc hs1 hs2 hp
    refine ⟨m', Q3_Qm g2, ?_⟩
    unfold FX10_round FX10_told
    rw [e2 m hm, bs, if_pos rfl, g1, bs]
    dsimp only
    rw [bind_eta, bind_eta]
    by_cases z : RC (u 117) c s < 1000000
    · rw [if_pos (by rw [LM, nlt (by omega) (by omega)]; exact z), if_pos z]
    · rw [if_neg (by rw [LM, nlt (by omega) (by omega)]; exact z), if_neg z]
  by_cases z : RC (u 117) c s < 1000000
  · rw [if_pos z] at C
    obtain ⟨m', q1, q2⟩ := M u' (f2 117 (by omega)) (f2 124 (by omega))
    rw [if_pos z] at q2
    exact same_val h (RQ_Qc f2) C q2 q1
  · rw [if_neg z] at C
    refine same_fin 3 (by omega) w3 h (RQ_Qc f2) C (fun m hm => ?_)
    obtain ⟨m', q1, q2⟩ := M m (hm117 hm) (hm 124 (by omega))
    rw [if_neg z] at q2
    exact ⟨m', q1, q2⟩
end ROUNDS
