/-! a fair becomes another one; images -/
theorem lp_inv {σ O : Type} {Bf : (σ → Option O) → σ → Option O} {s0 : σ} (I : Nat → σ → Prop) (Q : O → Prop) {N : Nat} (hN : N < 4096) (hs : ∀ k, k < N → ∀ s, I k s → ∀ rec, (∃ s', I (k + 1) s' ∧ Bf rec s = rec s') ∨ (∃ o, Q o ∧ Bf rec s = some o)) (he : ∀ s, I N s → ∀ rec, ∃ o, Q o ∧ Bf rec s = some o) (h0 : I 0 s0) : ∃ o, Q o ∧ lp Bf FU s0 = some o := by
  have key : ∀ j k, k + j = N → ∀ n, j < n → ∀ s, I k s → ∃ o, Q o ∧ lp Bf n s = some o := by
    intro j
    induction j with
    | zero =>
      intro k hk n hn s hI
      cases n with
      | zero => omega
      | succ n =>
        have : k = N := by omega
        subst this
        exact he s hI _
    | succ j ih =>
      intro k hk n hn s hI
      cases n with
      | zero => omega
      | succ n =>
        rcases hs k (by omega) s hI (lp Bf n) with ⟨s', h1, h2⟩ | h
        · obtain ⟨o, o1, o2⟩ := ih (k + 1) (by omega) n (by omega) s' h1
          exact ⟨o, o1, by show Bf (lp Bf n) s = _; rw [h2, o2]⟩
        · exact h
  exact key N 0 (by omega) FU (by unfold FU; omega) s0 h0
section BECOME
variable {u m : Mem} {r : Nat → Int32} {p q : Nat}
theorem bec0 {a b : Nat} (hab : a ≠ b) (w : Mem) : (∀ f, f < 5 → FX0_become a b w a f = w b f) ∧ ∀ x, x ≠ a → FX0_become a b w x = w x := by
  have hba : ¬ b = a := fun z => hab z.symm
  constructor
  · intro f hf
    have f5 : f = 0 ∨ f = 1 ∨ f = 2 ∨ f = 3 ∨ f = 4 := by omega
    rcases f5 with rfl | rfl | rfl | rfl | rfl <;> simp [FX0_become, nm, mst, upd, hba]
  · intro x hx
    simp [FX0_become, nm, mst, hx]
theorem bec1 {a b : Nat} (hab : a ≠ b) (w : Mem) : (∀ f, f < 5 → FX1_become a b w a f = w b f) ∧ ∀ x, x ≠ a → FX1_become a b w x = w x := by
  have hba : ¬ b = a := fun z => hab z.symm
  constructor
  · intro f hf
    have f5 : f = 0 ∨ f = 1 ∨ f = 2 ∨ f = 3 ∨ f = 4 := by omega
    rcases f5 with rfl | rfl | rfl | rfl | rfl <;> simp [FX1_become, nm, mst, upd, hba]
  · intro x hx
    simp [FX1_become, nm, mst, hx]
theorem c_become (hq : Rep u q r) (hw : Wf r) (hd : p + 32 ≤ q ∨ q + 32 ≤ p) : ∃ u', FX2_become p q u = some u' ∧ Rep u' p r ∧ Fr p u u' := by
  have n6 := nc_eq hw
  have n8 := ne_eq hw
  have n9 := nw_eq hw
  have hq0 := hq
  obtain ⟨k1, k2, k3, k4, k5, k6, k7⟩ := hq
  obtain ⟨k11, k12, k13, k14⟩ := k1
  unfold FX2_become
  dsimp only [nm]
  have hu1 : ∃ u1, u1 = mst (mst (mst (mst u p 5 (u q 5)) p 6 ((mst u p 5 (u q 5)) q 6)) p 7 ((mst (mst u p 5 (u q 5)) p 6 ((mst u p 5 (u q 5)) q 6)) q 7)) p 8 ((mst (mst (mst u p 5 (u q 5)) p 6 ((mst u p 5 (u q 5)) q 6)) p 7 ((mst (mst u p 5 (u q 5)) p 6 ((mst u p 5 (u q 5)) q 6)) q 7)) q 8) := ⟨_, rfl⟩
  obtain ⟨u1, hu1⟩ := hu1
  rw [← hu1]
  have hqp : ¬ q = p := by omega
  have a5 : u1 p 5 = nI (nc r) := by rw [hu1, ← n6.1, ← k11]; simp [mst, upd]
  have a6 : u1 p 6 = nI (ne r) := by rw [hu1, ← n8.1, ← k12]; simp [mst, upd, hqp]
  have a7 : u1 p 7 = nI (nw r) := by rw [hu1, ← n9.1, ← k13]; simp [mst, upd, hqp]
  have a8 : u1 p 8 = r 45 := by rw [hu1, ← k14]; simp [mst, upd, hqp]
  have a0 : ∀ a, a ≠ p → u1 a = u a := fun a ha => by rw [hu1]; simp [mst, ha]
  obtain ⟨o1, ⟨o11, o12⟩, e1⟩ := lp_inv (Bf := BX2_become_34 p q) (s0 := (0, u1)) (fun k s => s.1 = nI k ∧ (∀ c, c < k → ∀ f, f < 5 → s.2 (p + 12 + c) f = u (q + 12 + c) f) ∧ ∀ a, (a < p + 12 ∨ p + 18 ≤ a) → s.2 a = u1 a) (fun o => (∀ c, c < nc r → ∀ f, f < 5 → o.2 (p + 12 + c) f = u (q + 12 + c) f) ∧ ∀ a, (a < p + 12 ∨ p + 18 ≤ a) → o.2 a = u1 a) (N := nc r) (by omega) (fun k hk s hI rec => by
      obtain ⟨s1, s2⟩ := s
      obtain ⟨i1, i2, i3⟩ := hI
      have i1 : s1 = nI k := i1
      subst i1
      left
      refine ⟨(nI (k + 1), FX0_become (p + 12 + k) (q + 12 + k) s2), ⟨rfl, fun c hc f hf => ?_, fun a ha => ?_⟩, ?_⟩
      · obtain ⟨b1, b2⟩ := bec0 (a := p + 12 + k) (b := q + 12 + k) (by omega) s2
        by_cases z : c = k
        · subst z
          show FX0_become (p + 12 + c) (q + 12 + c) s2 (p + 12 + c) f = _
          rw [b1 f hf]
          have : s2 (q + 12 + c) = u1 (q + 12 + c) := i3 _ (by omega)
          rw [this, a0 _ (by omega)]
        · show FX0_become (p + 12 + k) (q + 12 + k) s2 (p + 12 + c) f = _
          rw [b2 _ (by omega)]
          exact i2 c (by omega) f hf
      · obtain ⟨b1, b2⟩ := bec0 (a := p + 12 + k) (b := q + 12 + k) (by omega) s2
        show FX0_become (p + 12 + k) (q + 12 + k) s2 a = _
        rw [b2 _ (by omega)]
        exact i3 a ha
      · have g5 : s2 p 5 = nI (nc r) := by
          have : s2 p = u1 p := i3 p (by omega)
          rw [this]; exact a5
        dsimp only [BX2_become_34]
        rw [if_neg (by rw [g5]; exact n_ngt hk (by omega)), if_pos (inb_t (by omega) (by omega)), if_pos (inb_t (by omega) (by omega)), ncl (by omega), nI_1])
    (fun s hI rec => by
      obtain ⟨s1, s2⟩ := s
      obtain ⟨i1, i2, i3⟩ := hI
      have i1 : s1 = nI (nc r) := i1
      subst i1
      refine ⟨(nI (nc r), s2), ⟨i2, i3⟩, ?_⟩
      have g5 : s2 p 5 = nI (nc r) := by
        have : s2 p = u1 p := i3 p (by omega)
        rw [this]; exact a5
      dsimp only [BX2_become_34]
      rw [if_pos (by rw [g5]; exact n_ge (Nat.le_refl _) (by omega))])
    ⟨rfl, fun c hc => by omega, fun a _ => rfl⟩
  rw [e1, bs]
  obtain ⟨o2, ⟨o21, o22⟩, e2⟩ := lp_inv (Bf := BX2_become_65 p q) (s0 := (0, o1.2)) (fun k s => s.1 = nI k ∧ (∀ c, c < k → ∀ f, f < 5 → s.2 (p + 18 + c) f = u (q + 18 + c) f) ∧ ∀ a, (a < p + 18 ∨ p + 26 ≤ a) → s.2 a = o1.2 a) (fun o => (∀ c, c < ne r → ∀ f, f < 5 → o.2 (p + 18 + c) f = u (q + 18 + c) f) ∧ ∀ a, (a < p + 18 ∨ p + 26 ≤ a) → o.2 a = o1.2 a) (N := ne r) (by omega) (fun k hk s hI rec => by
      obtain ⟨s1, s2⟩ := s
      obtain ⟨i1, i2, i3⟩ := hI
      have i1 : s1 = nI k := i1
      subst i1
      left
      refine ⟨(nI (k + 1), FX1_become (p + 18 + k) (q + 18 + k) s2), ⟨rfl, fun c hc f hf => ?_, fun a ha => ?_⟩, ?_⟩
      · obtain ⟨b1, b2⟩ := bec1 (a := p + 18 + k) (b := q + 18 + k) (by omega) s2
        by_cases z : c = k
        · subst z
          show FX1_become (p + 18 + c) (q + 18 + c) s2 (p + 18 + c) f = _
          rw [b1 f hf]
          have : s2 (q + 18 + c) = o1.2 (q + 18 + c) := i3 _ (by omega)
          rw [this, o12 _ (by omega), a0 _ (by omega)]
        · show FX1_become (p + 18 + k) (q + 18 + k) s2 (p + 18 + c) f = _
          rw [b2 _ (by omega)]
          exact i2 c (by omega) f hf
      · obtain ⟨b1, b2⟩ := bec1 (a := p + 18 + k) (b := q + 18 + k) (by omega) s2
        show FX1_become (p + 18 + k) (q + 18 + k) s2 a = _
        rw [b2 _ (by omega)]
        exact i3 a ha
      · have g5 : s2 p 6 = nI (ne r) := by
          have : s2 p = o1.2 p := i3 p (by omega)
          rw [this, o12 p (by omega)]; exact a6
        dsimp only [BX2_become_65]
        rw [if_neg (by rw [g5]; exact n_ngt hk (by omega)), if_pos (inb_t (by omega) (by omega)), if_pos (inb_t (by omega) (by omega)), ncl (by omega), nI_1])
    (fun s hI rec => by
      obtain ⟨s1, s2⟩ := s
      obtain ⟨i1, i2, i3⟩ := hI
      have i1 : s1 = nI (ne r) := i1
      subst i1
      refine ⟨(nI (ne r), s2), ⟨i2, i3⟩, ?_⟩
      have g5 : s2 p 6 = nI (ne r) := by
        have : s2 p = o1.2 p := i3 p (by omega)
        rw [this, o12 p (by omega)]; exact a6
      dsimp only [BX2_become_65]
      rw [if_pos (by rw [g5]; exact n_ge (Nat.le_refl _) (by omega))])
    ⟨rfl, fun c hc => by omega, fun a _ => rfl⟩
  rw [e2, bs]
  obtain ⟨o3, ⟨o31, o32⟩, e3⟩ := lp_inv (Bf := BX2_become_96 p q) (s0 := (0, o2.2)) (fun k s => s.1 = nI k ∧ (∀ c, c < k → s.2 (p + 26 + c) 0 = u (q + 26 + c) 0 ∧ s.2 (p + 26 + c) 1 = u (q + 26 + c) 1) ∧ ∀ a, (a < p + 26 ∨ p + 32 ≤ a) → s.2 a = o2.2 a) (fun o => (∀ c, c < nw r → o.2 (p + 26 + c) 0 = u (q + 26 + c) 0 ∧ o.2 (p + 26 + c) 1 = u (q + 26 + c) 1) ∧ ∀ a, (a < p + 26 ∨ p + 32 ≤ a) → o.2 a = o2.2 a) (N := nw r) (by omega) (fun k hk s hI rec => by
      obtain ⟨s1, s2⟩ := s
      obtain ⟨i1, i2, i3⟩ := hI
      have i1 : s1 = nI k := i1
      subst i1
      left
      have g6 : ∀ c, c < 6 → s2 (q + 26 + c) = u (q + 26 + c) := fun c hc => by
        have : s2 (q + 26 + c) = o2.2 (q + 26 + c) := i3 _ (by omega)
        rw [this, o22 _ (by omega), o12 _ (by omega), a0 _ (by omega)]
      refine ⟨(nI (k + 1), mst (mst s2 (p + 26 + k) 0 (s2 (q + 26 + k) 0)) (p + 26 + k) 1 ((mst s2 (p + 26 + k) 0 (s2 (q + 26 + k) 0)) (q + 26 + k) 1)), ⟨rfl, fun c hc => ?_, fun a ha => ?_⟩, ?_⟩
      · show mst (mst s2 (p + 26 + k) 0 (s2 (q + 26 + k) 0)) (p + 26 + k) 1 ((mst s2 (p + 26 + k) 0 (s2 (q + 26 + k) 0)) (q + 26 + k) 1) (p + 26 + c) 0 = _ ∧ mst (mst s2 (p + 26 + k) 0 (s2 (q + 26 + k) 0)) (p + 26 + k) 1 ((mst s2 (p + 26 + k) 0 (s2 (q + 26 + k) 0)) (q + 26 + k) 1) (p + 26 + c) 1 = _
        by_cases z : c = k
        · subst z
          rw [mst_j (by omega), mst_s, mst_s, mst_k (by omega), g6 c (by omega)]
          exact ⟨rfl, rfl⟩
        · rw [mst_k (by omega), mst_k (by omega)]
          exact i2 c (by omega)
      · show mst (mst s2 (p + 26 + k) 0 (s2 (q + 26 + k) 0)) (p + 26 + k) 1 ((mst s2 (p + 26 + k) 0 (s2 (q + 26 + k) 0)) (q + 26 + k) 1) a = _
        rw [mst_k (by omega), mst_k (by omega)]
        exact i3 a ha
      · have g5 : s2 p 7 = nI (nw r) := by
          have : s2 p = o2.2 p := i3 p (by omega)
          rw [this, o22 p (by omega), o12 p (by omega)]; exact a7
        dsimp only [BX2_become_96, nm]
        rw [if_neg (by rw [g5]; exact n_ngt hk (by omega)), if_pos (inb_t (by omega) (by omega)), if_pos (inb_t (by omega) (by omega)), if_pos (inb_t (by omega) (by omega)), if_pos (inb_t (by omega) (by omega)), ncl (by omega), nI_1])
    (fun s hI rec => by
      obtain ⟨s1, s2⟩ := s
      obtain ⟨i1, i2, i3⟩ := hI
      have i1 : s1 = nI (nw r) := i1
      subst i1
      refine ⟨(nI (nw r), s2), ⟨i2, i3⟩, ?_⟩
      have g5 : s2 p 7 = nI (nw r) := by
        have : s2 p = o2.2 p := i3 p (by omega)
        rw [this, o22 p (by omega), o12 p (by omega)]; exact a7
      dsimp only [BX2_become_96]
      rw [if_pos (by rw [g5]; exact n_ge (Nat.le_refl _) (by omega))])
    ⟨rfl, fun c hc => by omega, fun a _ => rfl⟩
  rw [e3, bs]
  have hlo : ∀ a, a < p + 12 → o3.2 a = u1 a := fun a ha => by rw [o32 a (by omega), o22 a (by omega), o12 a (by omega)]
  have hout : ∀ a, (a < p ∨ p + 32 ≤ a) → o3.2 a = u a := fun a ha => by rw [o32 a (by omega), o22 a (by omega), o12 a (by omega), a0 a (by omega)]
  unfold FX8_become
  obtain ⟨o4, ⟨o41, o42⟩, e4⟩ := lp_inv (Bf := BX8_become_32 (p + 4) (q + 4)) (s0 := (0, (mcp (mcp o3.2 (q + 4 + 1) (p + 4 + 1) 0 0 49) (q + 4 + 2) (p + 4 + 2) 0 0 49))) (fun k s => s.1 = nI k ∧ (∀ c, c < k → ∀ j, j < 49 → s.2 (p + 4 + 4 + c) j = u (q + 4 + 4 + c) j) ∧ ∀ a, (a < p + 4 + 4 ∨ p + 4 + 7 ≤ a) → s.2 a = (mcp (mcp o3.2 (q + 4 + 1) (p + 4 + 1) 0 0 49) (q + 4 + 2) (p + 4 + 2) 0 0 49) a) (fun o => (∀ c, c < 3 → ∀ j, j < 49 → o.2 (p + 4 + 4 + c) j = u (q + 4 + 4 + c) j) ∧ ∀ a, (a < p + 4 + 4 ∨ p + 4 + 7 ≤ a) → o.2 a = (mcp (mcp o3.2 (q + 4 + 1) (p + 4 + 1) 0 0 49) (q + 4 + 2) (p + 4 + 2) 0 0 49) a) (N := 3) (by omega) (fun k hk s hI rec => by
      obtain ⟨s1, s2⟩ := s
      obtain ⟨i1, i2, i3⟩ := hI
      have i1 : s1 = nI k := i1
      subst i1
      left
      have g6 : s2 (q + 4 + 4 + k) = u (q + 4 + 4 + k) := by
        have : s2 (q + 4 + 4 + k) = (mcp (mcp o3.2 (q + 4 + 1) (p + 4 + 1) 0 0 49) (q + 4 + 2) (p + 4 + 2) 0 0 49) (q + 4 + 4 + k) := i3 _ (by omega)
        rw [this, mcp_k (by omega), mcp_k (by omega), hout _ (by omega)]
      refine ⟨(nI (k + 1), mcp s2 (q + 4 + 4 + k) (p + 4 + 4 + k) 0 0 49), ⟨rfl, fun c hc j hj => ?_, fun a ha => ?_⟩, ?_⟩
      · show mcp s2 (q + 4 + 4 + k) (p + 4 + 4 + k) 0 0 49 (p + 4 + 4 + c) j = _
        by_cases z : c = k
        · subst z
          rw [mcp_row, cpy0 _ _ hj, g6]
        · rw [mcp_k (by omega)]
          exact i2 c (by omega) j hj
      · show mcp s2 (q + 4 + 4 + k) (p + 4 + 4 + k) 0 0 49 a = _
        rw [mcp_k (by omega)]
        exact i3 a ha
      · dsimp only [BX8_become_32]
        rw [show (3 : Int32) = nI 3 from rfl, if_neg (n_ngt hk (by omega)), if_pos (inb_t (by omega) (by omega)), if_pos (inb_t (by omega) (by omega)), ncl (by omega), nI_1])
    (fun s hI rec => by
      obtain ⟨s1, s2⟩ := s
      obtain ⟨i1, i2, i3⟩ := hI
      have i1 : s1 = nI 3 := i1
      subst i1
      refine ⟨(nI 3, s2), ⟨i2, i3⟩, ?_⟩
      dsimp only [BX8_become_32]
      rw [show (3 : Int32) = nI 3 from rfl, if_pos (n_ge (Nat.le_refl _) (by omega))])
    ⟨rfl, fun c hc => by omega, fun a _ => rfl⟩
  rw [e4, bs, bs]
  have hmid : ∀ a, (a < p + 4 + 4 ∨ p + 4 + 7 ≤ a) → a ≠ p + 4 + 1 → a ≠ p + 4 + 2 → o4.2 a = o3.2 a := fun a h1 h2 h3 => by rw [o42 a h1, mcp_k h3, mcp_k h2]
  refine ⟨_, rfl, ⟨?_, fun s hs => ?_, fun c hc f hf => ?_, fun e he f hf => ?_, fun w hw' => ?_, fun i j hi hj => ?_, fun g i j hg hi hj => ?_⟩, fun a ha => ?_⟩
  · unfold RepN
    rw [mcp_k (by omega), hmid p (by omega) (by omega) (by omega), hlo p (by omega), a5, a6, a7, a8, n6.1, n8.1, n9.1]
    exact ⟨rfl, rfl, rfl, rfl⟩
  · rw [mcp_row, cpy0 _ _ hs, hmid _ (by omega) (by omega) (by omega), hout _ (by omega)]
    exact k2 s hs
  · rw [mcp_k (by omega), hmid _ (by omega) (by omega) (by omega), o32 _ (by omega), o22 _ (by omega), o11 c hc f hf]
    exact k3 c hc f hf
  · rw [mcp_k (by omega), hmid _ (by omega) (by omega) (by omega), o32 _ (by omega), o21 e he f hf]
    exact k4 e he f hf
  · unfold RepW
    rw [mcp_k (by omega), hmid _ (by omega) (by omega) (by omega), (o31 w hw').1, (o31 w hw').2]
    exact k5 w hw'
  · rw [mcp_k (by omega), mcp_k (by omega), o42 _ (by omega), o42 _ (by omega), mcp_k (by omega), mcp_row, mcp_row, cpy0 _ _ (by omega), cpy0 _ _ (by omega), mcp_k (by omega), hout _ (by omega), hout _ (by omega)]
    exact k6 i j hi hj
  · rw [mcp_k (by omega), o41 g hg _ (by omega)]
    exact k7 g i j hg hi hj
  · rw [mcp_k (by omega), hmid _ (by omega) (by omega) (by omega), hout a ha]
end BECOME
