/-! the class' tables -/
theorem i7 (a b : Nat) : nI a * 7 + nI b = nI (7 * a + b) := by rw [L7, nmul, nadd, Nat.mul_comm]
theorem j7 (a b : Nat) : 7 * nI a + nI b = nI (7 * a + b) := by rw [L7, nmul, nadd]
theorem find_loop {O : Type} {Bf : (Int32 → Option O) → Int32 → Option O} (P : Nat → Bool) {n : Nat} (hn : n < 4000) {fo : Nat → O} {fe : O} (hs : ∀ k, k < n → ∀ rec, Bf rec (nI k) = if P k = true then some (fo k) else rec (nI k + 1)) (he : ∀ rec, Bf rec (nI n) = some fe) : (∃ k, k < n ∧ P k = true ∧ (∀ j, j < k → P j = false) ∧ lp Bf FU 0 = some (fo k)) ∨ ((∀ j, j < n → P j = false) ∧ lp Bf FU 0 = some fe) := by
  have key : ∀ i k, k + i = n → (∀ j, j < k → P j = false) → ∀ N, i < N → (∃ k', k' < n ∧ P k' = true ∧ (∀ j, j < k' → P j = false) ∧ lp Bf N (nI k) = some (fo k')) ∨ ((∀ j, j < n → P j = false) ∧ lp Bf N (nI k) = some fe) := by
    intro i
    induction i with
    | zero =>
      intro k hk hp N hN
      cases N with
      | zero => omega
      | succ N =>
        right
        have : k = n := by omega
        subst this
        exact ⟨hp, he _⟩
    | succ i ih =>
      intro k hk hp N hN
      cases N with
      | zero => omega
      | succ N =>
        by_cases c : P k = true
        · left
          exact ⟨k, by omega, c, hp, by show Bf (lp Bf N) (nI k) = _; rw [hs k (by omega), if_pos c]⟩
        · have e : lp Bf (N + 1) (nI k) = lp Bf N (nI (k + 1)) := by
            show Bf (lp Bf N) (nI k) = _
            rw [hs k (by omega), if_neg c, nI_1]
          rw [e]
          refine ih (k + 1) (by omega) (fun j hj => ?_) N (by omega)
          by_cases d : j = k
          · rw [d]; simpa using c
          · exact hp j (by omega)
  exact key n 0 (by omega) (fun j hj => by omega) FU (by unfold FU; omega)
theorem cntS_lt {P Q : Nat → Bool} : ∀ n, (∀ k, k < n → P k = true → Q k = true) → (∃ k, k < n ∧ Q k = true ∧ P k = false) → cntS P n < cntS Q n
  | 0, _, h => by obtain ⟨k, h, _⟩ := h; omega
  | n + 1, h, he => by
    have hle : ∀ m, m ≤ n → cntS P m ≤ cntS Q m := by
      intro m
      induction m with
      | zero => intro _; exact Nat.le_refl _
      | succ m ih =>
        intro hm
        have i1 := ih (by omega)
        unfold cntS
        by_cases c : P m = true
        · rw [if_pos c, if_pos (h m (by omega) c)]; omega
        · rw [if_neg c]; split <;> omega
    have hn := hle n (Nat.le_refl n)
    unfold cntS
    obtain ⟨k, k1, k2, k3⟩ := he
    by_cases e : k = n
    · subst e
      rw [if_neg (by rw [k3]; decide), if_pos k2]; omega
    · have ih := cntS_lt n (fun j hj => h j (by omega)) ⟨k, by omega, k2, k3⟩
      by_cases c : P n = true
      · rw [if_pos c, if_pos (h n (by omega) c)]; omega
      · rw [if_neg c]; split <;> omega
theorem fw_edge (e : Nat → Nat → Nat) (i j : Nat) : ∀ v, fw e v i j ≤ e i j
  | 0 => Nat.le_refl _
  | v + 1 => Nat.le_trans (fw_mono e v i j) (fw_edge e i j v)
theorem fw_1188 {e : Nat → Nat → Nat} (h : Eg e) (hp : ∀ i j, i < 7 → j < 7 → i ≠ j → 0 < e i j) {i j : Nat} (hi : i < 7) (hj : j < 7) (hf : fw e 7 i j < NW) : fw e 7 i j ≤ 1188 := by
  have key : ∀ n i, i < 7 → fw e 7 i j ≤ n → fw e 7 i j < NW → fw e 7 i j ≤ 198 * cntS (fun y => decide (fw e 7 y j < fw e 7 i j)) 7 := by
    intro n
    induction n with
    | zero => intro i _ h0 _; omega
    | succ n ih =>
      intro i hi hn hf
      by_cases c : i = j
      · subst c; rw [fw_0 h]; exact Nat.zero_le _
      · obtain ⟨x, x1, x2, x3, x4⟩ := fw_step h 7 i j (Nat.le_refl 7) hi hj c hf
        have p1 := hp i x hi x1 (fun z => x2 z.symm)
        have p2 : e i x ≤ 198 := by
          rcases h.2.2 i x with q | q
          · omega
          · exact q
        have t1 := fw_tri h 7 i j x x1
        have t2 := fw_edge e i x 7
        have i1 := ih x x1 (by omega) (by omega)
        have hc : cntS (fun y => decide (fw e 7 y j < fw e 7 x j)) 7 < cntS (fun y => decide (fw e 7 y j < fw e 7 i j)) 7 := by
          refine cntS_lt 7 (fun k _ z => ?_) ⟨x, x1, ?_, ?_⟩
          · have := of_decide_eq_true z
            exact decide_eq_true (by omega)
          · exact decide_eq_true (by omega)
          · exact decide_eq_false (by omega)
        omega
  have k1 := key _ i hi (Nat.le_refl _) hf
  have hc : cntS (fun y => decide (fw e 7 y j < fw e 7 i j)) 7 < cntS (fun _ => true) 7 := cntS_lt 7 (fun _ _ _ => rfl) ⟨i, hi, rfl, decide_eq_false (by omega)⟩
  have : cntS (fun _ => true) 7 = 7 := rfl
  omega
theorem Ds_1188 {r : Nat → Int32} (h : Wf r) {k i j : Nat} (hi : i < 7) (hj : j < 7) (hf : Ds r k i j < NW) : Ds r k i j ≤ 1188 := by
  refine fw_1188 (eg_Eg h (gt k)) (fun i j hi hj hij => ?_) hi hj hf
  unfold eg
  rw [if_neg hij, if_pos (show i < 7 ∧ j < 7 from ⟨hi, hj⟩)]
  by_cases z : tn (r (wy i j)) = 0
  · rw [if_pos z]; decide
  · rw [if_neg z]
    unfold gy
    split
    · omega
    · split <;> omega
section MEAS
variable {r : Nat → Int32} {u : Mem} {B : Nat}
theorem c_stepAt (h : RepY u B r) (hw : Wf r) {g i j : Nat} (hg : g < 3) (hi : i < 7) (hj : j < 7) (hij : i ≠ j) : FX8_stepAt (B + 4) (nI g) (nI (7 * i + j)) u = some (nI (eg r g i j)) := by
  unfold FX8_stepAt
  have hy := yY hw hi hj hij
  have hv := yV hw hi hj hij
  obtain ⟨h1, h2⟩ := h i j hi hj
  rw [if_neg hij] at h1
  have h2 := h2 hij
  rw [if_pos (inb_t (by omega) (by omega)), if_pos (inb_t (by omega) (by omega)), if_pos (inb_t (by omega) (by omega)), ncl (by omega), h1, h2]
  unfold eg
  rw [if_neg hij, if_pos (show i < 7 ∧ j < 7 from ⟨hi, hj⟩), hy.1, hv.1]
  have a1 : tn (nI (tn (r (wy i j)))) = tn (r (wy i j)) := ncl (by omega)
  have a2 : tn (nI (tn (r (wy i j + 1)))) = tn (r (wy i j + 1)) := ncl (by omega)
  rw [a1, a2]
  generalize tn (r (wy i j)) = y at *
  generalize tn (r (wy i j + 1)) = v at *
  by_cases z : y = 0
  · rw [if_pos (by rw [z]; rfl), if_pos z]
    rfl
  · rw [if_neg (by rw [L0, neq (by omega) (by omega)]; exact z), if_neg z]
    have key : ∀ g, g < 3 → ∀ y, y < 100 → ∀ v, v < 2 → FX3_yardsAt (nI g) (nI y) (nI v) = nI (gy g y v) := by decide +kernel
    rw [key g hg y (by omega) v (by omega)]
theorem c_mf77 {e : Nat → Nat → Nat} (h : Eg e) (p0 : Nat) (p1 : Int32) (F : Nat) {v a : Nat} (hv : v < 7) (ha : a < 7) (g : Nat → Int32) : ∃ x, lp (BX8_measureFor_77 p0 p1 F (nI v) (nI a) (nI (fw e v a v))) FU (0, mrow u F (tb 49 (Gs e v (7 * a)) g)) = some (x, mrow u F (tb 49 (Gs e v (7 * (a + 1))) g)) := by
  have hN : NW = 1000000 := rfl
  have l2 := fw_le h v a v
  by_cases hz : 1000000 ≤ fw e v a v
  · have hsame : ∀ n, n ≤ 7 → tb 49 (Gs e v (7 * a + 0)) g = tb 49 (Gs e v (7 * a + n)) g := by
      intro n
      induction n with
      | zero => intro _; rfl
      | succ n ih =>
        intro hn
        rw [ih (by omega)]
        refine Gs_same (by omega) ?_
        have l1 := fw_le h v a n
        show fw e v a n = min (fw e v a n) (fw e v a v + fw e v v n)
        omega
    refine ⟨nI 0, ?_⟩
    refine lp_for (BX8_measureFor_77 p0 p1 F (nI v) (nI a) (nI (fw e v a v))) (fun b => (nI b, mrow u F (tb 49 (Gs e v (7 * a)) g))) _ 0 (by omega) (fun b hb => by omega) (fun rec => ?_)
    show BX8_measureFor_77 p0 p1 F (nI v) (nI a) (nI (fw e v a v)) rec (nI 0, mrow u F (tb 49 (Gs e v (7 * a)) g)) = _
    dsimp only [BX8_measureFor_77]
    rw [L7, if_neg (n_ngt (by omega) (by omega)), LM, if_pos (n_ge hz (by omega))]
    have := hsame 7 (by omega)
    rw [show 7 * (a + 1) = 7 * a + 7 by omega, ← this, Nat.add_zero]
  · refine ⟨nI 7, ?_⟩
    refine lp_for (BX8_measureFor_77 p0 p1 F (nI v) (nI a) (nI (fw e v a v))) (fun b => (nI b, mrow u F (tb 49 (Gs e v (7 * a + b)) g))) _ 7 (by omega) (fun b hb rec => ?_) (fun rec => ?_)
    · show BX8_measureFor_77 p0 p1 F (nI v) (nI a) (nI (fw e v a v)) rec (nI b, mrow u F (tb 49 (Gs e v (7 * a + b)) g)) = rec (nI (b + 1), mrow u F (tb 49 (Gs e v (7 * a + (b + 1))) g))
      have l1 := fw_le h v a b
      have l3 := fw_le h v v b
      have r1 : mrow u F (tb 49 (Gs e v (7 * a + b)) g) F (7 * a + b) = nI (fw e v a b) := by rw [mrow_at, tb_get (by omega), Gs_here hb]
      have r2 : mrow u F (tb 49 (Gs e v (7 * a + b)) g) F (7 * v + b) = nI (fw e v v b) := by rw [mrow_at, tb_get (by omega), Gs_row h hb]
      dsimp only [BX8_measureFor_77]
      rw [i7, i7, L7, if_neg (n_ngt hb (by omega)), LM, if_neg (n_ngt (by omega) (by omega)), if_pos (inb_t (by omega) (by omega)), if_pos (inb_t (by omega) (by omega)), if_pos (inb_t (by omega) (by omega)), ncl (by omega), ncl (by omega), nI_1]
      by_cases c : fw e v a b ≤ fw e v a v + fw e v v b
      · rw [if_pos (by rw [r1, r2, nadd]; exact n_ge c (by omega)), Gs_same hb (by show fw e v a b = min (fw e v a b) (fw e v a v + fw e v v b); omega)]
      · rw [if_neg (by rw [r1, r2, nadd]; exact n_ngt (by omega) (by omega)), r2, nadd, mst_mrow, tb_upd (by omega)]
        rw [show fw e v a v + fw e v v b = fw e (v + 1) a b by show _ = min (fw e v a b) (fw e v a v + fw e v v b); omega, Gs_step hb]
    · show BX8_measureFor_77 p0 p1 F (nI v) (nI a) (nI (fw e v a v)) rec (nI 7, mrow u F (tb 49 (Gs e v (7 * a + 7)) g)) = _
      dsimp only [BX8_measureFor_77]
      rw [L7, if_pos (n_ge (Nat.le_refl _) (by omega))]
      rfl
theorem c_mf47 {e : Nat → Nat → Nat} (h : Eg e) (p0 : Nat) (p1 : Int32) (F : Nat) (g : Nat → Int32) : lp (BX8_measureFor_47 p0 p1 F) FU (0, mrow u F (tb 49 (flat e) g)) = some (nI 7, mrow u F (tb 49 (flat (fw e 7)) g)) := by
  refine lp_for (BX8_measureFor_47 p0 p1 F) (fun v => (nI v, mrow u F (tb 49 (flat (fw e v)) g))) _ 7 (by omega) (fun v hv rec => ?_) (fun rec => ?_)
  · show BX8_measureFor_47 p0 p1 F rec (nI v, mrow u F (tb 49 (flat (fw e v)) g)) = rec (nI (v + 1), mrow u F (tb 49 (flat (fw e (v + 1))) g))
    dsimp only [BX8_measureFor_47]
    rw [L7, if_neg (n_ngt hv (by omega))]
    have in1 : lp (BX8_measureFor_56 p0 p1 F (nI v)) FU (0, mrow u F (tb 49 (flat (fw e v)) g)) = some (nI 7, mrow u F (tb 49 (flat (fw e (v + 1))) g)) := by
      rw [show mrow u F (tb 49 (flat (fw e (v + 1))) g) = mrow u F (tb 49 (Gs e v (7 * 7)) g) by rw [← Gs_0 e (v + 1)]; exact congrArg (mrow u F) (tb_congr (fun x hx => (Gs_49 e v hx).symm)), ← Gs_0 e v]
      refine lp_for (BX8_measureFor_56 p0 p1 F (nI v)) (fun a => (nI a, mrow u F (tb 49 (Gs e v (7 * a)) g))) _ 7 (by omega) (fun a ha rec => ?_) (fun rec => ?_)
      · show BX8_measureFor_56 p0 p1 F (nI v) rec (nI a, mrow u F (tb 49 (Gs e v (7 * a)) g)) = rec (nI (a + 1), mrow u F (tb 49 (Gs e v (7 * (a + 1))) g))
        dsimp only [BX8_measureFor_56]
        obtain ⟨x, hx⟩ := c_mf77 h (u := u) p0 p1 F hv ha g
        rw [i7, L7, if_neg (n_ngt ha (by omega)), if_pos (inb_t (by omega) (by omega)), ncl (by omega), mrow_at, tb_get (by omega), Gs_col h hv, hx, nI_succ a]
        rfl
      · show BX8_measureFor_56 p0 p1 F (nI v) rec (nI 7, mrow u F (tb 49 (Gs e v (7 * 7)) g)) = _
        dsimp only [BX8_measureFor_56]
        rw [L7, if_pos (n_ge (Nat.le_refl _) (by omega))]
    rw [in1, nI_succ v]
    rfl
  · show BX8_measureFor_47 p0 p1 F rec (nI 7, mrow u F (tb 49 (flat (fw e 7)) g)) = _
    dsimp only [BX8_measureFor_47]
    rw [L7, if_pos (n_ge (Nat.le_refl _) (by omega))]
theorem RepY_mrow {F : Nat} (hF : F ≠ B + 4 + 1) (hF2 : F ≠ B + 4 + 2) (h : RepY u B r) (ρ : Nat → Int32) : RepY (mrow u F ρ) B r := by
  intro i j hi hj
  rw [mrow_ne (Ne.symm hF), mrow_ne (Ne.symm hF2)]
  exact h i j hi hj
theorem c_measureFor (h : RepY u B r) (hw : Wf r) {g : Nat} (hg : g < 3) : FX8_measureFor (B + 4) (nI g) u = some (mrow u (B + 4 + 4 + g) (tb 49 (flat (fw (eg r g) 7)) (u (B + 4 + 4 + g)))) := by
  have hE := eg_Eg hw g
  unfold FX8_measureFor
  rw [if_pos (inb_t (by omega) (by omega)), ncl (by omega)]
  have in1 : lp (BX8_measureFor_9 (B + 4) (nI g) (B + 4 + 4 + g)) FU (0, u) = some (nI 49, mrow u (B + 4 + 4 + g) (tb 49 (flat (eg r g)) (u (B + 4 + 4 + g)))) := by
    have : (fun i => (nI i, mrow u (B + 4 + 4 + g) (tb i (flat (eg r g)) (u (B + 4 + 4 + g))))) 0 = (0, u) := by
      show (nI 0, mrow u (B + 4 + 4 + g) (tb 0 (flat (eg r g)) (u (B + 4 + 4 + g)))) = (0, u)
      rw [tb_0, mrow_self]; rfl
    rw [← this]
    refine lp_for (BX8_measureFor_9 (B + 4) (nI g) (B + 4 + 4 + g)) (fun i => (nI i, mrow u (B + 4 + 4 + g) (tb i (flat (eg r g)) (u (B + 4 + 4 + g))))) _ 49 (by omega) (fun i hi rec => ?_) (fun rec => ?_)
    · show BX8_measureFor_9 (B + 4) (nI g) (B + 4 + 4 + g) rec (nI i, mrow u (B + 4 + 4 + g) (tb i (flat (eg r g)) (u (B + 4 + 4 + g)))) = rec (nI (i + 1), mrow u (B + 4 + 4 + g) (tb (i + 1) (flat (eg r g)) (u (B + 4 + 4 + g))))
      have hgrow : ∀ v, v = flat (eg r g) i → mst (mrow u (B + 4 + 4 + g) (tb i (flat (eg r g)) (u (B + 4 + 4 + g)))) (B + 4 + 4 + g) i (nI v) = mrow u (B + 4 + 4 + g) (tb (i + 1) (flat (eg r g)) (u (B + 4 + 4 + g))) := by
        intro v hv
        rw [mst_mrow, hv, tb_grow]
      dsimp only [BX8_measureFor_9]
      rw [show (49 : Int32) = nI 49 from rfl, if_neg (n_ngt hi (by omega)), L7, ndiv (by omega) (by omega) (by omega), nrem (by omega) (by omega) (by omega), nI_1]
      by_cases c : i / 7 = i % 7
      · rw [if_pos (by rw [c]), if_pos (inb_t (by omega) (by omega)), ncl (by omega), L0, hgrow 0 (by unfold flat eg; rw [if_pos c])]
      · have hs := c_stepAt (RepY_mrow (F := B + 4 + 4 + g) (by omega) (by omega) h (tb i (flat (eg r g)) (u (B + 4 + 4 + g)))) hw hg (show i / 7 < 7 by omega) (show i % 7 < 7 by omega) c
        rw [show 7 * (i / 7) + i % 7 = i by omega] at hs
        rw [if_neg (by rw [neq (by omega) (by omega)]; exact c), hs]
        dsimp only [Option.bind]
        rw [if_pos (inb_t (by omega) (by omega)), ncl (by omega), hgrow (eg r g (i / 7) (i % 7)) rfl]
    · show BX8_measureFor_9 (B + 4) (nI g) (B + 4 + 4 + g) rec (nI 49, _) = _
      dsimp only [BX8_measureFor_9]
      rw [show (49 : Int32) = nI 49 from rfl, if_pos (n_ge (Nat.le_refl _) (by omega))]
  refine lp_bind in1 ?_
  exact lp_bind (c_mf47 hE (B + 4) (nI g) (B + 4 + 4 + g) (u (B + 4 + 4 + g))) rfl
/-- the memory with the fair's tables made anew -/
def msr (u : Mem) (B : Nat) (r : Nat → Int32) (n : Nat) : Mem := fun a => if B + 4 + 4 ≤ a ∧ a < B + 4 + 4 + n then tb 49 (flat (fw (eg r (a - (B + 4 + 4))) 7)) (u a) else u a
theorem msr_ne {a n : Nat} (h : a < B + 4 + 4 ∨ B + 4 + 4 + n ≤ a) : msr u B r n a = u a := if_neg (by omega)
theorem c_measure (h : RepY u B r) (hw : Wf r) : FX8_measure (B + 4) u = some (msr u B r 3) := by
  have in1 : lp (BX8_measure_2 (B + 4)) FU (0, u) = some (nI 3, msr u B r 3) := by
    have : (fun g => (nI g, msr u B r g)) 0 = (0, u) := by
      show (nI 0, msr u B r 0) = (0, u)
      have : msr u B r 0 = u := by funext a; exact if_neg (by omega)
      rw [this]; rfl
    rw [← this]
    refine lp_for (BX8_measure_2 (B + 4)) (fun g => (nI g, msr u B r g)) _ 3 (by omega) (fun g hg rec => ?_) (fun rec => ?_)
    · show BX8_measure_2 (B + 4) rec (nI g, msr u B r g) = rec (nI (g + 1), msr u B r (g + 1))
      have hy : RepY (msr u B r g) B r := by
        intro i j hi hj
        rw [msr_ne (by omega), msr_ne (by omega)]
        exact h i j hi hj
      dsimp only [BX8_measure_2]
      rw [show (3 : Int32) = nI 3 from rfl, if_neg (n_ngt hg (by omega)), c_measureFor hy hw hg]
      dsimp only [Option.bind]
      rw [nI_1, msr_ne (by omega)]
      congr 2
      funext a
      unfold mrow
      by_cases c : a = B + 4 + 4 + g
      · rw [if_pos c]
        unfold msr
        rw [if_pos (by omega), c, show B + 4 + 4 + g - (B + 4 + 4) = g by omega]
      · rw [if_neg c]
        unfold msr
        by_cases d : B + 4 + 4 ≤ a ∧ a < B + 4 + 4 + g
        · rw [if_pos d, if_pos (by omega)]
        · rw [if_neg d, if_neg (by omega)]
    · show BX8_measure_2 (B + 4) rec (nI 3, _) = _
      dsimp only [BX8_measure_2]
      rw [show (3 : Int32) = nI 3 from rfl, if_pos (n_ge (Nat.le_refl _) (by omega))]
  exact lp_bind in1 rfl
theorem msr_RepT : RepT (msr u B r 3) B r := by
  intro g i j hg hi hj
  unfold msr
  rw [if_pos (by omega), show B + 4 + 4 + g - (B + 4 + 4) = g by omega, tb_get (by omega)]
  unfold flat
  rw [(dm7 hj).1, (dm7 hj).2]
/-- what the class reads off its tables -/
theorem c_yardsFor (h : RepT u B r) {k i j : Nat} (hk : k < 7) (hi : i < 7) (hj : j < 7) : FX8_yardsFor (B + 4) (nI k) (nI i) (nI j) u = some (nI (Ds r k i j)) := by
  have hg : ∀ k, k < 7 → tGait k = nI (gt k) := by decide +kernel
  have hl := gt_lt k
  unfold FX8_yardsFor
  rw [i7, if_pos (inb_t (by omega) (by omega)), ncl (by omega), hg k hk, if_pos (inb_t (by omega) (by omega)), if_pos (inb_t (by omega) (by omega)), ncl (by omega), ncl (by omega), h (gt k) i j hl hi hj]
  rfl
theorem c_tableFor {k : Nat} (hk : k < 7) : FX8_tableFor (B + 4) (nI k) u = some (B + 4 + 4 + gt k) := by
  have hg : ∀ k, k < 7 → tGait k = nI (gt k) := by decide +kernel
  have hl := gt_lt k
  unfold FX8_tableFor
  rw [if_pos (inb_t (by omega) (by omega)), ncl (by omega), hg k hk, if_pos (inb_t (by omega) (by omega)), ncl (by omega)]
theorem c_yardsTo (h : Rep u B r) (hw : Wf r) {c j : Nat} (hc : c < nc r) (hj : j < 7) : FX2_yardsTo B (nI c) (nI j) u = some (nI (Ds r (cF r c 0) (cF r c 1) j)) := by
  have hn := nc_eq hw
  unfold FX2_yardsTo
  rw [if_pos (inb_t (by omega) (by omega)), if_pos (inb_t (by omega) (by omega)), ncl (by omega), qK h hw hc, qP h hw hc, c_yardsFor h.2.2.2.2.2.2 (cK hw hc).2 (cP hw hc).2 hj]
  rfl
/-- an errand's worth, and what it pays -/
def wo (r : Nat → Int32) (e : Nat) : Nat := Ds r 0 (eF r e 1) (eF r e 2)
def woV (r : Nat → Int32) (e : Nat) : Nat := if wo r e < 1000000 then eF r e 0 * wo r e else 1000000
def pk' (k x : Nat) : Nat := if k = 2 then x / 2 else if k = 3 then x + x / 10 else if k = 4 then x / 2 + 1 else x
def payE (r : Nat → Int32) (k e : Nat) : Nat := if wo r e < 1000000 then pk' k (eF r e 0 * wo r e) else 0
theorem wo_fin (hw : Wf r) {e : Nat} (he : e < ne r) (h : wo r e < 1000000) : eF r e 0 * wo r e ≤ 71280 ∧ wo r e ≤ 1188 := by
  have h1 := Ds_1188 hw (eA hw he).2 (eB hw he).2 h
  have h2 := (eW hw he).2
  have : eF r e 0 * wo r e ≤ 60 * 1188 := Nat.mul_le_mul h2 h1
  exact ⟨by omega, h1⟩
theorem payE_le (hw : Wf r) {e k : Nat} (he : e < ne r) : payE r k e ≤ 78408 := by
  unfold payE
  by_cases c : wo r e < 1000000
  · rw [if_pos c]
    have := (wo_fin hw he c).1
    unfold pk'
    split
    · omega
    · split
      · omega
      · split <;> omega
  · rw [if_neg c]; omega
theorem c_worthOf (h : Rep u B r) (hw : Wf r) {e : Nat} (he : e < ne r) : FX2_worthOf B (nI e) u = some (nI (woV r e)) := by
  have hn := ne_eq hw
  have hl := Ds_le hw 0 (eF r e 1) (eF r e 2)
  unfold FX2_worthOf
  rw [if_pos (inb_t (by omega) (by omega)), ncl (by omega), qa h hw he, qb h hw he, L0, c_yardsFor h.2.2.2.2.2.2 (by omega) (eA hw he).2 (eB hw he).2]
  dsimp only [Option.bind]
  unfold woV
  rw [qp h hw he, nmul]
  by_cases c : wo r e < 1000000
  · rw [if_pos c, if_pos (by rw [LM, nlt (by omega) (by omega)]; exact c)]
    rfl
  · rw [if_neg c, if_neg (by rw [LM, nlt (by omega) (by omega)]; exact c)]
    rfl
theorem c_payFor' {k x : Nat} (hk : k < 7) (hx : x ≤ 71280) : FX3_payFor (nI k) (nI x) = nI (pk' k x) := by
  unfold FX3_payFor pk'
  have e3 : (3 : Int32) = nI 3 := rfl
  have e4 : (4 : Int32) = nI 4 := rfl
  by_cases c2 : k = 2
  · rw [if_pos (by rw [c2]; rfl), if_pos c2, L2, ndiv (by omega) (by omega) (by omega)]
  · rw [if_neg (by rw [L2, neq (by omega) (by omega)]; exact c2), if_neg c2]
    by_cases c3 : k = 3
    · rw [if_pos (by rw [c3]; rfl), if_pos c3, L10, ndiv (by omega) (by omega) (by omega), nadd]
    · rw [if_neg (by rw [e3, neq (by omega) (by omega)]; exact c3), if_neg c3]
      by_cases c4 : k = 4
      · rw [if_pos (by rw [c4]; rfl), if_pos c4, L2, ndiv (by omega) (by omega) (by omega), nI_1]
      · rw [if_neg (by rw [e4, neq (by omega) (by omega)]; exact c4), if_neg c4]
theorem c_payFor (h : Rep u B r) (hw : Wf r) {c e : Nat} (hc : c < nc r) (he : e < ne r) : FX2_payFor B (nI c) (nI e) u = some (nI (payE r (cF r c 0) e)) := by
  have hn := nc_eq hw
  have hl := Ds_le hw 0 (eF r e 1) (eF r e 2)
  unfold FX2_payFor
  rw [c_worthOf h hw he]
  dsimp only [Option.bind]
  unfold woV payE
  by_cases z : wo r e < 1000000
  · have hf := wo_fin hw he z
    rw [if_pos z, if_pos z, if_pos (by rw [LM, nlt (by omega) (by omega)]; omega), if_pos (inb_t (by omega) (by omega)), ncl (by omega), qK h hw hc, c_payFor' (cK hw hc).2 hf.1]
  · rw [if_neg z, if_neg z, if_neg (by decide)]
    rfl
end MEAS
