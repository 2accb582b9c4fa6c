/-! tables of fewest yards, on both sides -/
def mrow (u : Mem) (F : Nat) (ρ : Nat → Int32) : Mem := fun a => if a = F then ρ else u a
theorem mrow_at (u : Mem) (F : Nat) (ρ : Nat → Int32) : mrow u F ρ F = ρ := if_pos rfl
theorem mrow_ne {u : Mem} {F a : Nat} (h : a ≠ F) (ρ : Nat → Int32) : mrow u F ρ a = u a := if_neg h
theorem mrow_self (u : Mem) (F : Nat) : mrow u F (u F) = u := by
  funext a
  unfold mrow
  by_cases h : a = F
  · rw [if_pos h, h]
  · rw [if_neg h]
theorem mst_mrow (u : Mem) (F : Nat) (ρ : Nat → Int32) (j : Nat) (x : Int32) : mst (mrow u F ρ) F j x = mrow u F (upd ρ j x) := by
  funext a
  unfold mst mrow
  by_cases h : a = F
  · rw [if_pos h, if_pos h, if_pos rfl]
  · rw [if_neg h, if_neg h, if_neg h]
theorem mst_as_mrow (u : Mem) (F j : Nat) (x : Int32) : mst u F j x = mrow u F (upd (u F) j x) := rfl
theorem mrow_mrow (u : Mem) (F : Nat) (ρ ρ' : Nat → Int32) : mrow (mrow u F ρ) F ρ' = mrow u F ρ' := by
  funext a
  unfold mrow
  by_cases h : a = F
  · rw [if_pos h, if_pos h]
  · rw [if_neg h, if_neg h, if_neg h]
def tb (N : Nat) (F : Nat → Nat) (g : Nat → Int32) : Nat → Int32 := fun x => if x < N then nI (F x) else g x
theorem tb_get {N x : Nat} (h : x < N) (F : Nat → Nat) (g : Nat → Int32) : tb N F g x = nI (F x) := if_pos h
theorem tb_out {N x : Nat} (h : N ≤ x) (F : Nat → Nat) (g : Nat → Int32) : tb N F g x = g x := if_neg (by omega)
theorem tb_0 (F : Nat → Nat) (g : Nat → Int32) : tb 0 F g = g := by funext x; exact if_neg (by omega)
theorem tb_congr {N : Nat} {F F' : Nat → Nat} {g : Nat → Int32} (h : ∀ x, x < N → F x = F' x) : tb N F g = tb N F' g := by
  funext x
  unfold tb
  by_cases c : x < N
  · rw [if_pos c, if_pos c, h x c]
  · rw [if_neg c, if_neg c]
theorem tb_upd {N p : Nat} (hp : p < N) (F : Nat → Nat) (g : Nat → Int32) (v : Nat) : upd (tb N F g) p (nI v) = tb N (fun x => if x = p then v else F x) g := by
  funext x
  unfold upd tb
  by_cases h : x = p
  · subst h
    rw [if_pos rfl, if_pos hp]
    exact congrArg nI (if_pos rfl).symm
  · rw [if_neg h]
    have e : (fun y => if y = p then v else F y) x = F x := if_neg h
    rw [e]
theorem tb_grow (N : Nat) (F : Nat → Nat) (g : Nat → Int32) : upd (tb N F g) N (nI (F N)) = tb (N + 1) F g := by
  funext x
  unfold upd tb
  by_cases h : x = N
  · subst h; rw [if_pos rfl, if_pos (by omega)]
  · rw [if_neg h]
    by_cases c : x < N
    · rw [if_pos c, if_pos (by omega)]
    · rw [if_neg c, if_neg (by omega)]
def flat (e : Nat → Nat → Nat) (x : Nat) : Nat := e (x / 7) (x % 7)
def Gs (e : Nat → Nat → Nat) (v p x : Nat) : Nat := if x < p then fw e (v + 1) (x / 7) (x % 7) else fw e v (x / 7) (x % 7)
theorem Gs_0 (e : Nat → Nat → Nat) (v : Nat) : Gs e v 0 = flat (fw e v) := by funext x; exact if_neg (by omega)
theorem Gs_49 (e : Nat → Nat → Nat) (v : Nat) {x : Nat} (h : x < 49) : Gs e v 49 x = Gs e (v + 1) 0 x := by unfold Gs; rw [if_pos h, if_neg (by omega)]
theorem dm7 {a b : Nat} (hb : b < 7) : (7 * a + b) / 7 = a ∧ (7 * a + b) % 7 = b := by omega
theorem Gs_here {e : Nat → Nat → Nat} {v a b : Nat} (hb : b < 7) : Gs e v (7 * a + b) (7 * a + b) = fw e v a b := by
  unfold Gs; rw [if_neg (by omega), (dm7 hb).1, (dm7 hb).2]
theorem Gs_col {e : Nat → Nat → Nat} (h : Eg e) {v a p : Nat} (hv : v < 7) : Gs e v p (7 * a + v) = fw e v a v := by
  unfold Gs
  rw [(dm7 hv).1, (dm7 hv).2]
  split
  · show min (fw e v a v) (fw e v a v + fw e v v v) = fw e v a v
    rw [fw_0 h]; omega
  · rfl
theorem Gs_row {e : Nat → Nat → Nat} (h : Eg e) {v b p : Nat} (hb : b < 7) : Gs e v p (7 * v + b) = fw e v v b := by
  unfold Gs
  rw [(dm7 hb).1, (dm7 hb).2]
  split
  · show min (fw e v v b) (fw e v v v + fw e v v b) = fw e v v b
    rw [fw_0 h]; omega
  · rfl
theorem Gs_step {e : Nat → Nat → Nat} {v a b : Nat} (hb : b < 7) {g : Nat → Int32} : tb 49 (fun x => if x = 7 * a + b then fw e (v + 1) a b else Gs e v (7 * a + b) x) g = tb 49 (Gs e v (7 * a + (b + 1))) g := by
  apply tb_congr
  intro x _
  unfold Gs
  by_cases c : x = 7 * a + b
  · rw [if_pos c, if_pos (by omega), c, (dm7 hb).1, (dm7 hb).2]
  · rw [if_neg c]
    by_cases d : x < 7 * a + b
    · rw [if_pos d, if_pos (by omega)]
    · rw [if_neg d, if_neg (by omega)]
theorem Gs_same {e : Nat → Nat → Nat} {v a b : Nat} (hb : b < 7) (h : fw e v a b = fw e (v + 1) a b) {g : Nat → Int32} : tb 49 (Gs e v (7 * a + b)) g = tb 49 (Gs e v (7 * a + (b + 1))) g := by
  rw [← Gs_step hb, ← h]
  apply tb_congr
  intro x _
  by_cases c : x = 7 * a + b
  · rw [if_pos c, c, Gs_here hb]
  · rw [if_neg c]
section FAR
variable {r : Nat → Int32} {u m : Mem} {B : Nat}
theorem m_ff92 {e : Nat → Nat → Nat} (h : Eg e) (p1 : Int32) {v a : Nat} (hv : v < 7) (ha : a < 7) (g : Nat → Int32) : lp (BX10_findFar_92 p1 (nI v) (nI a)) FU (0, mrow m 121 (tb 49 (Gs e v (7 * a)) g)) = some (nI 7, mrow m 121 (tb 49 (Gs e v (7 * (a + 1))) g)) := by
  refine lp_for (BX10_findFar_92 p1 (nI v) (nI a)) (fun b => (nI b, mrow m 121 (tb 49 (Gs e v (7 * a + b)) g))) _ 7 (by omega) (fun b hb rec => ?_) (fun rec => ?_)
  · show BX10_findFar_92 p1 (nI v) (nI a) rec (nI b, mrow m 121 (tb 49 (Gs e v (7 * a + b)) g)) = rec (nI (b + 1), mrow m 121 (tb 49 (Gs e v (7 * a + (b + 1))) g))
    dsimp only [BX10_findFar_92, nm]
    have l1 := fw_le h v a b
    have l2 := fw_le h v a v
    have l3 := fw_le h v v b
    have hN : NW = 1000000 := rfl
    rw [L7, nmul, nmul, nadd, nadd, nadd, if_neg (n_ngt hb (by omega)), if_pos (inb_t (by omega) (by omega)), if_pos (inb_t (by omega) (by omega)), if_pos (inb_t (by omega) (by omega)), if_pos (inb_t (by omega) (by omega)), ncl (by omega), ncl (by omega), ncl (by omega), mrow_at, tb_get (by omega), tb_get (by omega), tb_get (by omega), Gs_here hb, Gs_col h hv, Gs_row h hb, nadd, nmin (by omega) (by omega), mst_mrow, tb_upd (by omega), nI_1]
    rw [show min (fw e v a b) (fw e v a v + fw e v v b) = fw e (v + 1) a b from rfl, Gs_step hb]
  · show BX10_findFar_92 p1 (nI v) (nI a) rec (nI 7, mrow m 121 (tb 49 (Gs e v (7 * a + 7)) g)) = _
    dsimp only [BX10_findFar_92]
    rw [L7, if_pos (n_ge (Nat.le_refl _) (by omega))]
    rfl
theorem m_ff75 {e : Nat → Nat → Nat} (h : Eg e) (p1 : Int32) (g : Nat → Int32) : lp (BX10_findFar_75 p1) FU (0, mrow m 121 (tb 49 (flat e) g)) = some (nI 7, mrow m 121 (tb 49 (flat (fw e 7)) g)) := by
  refine lp_for (BX10_findFar_75 p1) (fun v => (nI v, mrow m 121 (tb 49 (flat (fw e v)) g))) _ 7 (by omega) (fun v hv rec => ?_) (fun rec => ?_)
  · show BX10_findFar_75 p1 rec (nI v, mrow m 121 (tb 49 (flat (fw e v)) g)) = rec (nI (v + 1), mrow m 121 (tb 49 (flat (fw e (v + 1))) g))
    dsimp only [BX10_findFar_75]
    rw [L7, if_neg (n_ngt hv (by omega))]
    have in1 : lp (BX10_findFar_83 p1 (nI v)) FU (0, mrow m 121 (tb 49 (flat (fw e v)) g)) = some (nI 7, mrow m 121 (tb 49 (flat (fw e (v + 1))) g)) := by
      rw [show mrow m 121 (tb 49 (flat (fw e (v + 1))) g) = mrow m 121 (tb 49 (Gs e v (7 * 7)) g) by rw [← Gs_0 e (v + 1)]; exact congrArg (mrow m 121) (tb_congr (fun x hx => (Gs_49 e v hx).symm)), ← Gs_0 e v]
      refine lp_for (BX10_findFar_83 p1 (nI v)) (fun a => (nI a, mrow m 121 (tb 49 (Gs e v (7 * a)) g))) _ 7 (by omega) (fun a ha rec => ?_) (fun rec => ?_)
      · show BX10_findFar_83 p1 (nI v) rec (nI a, mrow m 121 (tb 49 (Gs e v (7 * a)) g)) = rec (nI (a + 1), mrow m 121 (tb 49 (Gs e v (7 * (a + 1))) g))
        dsimp only [BX10_findFar_83]
        rw [L7, if_neg (n_ngt ha (by omega)), m_ff92 h p1 hv ha g, nI_succ a]
        rfl
      · show BX10_findFar_83 p1 (nI v) rec (nI 7, mrow m 121 (tb 49 (Gs e v (7 * 7)) g)) = _
        dsimp only [BX10_findFar_83]
        rw [L7, if_pos (n_ge (Nat.le_refl _) (by omega))]
    rw [in1, nI_succ v]
    rfl
  · show BX10_findFar_75 p1 rec (nI 7, mrow m 121 (tb 49 (flat (fw e 7)) g)) = _
    dsimp only [BX10_findFar_75]
    rw [L7, if_pos (n_ge (Nat.le_refl _) (by omega))]
theorem m_counts {m : Mem} (hm : m 117 = r) (hw : Wf r) {k i j : Nat} (hk : k < 7) (hi : i < 7) (hj : j < 7) (hij : i ≠ j) : FX10_counts (nI k) (nI i) (nI j) m = some (nI (gy (gt k) (tn (r (wy i j))) (tn (r (wy i j + 1))))) := by
  unfold FX10_counts
  have hy := yY hw hi hj hij
  have hv := yV hw hi hj hij
  have hl := wy_lt hi hj hij
  rw [wayAt_eq hi hj hij, L1, nadd, if_pos (inb_t (by omega) (by omega)), if_pos (inb_t (by omega) (by omega)), ncl (by omega), ncl (by omega), hm, hy.1, hv.1]
  have a1 : tn (nI (tn (r (wy i j)))) = tn (r (wy i j)) := ncl (by omega)
  have a2 : tn (nI (tn (r (wy i j + 1)))) = tn (r (wy i j + 1)) := ncl (by omega)
  rw [a1, a2]
  generalize tn (r (wy i j)) = y at *
  generalize tn (r (wy i j + 1)) = v at *
  have key : ∀ k, k < 7 → ∀ y, y < 100 → ∀ v, v < 2 → (if nI v = nI 1 then (if nI k = 5 then some (nI y) else (if nI k = 6 then some (jmax (nI 1) ((nI y) / 2)) else some (2 * (nI y)))) else some (nI y)) = some (nI (gy (gt k) y v)) := by decide +kernel
  exact key k hk y (by omega) v (by omega)
theorem m_findFar (hm : m 117 = r) (hw : Wf r) {k : Nat} (hk : k < 7) : FX10_findFar (nI k) m = some (mrow m 121 (tb 49 (flat (Ds r k)) (m 121))) := by
  have hE := eg_Eg hw (gt k)
  have in1 : lp (BX10_findFar_2 (nI k)) FU (0, m) = some (nI 7, mrow m 121 (tb 49 (flat (eg r (gt k))) (m 121))) := by
    have h0 : m = mrow m 121 (tb (7 * 0) (flat (eg r (gt k))) (m 121)) := by rw [tb_0, mrow_self]
    have : (fun a => (nI a, mrow m 121 (tb (7 * a) (flat (eg r (gt k))) (m 121)))) 0 = (0, m) := by
      show (nI 0, mrow m 121 (tb (7 * 0) (flat (eg r (gt k))) (m 121))) = (0, m)
      rw [← h0]; rfl
    rw [← this]
    refine lp_for (BX10_findFar_2 (nI k)) (fun a => (nI a, mrow m 121 (tb (7 * a) (flat (eg r (gt k))) (m 121)))) _ 7 (by omega) (fun a ha rec => ?_) (fun rec => ?_)
    · show BX10_findFar_2 (nI k) rec (nI a, mrow m 121 (tb (7 * a) (flat (eg r (gt k))) (m 121))) = rec (nI (a + 1), mrow m 121 (tb (7 * (a + 1)) (flat (eg r (gt k))) (m 121)))
      dsimp only [BX10_findFar_2]
      rw [L7, if_neg (n_ngt ha (by omega))]
      have in2 : lp (BX10_findFar_10 (nI k) (nI a)) FU (0, mrow m 121 (tb (7 * a) (flat (eg r (gt k))) (m 121))) = some (nI 7, mrow m 121 (tb (7 * (a + 1)) (flat (eg r (gt k))) (m 121))) := by
        refine lp_for (BX10_findFar_10 (nI k) (nI a)) (fun b => (nI b, mrow m 121 (tb (7 * a + b) (flat (eg r (gt k))) (m 121)))) _ 7 (by omega) (fun b hb rec => ?_) (fun rec => ?_)
        · show BX10_findFar_10 (nI k) (nI a) rec (nI b, mrow m 121 (tb (7 * a + b) (flat (eg r (gt k))) (m 121))) = rec (nI (b + 1), mrow m 121 (tb (7 * a + (b + 1)) (flat (eg r (gt k))) (m 121)))
          have h7 : mrow m 121 (tb (7 * a + b) (flat (eg r (gt k))) (m 121)) 117 = r := by rw [mrow_ne (by omega), hm]
          have hgrow : ∀ v, v = eg r (gt k) a b → mst (mrow m 121 (tb (7 * a + b) (flat (eg r (gt k))) (m 121))) 121 (7 * a + b) (nI v) = mrow m 121 (tb (7 * a + (b + 1)) (flat (eg r (gt k))) (m 121)) := by
            intro v hv
            rw [mst_mrow]
            have : v = flat (eg r (gt k)) (7 * a + b) := by unfold flat; rw [(dm7 hb).1, (dm7 hb).2]; exact hv
            rw [this, tb_grow]
            rfl
          dsimp only [BX10_findFar_10]
          rw [L7, if_neg (n_ngt hb (by omega)), nmul, nadd, nI_1]
          by_cases hab : a = b
          · subst hab
            rw [if_pos rfl, if_pos (inb_t (by omega) (by omega)), ncl (by omega), L0, hgrow 0 (by unfold eg; rw [if_pos rfl])]
          · have hl := wy_lt ha hb hab
            rw [if_neg (by rw [neq (by omega) (by omega)]; exact hab), wayAt_eq ha hb hab, if_pos (inb_t (by omega) (by omega)), ncl (by omega)]
            by_cases hz : tn (r (wy a b)) = 0
            · rw [if_pos (by rw [h7, (yY hw ha hb hab).1, hz]; rfl), if_pos (inb_t (by omega) (by omega)), ncl (by omega), LM, hgrow 1000000 (by unfold eg; rw [if_neg hab, if_pos ⟨ha, hb⟩, if_pos hz])]
            · have := (yY hw ha hb hab).2
              rw [if_neg (by rw [h7, (yY hw ha hb hab).1, L0, neq (by omega) (by omega)]; exact hz), m_counts h7 hw hk ha hb hab]
              dsimp only [Option.bind]
              rw [if_pos (inb_t (by omega) (by omega)), ncl (by omega), hgrow _ (by unfold eg; rw [if_neg hab, if_pos ⟨ha, hb⟩, if_neg hz])]
        · show BX10_findFar_10 (nI k) (nI a) rec (nI 7, _) = _
          dsimp only [BX10_findFar_10]
          rw [L7, if_pos (n_ge (Nat.le_refl _) (by omega))]
          rfl
      rw [in2, nI_succ a]
      rfl
    · show BX10_findFar_2 (nI k) rec (nI 7, _) = _
      dsimp only [BX10_findFar_2]
      rw [L7, if_pos (n_ge (Nat.le_refl _) (by omega))]
  unfold FX10_findFar
  refine lp_bind in1 ?_
  exact lp_bind (m_ff75 hE (nI k) (m 121)) rfl
end FAR
