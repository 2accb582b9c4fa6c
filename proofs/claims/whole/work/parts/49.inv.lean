/-! what holds between the calls; findings; the two ways a call can go -/
def keepM (a : Nat) : Prop := a < 116 ∨ a = 117 ∨ a = 118 ∨ a = 120 ∨ a = 124 ∨ a = 125 ∨ a = 128 ∨ a = 129 ∨ a = 130
def Qm (m m' : Mem) : Prop := (∀ a, keepM a → m' a = m a) ∧ m' 116 3 = m 116 3 ∧ m' 116 14 = m 116 14
def Qc (u u' : Mem) : Prop := (∀ a, (a < 65 ∨ 105 ≤ a) → u' a = u a) ∧ u' 104 1 = u 104 1
def Hm (u m : Mem) : Prop := ∀ a, 116 ≤ a → m a = u a
theorem Qm_refl (m : Mem) : Qm m m := ⟨fun _ _ => rfl, rfl, rfl⟩
theorem Qc_refl (m : Mem) : Qc m m := ⟨fun _ _ => rfl, rfl⟩
theorem Qm_trans {a b c : Mem} (h : Qm a b) (k : Qm b c) : Qm a c := ⟨fun x hx => by rw [k.1 x hx, h.1 x hx], by rw [k.2.1, h.2.1], by rw [k.2.2, h.2.2]⟩
theorem Qc_trans {a b c : Mem} (h : Qc a b) (k : Qc b c) : Qc a c := ⟨fun x hx => by rw [k.1 x hx, h.1 x hx], by rw [k.2, h.2]⟩
theorem Qc_Hm {u u' : Mem} (h : Qc u u') : Hm u u' := fun a ha => h.1 a (Or.inr (by omega))
theorem Qm_mrow {m : Mem} {F : Nat} (h : F = 119 ∨ F = 121 ∨ F = 122 ∨ F = 123 ∨ F = 127 ∨ F = 131) (ρ : Nat → Int32) : Qm m (mrow m F ρ) := by
  refine ⟨fun a ha => mrow_ne ?_ ρ, ?_, ?_⟩
  · unfold keepM at ha; omega
  · rw [mrow_ne (by omega)]
  · rw [mrow_ne (by omega)]
theorem Qm_mst {m : Mem} {F : Nat} (h : F = 119 ∨ F = 121 ∨ F = 122 ∨ F = 123 ∨ F = 127 ∨ F = 131) (j : Nat) (x : Int32) : Qm m (mst m F j x) := Qm_mrow h _
theorem Qm_116 {m : Mem} {j : Nat} (h3 : j ≠ 3) (h14 : j ≠ 14) (x : Int32) : Qm m (mst m 116 j x) := by
  refine ⟨fun a ha => mst_k (by unfold keepM at ha; omega) _ _, ?_, ?_⟩
  · rw [mst_j (Ne.symm h3)]
  · rw [mst_j (Ne.symm h14)]
theorem Qc_mrow {m : Mem} {F : Nat} (h : 65 ≤ F ∧ F < 104) (ρ : Nat → Int32) : Qc m (mrow m F ρ) := ⟨fun a ha => mrow_ne (by omega) ρ, by rw [mrow_ne (by omega)]⟩
theorem Qc_mst {m : Mem} {F : Nat} (h : 65 ≤ F ∧ F < 104) (j : Nat) (x : Int32) : Qc m (mst m F j x) := Qc_mrow h _
def Cs (u m : Mem) : Prop :=
  Rep u 1 (m 117) ∧ u 0 8 = m 116 3 ∧ (m 116 3 ≠ 0 → Rep u 33 (m 118)) ∧
  (u 104 1 = m 116 14 ∧ ∀ i, i < tn (m 116 14) → u 105 i = m 125 i) ∧
  (∀ s, s < 4 → u (108 + 2 * s) 1 = m 128 s ∧ u (108 + 2 * s) 2 = m 129 s ∧ ∀ i, i < 40 → u (108 + 2 * s + 1) i = m 130 (40 * s + i)) ∧
  (∀ i, i < 7 → u 107 i = m 120 (i + 1)) ∧ m 120 0 = sumI (fun i => m 120 (i + 1)) 7
def Ms (m : Mem) : Prop :=
  Wf (m 117) ∧ (m 116 3 = 0 ∨ m 116 3 = 1 ∧ Wf (m 118)) ∧ (In (m 116 14) 120 ∧ ∀ i, i < 120 → In (m 125 i) 255) ∧
  (∀ s, s < 4 → (m 128 s = 0 ∨ m 128 s = 8 ∨ m 128 s = 16 ∨ m 128 s = 32) ∧ In (m 129 s) 40) ∧ ∀ i, i < 6 → m 124 i = nI (3 ^ i)
def Inv (u : Mem) : Prop := Cs u u ∧ Ms u
theorem Rep_congr {u u' : Mem} {B : Nat} {r : Nat → Int32} (h : ∀ a, B ≤ a → a < B + 32 → u' a = u a) (hw : Wf r) (k : Rep u B r) : Rep u' B r := by
  obtain ⟨k1, k2, k3, k4, k5, k6, k7⟩ := k
  have h6 := (nc_eq hw).2
  have h8 := (ne_eq hw).2
  have h9 := (nw_eq hw).2
  refine ⟨?_, ?_, ?_, ?_, ?_, ?_, ?_⟩
  · unfold RepN; rw [h B (by omega) (by omega)]; exact k1
  · intro s hs; rw [h _ (by omega) (by omega)]; exact k2 s hs
  · intro c hc f hf; rw [h _ (by omega) (by omega)]; exact k3 c hc f hf
  · intro c hc f hf; rw [h _ (by omega) (by omega)]; exact k4 c hc f hf
  · intro c hc; unfold RepW; rw [h _ (by omega) (by omega)]; exact k5 c hc
  · intro i j hi hj; rw [h _ (by omega) (by omega), h _ (by omega) (by omega)]; exact k6 i j hi hj
  · intro g i j hg hi hj; rw [h _ (by omega) (by omega)]; exact k7 g i j hg hi hj
theorem Ms_Qm {m m' : Mem} (h : Ms m) (q : Qm m m') : Ms m' := by
  obtain ⟨q1, q2, q3⟩ := q
  unfold Ms
  rw [q2, q3, q1 117 (by unfold keepM; omega), q1 118 (by unfold keepM; omega), q1 125 (by unfold keepM; omega), q1 128 (by unfold keepM; omega), q1 129 (by unfold keepM; omega), q1 124 (by unfold keepM; omega)]
  exact h
theorem Cs_m {u m m' : Mem} (h : Cs u m) (q : Qm m m') : Cs u m' := by
  obtain ⟨q1, q2, q3⟩ := q
  unfold Cs
  rw [q2, q3, q1 117 (by unfold keepM; omega), q1 118 (by unfold keepM; omega), q1 125 (by unfold keepM; omega), q1 128 (by unfold keepM; omega), q1 129 (by unfold keepM; omega), q1 130 (by unfold keepM; omega), q1 120 (by unfold keepM; omega)]
  exact h
theorem Cs_u {u u' m : Mem} (hM : Ms m) (h : Cs u m) (q : Qc u u') : Cs u' m := by
  obtain ⟨h1, h2, h3, h4, h5, h6, h7⟩ := h
  obtain ⟨q1, q2⟩ := q
  refine ⟨Rep_congr (fun a _ _ => q1 a (by omega)) hM.1 h1, ?_, fun z => ?_, ?_, fun s hs => ?_, fun i hi => ?_, h7⟩
  · rw [q1 0 (by omega)]; exact h2
  · rcases hM.2.1 with y | y
    · exact absurd y z
    · exact Rep_congr (fun a _ _ => q1 a (by omega)) y.2 (h3 z)
  · rw [q2, q1 105 (by omega)]; exact h4
  · rw [q1 _ (by omega), q1 _ (by omega)]; exact h5 s hs
  · rw [q1 107 (by omega)]; exact h6 i hi
/-- the class' cells alone count, and they stand still -/
theorem Cs_lo {u u' m : Mem} (hM : Ms m) (h : Cs u m) (q : ∀ a, a < 116 → u' a = u a) : Cs u' m := by
  obtain ⟨h1, h2, h3, h4, h5, h6, h7⟩ := h
  refine ⟨Rep_congr (fun a _ _ => q a (by omega)) hM.1 h1, ?_, fun z => ?_, ?_, fun s hs => ?_, fun i hi => ?_, h7⟩
  · rw [q 0 (by omega)]; exact h2
  · rcases hM.2.1 with y | y
    · exact absurd y z
    · exact Rep_congr (fun a _ _ => q a (by omega)) y.2 (h3 z)
  · rw [q 104 (by omega), q 105 (by omega)]; exact h4
  · rw [q _ (by omega), q _ (by omega)]; exact h5 s hs
  · rw [q 107 (by omega)]; exact h6 i hi
/-- class' cells of u1 hold what m says, and u2 is the same below 116 and says what m says -/
theorem Inv_mk {u1 u2 m : Mem} (hC : Cs u1 m) (hM : Ms m) (h1 : ∀ a, a < 116 → u2 a = u1 a) (h2 : ∀ a, 116 ≤ a → keepM a → u2 a = m a) (h3 : u2 116 3 = m 116 3) (h14 : u2 116 14 = m 116 14) : Inv u2 := by
  have q : Qm m (fun a => if a < 116 then m a else u2 a) := by
    refine ⟨fun a ha => ?_, ?_, ?_⟩
    · by_cases c : a < 116
      · exact if_pos c
      · have := h2 a (by omega) ha
        rw [← this]; exact if_neg c
    · show (if 116 < 116 then m 116 else u2 116) 3 = _
      rw [if_neg (by omega)]; exact h3
    · show (if 116 < 116 then m 116 else u2 116) 14 = _
      rw [if_neg (by omega)]; exact h14
  have hM2 := Ms_Qm hM q
  have hC2 := Cs_lo (u' := u2) hM2 (Cs_m hC q) h1
  have e : ∀ a, 116 ≤ a → (fun a => if a < 116 then m a else u2 a) a = u2 a := fun a ha => if_neg (by omega)
  have hM3 : Ms u2 := by
    unfold Ms at hM2 ⊢
    rw [e 117 (by omega), e 116 (by omega), e 118 (by omega), e 125 (by omega), e 128 (by omega), e 129 (by omega), e 124 (by omega)] at hM2
    exact hM2
  refine ⟨?_, hM3⟩
  unfold Cs at hC2 ⊢
  rw [e 117 (by omega), e 116 (by omega), e 118 (by omega), e 125 (by omega), e 128 (by omega), e 129 (by omega), e 130 (by omega), e 120 (by omega)] at hC2
  exact hC2
def Same (f g : Mem → Option (Int32 × Mem)) (u : Mem) : Prop := ∃ x u1 u2, f u = some (x, u1) ∧ g u1 = some (x, u2) ∧ Inv u2
theorem same_val {f g : Mem → Option (Int32 × Mem)} {u u1 u2 : Mem} {x : Int32} (h : Inv u) (q : Qc u u1) (hf : f u = some (x, u1)) (hg : g u1 = some (x, u2)) (hq : Qm u1 u2) : Same f g u := by
  refine ⟨x, u1, u2, hf, hg, Inv_mk (m := u) (Cs_u h.2 h.1 q) h.2 (fun a ha => hq.1 a (Or.inl ha)) (fun a ha hk => ?_) ?_ ?_⟩
  · rw [hq.1 a hk, Qc_Hm q a ha]
  · rw [hq.2.1, Qc_Hm q 116 (by omega)]
  · rw [hq.2.2, Qc_Hm q 116 (by omega)]
def wv (i : Nat) : Int32 := -1000001 - nI i
theorem wv_in : ∀ i, i < 7 → (-1000001) - wv i = nI i ∧ (-1000001) - wv i + 1 = nI (i + 1) := by decide +kernel
theorem fin9 {i : Nat} (hi : i < 7) (u : Mem) : FX9_finding (wv i) u = some (wv i, mst u 107 i (u 107 i + 1)) := by
  unfold FX9_finding
  rw [(wv_in i hi).1]
  have : FX9_within (nI i) 0 6 = 1 := by
    unfold FX9_within
    rw [if_neg (nI_pos (by omega)), if_neg (by rw [L6, nlt (by omega) (by omega)]; omega)]
  rw [this, if_neg (by decide), if_pos (inb_t (by omega) (by omega)), if_pos (inb_t (by omega) (by omega)), ncl (by omega)]
theorem fin10 {i : Nat} (hi : i < 7) (m : Mem) : FX10_finding (wv i) m = some (wv i, mst (mst m 120 (i + 1) (m 120 (i + 1) + 1)) 120 0 (m 120 0 + 1)) := by
  unfold FX10_finding
  rw [(wv_in i hi).2, if_pos (inb_t (by omega) (by omega)), if_pos (inb_t (by omega) (by omega)), ncl (by omega)]
  dsimp only [nm]
  rw [mst_j (show 0 ≠ i + 1 by omega)]
theorem sumI_upd (f : Nat → Int32) {i : Nat} : ∀ n, sumI (fun j => if j = i then f j + 1 else f j) n = if i < n then sumI f n + 1 else sumI f n
  | 0 => by rw [if_neg (by omega)]; rfl
  | n + 1 => by
    have ih := sumI_upd f (i := i) n
    show sumI (fun j => if j = i then f j + 1 else f j) n + (if n = i then f n + 1 else f n) = if i < n + 1 then (sumI f n + f n) + 1 else sumI f n + f n
    rw [ih]
    by_cases c : n = i
    · rw [if_pos c, if_neg (by omega), if_pos (by omega)]
      rw [Int32.add_assoc]
    · rw [if_neg c]
      by_cases d : i < n
      · rw [if_pos d, if_pos (by omega), Int32.add_assoc, Int32.add_comm 1, ← Int32.add_assoc]
      · rw [if_neg d, if_neg (by omega)]
theorem same_fin {f g : Mem → Option (Int32 × Mem)} {u u1 : Mem} {w : Int32} (i : Nat) (hi : i < 7) (hwi : w = wv i) (h : Inv u) (q : Qc u u1) (hf : f u = FX9_finding w u1) (hg : ∀ m, Hm u m → ∃ m', Qm m m' ∧ g m = FX10_finding w m') : Same f g u := by
  subst hwi
  have hm1 : Hm u (mst u1 107 i (u1 107 i + 1)) := fun a ha => by rw [mst_k (by omega)]; exact Qc_Hm q a ha
  obtain ⟨m', qm, e⟩ := hg _ hm1
  obtain ⟨q1, q2, q3⟩ := qm
  refine ⟨wv i, mst u1 107 i (u1 107 i + 1), _, hf.trans (fin9 hi u1), e.trans (fin10 hi m'), ?_⟩
  have e120 : m' 120 = u 120 := by rw [q1 120 (by unfold keepM; omega)]; exact hm1 120 (by omega)
  have e107 : u1 107 = u 107 := q.1 107 (by omega)
  refine Inv_mk (u1 := mst u1 107 i (u1 107 i + 1)) (m := mst (mst u 120 (i + 1) (u 120 (i + 1) + 1)) 120 0 (u 120 0 + 1)) ?_ ?_ ?_ ?_ ?_ ?_
  · obtain ⟨h1, h2, h3, h4, h5, h6, h7⟩ := Cs_u h.2 h.1 q
    have hM := h.2
    have k0 : ∀ a, a ≠ 120 → (mst (mst u 120 (i + 1) (u 120 (i + 1) + 1)) 120 0 (u 120 0 + 1)) a = u a := fun a ha => by rw [mst_k ha, mst_k ha]
    have k1 : ∀ a, a ≠ 107 → (mst u1 107 i (u1 107 i + 1)) a = u1 a := fun a ha => by rw [mst_k ha]
    unfold Cs
    rw [k0 117 (by omega), k0 116 (by omega), k0 118 (by omega), k0 125 (by omega), k0 128 (by omega), k0 129 (by omega), k0 130 (by omega), k1 0 (by omega), k1 104 (by omega), k1 105 (by omega)]
    refine ⟨Rep_congr (fun a _ _ => k1 a (by omega)) hM.1 h1, h2, fun z => ?_, h4, fun s hs => ?_, fun j hj => ?_, ?_⟩
    · rcases hM.2.1 with y | y
      · exact absurd y z
      · exact Rep_congr (fun a _ _ => k1 a (by omega)) y.2 (h3 z)
    · rw [k1 _ (by omega), k1 _ (by omega)]; exact h5 s hs
    · rw [mst_row, mst_row, mst_row]
      unfold upd
      rw [if_neg (show ¬ j + 1 = 0 by omega)]
      by_cases c : j = i
      · rw [if_pos c, if_pos (by omega), e107, ← h6 i hi, e107]
      · rw [if_neg c, if_neg (by omega)]; exact h6 j hj
    · rw [mst_s, mst_row, mst_row]
      have hz : (fun j => upd (upd (u 120) (i + 1) (u 120 (i + 1) + 1)) 0 (u 120 0 + 1) (j + 1)) = fun j => if j = i then (fun j => u 120 (j + 1)) j + 1 else (fun j => u 120 (j + 1)) j := by
        funext j
        unfold upd
        rw [if_neg (show ¬ j + 1 = 0 by omega)]
        by_cases c : j = i
        · rw [if_pos c, if_pos (by omega), c]
        · rw [if_neg c, if_neg (by omega)]
      rw [hz, sumI_upd, if_pos hi, ← h7]
  · have hM := h.2
    have k0 : ∀ a, a ≠ 120 → (mst (mst u 120 (i + 1) (u 120 (i + 1) + 1)) 120 0 (u 120 0 + 1)) a = u a := fun a ha => by rw [mst_k ha, mst_k ha]
    unfold Ms
    rw [k0 117 (by omega), k0 116 (by omega), k0 118 (by omega), k0 125 (by omega), k0 128 (by omega), k0 129 (by omega), k0 124 (by omega)]
    exact hM
  · intro a ha
    rw [mst_k (by omega), mst_k (by omega), q1 a (Or.inl ha)]
  · intro a ha hk
    by_cases c : a = 120
    · subst c
      rw [mst_row, mst_row, mst_row, mst_row, e120]
    · rw [mst_k c, mst_k c, mst_k c, mst_k c, q1 a hk, hm1 a ha]
  · rw [mst_k (by omega), mst_k (by omega), mst_k (by omega), mst_k (by omega), q2, hm1 116 (by omega)]
  · rw [mst_k (by omega), mst_k (by omega), mst_k (by omega), mst_k (by omega), q3, hm1 116 (by omega)]
theorem bind_eta {A B : Type} (o : Option (A × B)) : Option.bind o (fun q => some (q.1, q.2)) = o := by cases o <;> rfl
