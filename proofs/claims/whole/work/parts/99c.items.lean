/-! texts: items -/
section ITEMS
variable {u m : Mem} {t : Nat → Nat} {L s a k v : Nat} {r : Nat → Int32} {B : Nat}
def agT (x y : Mem) (B : Nat) : Prop := ∀ a, (a < B + 8 ∨ B + 11 ≤ a) → x a = y a
theorem ag_mst {x y : Mem} (h : agT x y B) {F : Nat} (hF : F < B + 8 ∨ B + 11 ≤ F) (j : Nat) (c : Int32) : agT (mst x F j c) (mst y F j c) B := by
  intro a ha
  by_cases e : a = F
  · subst e
    rw [mst_row, mst_row, h a ha]
  · rw [mst_k e, mst_k e]; exact h a ha
theorem Rep0_ag {x y : Mem} (h : agT x y B) (k : Rep0 y B r) : Rep0 x B r := by
  obtain ⟨k1, k2, k3, k4, k5, k6⟩ := k
  refine ⟨?_, ?_, ?_, ?_, ?_, ?_⟩
  · unfold RepN; rw [h B (by omega)]; exact k1
  · intro s hs; rw [h _ (by omega)]; exact k2 s hs
  · intro c hc f hf; rw [h _ (by omega)]; exact k3 c hc f hf
  · intro c hc f hf; rw [h _ (by omega)]; exact k4 c hc f hf
  · intro c hc; unfold RepW; rw [h _ (by omega)]; exact k5 c hc
  · intro i j hi hj; rw [h _ (by omega), h _ (by omega)]; exact k6 i j hi hj
theorem ag_msr (u : Mem) : agT u (msr u B r 3) B := fun a ha => (msr_ne (by omega)).symm
def adC (u : Mem) (B n : Nat) (k p s : Int32) : Mem := mst (mst (mst (mst (mst (mst u (B + 12 + n) 0 k) (B + 12 + n) 1 p) (B + 12 + n) 2 s) (B + 12 + n) 3 0) (B + 12 + n) 4 0) B 5 (nI (n + 1))
theorem adC_eq {n : Nat} (hn : n < 6) (h : u B 5 = nI n) (k p s : Int32) : FX2_addCarrier B k p s u = some (nI n, adC u B n k p s) := by
  have cn : (nI n).toNatClampNeg = n := ncl (by omega)
  have hv : mst (mst (mst (mst (mst u (B + 12 + n) 0 k) (B + 12 + n) 1 p) (B + 12 + n) 2 s) (B + 12 + n) 3 0) (B + 12 + n) 4 0 B 5 = nI n := by rw [mst_k (by omega), mst_k (by omega), mst_k (by omega), mst_k (by omega), mst_k (by omega)]; exact h
  unfold FX2_addCarrier
  simp only [nm, h, cn, hv, nI_1]
  rw [if_pos (inb_t hn (by omega))]
  rfl
theorem c_addC0 (h : Rep0 u B r) (hW : Wf r) (hn : nc r < 6) {k p s : Int32} (hk : In k 6) (hp : In p 6) (hs' : In s 99) : ∃ u', FX2_addCarrier B k p s u = some (nI (nc r), u') ∧ Rep0 u' B (addC r k p s) ∧ Wf (addC r k p s) ∧ Fr B u u' := by
  have hv := msr_Rep h hW
  obtain ⟨v', f1, f2, f3, f4⟩ := c_addCarrier hv hW hn hk hp hs'
  have eu : u B 5 = nI (nc r) := by rw [h.1.1]; exact (nc_eq hW).1
  rw [adC_eq hn (q5 hv hW)] at f1
  have e : v' = adC (msr u B r 3) B (nc r) k p s := (Prod.mk.inj (Option.some.inj f1)).2.symm
  subst e
  refine ⟨adC u B (nc r) k p s, adC_eq hn eu k p s, Rep0_ag ?_ (Rep_0 f2), f3, ?_⟩
  · exact ag_mst (ag_mst (ag_mst (ag_mst (ag_mst (ag_mst (ag_msr u) (by omega) _ _) (by omega) _ _) (by omega) _ _) (by omega) _ _) (by omega) _ _) (by omega) _ _
  · exact Fr_trans (Fr_mst (by omega) _ _ _) (Fr_trans (Fr_mst (by omega) _ _ _) (Fr_trans (Fr_mst (by omega) _ _ _) (Fr_trans (Fr_mst (by omega) _ _ _) (Fr_trans (Fr_mst (by omega) _ _ _) (Fr_mst (by omega) _ _ _)))))
def adE (u : Mem) (B n : Nat) (k p s : Int32) : Mem := mst (mst (mst (mst (mst (mst u (B + 18 + n) 0 k) (B + 18 + n) 1 p) (B + 18 + n) 2 s) (B + 18 + n) 3 0) (B + 18 + n) 4 (-1)) B 6 (nI (n + 1))
theorem adE_eq {n : Nat} (hn : n < 8) (h : u B 6 = nI n) (k p s : Int32) : FX2_addErrand B k p s u = some (nI n, adE u B n k p s) := by
  have cn : (nI n).toNatClampNeg = n := ncl (by omega)
  have hv : mst (mst (mst (mst (mst u (B + 18 + n) 0 k) (B + 18 + n) 1 p) (B + 18 + n) 2 s) (B + 18 + n) 3 0) (B + 18 + n) 4 (-1) B 6 = nI n := by rw [mst_k (by omega), mst_k (by omega), mst_k (by omega), mst_k (by omega), mst_k (by omega)]; exact h
  unfold FX2_addErrand
  simp only [nm, h, cn, hv, nI_1]
  rw [if_pos (inb_t hn (by omega))]
  rfl
theorem c_addE0 (h : Rep0 u B r) (hW : Wf r) (hn : ne r < 8) {k p s : Int32} (hk : In k 60) (hp : In p 6) (hs' : In s 6) : ∃ u', FX2_addErrand B k p s u = some (nI (ne r), u') ∧ Rep0 u' B (addE r k p s) ∧ Wf (addE r k p s) ∧ Fr B u u' := by
  have hv := msr_Rep h hW
  obtain ⟨v', f1, f2, f3, f4⟩ := c_addErrand hv hW hn hk hp hs'
  have eu : u B 6 = nI (ne r) := by rw [h.1.2.1]; exact (ne_eq hW).1
  rw [adE_eq hn (q6 hv hW)] at f1
  have e : v' = adE (msr u B r 3) B (ne r) k p s := (Prod.mk.inj (Option.some.inj f1)).2.symm
  subst e
  refine ⟨adE u B (ne r) k p s, adE_eq hn eu k p s, Rep0_ag ?_ (Rep_0 f2), f3, ?_⟩
  · exact ag_mst (ag_mst (ag_mst (ag_mst (ag_mst (ag_mst (ag_msr u) (by omega) _ _) (by omega) _ _) (by omega) _ _) (by omega) _ _) (by omega) _ _) (by omega) _ _
  · exact Fr_trans (Fr_mst (by omega) _ _ _) (Fr_trans (Fr_mst (by omega) _ _ _) (Fr_trans (Fr_mst (by omega) _ _ _) (Fr_trans (Fr_mst (by omega) _ _ _) (Fr_trans (Fr_mst (by omega) _ _ _) (Fr_mst (by omega) _ _ _)))))
def adW (u : Mem) (B n : Nat) (k : Int32) : Mem := mst (mst (mst u (B + 26 + n) 0 k) (B + 26 + n) 1 (-1)) B 7 (nI (n + 1))
theorem adW_eq {n : Nat} (hn : n < 6) (h : u B 7 = nI n) (k : Int32) : FX2_addWare B k u = some (nI n, adW u B n k) := by
  have cn : (nI n).toNatClampNeg = n := ncl (by omega)
  have h1 : mst u (B + 26 + n) 0 k B 7 = nI n := by rw [mst_k (by omega)]; exact h
  have hv : mst (mst u (B + 26 + n) 0 k) (B + 26 + n) 1 (-1) B 7 = nI n := by rw [mst_k (by omega)]; exact h1
  unfold FX2_addWare
  simp only [nm, h, cn, h1, hv, nI_1]
  rw [if_pos (inb_t hn (by omega)), if_pos (inb_t hn (by omega))]
  rfl
theorem c_addW0 (h : Rep0 u B r) (hW : Wf r) (hn : nw r < 6) {k : Int32} (hk : In k 9999) : ∃ u', FX2_addWare B k u = some (nI (nw r), u') ∧ Rep0 u' B (addW r k) ∧ Wf (addW r k) ∧ Fr B u u' := by
  have hv := msr_Rep h hW
  obtain ⟨v', f1, f2, f3, f4⟩ := c_addWare hv hW hn hk
  have eu : u B 7 = nI (nw r) := by rw [h.1.2.2.1]; exact (nw_eq hW).1
  rw [adW_eq hn (q7 hv hW)] at f1
  have e : v' = adW (msr u B r 3) B (nw r) k := (Prod.mk.inj (Option.some.inj f1)).2.symm
  subst e
  refine ⟨adW u B (nw r) k, adW_eq hn eu k, Rep0_ag ?_ (Rep_0 f2), f3, ?_⟩
  · exact ag_mst (ag_mst (ag_mst (ag_msr u) (by omega) _ _) (by omega) _ _) (by omega) _ _
  · exact Fr_trans (Fr_mst (by omega) _ _ _) (Fr_trans (Fr_mst (by omega) _ _ _) (Fr_mst (by omega) _ _ _))
/-- an item written down -/
def itM (m : Mem) (n : Nat) (a b c d e : Int32) : Mem := mst (mst (mst (mst (mst (mst m 127 (5 * n) a) 127 (5 * n + 1) b) 127 (5 * n + 2) c) 127 (5 * n + 3) d) 127 (5 * n + 4) e) 116 22 (nI (n + 1))
theorem m_item {n : Nat} (hn : n < 120) (h : m 116 22 = nI n) (a b c d e : Int32) : FX10_item a b c d e m = some (itM m n a b c d e) := by
  have c0 : (nI (5 * n)).toNatClampNeg = 5 * n := ncl (by omega)
  have c1 : (nI (5 * n + 1)).toNatClampNeg = 5 * n + 1 := ncl (by omega)
  have c2 : (nI (5 * n + 2)).toNatClampNeg = 5 * n + 2 := ncl (by omega)
  have c3 : (nI (5 * n + 3)).toNatClampNeg = 5 * n + 3 := ncl (by omega)
  have c4 : (nI (5 * n + 4)).toNatClampNeg = 5 * n + 4 := ncl (by omega)
  have e5 : 5 * nI n = nI (5 * n) := by rw [L5, nmul]
  have e1 : nI (5 * n) + 1 = nI (5 * n + 1) := nadd _ _
  have e2 : nI (5 * n) + 2 = nI (5 * n + 2) := nadd _ _
  have e3 : nI (5 * n) + 3 = nI (5 * n + 3) := nadd _ _
  have e4 : nI (5 * n) + 4 = nI (5 * n + 4) := nadd _ _
  have hv : mst (mst (mst (mst (mst m 127 (5 * n) a) 127 (5 * n + 1) b) 127 (5 * n + 2) c) 127 (5 * n + 3) d) 127 (5 * n + 4) e 116 22 = nI n := by rw [mst_k (by omega), mst_k (by omega), mst_k (by omega), mst_k (by omega), mst_k (by omega)]; exact h
  unfold FX10_item
  simp only [nm, h, e5, e1, e2, e3, e4, c0, c1, c2, c3, c4, hv, nI_1]
  rw [if_pos (inb_t (by omega) (by omega)), if_pos (inb_t (by omega) (by omega)), if_pos (inb_t (by omega) (by omega)), if_pos (inb_t (by omega) (by omega)), if_pos (inb_t (by omega) (by omega))]
  rfl
theorem it_x {n : Nat} {a b c d e : Int32} {x : Nat} (h1 : x ≠ 116) (h2 : x ≠ 127) : itM m n a b c d e x = m x := by
  unfold itM
  rw [mst_k h1, mst_k h2, mst_k h2, mst_k h2, mst_k h2, mst_k h2]
theorem it_j {n : Nat} {a b c d e : Int32} {j : Nat} (h : j ≠ 22) : itM m n a b c d e 116 j = m 116 j := by
  unfold itM
  rw [mst_j h, mst_k (by omega), mst_k (by omega), mst_k (by omega), mst_k (by omega), mst_k (by omega)]
theorem it_22 {n : Nat} {a b c d e : Int32} : itM m n a b c d e 116 22 = nI (n + 1) := mst_s _ _ _ _
theorem it_lo {n : Nat} {a b c d e : Int32} {y : Nat} (h : y < 5 * n) : itM m n a b c d e 127 y = m 127 y := by
  unfold itM
  rw [mst_k (show 127 ≠ 116 by omega), mst_j (by omega), mst_j (by omega), mst_j (by omega), mst_j (by omega), mst_j (by omega)]
theorem it_at {n : Nat} {a b c d e : Int32} : itM m n a b c d e 127 (5 * n) = a ∧ itM m n a b c d e 127 (5 * n + 1) = b ∧ itM m n a b c d e 127 (5 * n + 2) = c ∧ itM m n a b c d e 127 (5 * n + 3) = d ∧ itM m n a b c d e 127 (5 * n + 4) = e := by
  unfold itM
  rw [mst_k (show 127 ≠ 116 by omega)]
  refine ⟨?_, ?_, ?_, ?_, mst_s _ _ _ _⟩
  · rw [mst_j (by omega), mst_j (by omega), mst_j (by omega), mst_j (by omega), mst_s]
  · rw [mst_j (by omega), mst_j (by omega), mst_j (by omega), mst_s]
  · rw [mst_j (by omega), mst_j (by omega), mst_s]
  · rw [mst_j (by omega), mst_s]
def itA (ρ : Nat → Int32) (i : Nat) (r : Nat → Int32) : Nat → Int32 := if ρ (5 * i) = 10 then layR r (tn (ρ (5 * i + 1))) (tn (ρ (5 * i + 2))) (ρ (5 * i + 3)) (ρ (5 * i + 4)) else if ρ (5 * i) = 11 then addE r (ρ (5 * i + 1)) (ρ (5 * i + 2)) (ρ (5 * i + 3)) else if ρ (5 * i) = 12 then addW r (ρ (5 * i + 1)) else addC r (ρ (5 * i)) (ρ (5 * i + 1)) (ρ (5 * i + 2))
def itV (ρ : Nat → Int32) (i : Nat) (r : Nat → Int32) : Prop := (ρ (5 * i) = 10 ∧ ∃ a b, a < 7 ∧ b < 7 ∧ a ≠ b ∧ ρ (5 * i + 1) = nI a ∧ ρ (5 * i + 2) = nI b ∧ In (ρ (5 * i + 3)) 99 ∧ In (ρ (5 * i + 4)) 1) ∨ (ρ (5 * i) = 11 ∧ ne r < 8 ∧ In (ρ (5 * i + 1)) 60 ∧ In (ρ (5 * i + 2)) 6 ∧ In (ρ (5 * i + 3)) 6) ∨ (ρ (5 * i) = 12 ∧ nw r < 6 ∧ In (ρ (5 * i + 1)) 9999) ∨ ((∃ kd, kd < 7 ∧ ρ (5 * i) = nI kd) ∧ nc r < 6 ∧ In (ρ (5 * i + 1)) 6 ∧ In (ρ (5 * i + 2)) 99)
def apR (ρ : Nat → Int32) (r0 : Nat → Int32) : Nat → Nat → Int32
  | 0 => r0
  | i + 1 => itA ρ i (apR ρ r0 i)
theorem it_congr {ρ ρ' : Nat → Int32} {i : Nat} (h : ∀ y, y < 5 * (i + 1) → ρ' y = ρ y) (r : Nat → Int32) : itA ρ' i r = itA ρ i r ∧ (itV ρ i r → itV ρ' i r) := by
  unfold itA itV
  rw [h (5 * i) (by omega), h (5 * i + 1) (by omega), h (5 * i + 2) (by omega), h (5 * i + 3) (by omega), h (5 * i + 4) (by omega)]
  exact ⟨rfl, fun z => z⟩
theorem ap_congr {ρ ρ' r0 : Nat → Int32} : ∀ n, (∀ y, y < 5 * n → ρ' y = ρ y) → apR ρ' r0 n = apR ρ r0 n
  | 0, _ => rfl
  | n + 1, h => by
    have ih := ap_congr (r0 := r0) n (fun y hy => h y (by omega))
    show itA ρ' n (apR ρ' r0 n) = itA ρ n (apR ρ r0 n)
    rw [ih, (it_congr (fun y hy => h y (by omega)) _).1]
theorem n_addC (hn : nc r < 6) (k p s : Int32) : nc (addC r k p s) = nc r + 1 ∧ ne (addC r k p s) = ne r ∧ nw (addC r k p s) = nw r := by
  unfold addC
  refine ⟨?_, ?_, ?_⟩
  · exact (congrArg tn pk_us).trans (ncl (by omega))
  · exact congrArg tn (by rw [pk_un (by omega), pk_un (by omega), pk_un (by omega), pk_un (by omega), pk_un (by omega), pk_un (by omega)])
  · exact congrArg tn (by rw [pk_un (by omega), pk_un (by omega), pk_un (by omega), pk_un (by omega), pk_un (by omega), pk_un (by omega)])
theorem n_addE (hn : ne r < 8) (k p s : Int32) : nc (addE r k p s) = nc r ∧ ne (addE r k p s) = ne r + 1 ∧ nw (addE r k p s) = nw r := by
  unfold addE
  refine ⟨?_, ?_, ?_⟩
  · exact congrArg tn (by rw [pk_un (by omega), pk_un (by omega), pk_un (by omega), pk_un (by omega), pk_un (by omega), pk_un (by omega)])
  · exact (congrArg tn pk_us).trans (ncl (by omega))
  · exact congrArg tn (by rw [pk_un (by omega), pk_un (by omega), pk_un (by omega), pk_un (by omega), pk_un (by omega), pk_un (by omega)])
theorem n_addW (hn : nw r < 6) (k : Int32) : nc (addW r k) = nc r ∧ ne (addW r k) = ne r ∧ nw (addW r k) = nw r + 1 := by
  unfold addW
  refine ⟨?_, ?_, ?_⟩
  · exact congrArg tn (by rw [pk_un (by omega), pk_un (by omega), pk_un (by omega)])
  · exact congrArg tn (by rw [pk_un (by omega), pk_un (by omega), pk_un (by omega)])
  · exact (congrArg tn pk_us).trans (ncl (by omega))
/-- frames -/
def BF (m m' : Mem) : Prop := (∀ x, x ≠ 116 → x ≠ 127 → m' x = m x) ∧ ∀ j, j < 15 → m' 116 j = m 116 j
theorem BF_refl (m : Mem) : BF m m := ⟨fun _ _ _ => rfl, fun _ _ => rfl⟩
theorem BF_trans {a b c : Mem} (h : BF a b) (k : BF b c) : BF a c := ⟨fun x h1 h2 => by rw [k.1 x h1 h2, h.1 x h1 h2], fun j hj => by rw [k.2 j hj, h.2 j hj]⟩
theorem BF_NF {m m' : Mem} (h : NF m m') : BF m m' := ⟨fun x h1 _ => h.1 x h1, fun j hj => h.2 j (by omega) (by omega) (by omega) (by omega)⟩
theorem BF_mst {j : Nat} (hj : 15 ≤ j) (m : Mem) (x : Int32) : BF m (mst m 116 j x) := ⟨fun y h1 _ => mst_k h1 _ _, fun i hi => mst_j (by omega) _ _⟩
theorem BF_it {n : Nat} {a b c d e : Int32} : BF m (itM m n a b c d e) := ⟨fun x h1 h2 => it_x h1 h2, fun j hj => it_j (by omega)⟩
def KU (u u' : Mem) : Prop := ∀ x, (x < 65 ∨ 97 ≤ x) → x ≠ 104 → u' x = u x
theorem KU_refl (u : Mem) : KU u u := fun _ _ _ => rfl
theorem KU_trans {a b c : Mem} (h : KU a b) (k : KU b c) : KU a c := fun x h1 h2 => by rw [k x h1 h2, h x h1 h2]
theorem KU_KC {u u' : Mem} (h : KC u u') : KU u u' := fun x _ h2 => h x h2
theorem KU_Fr {u u' : Mem} (h : Fr 65 u u') : KU u u' := fun x h1 _ => h x (by omega)
theorem Rep0_KC {u u' : Mem} (h : KC u u') (k : Rep0 u 65 r) (hw : Wf r) : Rep0 u' 65 r := by
  have h6 := (nc_eq hw).2
  have h8 := (ne_eq hw).2
  have h9 := (nw_eq hw).2
  obtain ⟨k1, k2, k3, k4, k5, k6⟩ := k
  refine ⟨?_, ?_, ?_, ?_, ?_, ?_⟩
  · unfold RepN; rw [h 65 (by omega)]; exact k1
  · intro s hs; rw [h _ (by omega)]; exact k2 s hs
  · intro c hc f hf; rw [h _ (by omega)]; exact k3 c hc f hf
  · intro c hc f hf; rw [h _ (by omega)]; exact k4 c hc f hf
  · intro c hc; unfold RepW; rw [h _ (by omega)]; exact k5 c hc
  · intro i j hi hj; rw [h _ (by omega), h _ (by omega)]; exact k6 i j hi hj
theorem JS_m {m m' : Mem} (h : JS u m t L s a k v) (h1 : ∀ j, 14 ≤ j → j < 20 → m' 116 j = m 116 j) (h2 : m' 125 = m 125) : JS u m' t L s a k v := by
  obtain ⟨c, ⟨⟨m1, m2, m3, m4, m5⟩, m6, m7⟩, b⟩ := h
  refine ⟨c, ⟨⟨?_, ?_, ?_, ?_, fun z => ?_⟩, Tp_k m6 h2, ?_⟩, b⟩
  · rw [h1 14 (by omega) (by omega)]; exact m1
  · rw [h1 15 (by omega) (by omega)]; exact m2
  · rw [h1 16 (by omega) (by omega)]; exact m3
  · rw [h1 17 (by omega) (by omega)]; exact m4
  · rw [h1 18 (by omega) (by omega)]; exact m5 z
  · rw [h1 19 (by omega) (by omega)]; exact m7
theorem JS_u {u u' : Mem} (h : JS u m t L s a k v) (h1 : u' 104 = u 104) (h2 : u' 105 = u 105) : JS u' m t L s a k v := by
  obtain ⟨⟨c1, c2⟩, m1, b⟩ := h
  refine ⟨⟨?_, Tp_k c2 h2⟩, m1, b⟩
  unfold TC
  rw [h1]
  exact c1
theorem JS_it {n : Nat} {x1 x2 x3 x4 x5 : Int32} (h : JS u m t L s a k v) : JS u (itM m n x1 x2 x3 x4 x5) t L s a k v := JS_m h (fun j _ hj => it_j (by omega)) (it_x (by omega) (by omega))
theorem bad_end {m mw : Mem} {n s : Nat} (hB : BF m mw) (h19 : mw 116 19 = 1) (h15 : mw 116 15 = nI s) (h22 : mw 116 22 = nI n) (hn : n < 120) (a b c d e : Int32) : ∃ m', FX10_item a b c d e mw = some m' ∧ m' 116 19 = 1 ∧ m' 116 15 = nI s ∧ BF m m' :=
  ⟨_, m_item hn h22 a b c d e, by rw [it_j (by omega)]; exact h19, by rw [it_j (by omega)]; exact h15, BF_trans hB BF_it⟩
end ITEMS
