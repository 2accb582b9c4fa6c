/-! the row of numbers that a fair is -/
def wy (i j : Nat) : Nat := 2 * (min i j * (13 - min i j) / 2 + max i j - min i j - 1)
theorem wy_sym (i j : Nat) : wy i j = wy j i := by unfold wy; rw [Nat.min_comm, Nat.max_comm]
theorem wy_lt {i j : Nat} (hi : i < 7) (hj : j < 7) (h : i ≠ j) : wy i j + 1 < 42 := by
  have key : ∀ i, i < 7 → ∀ j, j < 7 → i ≠ j → wy i j + 1 < 42 := by decide +kernel
  exact key i hi j hj h
def wyI (x : Nat) : Nat := [1, 2, 3, 4, 5, 6, 9, 10, 11, 12, 13, 17, 18, 19, 20, 25, 26, 27, 33, 34, 41].getD (x / 2) 0
theorem wy_inj {i j i' j' : Nat} (hi : i < 7) (hj : j < 7) (h : i ≠ j) (hi' : i' < 7) (hj' : j' < 7) (h' : i' ≠ j') : wy i j + 1 ≠ wy i' j' ∧ (wy i j = wy i' j' → (i = i' ∧ j = j') ∨ (i = j' ∧ j = i')) := by
  have key : ∀ i, i < 7 → ∀ j, j < 7 → i ≠ j → wyI (wy i j) = 7 * min i j + max i j := by decide +kernel
  have k1 := key i hi j hj h
  have k2 := key i' hi' j' hj' h'
  refine ⟨by unfold wy; omega, fun e => ?_⟩
  rw [e, k2] at k1
  omega
theorem wayAt_eq {i j : Nat} (hi : i < 7) (hj : j < 7) (h : i ≠ j) : FX10_wayAt (nI i) (nI j) = nI (wy i j) := by
  have key : ∀ i, i < 7 → ∀ j, j < 7 → i ≠ j → FX10_wayAt (nI i) (nI j) = nI (wy i j) := by decide +kernel
  exact key i hi j hj h
/-- a number from 0 to m -/
def In (x : Int32) (m : Nat) : Prop := x = nI (tn x) ∧ tn x ≤ m
theorem In_nI {n m : Nat} (h : n ≤ m) (hm : m < 2147483648) : In (nI n) m := by
  unfold In tn
  rw [ncl (by omega)]
  exact ⟨rfl, h⟩
def nc (r : Nat → Int32) : Nat := tn (r 42)
def ne (r : Nat → Int32) : Nat := tn (r 43)
def nw (r : Nat → Int32) : Nat := tn (r 44)
def cF (r : Nat → Int32) (c f : Nat) : Nat := tn (r (56 + 5 * c + f))
def eF (r : Nat → Int32) (e f : Nat) : Nat := tn (r (86 + 5 * e + f))
def wF' (r : Nat → Int32) (w : Nat) : Nat := tn (r (126 + 2 * w))
def dnc (r : Nat → Int32) : Nat := cntS (fun e => decide (eF r e 3 = 2)) (ne r)
def PM : Nat := 2000000
def wfC (r : Nat → Int32) (c : Nat) : Prop := In (r (56 + 5 * c + 0)) 6 ∧ In (r (56 + 5 * c + 1)) 6 ∧ In (r (56 + 5 * c + 2)) 99 ∧ In (r (56 + 5 * c + 3)) (999999 + PM * dnc r)
def wfE (r : Nat → Int32) (e : Nat) : Prop := In (r (86 + 5 * e + 0)) 60 ∧ In (r (86 + 5 * e + 1)) 6 ∧ In (r (86 + 5 * e + 2)) 6 ∧ In (r (86 + 5 * e + 3)) 2
def wfH (n : Nat) (x : Int32) : Prop := x = -1 ∨ ∃ c, c < n ∧ x = nI c
def wfW (r : Nat → Int32) (w : Nat) : Prop := In (r (126 + 2 * w)) 9999 ∧ wfH (nc r) (r (126 + 2 * w + 1))
def Wf (r : Nat → Int32) : Prop :=
  (In (r 42) 6 ∧ In (r 43) 8 ∧ In (r 44) 6) ∧
  (∀ i j, i < 7 → j < 7 → i ≠ j → In (r (wy i j)) 99 ∧ In (r (wy i j + 1)) 1) ∧
  (∀ s, s < 10 → wfH (nc r) (r (46 + s))) ∧
  (∀ c, c < nc r → wfC r c) ∧ (∀ e, e < ne r → wfE r e) ∧ ∀ w, w < nw r → wfW r w
/-- a way's yards at a gait -/
def gy (g y v : Nat) : Nat := if v = 0 ∨ g = 1 then y else if g = 2 then max 1 (y / 2) else 2 * y
def eg (r : Nat → Int32) (g i j : Nat) : Nat := if i = j then 0 else if i < 7 ∧ j < 7 then (if tn (r (wy i j)) = 0 then NW else gy g (tn (r (wy i j))) (tn (r (wy i j + 1)))) else NW
def gt (k : Nat) : Nat := if k = 5 then 1 else if k = 6 then 2 else 0
theorem gt_lt (k : Nat) : gt k < 3 := by unfold gt; split <;> first | omega | (split <;> omega)
def Ds (r : Nat → Int32) (k : Nat) : Nat → Nat → Nat := fw (eg r (gt k)) 7
theorem gy_le {g y v : Nat} (h : y ≤ 99) : gy g y v ≤ 198 := by unfold gy; split <;> first | omega | (split <;> omega)
theorem eg_Eg {r : Nat → Int32} (h : Wf r) (g : Nat) : Eg (eg r g) := by
  refine ⟨fun i => by simp [eg], fun i j => ?_, fun i j => ?_⟩
  · unfold eg
    rw [wy_sym i j]
    by_cases c : i = j
    · rw [if_pos c, if_pos (show j = i from c.symm)]
    · rw [if_neg c, if_neg (show ¬ j = i from fun z => c z.symm)]
      by_cases d : i < 7 ∧ j < 7
      · rw [if_pos d, if_pos (show j < 7 ∧ i < 7 from ⟨d.2, d.1⟩)]
      · rw [if_neg d, if_neg (show ¬ (j < 7 ∧ i < 7) from fun z => d ⟨z.2, z.1⟩)]
  · unfold eg
    by_cases c : i = j
    · rw [if_pos c]; right; omega
    · rw [if_neg c]
      by_cases d : i < 7 ∧ j < 7
      · rw [if_pos d]
        by_cases e : tn (r (wy i j)) = 0
        · rw [if_pos e]; exact Or.inl rfl
        · rw [if_neg e]; exact Or.inr (gy_le (h.2.1 i j d.1 d.2 c).1.2)
      · rw [if_neg d]; exact Or.inl rfl
theorem Ds_Dm {r : Nat → Int32} (h : Wf r) (k : Nat) : Dm (Ds r k) := fw_Dm (eg_Eg h (gt k))
theorem Ds_le {r : Nat → Int32} (h : Wf r) (k i j : Nat) : Ds r k i j ≤ 1000000 := (Ds_Dm h k).2.2.1 i j
/-- the class' fair at B is the row r -/
def RepC (u : Mem) (B : Nat) (r : Nat → Int32) (c : Nat) : Prop := ∀ f, f < 5 → u (B + 12 + c) f = r (56 + 5 * c + f)
def RepE (u : Mem) (B : Nat) (r : Nat → Int32) (e : Nat) : Prop := ∀ f, f < 5 → u (B + 18 + e) f = r (86 + 5 * e + f)
def RepT (u : Mem) (B : Nat) (r : Nat → Int32) : Prop := ∀ g i j, g < 3 → i < 7 → j < 7 → u (B + 4 + 4 + g) (7 * i + j) = nI (fw (eg r g) 7 i j)
def RepY (u : Mem) (B : Nat) (r : Nat → Int32) : Prop := ∀ i j, i < 7 → j < 7 → u (B + 4 + 1) (7 * i + j) = (if i = j then 0 else r (wy i j)) ∧ (i ≠ j → u (B + 4 + 2) (7 * i + j) = r (wy i j + 1))
def RepN (u : Mem) (B : Nat) (r : Nat → Int32) : Prop := u B 5 = r 42 ∧ u B 6 = r 43 ∧ u B 7 = r 44 ∧ u B 8 = r 45
def RepS (u : Mem) (B : Nat) (r : Nat → Int32) : Prop := ∀ s, s < 10 → u (B + 11) s = r (46 + s)
def RepW (u : Mem) (B : Nat) (r : Nat → Int32) (w : Nat) : Prop := u (B + 26 + w) 0 = r (126 + 2 * w) ∧ u (B + 26 + w) 1 = r (126 + 2 * w + 1)
def Rep (u : Mem) (B : Nat) (r : Nat → Int32) : Prop := RepN u B r ∧ RepS u B r ∧ (∀ c, c < nc r → RepC u B r c) ∧ (∀ e, e < ne r → RepE u B r e) ∧ (∀ w, w < nw r → RepW u B r w) ∧ RepY u B r ∧ RepT u B r
theorem inb_t {i n : Nat} (h : i < n) (hi : i < 2147483648) : inb (nI i) n := by rw [ninb hi]; exact h
section ROW
variable {r : Nat → Int32} {u : Mem} {B : Nat}
theorem nc_eq (h : Wf r) : r 42 = nI (nc r) ∧ nc r ≤ 6 := h.1.1
theorem ne_eq (h : Wf r) : r 43 = nI (ne r) ∧ ne r ≤ 8 := h.1.2.1
theorem nw_eq (h : Wf r) : r 44 = nI (nw r) ∧ nw r ≤ 6 := h.1.2.2
theorem cK (h : Wf r) {c : Nat} (hc : c < nc r) : r (56 + 5 * c + 0) = nI (cF r c 0) ∧ cF r c 0 < 7 := ⟨(h.2.2.2.1 c hc).1.1, Nat.lt_succ_of_le (h.2.2.2.1 c hc).1.2⟩
theorem cP (h : Wf r) {c : Nat} (hc : c < nc r) : r (56 + 5 * c + 1) = nI (cF r c 1) ∧ cF r c 1 < 7 := ⟨(h.2.2.2.1 c hc).2.1.1, Nat.lt_succ_of_le (h.2.2.2.1 c hc).2.1.2⟩
theorem cS (h : Wf r) {c : Nat} (hc : c < nc r) : r (56 + 5 * c + 2) = nI (cF r c 2) ∧ cF r c 2 ≤ 99 := (h.2.2.2.1 c hc).2.2.1
theorem dnc_le (h : Wf r) : dnc r ≤ 8 := by
  have key : ∀ (P : Nat → Bool) n, cntS P n ≤ n := by
    intro P n
    induction n with
    | zero => exact Nat.le_refl _
    | succ n ih => unfold cntS; split <;> omega
  exact Nat.le_trans (key _ _) (ne_eq h).2
theorem cE (h : Wf r) {c : Nat} (hc : c < nc r) : r (56 + 5 * c + 3) = nI (cF r c 3) ∧ cF r c 3 ≤ 999999 + PM * dnc r ∧ cF r c 3 ≤ 16999999 := by
  have e := (h.2.2.2.1 c hc).2.2.2
  have := dnc_le h
  have hP : PM = 2000000 := rfl
  refine ⟨e.1, e.2, ?_⟩
  have e2 : cF r c 3 ≤ 999999 + PM * dnc r := e.2
  rw [hP] at e2
  omega
theorem eW (h : Wf r) {e : Nat} (he : e < ne r) : r (86 + 5 * e + 0) = nI (eF r e 0) ∧ eF r e 0 ≤ 60 := (h.2.2.2.2.1 e he).1
theorem eA (h : Wf r) {e : Nat} (he : e < ne r) : r (86 + 5 * e + 1) = nI (eF r e 1) ∧ eF r e 1 < 7 := ⟨(h.2.2.2.2.1 e he).2.1.1, Nat.lt_succ_of_le (h.2.2.2.2.1 e he).2.1.2⟩
theorem eB (h : Wf r) {e : Nat} (he : e < ne r) : r (86 + 5 * e + 2) = nI (eF r e 2) ∧ eF r e 2 < 7 := ⟨(h.2.2.2.2.1 e he).2.2.1.1, Nat.lt_succ_of_le (h.2.2.2.2.1 e he).2.2.1.2⟩
theorem eH (h : Wf r) {e : Nat} (he : e < ne r) : r (86 + 5 * e + 3) = nI (eF r e 3) ∧ eF r e 3 < 3 := ⟨(h.2.2.2.2.1 e he).2.2.2.1, Nat.lt_succ_of_le (h.2.2.2.2.1 e he).2.2.2.2⟩
theorem wP (h : Wf r) {w : Nat} (hw : w < nw r) : r (126 + 2 * w) = nI (wF' r w) ∧ wF' r w ≤ 9999 := (h.2.2.2.2.2 w hw).1
theorem yY (h : Wf r) {i j : Nat} (hi : i < 7) (hj : j < 7) (hij : i ≠ j) : r (wy i j) = nI (tn (r (wy i j))) ∧ tn (r (wy i j)) ≤ 99 := (h.2.1 i j hi hj hij).1
theorem yV (h : Wf r) {i j : Nat} (hi : i < 7) (hj : j < 7) (hij : i ≠ j) : r (wy i j + 1) = nI (tn (r (wy i j + 1))) ∧ tn (r (wy i j + 1)) ≤ 1 := (h.2.1 i j hi hj hij).2
/-- the class' cells -/
theorem q5 (h : Rep u B r) (hw : Wf r) : u B 5 = nI (nc r) := by rw [h.1.1]; exact (nc_eq hw).1
theorem q6 (h : Rep u B r) (hw : Wf r) : u B 6 = nI (ne r) := by rw [h.1.2.1]; exact (ne_eq hw).1
theorem q7 (h : Rep u B r) (hw : Wf r) : u B 7 = nI (nw r) := by rw [h.1.2.2.1]; exact (nw_eq hw).1
theorem qK (h : Rep u B r) (hw : Wf r) {c : Nat} (hc : c < nc r) : u (B + 12 + c) 0 = nI (cF r c 0) := by rw [h.2.2.1 c hc 0 (by omega)]; exact (cK hw hc).1
theorem qP (h : Rep u B r) (hw : Wf r) {c : Nat} (hc : c < nc r) : u (B + 12 + c) 1 = nI (cF r c 1) := by rw [h.2.2.1 c hc 1 (by omega)]; exact (cP hw hc).1
theorem qS (h : Rep u B r) (hw : Wf r) {c : Nat} (hc : c < nc r) : u (B + 12 + c) 2 = nI (cF r c 2) := by rw [h.2.2.1 c hc 2 (by omega)]; exact (cS hw hc).1
theorem qE (h : Rep u B r) (hw : Wf r) {c : Nat} (hc : c < nc r) : u (B + 12 + c) 3 = nI (cF r c 3) := by rw [h.2.2.1 c hc 3 (by omega)]; exact (cE hw hc).1
theorem qw (h : Rep u B r) {c : Nat} (hc : c < nc r) : u (B + 12 + c) 4 = r (56 + 5 * c + 4) := h.2.2.1 c hc 4 (by omega)
theorem qp (h : Rep u B r) (hw : Wf r) {e : Nat} (he : e < ne r) : u (B + 18 + e) 0 = nI (eF r e 0) := by rw [h.2.2.2.1 e he 0 (by omega)]; exact (eW hw he).1
theorem qa (h : Rep u B r) (hw : Wf r) {e : Nat} (he : e < ne r) : u (B + 18 + e) 1 = nI (eF r e 1) := by rw [h.2.2.2.1 e he 1 (by omega)]; exact (eA hw he).1
theorem qb (h : Rep u B r) (hw : Wf r) {e : Nat} (he : e < ne r) : u (B + 18 + e) 2 = nI (eF r e 2) := by rw [h.2.2.2.1 e he 2 (by omega)]; exact (eB hw he).1
theorem qh (h : Rep u B r) (hw : Wf r) {e : Nat} (he : e < ne r) : u (B + 18 + e) 3 = nI (eF r e 3) := by rw [h.2.2.2.1 e he 3 (by omega)]; exact (eH hw he).1
theorem qo (h : Rep u B r) {e : Nat} (he : e < ne r) : u (B + 18 + e) 4 = r (86 + 5 * e + 4) := h.2.2.2.1 e he 4 (by omega)
theorem qi (h : Rep u B r) (hw : Wf r) {w : Nat} (hw' : w < nw r) : u (B + 26 + w) 0 = nI (wF' r w) := by rw [(h.2.2.2.2.1 w hw').1]; exact (wP hw hw').1
theorem qt (h : Rep u B r) {w : Nat} (hw' : w < nw r) : u (B + 26 + w) 1 = r (126 + 2 * w + 1) := (h.2.2.2.2.1 w hw').2
/-- the reference's cells -/
theorem cAt_eq {c f : Nat} : FX10_cAt (nI c) (nI f) = nI (56 + 5 * c + f) := by
  unfold FX10_cAt
  rw [show (56 : Int32) = nI 56 from rfl, L5, nmul, nadd, nadd]
theorem eAt_eq {e f : Nat} : FX10_eAt (nI e) (nI f) = nI (86 + 5 * e + f) := by
  unfold FX10_eAt
  rw [show (86 : Int32) = nI 86 from rfl, L5, nmul, nadd, nadd]
theorem wAt_eq {w f : Nat} : FX10_wAt (nI w) (nI f) = nI (126 + 2 * w + f) := by
  unfold FX10_wAt
  rw [show (126 : Int32) = nI 126 from rfl, L2, nmul, nadd, nadd]
theorem mc {m : Mem} {c f : Nat} (hc : c < 6) (hf : f < 5) : FX10_cIs (nI c) (nI f) m = some (m 117 (56 + 5 * c + f)) := by
  unfold FX10_cIs
  rw [cAt_eq, if_pos (inb_t (by omega) (by omega)), ncl (by omega)]
theorem me {m : Mem} {e f : Nat} (he : e < 8) (hf : f < 5) : FX10_eIs (nI e) (nI f) m = some (m 117 (86 + 5 * e + f)) := by
  unfold FX10_eIs
  rw [eAt_eq, if_pos (inb_t (by omega) (by omega)), ncl (by omega)]
variable {m : Mem}
theorem mK (hm : m 117 = r) (hw : Wf r) {c : Nat} (hc : c < nc r) : FX10_cIs (nI c) 0 m = some (nI (cF r c 0)) := by rw [L0, mc (by have := nc_eq hw; omega) (by omega), hm, (cK hw hc).1]
theorem mP (hm : m 117 = r) (hw : Wf r) {c : Nat} (hc : c < nc r) : FX10_cIs (nI c) 1 m = some (nI (cF r c 1)) := by rw [L1, mc (by have := nc_eq hw; omega) (by omega), hm, (cP hw hc).1]
theorem mS (hm : m 117 = r) (hw : Wf r) {c : Nat} (hc : c < nc r) : FX10_cIs (nI c) 2 m = some (nI (cF r c 2)) := by rw [L2, mc (by have := nc_eq hw; omega) (by omega), hm, (cS hw hc).1]
theorem mE (hm : m 117 = r) (hw : Wf r) {c : Nat} (hc : c < nc r) : FX10_cIs (nI c) 3 m = some (nI (cF r c 3)) := by rw [show (3 : Int32) = nI 3 from rfl, mc (by have := nc_eq hw; omega) (by omega), hm, (cE hw hc).1]
theorem mw (hm : m 117 = r) (hw : Wf r) {c : Nat} (hc : c < nc r) : FX10_cIs (nI c) 4 m = some (r (56 + 5 * c + 4)) := by rw [show (4 : Int32) = nI 4 from rfl, mc (by have := nc_eq hw; omega) (by omega), hm]
theorem mp (hm : m 117 = r) (hw : Wf r) {e : Nat} (he : e < ne r) : FX10_eIs (nI e) 0 m = some (nI (eF r e 0)) := by rw [L0, me (by have := ne_eq hw; omega) (by omega), hm, (eW hw he).1]
theorem ma (hm : m 117 = r) (hw : Wf r) {e : Nat} (he : e < ne r) : FX10_eIs (nI e) 1 m = some (nI (eF r e 1)) := by rw [L1, me (by have := ne_eq hw; omega) (by omega), hm, (eA hw he).1]
theorem mb (hm : m 117 = r) (hw : Wf r) {e : Nat} (he : e < ne r) : FX10_eIs (nI e) 2 m = some (nI (eF r e 2)) := by rw [L2, me (by have := ne_eq hw; omega) (by omega), hm, (eB hw he).1]
theorem mh (hm : m 117 = r) (hw : Wf r) {e : Nat} (he : e < ne r) : FX10_eIs (nI e) 3 m = some (nI (eF r e 3)) := by rw [show (3 : Int32) = nI 3 from rfl, me (by have := ne_eq hw; omega) (by omega), hm, (eH hw he).1]
theorem mo (hm : m 117 = r) (hw : Wf r) {e : Nat} (he : e < ne r) : FX10_eIs (nI e) 4 m = some (r (86 + 5 * e + 4)) := by rw [show (4 : Int32) = nI 4 from rfl, me (by have := ne_eq hw; omega) (by omega), hm]
end ROW
