/-! changes of a fair and of its row, side by side -/
theorem eg_congr {r r' : Nat → Int32} (h : ∀ x, x < 42 → r' x = r x) (g : Nat) : eg r' g = eg r g := by
  funext i j
  unfold eg
  by_cases c : i = j
  · rw [if_pos c, if_pos c]
  · rw [if_neg c, if_neg c]
    by_cases d : i < 7 ∧ j < 7
    · have := wy_lt d.1 d.2 c
      rw [if_pos d, if_pos d, h _ (by omega), h _ (by omega)]
    · rw [if_neg d, if_neg d]
theorem RepT_congr {u u' : Mem} {B : Nat} {r r' : Nat → Int32} (h : ∀ x, x < 42 → r' x = r x) (hu : ∀ g, g < 3 → u' (B + 4 + 4 + g) = u (B + 4 + 4 + g)) (k : RepT u B r) : RepT u' B r' := by
  intro g i j hg hi hj
  rw [hu g hg, eg_congr h]
  exact k g i j hg hi hj
theorem RepY_congr {u u' : Mem} {B : Nat} {r r' : Nat → Int32} (h : ∀ x, x < 42 → r' x = r x) (h1 : u' (B + 4 + 1) = u (B + 4 + 1)) (h2 : u' (B + 4 + 2) = u (B + 4 + 2)) (k : RepY u B r) : RepY u' B r' := by
  intro i j hi hj
  rw [h1, h2]
  obtain ⟨k1, k2⟩ := k i j hi hj
  by_cases c : i = j
  · rw [if_pos c] at k1 ⊢
    exact ⟨k1, fun z => absurd c z⟩
  · have := wy_lt hi hj c
    rw [if_neg c] at k1 ⊢
    rw [h _ (by omega), h _ (by omega)]
    exact ⟨k1, k2⟩
section SET
variable {u : Mem} {B : Nat} {r : Nat → Int32} {v : Int32}
theorem Rep_setC (h : Rep u B r) (hw : Wf r) {c f : Nat} (hc : c < 6) (hf : f < 5) : Rep (mst u (B + 12 + c) f v) B (upd r (56 + 5 * c + f) v) := by
  obtain ⟨k1, k2, k3, k4, k5, k6, k7⟩ := h
  have n6 := (nc_eq hw).2
  have n8 := (ne_eq hw).2
  have n9 := (nw_eq hw).2
  have e1 : nc (upd r (56 + 5 * c + f) v) = nc r := by unfold nc; rw [pk_un (by omega)]
  have e2 : ne (upd r (56 + 5 * c + f) v) = ne r := by unfold ne; rw [pk_un (by omega)]
  have e3 : nw (upd r (56 + 5 * c + f) v) = nw r := by unfold nw; rw [pk_un (by omega)]
  refine ⟨?_, fun s hs => ?_, fun c' hc' f' hf' => ?_, fun e he f' hf' => ?_, fun w hw' => ?_, ?_, ?_⟩
  · unfold RepN; rw [mst_k (by omega), pk_un (by omega), pk_un (by omega), pk_un (by omega), pk_un (by omega)]; exact k1
  · rw [mst_k (by omega), pk_un (by omega)]; exact k2 s hs
  · rw [e1] at hc'
    by_cases z : c' = c
    · subst z
      by_cases y : f' = f
      · subst y; rw [mst_s, pk_us]
      · rw [mst_j y, pk_un (by omega)]; exact k3 _ hc' f' hf'
    · rw [mst_k (by omega), pk_un (by omega)]; exact k3 c' hc' f' hf'
  · rw [e2] at he
    rw [mst_k (by omega), pk_un (by omega)]; exact k4 e he f' hf'
  · rw [e3] at hw'
    unfold RepW
    rw [mst_k (by omega), pk_un (by omega), pk_un (by omega)]; exact k5 w hw'
  · exact RepY_congr (fun x hx => pk_un (by omega)) (mst_k (by omega) _ _) (mst_k (by omega) _ _) k6
  · exact RepT_congr (fun x hx => pk_un (by omega)) (fun g hg => mst_k (by omega) _ _) k7
theorem Rep_setE (h : Rep u B r) (hw : Wf r) {c f : Nat} (hc : c < 8) (hf : f < 5) : Rep (mst u (B + 18 + c) f v) B (upd r (86 + 5 * c + f) v) := by
  obtain ⟨k1, k2, k3, k4, k5, k6, k7⟩ := h
  have n6 := (nc_eq hw).2
  have n8 := (ne_eq hw).2
  have n9 := (nw_eq hw).2
  have e1 : nc (upd r (86 + 5 * c + f) v) = nc r := by unfold nc; rw [pk_un (by omega)]
  have e2 : ne (upd r (86 + 5 * c + f) v) = ne r := by unfold ne; rw [pk_un (by omega)]
  have e3 : nw (upd r (86 + 5 * c + f) v) = nw r := by unfold nw; rw [pk_un (by omega)]
  refine ⟨?_, fun s hs => ?_, fun c' hc' f' hf' => ?_, fun e he f' hf' => ?_, fun w hw' => ?_, ?_, ?_⟩
  · unfold RepN; rw [mst_k (by omega), pk_un (by omega), pk_un (by omega), pk_un (by omega), pk_un (by omega)]; exact k1
  · rw [mst_k (by omega), pk_un (by omega)]; exact k2 s hs
  · rw [e1] at hc'
    rw [mst_k (by omega), pk_un (by omega)]; exact k3 c' hc' f' hf'
  · rw [e2] at he
    by_cases z : e = c
    · subst z
      by_cases y : f' = f
      · subst y; rw [mst_s, pk_us]
      · rw [mst_j y, pk_un (by omega)]; exact k4 _ he f' hf'
    · rw [mst_k (by omega), pk_un (by omega)]; exact k4 e he f' hf'
  · rw [e3] at hw'
    unfold RepW
    rw [mst_k (by omega), pk_un (by omega), pk_un (by omega)]; exact k5 w hw'
  · exact RepY_congr (fun x hx => pk_un (by omega)) (mst_k (by omega) _ _) (mst_k (by omega) _ _) k6
  · exact RepT_congr (fun x hx => pk_un (by omega)) (fun g hg => mst_k (by omega) _ _) k7
theorem Rep_setW (h : Rep u B r) (hw : Wf r) {c f : Nat} (hc : c < 6) (hf : f < 2) : Rep (mst u (B + 26 + c) f v) B (upd r (126 + 2 * c + f) v) := by
  obtain ⟨k1, k2, k3, k4, k5, k6, k7⟩ := h
  have n6 := (nc_eq hw).2
  have n8 := (ne_eq hw).2
  have n9 := (nw_eq hw).2
  have e1 : nc (upd r (126 + 2 * c + f) v) = nc r := by unfold nc; rw [pk_un (by omega)]
  have e2 : ne (upd r (126 + 2 * c + f) v) = ne r := by unfold ne; rw [pk_un (by omega)]
  have e3 : nw (upd r (126 + 2 * c + f) v) = nw r := by unfold nw; rw [pk_un (by omega)]
  refine ⟨?_, fun s hs => ?_, fun c' hc' f' hf' => ?_, fun e he f' hf' => ?_, fun w hw' => ?_, ?_, ?_⟩
  · unfold RepN; rw [mst_k (by omega), pk_un (by omega), pk_un (by omega), pk_un (by omega), pk_un (by omega)]; exact k1
  · rw [mst_k (by omega), pk_un (by omega)]; exact k2 s hs
  · rw [e1] at hc'
    rw [mst_k (by omega), pk_un (by omega)]; exact k3 c' hc' f' hf'
  · rw [e2] at he
    rw [mst_k (by omega), pk_un (by omega)]; exact k4 e he f' hf'
  · rw [e3] at hw'
    obtain ⟨j1, j2⟩ := k5 w hw'
    unfold RepW
    by_cases z : w = c
    · subst z
      have hf2 : f = 0 ∨ f = 1 := by omega
      rcases hf2 with rfl | rfl
      · rw [mst_s, Nat.add_zero, pk_us, mst_j (by omega), pk_un (by omega)]; exact ⟨rfl, j2⟩
      · rw [mst_s, pk_us, mst_j (by omega), pk_un (by omega)]; exact ⟨j1, rfl⟩
    · rw [mst_k (by omega), pk_un (by omega), pk_un (by omega)]; exact ⟨j1, j2⟩
  · exact RepY_congr (fun x hx => pk_un (by omega)) (mst_k (by omega) _ _) (mst_k (by omega) _ _) k6
  · exact RepT_congr (fun x hx => pk_un (by omega)) (fun g hg => mst_k (by omega) _ _) k7
theorem Rep_setS (h : Rep u B r) (hw : Wf r) {s : Nat} (hs' : s < 10) : Rep (mst u (B + 11) s v) B (upd r (46 + s) v) := by
  obtain ⟨k1, k2, k3, k4, k5, k6, k7⟩ := h
  have n6 := (nc_eq hw).2
  have n8 := (ne_eq hw).2
  have n9 := (nw_eq hw).2
  have e1 : nc (upd r (46 + s) v) = nc r := by unfold nc; rw [pk_un (by omega)]
  have e2 : ne (upd r (46 + s) v) = ne r := by unfold ne; rw [pk_un (by omega)]
  have e3 : nw (upd r (46 + s) v) = nw r := by unfold nw; rw [pk_un (by omega)]
  refine ⟨?_, fun s2 hs => ?_, fun c' hc' f' hf' => ?_, fun e he f' hf' => ?_, fun w hw' => ?_, ?_, ?_⟩
  · unfold RepN; rw [mst_k (by omega), pk_un (by omega), pk_un (by omega), pk_un (by omega), pk_un (by omega)]; exact k1
  · by_cases z : s2 = s
    · subst z; rw [mst_s, pk_us]
    · rw [mst_j z, pk_un (by omega)]; exact k2 s2 hs
  · rw [e1] at hc'
    rw [mst_k (by omega), pk_un (by omega)]; exact k3 c' hc' f' hf'
  · rw [e2] at he
    rw [mst_k (by omega), pk_un (by omega)]; exact k4 e he f' hf'
  · rw [e3] at hw'
    unfold RepW
    rw [mst_k (by omega), pk_un (by omega), pk_un (by omega)]; exact k5 w hw'
  · exact RepY_congr (fun x hx => pk_un (by omega)) (mst_k (by omega) _ _) (mst_k (by omega) _ _) k6
  · exact RepT_congr (fun x hx => pk_un (by omega)) (fun g hg => mst_k (by omega) _ _) k7
/-- the draw's number and the three counts -/
theorem Rep_setN (h : Rep u B r) (hw : Wf r) {f : Nat} (hf : 5 ≤ f ∧ f < 9) (h5 : f = 5 → nc (upd r 42 v) ≤ nc r + 1 ∧ RepC u B r (nc r) ∧ nc r < 6) (h6 : f = 6 → ne (upd r 43 v) ≤ ne r + 1 ∧ RepE u B r (ne r) ∧ ne r < 8) (h7 : f = 7 → nw (upd r 44 v) ≤ nw r + 1 ∧ RepW u B r (nw r) ∧ nw r < 6) : Rep (mst u B f v) B (upd r (37 + f) v) := by
  obtain ⟨k1, k2, k3, k4, k5, k6, k7⟩ := h
  have n6 := (nc_eq hw).2
  have n8 := (ne_eq hw).2
  have n9 := (nw_eq hw).2
  have f4 : f = 5 ∨ f = 6 ∨ f = 7 ∨ f = 8 := by omega
  have ee1 : f ≠ 5 → nc (upd r (37 + f) v) = nc r := fun z => by unfold nc; rw [pk_un (by omega)]
  have ee2 : f ≠ 6 → ne (upd r (37 + f) v) = ne r := fun z => by unfold ne; rw [pk_un (by omega)]
  have ee3 : f ≠ 7 → nw (upd r (37 + f) v) = nw r := fun z => by unfold nw; rw [pk_un (by omega)]
  obtain ⟨k11, k12, k13, k14⟩ := k1
  have g5 : ∀ c, c < nc (upd r (37 + f) v) → c < 6 ∧ RepC u B r c := fun c hc => by
    by_cases z : f = 5
    · subst z
      obtain ⟨a1, a2, a3⟩ := h5 rfl
      have : nc (upd r (37 + 5) v) = nc (upd r 42 v) := rfl
      by_cases y : c < nc r
      · exact ⟨by omega, k3 c y⟩
      · have : c = nc r := by omega
        rw [this]; exact ⟨by omega, a2⟩
    · rw [ee1 z] at hc; exact ⟨by omega, k3 c hc⟩
  have g6 : ∀ c, c < ne (upd r (37 + f) v) → c < 8 ∧ RepE u B r c := fun c hc => by
    by_cases z : f = 6
    · subst z
      obtain ⟨a1, a2, a3⟩ := h6 rfl
      have : ne (upd r (37 + 6) v) = ne (upd r 43 v) := rfl
      by_cases y : c < ne r
      · exact ⟨by omega, k4 c y⟩
      · have : c = ne r := by omega
        rw [this]; exact ⟨by omega, a2⟩
    · rw [ee2 z] at hc; exact ⟨by omega, k4 c hc⟩
  have g7 : ∀ c, c < nw (upd r (37 + f) v) → c < 6 ∧ RepW u B r c := fun c hc => by
    by_cases z : f = 7
    · subst z
      obtain ⟨a1, a2, a3⟩ := h7 rfl
      have : nw (upd r (37 + 7) v) = nw (upd r 44 v) := rfl
      by_cases y : c < nw r
      · exact ⟨by omega, k5 c y⟩
      · have : c = nw r := by omega
        rw [this]; exact ⟨by omega, a2⟩
    · rw [ee3 z] at hc; exact ⟨by omega, k5 c hc⟩
  refine ⟨?_, fun s2 hs => ?_, fun c' hc' f' hf' => ?_, fun e he f' hf' => ?_, fun w hw' => ?_, ?_, ?_⟩
  · unfold RepN
    rcases f4 with rfl | rfl | rfl | rfl
    · exact ⟨by rw [mst_s, pk_us], by rw [mst_j (by omega), pk_un (by omega)]; exact k12, by rw [mst_j (by omega), pk_un (by omega)]; exact k13, by rw [mst_j (by omega), pk_un (by omega)]; exact k14⟩
    · exact ⟨by rw [mst_j (by omega), pk_un (by omega)]; exact k11, by rw [mst_s, pk_us], by rw [mst_j (by omega), pk_un (by omega)]; exact k13, by rw [mst_j (by omega), pk_un (by omega)]; exact k14⟩
    · exact ⟨by rw [mst_j (by omega), pk_un (by omega)]; exact k11, by rw [mst_j (by omega), pk_un (by omega)]; exact k12, by rw [mst_s, pk_us], by rw [mst_j (by omega), pk_un (by omega)]; exact k14⟩
    · exact ⟨by rw [mst_j (by omega), pk_un (by omega)]; exact k11, by rw [mst_j (by omega), pk_un (by omega)]; exact k12, by rw [mst_j (by omega), pk_un (by omega)]; exact k13, by rw [mst_s, pk_us]⟩
  · rw [mst_k (by omega), pk_un (by omega)]; exact k2 s2 hs
  · obtain ⟨a, b⟩ := g5 c' hc'
    rw [mst_k (by omega), pk_un (by omega)]; exact b f' hf'
  · obtain ⟨a, b⟩ := g6 e he
    rw [mst_k (by omega), pk_un (by omega)]; exact b f' hf'
  · obtain ⟨a, b⟩ := g7 w hw'
    unfold RepW
    rw [mst_k (by omega), pk_un (by omega), pk_un (by omega)]; exact b
  · exact RepY_congr (fun x hx => pk_un (by omega)) (mst_k (by omega) _ _) (mst_k (by omega) _ _) k6
  · exact RepT_congr (fun x hx => pk_un (by omega)) (fun g hg => mst_k (by omega) _ _) k7
/-- the same of the row's own order -/
theorem cntS_congr {P Q : Nat → Bool} : ∀ n, (∀ k, k < n → P k = Q k) → cntS P n = cntS Q n
  | 0, _ => rfl
  | n + 1, h => by
    have ih := cntS_congr n (fun k hk => h k (Nat.lt_succ_of_lt hk))
    unfold cntS
    rw [ih, h n (Nat.lt_succ_self n)]
theorem dnc_congr {r r' : Nat → Int32} (h43 : r' 43 = r 43) (h : ∀ e, e < ne r → r' (86 + 5 * e + 3) = r (86 + 5 * e + 3)) : dnc r' = dnc r := by
  have hn : ne r' = ne r := congrArg tn h43
  unfold dnc
  rw [hn]
  refine cntS_congr _ (fun e he => ?_)
  have : eF r' e 3 = eF r e 3 := congrArg tn (h e he)
  rw [this]
theorem Wf_setC (h : Wf r) {c f : Nat} (hc : c < 6) (hf : f < 5) (hv : c < nc r → (f = 0 → In v 6) ∧ (f = 1 → In v 6) ∧ (f = 2 → In v 99) ∧ (f = 3 → In v (999999 + PM * dnc r))) : Wf (upd r (56 + 5 * c + f) v) := by
  have n8 := (ne_eq h).2
  have n9 := (nw_eq h).2
  have e1 : nc (upd r (56 + 5 * c + f) v) = nc r := by unfold nc; rw [pk_un (by omega)]
  have e2 : ne (upd r (56 + 5 * c + f) v) = ne r := by unfold ne; rw [pk_un (by omega)]
  have e3 : nw (upd r (56 + 5 * c + f) v) = nw r := by unfold nw; rw [pk_un (by omega)]
  have e4 : dnc (upd r (56 + 5 * c + f) v) = dnc r := dnc_congr (pk_un (by omega)) (fun e he => pk_un (by omega))
  obtain ⟨k1, k2, k3, k4, k5, k6⟩ := h
  refine ⟨?_, fun i j hi hj hij => ?_, fun s hs => ?_, fun c' hc' => ?_, fun e he => ?_, fun w hw => ?_⟩
  · rw [pk_un (by omega), pk_un (by omega), pk_un (by omega)]; exact k1
  · have := wy_lt hi hj hij
    rw [pk_un (by omega), pk_un (by omega)]; exact k2 i j hi hj hij
  · rw [e1, pk_un (by omega)]; exact k3 s hs
  · rw [e1] at hc'
    obtain ⟨j0, j1, j2, j3⟩ := k4 c' hc'
    unfold wfC
    rw [e4]
    by_cases z : c' = c
    · subst z
      obtain ⟨v0, v1, v2, v3⟩ := hv hc'
      have f5 : f = 0 ∨ f = 1 ∨ f = 2 ∨ f = 3 ∨ f = 4 := by omega
      rcases f5 with rfl | rfl | rfl | rfl | rfl
      · rw [pk_us, pk_un (by omega), pk_un (by omega), pk_un (by omega)]; exact ⟨v0 rfl, j1, j2, j3⟩
      · rw [pk_us, pk_un (by omega), pk_un (by omega), pk_un (by omega)]; exact ⟨j0, v1 rfl, j2, j3⟩
      · rw [pk_us, pk_un (by omega), pk_un (by omega), pk_un (by omega)]; exact ⟨j0, j1, v2 rfl, j3⟩
      · rw [pk_us, pk_un (by omega), pk_un (by omega), pk_un (by omega)]; exact ⟨j0, j1, j2, v3 rfl⟩
      · rw [pk_un (by omega), pk_un (by omega), pk_un (by omega), pk_un (by omega)]; exact ⟨j0, j1, j2, j3⟩
    · rw [pk_un (by omega), pk_un (by omega), pk_un (by omega), pk_un (by omega)]; exact ⟨j0, j1, j2, j3⟩
  · rw [e2] at he
    unfold wfE
    rw [pk_un (by omega), pk_un (by omega), pk_un (by omega), pk_un (by omega)]; exact k5 e he
  · rw [e3] at hw
    unfold wfW
    rw [e1, pk_un (by omega), pk_un (by omega)]; exact k6 w hw
end SET
