/-! the memory: a number for each slot of each cell; the cells are numbered once and for all, their addresses are ad -/
abbrev Mem : Type := Nat → Nat → Int32
def mst (u : Mem) (k j : Nat) (x : Int32) : Mem := fun a => if a = k then upd (u k) j x else u a
def mcp (u : Mem) (a0 a1 : Nat) (sp dp n : Nat) : Mem := fun a => if a = a1 then va_cpy (u a0) (u a1) sp dp n else u a
/-- what a cell is: an object of a class (each field a number, or no cell, or a cell), or an array (its class, its length; its cells, if it holds cells) -/
abbrev Shp : Type := (Nat × List (Option (Option Nat))) ⊕ ((Nat × Nat) × Option (List (Option Nat)))
def fval (ad : Nat → Nat) (x : Int32) : Option (Option Nat) → Value
  | none => .int x
  | some none => .null
  | some (some q) => .ref (ad q)
def flds (ad : Nat → Nat) (r : Nat → Int32) : Nat → List (Option (Option Nat)) → List Value
  | _, [] => []
  | j, o :: t => fval ad (r j) o :: flds ad r (j + 1) t
theorem flds_get (ad : Nat → Nat) (r : Nat → Int32) : ∀ (fs : List (Option (Option Nat))) (b i : Nat) (o : Option (Option Nat)), fs[i]? = some o → (flds ad r b fs)[i]? = some (fval ad (r (b + i)) o)
  | [], b, i, o, h => by simp at h
  | o' :: t, b, 0, o, h => by cases h; rfl
  | o' :: t, b, i + 1, o, h => by
    have := flds_get ad r t (b + 1) i o (by simpa using h)
    simp only [flds, List.getElem?_cons_succ, this]
    rw [show b + 1 + i = b + (i + 1) by omega]
theorem flds_len (ad : Nat → Nat) (r : Nat → Int32) : ∀ (fs : List (Option (Option Nat))) (b : Nat), (flds ad r b fs).length = fs.length
  | [], b => rfl
  | o :: t, b => by simp [flds, flds_len ad r t]
theorem flds_congr (ad : Nat → Nat) (r r' : Nat → Int32) : ∀ (fs : List (Option (Option Nat))) (b : Nat), (∀ j, b ≤ j → r j = r' j) → flds ad r b fs = flds ad r' b fs
  | [], b, h => rfl
  | o :: t, b, h => by
    simp only [flds]
    rw [h b (Nat.le_refl b), flds_congr ad r r' t (b + 1) (fun j hj => h j (by omega))]
theorem flds_set (ad : Nat → Nat) (r : Nat → Int32) (x : Int32) : ∀ (fs : List (Option (Option Nat))) (b i : Nat), fs[i]? = some none → (flds ad r b fs).set i (.int x) = flds ad (upd r (b + i) x) b fs
  | [], b, i, h => by simp at h
  | none :: t, b, 0, h => by
    simp only [flds, List.set_cons_zero, Nat.add_zero]
    rw [show upd r b x b = x from if_pos rfl, flds_congr ad r (upd r b x) t (b + 1) (fun j hj => (if_neg (by omega : ¬ j = b)).symm)]
    rfl
  | some q :: t, b, 0, h => by cases h
  | o :: t, b, i + 1, h => by
    have := flds_set ad r x t (b + 1) i (by simpa using h)
    simp only [flds, List.set_cons_succ, this]
    rw [show b + 1 + i = b + (i + 1) by omega, show upd r (b + (i + 1)) x b = r b from if_neg (by omega)]
theorem flds_setR (ad : Nat → Nat) (r : Nat → Int32) (q : Nat) : ∀ (fs : List (Option (Option Nat))) (b i : Nat), (flds ad r b fs).set i (.ref (ad q)) = flds ad r b (fs.set i (some (some q)))
  | [], b, i => rfl
  | o :: t, b, 0 => rfl
  | o :: t, b, i + 1 => by
    simp only [flds, List.set_cons_succ]
    rw [flds_setR ad r q t (b + 1) i]
def rfs (ad : Nat → Nat) (l : List (Option Nat)) (n : Nat) : Nat → Option Nat := fun i => if i < n then (l.getD i none).map ad else none
def cel (ad : Nat → Nat) (cy : Nat → ClassId) (sh : Shp) (r : Nat → Int32) : va_E := match sh with
  | .inl (ci, fs) => .inr (ci, flds ad r 0 fs)
  | .inr ((t, n), none) => .inl (cy t, n, .inl r)
  | .inr ((t, n), some l) => .inl (cy t, n, .inr (.inr (.inr (.inr (rfs ad l n)))))
/-- the world of the cells shs -/
def wdo (shs : List Shp) (ad : Nat → Nat) (cy : Nat → ClassId) (u : Mem) : va_W := shs.mapIdx (fun k sh => (ad k, cel ad cy sh (u k)))
theorem wdo_get {shs : List Shp} {k : Nat} {sh : Shp} (h : shs[k]? = some sh) (ad : Nat → Nat) (cy : Nat → ClassId) (u : Mem) : (wdo shs ad cy u)[k]? = some (ad k, cel ad cy sh (u k)) := by
  unfold wdo
  rw [List.getElem?_mapIdx, h]
  rfl
theorem wdo_set {shs : List Shp} {k : Nat} {sh : Shp} (h : shs[k]? = some sh) (ad : Nat → Nat) (cy : Nat → ClassId) (u : Mem) (r' : Nat → Int32) : (wdo shs ad cy u).set k (ad k, cel ad cy sh r') = wdo shs ad cy (fun a => if a = k then r' else u a) := by
  apply List.ext_getElem?
  intro i
  unfold wdo
  by_cases hi : i = k
  · subst hi
    have hl : i < shs.length := (List.getElem?_eq_some_iff.mp h).1
    rw [List.getElem?_set_self (by simpa using hl), List.getElem?_mapIdx, h]
    simp
  · rw [List.getElem?_set_ne (Ne.symm hi), List.getElem?_mapIdx, List.getElem?_mapIdx]
    cases shs[i]? with
    | none => rfl
    | some z => simp [hi]
theorem wdo_in {shs : List Shp} {ad : Nat → Nat} {cy : Nat → ClassId} {u : Mem} {k : Nat} {q : Nat × va_E} (h : (wdo shs ad cy u)[k]? = some q) : k < shs.length ∧ q.1 = ad k := by
  unfold wdo at h
  rw [List.getElem?_mapIdx] at h
  cases hs : shs[k]? with
  | none => rw [hs] at h; cases h
  | some sh =>
    rw [hs] at h
    cases h
    exact ⟨(List.getElem?_eq_some_iff.mp hs).1, rfl⟩
theorem wdo_D {shs : List Shp} {ad : Nat → Nat} {cy : Nat → ClassId} {u : Mem} {A : Nat → Prop} (hi : ∀ i j : Nat, i < shs.length → j < shs.length → ad i = ad j → i = j) (hA : ∀ k : Nat, k < shs.length → A (ad k)) : va_D A (wdo shs ad cy u) := by
  refine ⟨fun i j p q hp hq e => ?_, fun k q hk => ?_⟩
  · obtain ⟨a1, a2⟩ := wdo_in hp
    obtain ⟨b1, b2⟩ := wdo_in hq
    exact hi i j a1 b1 (a2.symm.trans (e.trans b2))
  · obtain ⟨a1, a2⟩ := wdo_in hk
    rw [a2]
    exact hA k a1
theorem wdo_setS {shs : List Shp} {k : Nat} (ad : Nat → Nat) (cy : Nat → ClassId) (u : Mem) (sh : Shp) : (wdo shs ad cy u).set k (ad k, cel ad cy sh (u k)) = wdo (shs.set k sh) ad cy u := by
  apply List.ext_getElem?
  intro i
  unfold wdo
  by_cases hi : i = k
  · subst hi
    by_cases hl : i < shs.length
    · rw [List.getElem?_set_self (by simpa using hl), List.getElem?_mapIdx, List.getElem?_set_self hl]
      rfl
    · rw [List.getElem?_eq_none (by simp; omega), List.getElem?_eq_none (by simp; omega)]
  · rw [List.getElem?_set_ne (Ne.symm hi), List.getElem?_mapIdx, List.getElem?_mapIdx, List.getElem?_set_ne (Ne.symm hi)]
theorem wdo_app (shs : List Shp) (sh : Shp) (ad : Nat → Nat) (cy : Nat → ClassId) (u : Mem) : wdo (shs ++ [sh]) ad cy u = wdo shs ad cy u ++ [(ad shs.length, cel ad cy sh (u shs.length))] := by
  unfold wdo
  rw [List.mapIdx_append]
  simp
theorem wdo_len (shs : List Shp) (ad : Nat → Nat) (cy : Nat → ClassId) (u : Mem) : (wdo shs ad cy u).length = shs.length := by
  unfold wdo; simp
