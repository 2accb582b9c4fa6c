/-! rows of rows: three rows of forty-nine numbers made at once -/
def mtA (c : ClassId) (h : Nat) : Nat → Cell
  | 0 => { cls := c, slots := Array.replicate 3 .null, vm := .none }
  | i + 1 => (mtA c h i).setSlot i (.ref (h + 1 + i))
def mtI (comp : ClassId) : Cell := { cls := comp, slots := Array.replicate 49 (.int 0), vm := .none }
def mtS (s : State) (c comp : ClassId) : Nat → State
  | 0 => s.pushCell (mtA c s.heap.size 0)
  | i + 1 => ((mtS s c comp i).pushCell (mtI comp)).setCell s.heap.size (mtA c s.heap.size (i + 1))
theorem mtA_facts (c : ClassId) (h : Nat) : ∀ i, (mtA c h i).cls = c ∧ (mtA c h i).vm = .none ∧ (mtA c h i).slots.size = 3
  | 0 => ⟨rfl, rfl, by simp [mtA]⟩
  | i + 1 => by
    obtain ⟨a, b, d⟩ := mtA_facts c h i
    exact ⟨by simp [mtA, Cell.setSlot, a], by simp [mtA, Cell.setSlot, b], by simp [mtA, Cell.setSlot, d]⟩
theorem mtS_facts (s : State) (c comp : ClassId) : ∀ i, (mtS s c comp i).heap.size = s.heap.size + 1 + i ∧ (mtS s c comp i).heap[s.heap.size]? = some (mtA c s.heap.size i) ∧ (mtS s c comp i).vm = s.vm ∧ (mtS s c comp i).slotsUsed = s.slotsUsed + 3 + i * 49
  | 0 => ⟨by simp [mtS], by simp [mtS], rfl, by simp [mtS, mtA]⟩
  | i + 1 => by
    obtain ⟨a, b, d, u⟩ := mtS_facts s c comp i
    have hlt : s.heap.size < (mtS s c comp i).heap.size := by omega
    have hb' : ((mtS s c comp i).pushCell (mtI comp)).heap[s.heap.size]? = some (mtA c s.heap.size i) := by rw [State.heap_pushCell_of_lt (h := hlt)]; exact b
    refine ⟨?_, State.heap_setCell_self hb', by simp [mtS, d], ?_⟩
    · simp [mtS, State.setCell, a]; omega
    · simp [mtS, u, mtI, Nat.succ_mul]; omega
theorem mtS_top (s : State) (f : JFrame) (c comp : ClassId) : ∀ i, mtS (s.setTop f) c comp i = (mtS s c comp i).setTop f
  | 0 => rfl
  | i + 1 => by simp only [mtS, mtS_top s f c comp i, State.heap_setTop, State.pushCell_setTop, State.setCell_setTop]
theorem mtS_old (s : State) (c comp : ClassId) {a : Nat} (ha : a < s.heap.size) : ∀ i, (mtS s c comp i).heap[a]? = s.heap[a]?
  | 0 => State.heap_pushCell_of_lt _ _ ha
  | i + 1 => by
    have f1 := (mtS_facts s c comp i).1
    have hlt : a < (mtS s c comp i).heap.size := by rw [f1]; omega
    show (((mtS s c comp i).pushCell (mtI comp)).setCell s.heap.size _).heap[a]? = _
    rw [State.heap_setCell_other (Nat.ne_of_gt ha), State.heap_pushCell_of_lt (h := hlt)]
    exact mtS_old s c comp ha i
theorem mtS_row (s : State) (c comp : ClassId) : ∀ i j, j < i → (mtS s c comp i).heap[s.heap.size + 1 + j]? = some (mtI comp)
  | 0, _, h => absurd h (Nat.not_lt_zero _)
  | i + 1, j, h => by
    have f1 := (mtS_facts s c comp i).1
    show (((mtS s c comp i).pushCell (mtI comp)).setCell s.heap.size _).heap[s.heap.size + 1 + j]? = _
    rw [State.heap_setCell_other (show s.heap.size ≠ s.heap.size + 1 + j by omega)]
    by_cases e : j = i
    · subst e
      rw [← f1]
      exact State.heap_pushCell_size _ _
    · have hlt : s.heap.size + 1 + j < (mtS s c comp i).heap.size := by rw [f1]; omega
      rw [State.heap_pushCell_of_lt (h := hlt)]
      exact mtS_row s c comp i j (by omega)
theorem mtS_stand {p : Program} {l : Launch} {e : Env} {R : Room} {s : State} {m : MethodId} {args : Array Value} {below : List Frame} {meth : Method} {c : Code} {T : State} {locs : List Loc} {cells slots : Nat} (X : Stand p l e R s m args below meth c T locs cells slots) (cA comp : ClassId) :
    ∀ i, ∃ J : List Loc, (∀ x ∈ J, x.base = T.heap.size) ∧ Stand p l e R s m args below meth c (mtS T cA comp i) (locs ++ J) (cells + 1 + i) (slots + 3 + i * 49)
  | 0 => by
    have h := X.pushed (mtA cA T.heap.size 0)
    rw [(mtA_facts cA T.heap.size 0).2.2] at h
    refine ⟨[], fun x hx => (by cases hx), ?_⟩
    simpa [mtS] using h
  | i + 1 => by
    obtain ⟨J, hJ, Xi⟩ := mtS_stand X cA comp i
    obtain ⟨f1, f2, -, -⟩ := mtS_facts T cA comp i
    have hlt0 : T.heap.size < (mtS T cA comp i).heap.size := by rw [f1]; omega
    have hcell : ((mtS T cA comp i).pushCell (mtI comp)).heap[T.heap.size]? = some (mtA cA T.heap.size i) := by rw [State.heap_pushCell_of_lt (h := hlt0)]; exact f2
    have h := (Xi.pushed (mtI comp)).stored hcell i (.ref (T.heap.size + 1 + i))
    rw [show (mtI comp).slots.size = 49 by simp [mtI]] at h
    refine ⟨J ++ [⟨T.heap.size, i⟩], fun x hx => ?_, ?_⟩
    · rcases List.mem_append.mp hx with q | q
      · exact hJ x q
      · cases List.mem_singleton.mp q; rfl
    · rw [← List.append_assoc, show slots + 3 + (i + 1) * 49 = slots + 3 + i * 49 + 49 by omega]
      exact h
section WPM
variable {E : CtlPost} {e : Env} {d : Bool} {acts : List Action} {s : State}
/-- one row -/
theorem wp_mt1 {comp cc : ClassId} {kc : Class} (hkc : s.vm.classes[comp]? = some kc) (hkindc : kc.kind = .array cc .int) (hl : ¬ 49 > e.platform.arrayLengthLimit) (hh : ¬ 49 * componentBytes .int > e.platform.maxHeapBytes) (h1 : s.heap.size < e.platform.maxCells) (h2 : s.slotsUsed + 49 ≤ e.platform.maxSlots) {Q : Addr → Pre} (hq : ∀ acts', Q s.heap.size d acts' (s.pushCell (mtI comp))) : wp (multianewarray.make comp [49]) Q E e d acts s := by
  rw [multianewarray.make]
  simp only [wp_bind', W.ite, show ¬ ((49 : Int32) < 0) by decide, if_false, wp_pure', W.theClass, hkc, hkindc, Option.some.injEq, exists_eq_left']
  exact W.newArray_of (howMany := 49) (init := .int 0) hkc hkindc hl hh h1 h2 rfl hq
theorem wp_mt {c comp cc : ClassId} {k kc : Class} (hk : s.vm.classes[c]? = some k) (hkind : k.kind = .array comp (.array .int)) (hkc : s.vm.classes[comp]? = some kc) (hkindc : kc.kind = .array cc .int) (hl3 : ¬ 3 > e.platform.arrayLengthLimit) (hh3 : ¬ 3 * componentBytes (.array .int) > e.platform.maxHeapBytes) (hl : ¬ 49 > e.platform.arrayLengthLimit) (hh : ¬ 49 * componentBytes .int > e.platform.maxHeapBytes) (h1 : s.heap.size + 4 ≤ e.platform.maxCells) (h2 : s.slotsUsed + 150 ≤ e.platform.maxSlots) {Q : Addr → Pre} (hq : ∀ d' acts', Q s.heap.size d' acts' (mtS s c comp 3)) : wp (multianewarray.make c [3, 49]) Q E e d acts s := by
  rw [multianewarray.make]
  simp only [wp_bind', W.ite, show ¬ ((3 : Int32) < 0) by decide, if_false, wp_pure', W.theClass, hk, hkind, Option.some.injEq, exists_eq_left']
  refine W.newArray_of (howMany := 3) (init := .null) hk hkind hl3 hh3 (by omega) (by omega) rfl (fun acts' => ?_)
  have row : ∀ (i : Nat) (hi : i < 3) (d : Bool) (acts' : List Action) (Q' : Pre), (∀ d' acts'', Q' d' acts'' (mtS s c comp (i + 1))) → wp (multianewarray.make comp [49]) (fun a => wp (writeLoc s.heap.size i (.ref a)) (fun _ => Q') E e) E e d acts' (mtS s c comp i) := by
    intro i hi d acts' Q' hQ
    obtain ⟨f1, f2, f3, f4⟩ := mtS_facts s c comp i
    obtain ⟨o1, o2, o3⟩ := mtA_facts c s.heap.size i
    refine wp_mt1 (by rw [f3]; exact hkc) hkindc hl hh (by omega) (by omega) (fun acts2 => ?_)
    have hlt0 : s.heap.size < (mtS s c comp i).heap.size := by rw [f1]; omega
    simp only [W.writeLoc]
    refine ⟨mtA c s.heap.size i, by rw [State.heap_pushCell_of_lt (h := hlt0)]; exact f2, by rw [o2]; simp, by rw [o3]; exact hi, ?_, ?_⟩
    · rw [o1, o2]
      simp [State.fitsSlot, State.slotType?, f3, hk, hkind, fits]
    · rw [f1]; exact hQ _ _
  rw [if_neg (by decide), show Int32.toNatClampNeg 3 = 3 by decide, wp_bind', Std.Legacy.Range.forIn_eq_forIn_range', show ([:3] : Std.Legacy.Range).size = 3 by simp [Std.Legacy.Range.size]]
  show wp (forIn [0, 1, 2] PUnit.unit _) _ E e d acts' _
  simp only [List.forIn_cons, List.forIn_nil, wp_bind', wp_pure']
  refine row 0 (by omega) _ _ _ (fun d1 a1 => ?_)
  dsimp only
  simp only [wp_bind', wp_pure']
  refine row 1 (by omega) _ _ _ (fun d2 a2 => ?_)
  dsimp only
  simp only [wp_bind', wp_pure']
  exact row 2 (by omega) _ _ _ (fun d3 a3 => hq _ _)
end WPM
theorem st_multi {p : Program} {l : Launch} {e : Env} {R : Room} {s : State} {m : MethodId} {args : Array Value} {below : List Frame} {meth : Method} {c : Code} {T : State} {locs : List Loc} {cells slots : Nat} (X : Stand p l e R s m args below meth c T locs cells slots) (hexec : p.tables.exec = Jvm.exec) {own : String} {index : Nat} (hown : s.vm.findClass own = some m.cls) (hclink : (Cond.classLink own index "[[I").before args s = true) {comp cA : ClassId} {kA kC : Class} {cc0 : ClassId} (hkA : s.vm.classes[cA]? = some kA) (hkindA : kA.kind = .array comp (.array .int)) (hnameA : s.vm.findClass "[[I" = some cA) (hkC : s.vm.classes[comp]? = some kC) (hkindC : kC.kind = .array cc0 .int)
    {g : JFrame} (hg : g.method = m) (hdg : decode c.code g.pc = .ok (.multianewarray index 2, 4)) {rest : List Value} (hstack : g.stack = .int 49 :: .int 3 :: rest) (hcells : cells + 4 ≤ R.cells) (hslots : slots + 150 ≤ R.slots) :
    ∃ vm₁, Stand p l e R s m args below meth c (mtS (T.setVm vm₁) cA comp 3) locs (cells + 4) (slots + 150) ∧
      ∀ target, Steps p.tables e below ((mtS (T.setVm vm₁) cA comp 3).setTop { g with pc := g.pc + 4, stack := .ref T.heap.size :: rest }) target → Steps p.tables e below (T.setTop g) target := by
  subst hg
  have hpl : e.platform.magicAccessors = ({} : Platform).magicAccessors := by rw [X.admits.platform]
  obtain ⟨c0, hfc0, hcl⟩ := Cond.classLink_spec hown hclink e.platform hpl
  cases hnameA.symm.trans hfc0
  obtain ⟨hg₁, hwarm₁, hready₁⟩ := State.classEntry (e := e) X.warmed hcl
  generalize T.vm.noted g.method.cls index (.cls cA) = vm₁ at hg₁ hwarm₁ hready₁
  have hal : s.vm.Alike vm₁ := hwarm₁.alike
  obtain ⟨kA₁, hkA₁, heA⟩ := hal.2.2 _ _ hkA
  obtain ⟨kC₁, hkC₁, heC⟩ := hal.2.2 _ _ hkC
  have hkindA₁ : kA₁.kind = .array comp (.array .int) := by rw [heA]; exact hkindA
  have hkindC₁ : kC₁.kind = .array cc0 .int := by rw [heC]; exact hkindC
  have X₁ := X.noted hwarm₁
  obtain ⟨hr1, hr2⟩ := X.roomAbove hcells hslots
  obtain ⟨J, hJ, XF0⟩ := mtS_stand X₁ cA comp 3
  have hgrown : s.heap.size ≤ T.heap.size := X.same.2.1
  have XF : Stand p l e R s _ args below meth c (mtS (T.setVm vm₁) cA comp 3) locs (cells + 4) (slots + 150) := XF0.dropFresh (fun x hx => by rw [hJ x hx]; exact hgrown)
  refine ⟨vm₁, XF, fun target hrest => ?_⟩
  have hl3 : ¬ 3 > e.platform.arrayLengthLimit := by rw [Launch.admits_arrayLengthLimit X.admits]; omega
  have hh3 : ¬ 3 * componentBytes (.array .int) > e.platform.maxHeapBytes := by rw [Launch.admits_maxHeapBytes X.admits]; show ¬ 3 * 4 > 536870912; omega
  have hl49 : ¬ 49 > e.platform.arrayLengthLimit := by rw [Launch.admits_arrayLengthLimit X.admits]; omega
  have hh49 : ¬ 49 * componentBytes .int > e.platform.maxHeapBytes := by rw [Launch.admits_maxHeapBytes X.admits]; show ¬ 49 * 4 > 536870912; omega
  jvm_step X.here [hexec, hdg]
  simp only [multianewarray.sem, wp_bind', W.resolveClassAt_links (State.method?_setTop g X.here.top) hg₁]
  rw [W.popN, if_neg (by decide)]
  refine ⟨g, State.topJava?_setTop' (s := T.setVm vm₁) g X.here.top, [.int 3, .int 49], rest, rfl, hstack, ?_⟩
  simp only [List.mapM_cons, List.mapM_nil, wp_bind', wp_pure']
  have eS : ((T.setTop g).setVm vm₁).setTop { g with stack := rest } = (T.setVm vm₁).setTop { g with stack := rest } := by
    show ((T.setVm vm₁).setTop g).setTop _ = _
    rw [State.setTop_setTop]
  rw [eS]
  refine wp_mt (k := kA₁) (kc := kC₁) (comp := comp) (cc := cc0) hkA₁ hkindA₁ hkC₁ hkindC₁ hl3 hh3 hl49 hh49 (by show T.heap.size + 4 ≤ _; omega) (by show T.slotsUsed + 150 ≤ _; omega) (fun d' acts' => ?_)
  rw [mtS_top]
  simp only [wp_bind', W.mark, W.pushRef, State.topJava?_setTop' _ XF.here.top, Option.some.injEq, exists_eq_left', State.setTop_setTop, State.heap_setTop]
  intro acts
  simp [jvm, XF.here.top]
  exact hrest
