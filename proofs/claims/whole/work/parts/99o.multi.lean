/-! three rows of forty-nine numbers hung into one outer row. The heap behind it is told as ONE list (what stood before, the outer row, the rows), so each place of it is a place of that list; the walk goes straight into the judgement W. -/
def hgO (cA : ClassId) (o i : Nat) : Cell := arrV cA 3 (fun j => if j < i then .ref (o + 1 + j) else .null)
def hgR (cI : ClassId) : Cell := arrV cI 49 (fun _ => .int 0)
def hgL (cA cI : ClassId) (H : Heap) (i : Nat) : List Cell := H.toList ++ hgO cA H.size i :: List.replicate i (hgR cI)
/-- one row more: laid behind all that stands, and hung into the outer one -/
def hgS (cA cI : ClassId) (o i : Nat) (U : State) : State := (U.pushCell (hgR cI)).setCell o (hgO cA o (i + 1))
def hgB (cA : ClassId) (U : State) : State := U.pushCell (hgO cA U.heap.size 0)
def hg3 (cA cI : ClassId) (U : State) : State := hgS cA cI U.heap.size 2 (hgS cA cI U.heap.size 1 (hgS cA cI U.heap.size 0 (hgB cA U)))
/-- with i rows hung in, over what stood in H -/
def HgI (cA cI : ClassId) (H : Heap) (V : Vm) (n i : Nat) (U : State) : Prop := U.heap.toList = hgL cA cI H i ∧ U.vm = V ∧ U.slotsUsed = n + 3 + 49 * i
section LISTS
variable {cA cI : ClassId} {H : Heap} {i : Nat}
theorem hgL_len : (hgL cA cI H i).length = H.size + 1 + i := by
  simp only [hgL, List.length_append, List.length_cons, List.length_replicate, Array.length_toList]
  omega
theorem hgL_old {a : Nat} (ha : a < H.size) : (hgL cA cI H i)[a]? = H[a]? := by
  unfold hgL
  rw [List.getElem?_append_left (by rw [Array.length_toList]; exact ha), Array.getElem?_toList]
theorem hgL_out : (hgL cA cI H i)[H.size]? = some (hgO cA H.size i) := by
  unfold hgL
  rw [List.getElem?_append_right (by rw [Array.length_toList]; exact Nat.le_refl _), Array.length_toList, Nat.sub_self]
  rfl
theorem hgL_row {j : Nat} (hj : j < i) : (hgL cA cI H i)[H.size + 1 + j]? = some (hgR cI) := by
  unfold hgL
  rw [List.getElem?_append_right (by rw [Array.length_toList]; omega), Array.length_toList, show H.size + 1 + j - H.size = j + 1 by omega, List.getElem?_cons_succ, List.getElem?_replicate, if_pos hj]
theorem hgL_next : (hgL cA cI H i ++ [hgR cI]).set H.size (hgO cA H.size (i + 1)) = hgL cA cI H (i + 1) := by
  unfold hgL
  rw [List.append_assoc, List.set_append_right _ _ (by rw [Array.length_toList]; exact Nat.le_refl _), Array.length_toList, Nat.sub_self, List.cons_append, List.set_cons_zero, List.replicate_succ']
/-- a heap that is such a list, read at a place -/
theorem hgL_at {K : Heap} {l : List Cell} (h : K.toList = l) (a : Nat) : K[a]? = l[a]? := by
  rw [← h, Array.getElem?_toList]
theorem hgO_hang (cA : ClassId) (o i : Nat) : (hgO cA o i).setSlot i (.ref (o + 1 + i)) = hgO cA o (i + 1) := by
  unfold hgO
  rw [arrV_store]
  refine congrArg (arrV cA 3) (funext fun j => ?_)
  show (if j = i then Value.ref (o + 1 + i) else if j < i then .ref (o + 1 + j) else .null) = if j < i + 1 then .ref (o + 1 + j) else .null
  by_cases q : j = i
  · rw [if_pos q, if_pos (by omega), q]
  · rw [if_neg q]
    by_cases r : j < i
    · rw [if_pos r, if_pos (by omega)]
    · rw [if_neg r, if_neg (by omega)]
end LISTS
section HANG
variable {cA cI : ClassId} {H : Heap} {V : Vm} {n i : Nat} {U : State}
theorem HgI_0 (cA cI : ClassId) (U : State) : HgI cA cI U.heap U.vm U.slotsUsed 0 (hgB cA U) := by
  refine ⟨?_, rfl, ?_⟩
  · show (U.heap.push _).toList = _
    rw [Array.toList_push]
    rfl
  · show U.slotsUsed + (hgO cA U.heap.size 0).slots.size = _
    rw [hgO, arrV_size]
theorem HgI.size (h : HgI cA cI H V n i U) : U.heap.size = H.size + 1 + i := by
  rw [← Array.length_toList, h.1, hgL_len]
theorem HgI.pushed (h : HgI cA cI H V n i U) : (U.pushCell (hgR cI)).heap.toList = hgL cA cI H i ++ [hgR cI] := by
  show (U.heap.push _).toList = _
  rw [Array.toList_push, h.1]
theorem HgI.outer (h : HgI cA cI H V n i U) : (U.pushCell (hgR cI)).heap[H.size]? = some (hgO cA H.size i) := by
  rw [hgL_at h.pushed, List.getElem?_append_left (by rw [hgL_len]; omega), hgL_out]
theorem HgI.next (h : HgI cA cI H V n i U) : HgI cA cI H V n (i + 1) (hgS cA cI H.size i U) := by
  refine ⟨?_, h.2.1, ?_⟩
  · show ((U.pushCell (hgR cI)).heap.setIfInBounds H.size (hgO cA H.size (i + 1))).toList = _
    rw [Array.toList_setIfInBounds, h.pushed, hgL_next]
  · show U.slotsUsed + (hgR cI).slots.size = _
    rw [h.2.2, hgR, arrV_size]
    omega
theorem HgI.stand {p : Program} {l : Launch} {e : Env} {R : Room} {s : State} {m : MethodId} {args : Array Value} {below : List Frame} {meth : Method} {c : Code} {locs : List Loc} {cells slots : Nat} (h : HgI cA cI H V n i U) (hs : s.heap.size ≤ H.size) (X : Stand p l e R s m args below meth c U locs cells slots) : Stand p l e R s m args below meth c (hgS cA cI H.size i U) locs (cells + 1) (slots + 49) := by
  have Y := (X.pushed (hgR cI)).stored h.outer i (.ref (H.size + 1 + i))
  rw [hgO_hang, show (hgR cI).slots.size = 49 from arrV_size _ _ _] at Y
  refine Y.dropFresh (fun x hx => ?_)
  rw [List.mem_singleton.mp hx]
  exact hs
/-- the machine makes one row more and hangs it in -/
theorem HgI.wp {E : CtlPost} {e : Env} {d : Bool} {acts : List Action} {kA kI : Class} {cc : ClassId} (h : HgI cA cI H V n i U) (hi : i < 3) (hkA : V.classes[cA]? = some kA) (kdA : kA.kind = .array cI (.array .int)) (hkI : V.classes[cI]? = some kI) (kdI : kI.kind = .array cc .int) (hlen : ¬ 49 > e.platform.arrayLengthLimit) (hbytes : ¬ 49 * componentBytes .int > e.platform.maxHeapBytes) (hcells : H.size + 1 + i < e.platform.maxCells) (hslots : n + 3 + 49 * i + 49 ≤ e.platform.maxSlots) {Q : Pre} (hq : ∀ d' acts', Q d' acts' (hgS cA cI H.size i U)) : wp (multianewarray.make cI [49]) (fun a => wp (writeLoc H.size i (.ref a)) (fun _ => Q) E e) E e d acts U := by
  unfold multianewarray.make
  simp only [wp_bind', W.ite, W.theClass]
  rw [if_neg (by decide)]
  refine ⟨kI, by rw [h.2.1]; exact hkI, ?_⟩
  rw [kdI]
  refine W.newArray_of (howMany := 49) (init := .int 0) (by rw [h.2.1]; exact hkI) kdI hlen hbytes (by rw [h.size]; exact hcells) (by rw [h.2.2]; exact hslots) rfl (fun acts' => ?_)
  rw [arrV_new, h.size, W.writeLoc]
  refine ⟨_, h.outer, (by intro z; cases z), (by rw [hgO, arrV_size]; exact hi), ?_, ?_⟩
  · show State.fitsSlot _ cA .none i (.ref _) = true
    simp [State.fitsSlot, State.slotType?, h.2.1, hkA, kdA, fits]
  · rw [hgO_hang]
    exact hq _ _
end HANG
section ALL3
theorem hg_turns (f : Nat → PUnit → Sem (ForInStep PUnit)) : (forIn [:Int32.toNatClampNeg 3] PUnit.unit f : Sem PUnit) = forIn [0, 1, 2] PUnit.unit f := by
  rw [Std.Legacy.Range.forIn_eq_forIn_range']
  rfl
variable {cA cI cc : ClassId} {kA kI : Class} {e : Env}
/-- the whole of it: the outer row, and the three in their order -/
theorem hg_make {E : CtlPost} {d : Bool} {acts : List Action} {U : State} (hkA : U.vm.classes[cA]? = some kA) (kdA : kA.kind = .array cI (.array .int)) (hkI : U.vm.classes[cI]? = some kI) (kdI : kI.kind = .array cc .int) (hl3 : ¬ 3 > e.platform.arrayLengthLimit) (hb3 : ¬ 3 * componentBytes (.array .int) > e.platform.maxHeapBytes) (hlen : ¬ 49 > e.platform.arrayLengthLimit) (hbytes : ¬ 49 * componentBytes .int > e.platform.maxHeapBytes) (hcells : U.heap.size + 4 ≤ e.platform.maxCells) (hslots : U.slotsUsed + 150 ≤ e.platform.maxSlots) {Q : Addr → Pre} (hq : ∀ d' acts', Q U.heap.size d' acts' (hg3 cA cI U)) : wp (multianewarray.make cA [3, 49]) Q E e d acts U := by
  have i0 := HgI_0 cA cI U
  have i1 := i0.next
  have i2 := i1.next
  unfold multianewarray.make
  simp only [wp_bind', W.ite, W.theClass]
  rw [if_neg (by decide)]
  refine ⟨kA, hkA, ?_⟩
  rw [kdA]
  simp only [wp_bind', W.ite]
  refine W.newArray_of (howMany := 3) (init := .null) hkA kdA hl3 hb3 (by omega) (by omega) rfl (fun acts' => ?_)
  rw [arrV_new, if_neg (by decide)]
  rw [wp_bind', hg_turns]
  simp only [List.forIn_cons, List.forIn_nil, wp_bind', wp_pure']
  refine i0.wp (by omega) hkA kdA hkI kdI hlen hbytes (by omega) (by omega) (fun d1 a1 => ?_)
  simp only [wp_bind', wp_pure']
  refine i1.wp (by omega) hkA kdA hkI kdI hlen hbytes (by omega) (by omega) (fun d2 a2 => ?_)
  simp only [wp_bind', wp_pure']
  refine i2.wp (by omega) hkA kdA hkI kdI hlen hbytes (by omega) (by omega) (fun d3 a3 => ?_)
  exact hq d3 a3
/-- the instruction, in the judgement: three and forty-nine on the stack, the class of rows of rows resolved -/
theorem W_rows3 {p : Program} {l : Launch} {R : Room} {s : State} {m : MethodId} {args : Array Value} {below : List Frame} {meth : Method} {c : Code} {H : Heap} {locs : List Loc} {cells slots : Nat} {Q : State → Prop} {bs : ByteArray} {own : String} {idx : Nat} {g : JFrame} {rest : List Value} (hx : p.tables.exec = Jvm.exec) (hb : c.code = bs) (hown : s.vm.findClass own = some m.cls) (hlink : (Cond.classLink own idx "[[I").before args s = true) (nA : s.vm.findClass "[[I" = some cA) (hkA : s.vm.classes[cA]? = some kA) (kdA : kA.kind = .array cI (.array .int)) (hkI : s.vm.classes[cI]? = some kI) (kdI : kI.kind = .array cc .int) (hg : g.method = m) (hd : decode bs g.pc = .ok (.multianewarray idx 2, 4)) (hst : g.stack = .int 49 :: .int 3 :: rest) (hcells : cells + 4 ≤ R.cells) (hslots : slots + 150 ≤ R.slots)
    (kk : ∀ K : Heap, K.toList = hgL cA cI H 3 → W p l e R s m args below meth c K locs (cells + 4) (slots + 150) Q { g with pc := g.pc + 4, stack := .ref H.size :: rest }) : W p l e R s m args below meth c H locs cells slots Q g := by
  intro T hT X
  subst hT; subst hb; subst hg
  obtain ⟨c0, n0, link⟩ := Cond.classLink_spec hown hlink e.platform (by rw [X.admits.platform])
  obtain rfl : cA = c0 := Option.some.inj (nA.symm.trans n0)
  obtain ⟨gives, warm, -⟩ := State.classEntry (e := e) X.warmed link
  generalize T.vm.noted g.method.cls idx (.cls cA) = V at gives warm
  obtain ⟨kA', hkA', eA⟩ := warm.alike.2.2 _ _ hkA
  obtain ⟨kI', hkI', eI⟩ := warm.alike.2.2 _ _ hkI
  have kdA' : kA'.kind = .array cI (.array .int) := eA ▸ kdA
  have kdI' : kI'.kind = .array cc .int := eI ▸ kdI
  obtain ⟨room1, room2⟩ := X.roomAbove hcells hslots
  have i0 := HgI_0 cA cI (T.setVm V)
  have Y := i0.next.next.stand X.heapGrown (i0.next.stand X.heapGrown (i0.stand X.heapGrown ((X.noted warm).pushed (hgO cA T.heap.size 0))))
  rw [show (hgO cA T.heap.size 0).slots.size = 3 from arrV_size _ _ _] at Y
  obtain ⟨t, a1, b1⟩ := kk _ i0.next.next.next.1 (hg3 cA cI (T.setVm V)) rfl Y
  refine ⟨t, ?_, b1⟩
  jvm_step X.here [hx, hd]
  unfold multianewarray.sem
  rw [wp_bind', W.resolveClassAt_links (State.method?_setTop g X.here.top) gives, wp_bind']
  have top : (T.setVm V).topJava?.isSome := X.here.top
  refine (popN_top (s := T.setVm V) (f := g) (args := [.int 3, .int 49]) (rest := rest) top hst).mpr ?_
  simp only [wp_bind', wp_pure', List.mapM_cons, List.mapM_nil]
  refine hg_make (U := (T.setVm V).setTop { g with stack := rest }) hkA' kdA' hkI' kdI' (by rw [Launch.admits_arrayLengthLimit X.admits]; omega) (by rw [Launch.admits_maxHeapBytes X.admits]; show ¬ 12 > 536870912; omega) (by rw [Launch.admits_arrayLengthLimit X.admits]; omega) (by rw [Launch.admits_maxHeapBytes X.admits]; show ¬ 196 > 536870912; omega) room1 room2 (fun d' acts' => ?_)
  show wp (mark _ >>= fun _ => pushRef T.heap.size) _ _ e d' acts' ((hg3 cA cI (T.setVm V)).setTop { g with stack := rest })
  rw [wp_bind', W.mark, W.pushRef]
  refine ⟨_, State.topJava?_setTop' _ Y.here.top, ?_⟩
  rw [State.setTop_setTop]
  intro z
  have step := Y.here.top
  simp [jvm, step]
  exact a1
end ALL3
