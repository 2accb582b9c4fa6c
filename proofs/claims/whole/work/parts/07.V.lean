/-! what never changes: the static arrays, the text constants -/
def GS (ad : Nat → Nat) (A : Nat → Prop) (U : State) (H : Heap) : Prop :=
  (va_Z RX3 "GAIT_OF" "[I" (.ref (ad 2000)) A U H ∧ va_T .int (ad 2000) 7 (fun i => .int (tGait i)) A U H) ∧
  (va_Z RX3 "ABOVE" "[I" (.ref (ad 2001)) A U H ∧ va_T .int (ad 2001) 7 (fun i => .int (tAbove i)) A U H) ∧
  (va_Z RX4 "POWERS" "[I" (.ref (ad 2002)) A U H ∧ va_T .int (ad 2002) 6 (fun i => .int (tPowers i)) A U H) ∧
  (∀ i, i < 16 → vk_S 1 [(strL.getD i []).length] [strL.getD i []] (fun _ => ad (1000 + i)) (fun _ => ad (1100 + i)) A U H) ∧
  va_Z "java/lang/String" "COMPACT_STRINGS" "Z" (.int 1) A U H ∧
  va_Zq "jdk/internal/util/Preconditions" "SIOOBE_FORMATTER" "Ljava/util/function/BiFunction;" A U H ∧
  (∀ q ∈ strR, vk_R q.1 q.2.1 q.2.2.1 (ad (1000 + q.2.2.2)) U) ∧
  (∀ q ∈ nestL, va_Nw (.methodLinkNest q.1 q.2.1 q.2.2.1 q.2.2.2) U)
theorem GS.go {ad : Nat → Nat} {A : Nat → Prop} {s U : State} (h : GS ad A s s.heap) (hW : s.WarmedH U.vm) (hq : ∀ a : Nat, a < s.heap.size → ¬ A a → U.heap[a]? = s.heap[a]?) : GS ad A U U.heap := by
  obtain ⟨⟨a1, a2⟩, ⟨b1, b2⟩, ⟨c1, c2⟩, d, e, f, g, n⟩ := h
  have hv := hW.alike
  exact ⟨⟨(a1.kept hq).moved hv, (a2.kept hq).moved hv⟩, ⟨(b1.kept hq).moved hv, (b2.kept hq).moved hv⟩, ⟨(c1.kept hq).moved hv, (c2.kept hq).moved hv⟩, fun i hi => ((d i hi).kept hq).moved hv, (e.kept hq).moved hv, (f.kept hq).moved hv, fun q hq => (g q hq).warm hW, fun q hq => (n q hq).warmM hW⟩
theorem GS.narrow {ad : Nat → Nat} {A B : Nat → Prop} {U : State} {H : Heap} (h : GS ad A U H) (hAB : ∀ q, B q → A q) : GS ad B U H := by
  obtain ⟨⟨a1, a2⟩, ⟨b1, b2⟩, ⟨c1, c2⟩, d, e, f, g, n⟩ := h
  exact ⟨⟨a1.narrow hAB, a2.narrow hAB⟩, ⟨b1.narrow hAB, b2.narrow hAB⟩, ⟨c1.narrow hAB, c2.narrow hAB⟩, fun i hi => (d i hi).narrow hAB, e.narrow hAB, f.narrow hAB, g, n⟩
theorem GS.same {ad : Nat → Nat} {A : Nat → Prop} {u U : State} {H : Heap} (hv : U.vm = u.vm) (h : GS ad A u H) : GS ad A U H := by
  obtain ⟨⟨a1, a2⟩, ⟨b1, b2⟩, ⟨c1, c2⟩, d, e, f, g, n⟩ := h
  have ha : u.vm.Alike U.vm := by rw [hv]; exact Vm.Alike.refl _
  exact ⟨⟨a1.moved ha, a2.moved ha⟩, ⟨b1.moved ha, b2.moved ha⟩, ⟨c1.moved ha, c2.moved ha⟩, fun i hi => (d i hi).moved ha, e.moved ha, f.moved ha, fun q hq => (g q hq).same hv, fun q hq => va_Nw.same rfl hv.symm (n q hq)⟩
/-! the judgement: from this place, with these locals, this stack, this memory, the goal is come to -/
abbrev Gh : Type := Launch × (Nat → ClassId) × va_G
abbrev Amb : Type := Program × Env × Room × State × MethodId × Array Value × List Frame × Method × Code × Nat × Nat × (State → Prop) × (Nat → Prop) × Nat
def Cx (ad : Nat → Nat) (G : Gh) (X : Amb) (cc : ByteArray) (own : String) (fr lo : Nat) : Prop := match G, X with
  | (_, cy, D), (p, _, R, s, m, args, _, _, c, cells, slots, _, A, nL) =>
    p.tables.exec = Jvm.exec ∧ c.code = cc ∧ c.maxLocals = nL ∧ s.vm.findClass own = some m.cls ∧ (∀ w ∈ BW, w.before args s = true) ∧ va_K D vwCl (tyl cy) s ∧ GS ad A s s.heap ∧ (∀ i j : Nat, i < 1000 → j < 1000 → ad i = ad j → i = j) ∧ (∀ k : Nat, k < 1000 → A (ad k)) ∧ cells ≤ R.cells ∧ slots ≤ R.slots ∧ fr ≤ R.frames ∧ lo ≤ R.locals
def V (S : List Shp) (ad : Nat → Nat) (G : Gh) (X : Amb) (pc : Nat) (L : List (Nat × Value)) (st : List Value) (u : Mem) : Prop := match G, X with
  | (l, cy, D), (p, e, R, s, m, args, below, meth, c, cells, slots, Q, A, nL) =>
    S.length ≤ 1000 → ∀ (H : Heap) (locs : List Loc) (ls : Array Slot), va_P D vwCl (wdo S ad cy u) H → va_S A s.heap H locs → lv_has ls nL L → W p l e R s m args below meth c H locs cells slots Q (F0 m pc ls st)
/-- what is said of a class -/
def CF (ci : Nat) (C : String) (T : u_T) (N : Nat) (ty : Nat → FieldType) : Prop := vwCl[ci]? = some (C, T, N) ∧ (∀ w ∈ u_ws C T N, w ∈ BW) ∧ (∀ k, k < N → parseFieldDescriptor (T k).2.2.1 = some (ty k)) ∧ (∀ a, a < N → ∀ b, b < N → a ≠ b → (T a).2.1 ≠ (T b).2.1)
section RULES
variable {S : List Shp} {ad : Nat → Nat} {G : Gh} {X : Amb} {cc : ByteArray} {own : String} {fr lo pc pc' : Nat} {L : List (Nat × Value)} {st : List Value} {u : Mem}
theorem V_sub {L' : List (Nat × Value)} (ks : List Nat) (hl : lv_pick L ks = L') (h : V S ad G X pc L' st u) : V S ad G X pc L st u := by
  obtain ⟨l, cy, D⟩ := G
  obtain ⟨p, e, R, s, m, args, below, meth, c, cells, slots, Q, A, nL⟩ := X
  exact fun hSn H locs ls hP hS hls => h hSn H locs ls hP hS (lv_sub hls ks hl)
theorem V_eq {pc2 : Nat} {L2 : List (Nat × Value)} {st2 : List Value} {u2 : Mem} (hpc : pc = pc2) (hL : L = L2) (hs : st = st2) (hu : u = u2) (h : V S ad G X pc2 L2 st2 u2) : V S ad G X pc L st u := by
  subst hpc; subst hL; subst hs; subst hu; exact h
theorem V_iconst (C : Cx ad G X cc own fr lo) {n : Int} {v : Int32} (hd : decode cc pc = .ok (.iconst n, 1)) (hp : pc + 1 = pc') (hv : Int32.ofInt n = v) (h : V S ad G X pc' L (.int v :: st) u) : V S ad G X pc L (st) u := by
  obtain ⟨l, cy, D⟩ := G
  obtain ⟨p, e, R, s, m, args, below, meth, c, cells, slots, Q, A, nL⟩ := X
  obtain ⟨hx, hb, hml, hown, hts, hK, hG, hi, hA, hc, hs, hfr, hlo⟩ := C
  subst hp
  exact fun hSn H locs ls hP hS hl => lv_iconst hx hb hd hv (h hSn H locs ls hP hS hl)
theorem V_bipush (C : Cx ad G X cc own fr lo) {n : Int} {v : Int32} (hd : decode cc pc = .ok (.bipush n, 2)) (hp : pc + 2 = pc') (hv : (Int8.ofInt n).toInt32 = v) (h : V S ad G X pc' L (.int v :: st) u) : V S ad G X pc L (st) u := by
  obtain ⟨l, cy, D⟩ := G
  obtain ⟨p, e, R, s, m, args, below, meth, c, cells, slots, Q, A, nL⟩ := X
  obtain ⟨hx, hb, hml, hown, hts, hK, hG, hi, hA, hc, hs, hfr, hlo⟩ := C
  subst hp
  exact fun hSn H locs ls hP hS hl => lv_bipush hx hb hd hv (h hSn H locs ls hP hS hl)
theorem V_sipush (C : Cx ad G X cc own fr lo) {n : Int} {v : Int32} (hd : decode cc pc = .ok (.sipush n, 3)) (hp : pc + 3 = pc') (hv : (Int16.ofInt n).toInt32 = v) (h : V S ad G X pc' L (.int v :: st) u) : V S ad G X pc L (st) u := by
  obtain ⟨l, cy, D⟩ := G
  obtain ⟨p, e, R, s, m, args, below, meth, c, cells, slots, Q, A, nL⟩ := X
  obtain ⟨hx, hb, hml, hown, hts, hK, hG, hi, hA, hc, hs, hfr, hlo⟩ := C
  subst hp
  exact fun hSn H locs ls hP hS hl => lv_sipush hx hb hd hv (h hSn H locs ls hP hS hl)
theorem V_ldc (C : Cx ad G X cc own fr lo) {k : Nat} {v : Int32} (hd : decode cc pc = .ok (.ldc k, 2)) (hp : pc + 2 = pc') (hw : Cond.constant own k v ∈ BW) (h : V S ad G X pc' L (.int v :: st) u) : V S ad G X pc L (st) u := by
  obtain ⟨l, cy, D⟩ := G
  obtain ⟨p, e, R, s, m, args, below, meth, c, cells, slots, Q, A, nL⟩ := X
  obtain ⟨hx, hb, hml, hown, hts, hK, hG, hi, hA, hc, hs, hfr, hlo⟩ := C
  subst hp
  exact fun hSn H locs ls hP hS hl => lv_ldc hx hb hown (hts _ hw) hd (h hSn H locs ls hP hS hl)
theorem V_ldcw (C : Cx ad G X cc own fr lo) {k : Nat} {v : Int32} (hd : decode cc pc = .ok (.ldc_w k, 3)) (hp : pc + 3 = pc') (hw : Cond.constant own k v ∈ BW) (h : V S ad G X pc' L (.int v :: st) u) : V S ad G X pc L (st) u := by
  obtain ⟨l, cy, D⟩ := G
  obtain ⟨p, e, R, s, m, args, below, meth, c, cells, slots, Q, A, nL⟩ := X
  obtain ⟨hx, hb, hml, hown, hts, hK, hG, hi, hA, hc, hs, hfr, hlo⟩ := C
  subst hp
  exact fun hSn H locs ls hP hS hl => lv_ldcw hx hb hown (hts _ hw) hd (h hSn H locs ls hP hS hl)
theorem V_ldcS (C : Cx ad G X cc own fr lo) {k i : Nat} {tx : String} (hd : decode cc pc = .ok (.ldc k, 2)) (hp : pc + 2 = pc') (hw : (own, k, tx, i) ∈ strR) (h : V S ad G X pc' L (.ref (ad (1000 + i)) :: st) u) : V S ad G X pc L (st) u := by
  obtain ⟨l, cy, D⟩ := G
  obtain ⟨p, e, R, s, m, args, below, meth, c, cells, slots, Q, A, nL⟩ := X
  obtain ⟨hx, hb, hml, hown, hts, hK, hG, hi, hA, hc, hs, hfr, hlo⟩ := C
  subst hp
  exact fun hSn H locs ls hP hS hl => va_ldcS hx hb hown (hG.2.2.2.2.2.2.1 _ hw) hd (h hSn H locs ls hP hS hl)
theorem V_iload_n (C : Cx ad G X cc own fr lo) {k : Fin 4} {i : Nat} {x : Int32} (j : Nat) (hd : decode cc pc = .ok (.iload_n k, 1)) (hp : pc + 1 = pc') (hi0 : (k : Nat) = i) (hj : L[j]? = some (i, .int x)) (h : V S ad G X pc' L (.int x :: st) u) : V S ad G X pc L (st) u := by
  obtain ⟨l, cy, D⟩ := G
  obtain ⟨p, e, R, s, m, args, below, meth, c, cells, slots, Q, A, nL⟩ := X
  obtain ⟨hx, hb, hml, hown, hts, hK, hG, hi, hA, hc, hs, hfr, hlo⟩ := C
  subst hp
  exact fun hSn H locs ls hP hS hl => lv_iload_n hx hb hd hi0 (lv_at hl j hj) (h hSn H locs ls hP hS hl)
theorem V_iload (C : Cx ad G X cc own fr lo) {i : Nat} {x : Int32} (j : Nat) (hd : decode cc pc = .ok (.iload i, 2)) (hp : pc + 2 = pc') (hj : L[j]? = some (i, .int x)) (h : V S ad G X pc' L (.int x :: st) u) : V S ad G X pc L (st) u := by
  obtain ⟨l, cy, D⟩ := G
  obtain ⟨p, e, R, s, m, args, below, meth, c, cells, slots, Q, A, nL⟩ := X
  obtain ⟨hx, hb, hml, hown, hts, hK, hG, hi, hA, hc, hs, hfr, hlo⟩ := C
  subst hp
  exact fun hSn H locs ls hP hS hl => lv_iload hx hb hd (lv_at hl j hj) (h hSn H locs ls hP hS hl)
theorem V_aload_n (C : Cx ad G X cc own fr lo) {k : Fin 4} {i x : Nat} (j : Nat) (hd : decode cc pc = .ok (.aload_n k, 1)) (hp : pc + 1 = pc') (hi0 : (k : Nat) = i) (hj : L[j]? = some (i, .ref x)) (h : V S ad G X pc' L (.ref x :: st) u) : V S ad G X pc L (st) u := by
  obtain ⟨l, cy, D⟩ := G
  obtain ⟨p, e, R, s, m, args, below, meth, c, cells, slots, Q, A, nL⟩ := X
  obtain ⟨hx, hb, hml, hown, hts, hK, hG, hi, hA, hc, hs, hfr, hlo⟩ := C
  subst hp
  exact fun hSn H locs ls hP hS hl => lv_aload_n hx hb hd hi0 (lv_at hl j hj) (h hSn H locs ls hP hS hl)
theorem V_aload (C : Cx ad G X cc own fr lo) {i x : Nat} (j : Nat) (hd : decode cc pc = .ok (.aload i, 2)) (hp : pc + 2 = pc') (hj : L[j]? = some (i, .ref x)) (h : V S ad G X pc' L (.ref x :: st) u) : V S ad G X pc L (st) u := by
  obtain ⟨l, cy, D⟩ := G
  obtain ⟨p, e, R, s, m, args, below, meth, c, cells, slots, Q, A, nL⟩ := X
  obtain ⟨hx, hb, hml, hown, hts, hK, hG, hi, hA, hc, hs, hfr, hlo⟩ := C
  subst hp
  exact fun hSn H locs ls hP hS hl => lv_aload hx hb hd (lv_at hl j hj) (h hSn H locs ls hP hS hl)
theorem V_istore_n (C : Cx ad G X cc own fr lo) {k : Fin 4} {i nL0 : Nat} {x : Int32} {L' : List (Nat × Value)} (hd : decode cc pc = .ok (.istore_n k, 1)) (hp : pc + 1 = pc') (hi0 : (k : Nat) = i) (hn : i < nL0) (hL : X.2.2.2.2.2.2.2.2.2.2.2.2.2 = nL0) (ks : List Nat) (hl1 : lv_pick ((i, Value.int x) :: L.filter (fun q => !(q.1 == i) && !(q.1 + 1 == i && q.2.category == 2))) ks = L') (h : V S ad G X pc' L' (st) u) : V S ad G X pc L (.int x :: st) u := by
  obtain ⟨l, cy, D⟩ := G
  obtain ⟨p, e, R, s, m, args, below, meth, c, cells, slots, Q, A, nL⟩ := X
  obtain ⟨hx, hb, hml, hown, hts, hK, hG, hi, hA, hc, hs, hfr, hlo⟩ := C
  subst hp
  exact fun hSn H locs ls hP hS hl => lv_istore_n hx hb hd hi0 hl (by subst hL; exact hn) rfl (fun ls' hl' => h hSn H locs ls' hP hS (lv_sub hl' ks hl1))
theorem V_istore (C : Cx ad G X cc own fr lo) {i nL0 : Nat} {x : Int32} {L' : List (Nat × Value)} (hd : decode cc pc = .ok (.istore i, 2)) (hp : pc + 2 = pc') (hn : i < nL0) (hL : X.2.2.2.2.2.2.2.2.2.2.2.2.2 = nL0) (ks : List Nat) (hl1 : lv_pick ((i, Value.int x) :: L.filter (fun q => !(q.1 == i) && !(q.1 + 1 == i && q.2.category == 2))) ks = L') (h : V S ad G X pc' L' (st) u) : V S ad G X pc L (.int x :: st) u := by
  obtain ⟨l, cy, D⟩ := G
  obtain ⟨p, e, R, s, m, args, below, meth, c, cells, slots, Q, A, nL⟩ := X
  obtain ⟨hx, hb, hml, hown, hts, hK, hG, hi, hA, hc, hs, hfr, hlo⟩ := C
  subst hp
  exact fun hSn H locs ls hP hS hl => lv_istore hx hb hd hl (by subst hL; exact hn) rfl (fun ls' hl' => h hSn H locs ls' hP hS (lv_sub hl' ks hl1))
theorem V_astore_n (C : Cx ad G X cc own fr lo) {k : Fin 4} {i nL0 x : Nat} {L' : List (Nat × Value)} (hd : decode cc pc = .ok (.astore_n k, 1)) (hp : pc + 1 = pc') (hi0 : (k : Nat) = i) (hn : i < nL0) (hL : X.2.2.2.2.2.2.2.2.2.2.2.2.2 = nL0) (ks : List Nat) (hl1 : lv_pick ((i, Value.ref x) :: L.filter (fun q => !(q.1 == i) && !(q.1 + 1 == i && q.2.category == 2))) ks = L') (h : V S ad G X pc' L' (st) u) : V S ad G X pc L (.ref x :: st) u := by
  obtain ⟨l, cy, D⟩ := G
  obtain ⟨p, e, R, s, m, args, below, meth, c, cells, slots, Q, A, nL⟩ := X
  obtain ⟨hx, hb, hml, hown, hts, hK, hG, hi, hA, hc, hs, hfr, hlo⟩ := C
  subst hp
  exact fun hSn H locs ls hP hS hl => lv_astore_n hx hb hd hi0 hl (by subst hL; exact hn) rfl (fun ls' hl' => h hSn H locs ls' hP hS (lv_sub hl' ks hl1))
theorem V_astore (C : Cx ad G X cc own fr lo) {i nL0 x : Nat} {L' : List (Nat × Value)} (hd : decode cc pc = .ok (.astore i, 2)) (hp : pc + 2 = pc') (hn : i < nL0) (hL : X.2.2.2.2.2.2.2.2.2.2.2.2.2 = nL0) (ks : List Nat) (hl1 : lv_pick ((i, Value.ref x) :: L.filter (fun q => !(q.1 == i) && !(q.1 + 1 == i && q.2.category == 2))) ks = L') (h : V S ad G X pc' L' (st) u) : V S ad G X pc L (.ref x :: st) u := by
  obtain ⟨l, cy, D⟩ := G
  obtain ⟨p, e, R, s, m, args, below, meth, c, cells, slots, Q, A, nL⟩ := X
  obtain ⟨hx, hb, hml, hown, hts, hK, hG, hi, hA, hc, hs, hfr, hlo⟩ := C
  subst hp
  exact fun hSn H locs ls hP hS hl => lv_astore hx hb hd hl (by subst hL; exact hn) rfl (fun ls' hl' => h hSn H locs ls' hP hS (lv_sub hl' ks hl1))
theorem V_iinc (C : Cx ad G X cc own fr lo) {i nL0 : Nat} {n : Int} {x v : Int32} {L' : List (Nat × Value)} (j : Nat) (hd : decode cc pc = .ok (.iinc i n, 3)) (hp : pc + 3 = pc') (hj : L[j]? = some (i, .int x)) (hv : x + Int32.ofInt n = v) (hn : i < nL0) (hL : X.2.2.2.2.2.2.2.2.2.2.2.2.2 = nL0) (ks : List Nat) (hl1 : lv_pick ((i, Value.int v) :: L.filter (fun q => !(q.1 == i) && !(q.1 + 1 == i && q.2.category == 2))) ks = L') (h : V S ad G X pc' L' (st) u) : V S ad G X pc L (st) u := by
  obtain ⟨l, cy, D⟩ := G
  obtain ⟨p, e, R, s, m, args, below, meth, c, cells, slots, Q, A, nL⟩ := X
  obtain ⟨hx, hb, hml, hown, hts, hK, hG, hi, hA, hc, hs, hfr, hlo⟩ := C
  subst hp
  exact fun hSn H locs ls hP hS hl => lv_iinc hx hb hd hl hj hv (by subst hL; exact hn) rfl (fun ls' hl' => h hSn H locs ls' hP hS (lv_sub hl' ks hl1))
theorem V_iadd (C : Cx ad G X cc own fr lo) {x y : Int32} (hd : decode cc pc = .ok (.iadd, 1)) (hp : pc + 1 = pc')  (h : V S ad G X pc' L (.int (x + y) :: st) u) : V S ad G X pc L (.int y :: .int x :: st) u := by
  obtain ⟨l, cy, D⟩ := G
  obtain ⟨p, e, R, s, m, args, below, meth, c, cells, slots, Q, A, nL⟩ := X
  obtain ⟨hx, hb, hml, hown, hts, hK, hG, hi, hA, hc, hs, hfr, hlo⟩ := C
  subst hp
  exact fun hSn H locs ls hP hS hl => lv_iadd hx hb hd (h hSn H locs ls hP hS hl)
theorem V_isub (C : Cx ad G X cc own fr lo) {x y : Int32} (hd : decode cc pc = .ok (.isub, 1)) (hp : pc + 1 = pc')  (h : V S ad G X pc' L (.int (x - y) :: st) u) : V S ad G X pc L (.int y :: .int x :: st) u := by
  obtain ⟨l, cy, D⟩ := G
  obtain ⟨p, e, R, s, m, args, below, meth, c, cells, slots, Q, A, nL⟩ := X
  obtain ⟨hx, hb, hml, hown, hts, hK, hG, hi, hA, hc, hs, hfr, hlo⟩ := C
  subst hp
  exact fun hSn H locs ls hP hS hl => lv_isub hx hb hd (h hSn H locs ls hP hS hl)
theorem V_imul (C : Cx ad G X cc own fr lo) {x y : Int32} (hd : decode cc pc = .ok (.imul, 1)) (hp : pc + 1 = pc')  (h : V S ad G X pc' L (.int (x * y) :: st) u) : V S ad G X pc L (.int y :: .int x :: st) u := by
  obtain ⟨l, cy, D⟩ := G
  obtain ⟨p, e, R, s, m, args, below, meth, c, cells, slots, Q, A, nL⟩ := X
  obtain ⟨hx, hb, hml, hown, hts, hK, hG, hi, hA, hc, hs, hfr, hlo⟩ := C
  subst hp
  exact fun hSn H locs ls hP hS hl => lv_imul hx hb hd (h hSn H locs ls hP hS hl)
theorem V_iand (C : Cx ad G X cc own fr lo) {x y : Int32} (hd : decode cc pc = .ok (.iand, 1)) (hp : pc + 1 = pc')  (h : V S ad G X pc' L (.int (x &&& y) :: st) u) : V S ad G X pc L (.int y :: .int x :: st) u := by
  obtain ⟨l, cy, D⟩ := G
  obtain ⟨p, e, R, s, m, args, below, meth, c, cells, slots, Q, A, nL⟩ := X
  obtain ⟨hx, hb, hml, hown, hts, hK, hG, hi, hA, hc, hs, hfr, hlo⟩ := C
  subst hp
  exact fun hSn H locs ls hP hS hl => lv_iand hx hb hd (h hSn H locs ls hP hS hl)
theorem V_ior (C : Cx ad G X cc own fr lo) {x y : Int32} (hd : decode cc pc = .ok (.ior, 1)) (hp : pc + 1 = pc')  (h : V S ad G X pc' L (.int (x ||| y) :: st) u) : V S ad G X pc L (.int y :: .int x :: st) u := by
  obtain ⟨l, cy, D⟩ := G
  obtain ⟨p, e, R, s, m, args, below, meth, c, cells, slots, Q, A, nL⟩ := X
  obtain ⟨hx, hb, hml, hown, hts, hK, hG, hi, hA, hc, hs, hfr, hlo⟩ := C
  subst hp
  exact fun hSn H locs ls hP hS hl => lv_ior hx hb hd (h hSn H locs ls hP hS hl)
theorem V_ixor (C : Cx ad G X cc own fr lo) {x y : Int32} (hd : decode cc pc = .ok (.ixor, 1)) (hp : pc + 1 = pc')  (h : V S ad G X pc' L (.int (x ^^^ y) :: st) u) : V S ad G X pc L (.int y :: .int x :: st) u := by
  obtain ⟨l, cy, D⟩ := G
  obtain ⟨p, e, R, s, m, args, below, meth, c, cells, slots, Q, A, nL⟩ := X
  obtain ⟨hx, hb, hml, hown, hts, hK, hG, hi, hA, hc, hs, hfr, hlo⟩ := C
  subst hp
  exact fun hSn H locs ls hP hS hl => lv_ixor hx hb hd (h hSn H locs ls hP hS hl)
theorem V_ishl (C : Cx ad G X cc own fr lo) {x y : Int32} (hd : decode cc pc = .ok (.ishl, 1)) (hp : pc + 1 = pc')  (h : V S ad G X pc' L (.int (x <<< (y &&& 31)) :: st) u) : V S ad G X pc L (.int y :: .int x :: st) u := by
  obtain ⟨l, cy, D⟩ := G
  obtain ⟨p, e, R, s, m, args, below, meth, c, cells, slots, Q, A, nL⟩ := X
  obtain ⟨hx, hb, hml, hown, hts, hK, hG, hi, hA, hc, hs, hfr, hlo⟩ := C
  subst hp
  exact fun hSn H locs ls hP hS hl => lv_ishl hx hb hd (h hSn H locs ls hP hS hl)
theorem V_ishr (C : Cx ad G X cc own fr lo) {x y : Int32} (hd : decode cc pc = .ok (.ishr, 1)) (hp : pc + 1 = pc')  (h : V S ad G X pc' L (.int (x >>> (y &&& 31)) :: st) u) : V S ad G X pc L (.int y :: .int x :: st) u := by
  obtain ⟨l, cy, D⟩ := G
  obtain ⟨p, e, R, s, m, args, below, meth, c, cells, slots, Q, A, nL⟩ := X
  obtain ⟨hx, hb, hml, hown, hts, hK, hG, hi, hA, hc, hs, hfr, hlo⟩ := C
  subst hp
  exact fun hSn H locs ls hP hS hl => lv_ishr hx hb hd (h hSn H locs ls hP hS hl)
theorem V_iushr (C : Cx ad G X cc own fr lo) {x y : Int32} (hd : decode cc pc = .ok (.iushr, 1)) (hp : pc + 1 = pc')  (h : V S ad G X pc' L (.int ((x.toUInt32 >>> (y.toUInt32 &&& Int32.toUInt32 31)).toInt32) :: st) u) : V S ad G X pc L (.int y :: .int x :: st) u := by
  obtain ⟨l, cy, D⟩ := G
  obtain ⟨p, e, R, s, m, args, below, meth, c, cells, slots, Q, A, nL⟩ := X
  obtain ⟨hx, hb, hml, hown, hts, hK, hG, hi, hA, hc, hs, hfr, hlo⟩ := C
  subst hp
  exact fun hSn H locs ls hP hS hl => lv_iushr hx hb hd rfl (h hSn H locs ls hP hS hl)
theorem V_idiv (C : Cx ad G X cc own fr lo) {x y : Int32} (hd : decode cc pc = .ok (.idiv, 1)) (hp : pc + 1 = pc') (hne : ¬ y = 0) (h : V S ad G X pc' L (.int (x / y) :: st) u) : V S ad G X pc L (.int y :: .int x :: st) u := by
  obtain ⟨l, cy, D⟩ := G
  obtain ⟨p, e, R, s, m, args, below, meth, c, cells, slots, Q, A, nL⟩ := X
  obtain ⟨hx, hb, hml, hown, hts, hK, hG, hi, hA, hc, hs, hfr, hlo⟩ := C
  subst hp
  exact fun hSn H locs ls hP hS hl => lv_idiv hx hb hd hne (h hSn H locs ls hP hS hl)
theorem V_irem (C : Cx ad G X cc own fr lo) {x y : Int32} (hd : decode cc pc = .ok (.irem, 1)) (hp : pc + 1 = pc') (hne : ¬ y = 0) (h : V S ad G X pc' L (.int (x - x / y * y) :: st) u) : V S ad G X pc L (.int y :: .int x :: st) u := by
  obtain ⟨l, cy, D⟩ := G
  obtain ⟨p, e, R, s, m, args, below, meth, c, cells, slots, Q, A, nL⟩ := X
  obtain ⟨hx, hb, hml, hown, hts, hK, hG, hi, hA, hc, hs, hfr, hlo⟩ := C
  subst hp
  exact fun hSn H locs ls hP hS hl => lv_irem hx hb hd hne (h hSn H locs ls hP hS hl)
theorem V_ladd (C : Cx ad G X cc own fr lo) {x y : Int64} (hd : decode cc pc = .ok (.ladd, 1)) (hp : pc + 1 = pc')  (h : V S ad G X pc' L (.long (x + y) :: st) u) : V S ad G X pc L (.long y :: .long x :: st) u := by
  obtain ⟨l, cy, D⟩ := G
  obtain ⟨p, e, R, s, m, args, below, meth, c, cells, slots, Q, A, nL⟩ := X
  obtain ⟨hx, hb, hml, hown, hts, hK, hG, hi, hA, hc, hs, hfr, hlo⟩ := C
  subst hp
  exact fun hSn H locs ls hP hS hl => lv_ladd hx hb hd (h hSn H locs ls hP hS hl)
theorem V_i2l (C : Cx ad G X cc own fr lo) {x : Int32} (hd : decode cc pc = .ok (.i2l, 1)) (hp : pc + 1 = pc')  (h : V S ad G X pc' L (.long x.toInt64 :: st) u) : V S ad G X pc L (.int x :: st) u := by
  obtain ⟨l, cy, D⟩ := G
  obtain ⟨p, e, R, s, m, args, below, meth, c, cells, slots, Q, A, nL⟩ := X
  obtain ⟨hx, hb, hml, hown, hts, hK, hG, hi, hA, hc, hs, hfr, hlo⟩ := C
  subst hp
  exact fun hSn H locs ls hP hS hl => lv_i2l hx hb hd rfl (h hSn H locs ls hP hS hl)
theorem V_i2b (C : Cx ad G X cc own fr lo) {x : Int32} (hd : decode cc pc = .ok (.i2b, 1)) (hp : pc + 1 = pc')  (h : V S ad G X pc' L (.int x.toInt8.toInt32 :: st) u) : V S ad G X pc L (.int x :: st) u := by
  obtain ⟨l, cy, D⟩ := G
  obtain ⟨p, e, R, s, m, args, below, meth, c, cells, slots, Q, A, nL⟩ := X
  obtain ⟨hx, hb, hml, hown, hts, hK, hG, hi, hA, hc, hs, hfr, hlo⟩ := C
  subst hp
  exact fun hSn H locs ls hP hS hl => lv_i2b hx hb hd rfl (h hSn H locs ls hP hS hl)
theorem V_i2s (C : Cx ad G X cc own fr lo) {x : Int32} (hd : decode cc pc = .ok (.i2s, 1)) (hp : pc + 1 = pc')  (h : V S ad G X pc' L (.int x.toInt16.toInt32 :: st) u) : V S ad G X pc L (.int x :: st) u := by
  obtain ⟨l, cy, D⟩ := G
  obtain ⟨p, e, R, s, m, args, below, meth, c, cells, slots, Q, A, nL⟩ := X
  obtain ⟨hx, hb, hml, hown, hts, hK, hG, hi, hA, hc, hs, hfr, hlo⟩ := C
  subst hp
  exact fun hSn H locs ls hP hS hl => lv_i2s hx hb hd rfl (h hSn H locs ls hP hS hl)
theorem V_dup (C : Cx ad G X cc own fr lo) {v : Value} (hd : decode cc pc = .ok (.dup, 1)) (hp : pc + 1 = pc') (h1 : v.category = 1) (h : V S ad G X pc' L (v :: v :: st) u) : V S ad G X pc L (v :: st) u := by
  obtain ⟨l, cy, D⟩ := G
  obtain ⟨p, e, R, s, m, args, below, meth, c, cells, slots, Q, A, nL⟩ := X
  obtain ⟨hx, hb, hml, hown, hts, hK, hG, hi, hA, hc, hs, hfr, hlo⟩ := C
  subst hp
  exact fun hSn H locs ls hP hS hl => lv_dup hx hb hd h1 (h hSn H locs ls hP hS hl)
theorem V_pop (C : Cx ad G X cc own fr lo) {v : Value} (hd : decode cc pc = .ok (.pop, 1)) (hp : pc + 1 = pc') (h1 : v.category = 1) (h : V S ad G X pc' L (st) u) : V S ad G X pc L (v :: st) u := by
  obtain ⟨l, cy, D⟩ := G
  obtain ⟨p, e, R, s, m, args, below, meth, c, cells, slots, Q, A, nL⟩ := X
  obtain ⟨hx, hb, hml, hown, hts, hK, hG, hi, hA, hc, hs, hfr, hlo⟩ := C
  subst hp
  exact fun hSn H locs ls hP hS hl => lv_pop hx hb hd h1 (h hSn H locs ls hP hS hl)
theorem V_dup_x1 (C : Cx ad G X cc own fr lo) {v w : Value} (hd : decode cc pc = .ok (.dup_x1, 1)) (hp : pc + 1 = pc') (h1 : v.category = 1) (h2 : w.category = 1) (h : V S ad G X pc' L (v :: w :: v :: st) u) : V S ad G X pc L (v :: w :: st) u := by
  obtain ⟨l, cy, D⟩ := G
  obtain ⟨p, e, R, s, m, args, below, meth, c, cells, slots, Q, A, nL⟩ := X
  obtain ⟨hx, hb, hml, hown, hts, hK, hG, hi, hA, hc, hs, hfr, hlo⟩ := C
  subst hp
  exact fun hSn H locs ls hP hS hl => lv_dup_x1 hx hb hd h1 h2 (h hSn H locs ls hP hS hl)
theorem V_dup2 (C : Cx ad G X cc own fr lo) {v w : Value} (hd : decode cc pc = .ok (.dup2, 1)) (hp : pc + 1 = pc') (h1 : v.category = 1) (h2 : w.category = 1) (h : V S ad G X pc' L (v :: w :: v :: w :: st) u) : V S ad G X pc L (v :: w :: st) u := by
  obtain ⟨l, cy, D⟩ := G
  obtain ⟨p, e, R, s, m, args, below, meth, c, cells, slots, Q, A, nL⟩ := X
  obtain ⟨hx, hb, hml, hown, hts, hK, hG, hi, hA, hc, hs, hfr, hlo⟩ := C
  subst hp
  exact fun hSn H locs ls hP hS hl => lv_dup2_11 hx hb hd h1 h2 (h hSn H locs ls hP hS hl)
theorem V_if_eq (C : Cx ad G X cc own fr lo) {x : Int32} {off : Int} {tgt : Nat} (hd : decode cc pc = .ok (.ifCond .eq off, 3)) (ht : (pc : Int) + off = (tgt : Int)) (hp : pc + 3 = pc') (kt : x = 0 → V S ad G X tgt L st u) (kf : ¬ x = 0 → V S ad G X pc' L st u) : V S ad G X pc L (.int x :: st) u := by
  obtain ⟨l, cy, D⟩ := G
  obtain ⟨p, e, R, s, m, args, below, meth, c, cells, slots, Q, A, nL⟩ := X
  obtain ⟨hx, hb, hml, hown, hts, hK, hG, hi, hA, hc, hs, hfr, hlo⟩ := C
  subst hp
  exact fun hSn H locs ls hP hS hl => lv_if_eq hx hb hd ht (fun q => kt q hSn H locs ls hP hS hl) (fun q => kf q hSn H locs ls hP hS hl)
theorem V_icmp_eq (C : Cx ad G X cc own fr lo) {x y : Int32} {off : Int} {tgt : Nat} (hd : decode cc pc = .ok (.if_icmp .eq off, 3)) (ht : (pc : Int) + off = (tgt : Int)) (hp : pc + 3 = pc') (kt : x = y → V S ad G X tgt L st u) (kf : ¬ x = y → V S ad G X pc' L st u) : V S ad G X pc L (.int y :: .int x :: st) u := by
  obtain ⟨l, cy, D⟩ := G
  obtain ⟨p, e, R, s, m, args, below, meth, c, cells, slots, Q, A, nL⟩ := X
  obtain ⟨hx, hb, hml, hown, hts, hK, hG, hi, hA, hc, hs, hfr, hlo⟩ := C
  subst hp
  exact fun hSn H locs ls hP hS hl => lv_icmp_eq hx hb hd ht (fun q => kt q hSn H locs ls hP hS hl) (fun q => kf q hSn H locs ls hP hS hl)
theorem V_if_ne (C : Cx ad G X cc own fr lo) {x : Int32} {off : Int} {tgt : Nat} (hd : decode cc pc = .ok (.ifCond .ne off, 3)) (ht : (pc : Int) + off = (tgt : Int)) (hp : pc + 3 = pc') (kt : ¬ x = 0 → V S ad G X tgt L st u) (kf : x = 0 → V S ad G X pc' L st u) : V S ad G X pc L (.int x :: st) u := by
  obtain ⟨l, cy, D⟩ := G
  obtain ⟨p, e, R, s, m, args, below, meth, c, cells, slots, Q, A, nL⟩ := X
  obtain ⟨hx, hb, hml, hown, hts, hK, hG, hi, hA, hc, hs, hfr, hlo⟩ := C
  subst hp
  exact fun hSn H locs ls hP hS hl => lv_if_ne hx hb hd ht (fun q => kt q hSn H locs ls hP hS hl) (fun q => kf q hSn H locs ls hP hS hl)
theorem V_icmp_ne (C : Cx ad G X cc own fr lo) {x y : Int32} {off : Int} {tgt : Nat} (hd : decode cc pc = .ok (.if_icmp .ne off, 3)) (ht : (pc : Int) + off = (tgt : Int)) (hp : pc + 3 = pc') (kt : ¬ x = y → V S ad G X tgt L st u) (kf : x = y → V S ad G X pc' L st u) : V S ad G X pc L (.int y :: .int x :: st) u := by
  obtain ⟨l, cy, D⟩ := G
  obtain ⟨p, e, R, s, m, args, below, meth, c, cells, slots, Q, A, nL⟩ := X
  obtain ⟨hx, hb, hml, hown, hts, hK, hG, hi, hA, hc, hs, hfr, hlo⟩ := C
  subst hp
  exact fun hSn H locs ls hP hS hl => lv_icmp_ne hx hb hd ht (fun q => kt q hSn H locs ls hP hS hl) (fun q => kf q hSn H locs ls hP hS hl)
theorem V_if_lt (C : Cx ad G X cc own fr lo) {x : Int32} {off : Int} {tgt : Nat} (hd : decode cc pc = .ok (.ifCond .lt off, 3)) (ht : (pc : Int) + off = (tgt : Int)) (hp : pc + 3 = pc') (kt : x < 0 → V S ad G X tgt L st u) (kf : ¬ x < 0 → V S ad G X pc' L st u) : V S ad G X pc L (.int x :: st) u := by
  obtain ⟨l, cy, D⟩ := G
  obtain ⟨p, e, R, s, m, args, below, meth, c, cells, slots, Q, A, nL⟩ := X
  obtain ⟨hx, hb, hml, hown, hts, hK, hG, hi, hA, hc, hs, hfr, hlo⟩ := C
  subst hp
  exact fun hSn H locs ls hP hS hl => lv_if_lt hx hb hd ht (fun q => kt q hSn H locs ls hP hS hl) (fun q => kf q hSn H locs ls hP hS hl)
theorem V_icmp_lt (C : Cx ad G X cc own fr lo) {x y : Int32} {off : Int} {tgt : Nat} (hd : decode cc pc = .ok (.if_icmp .lt off, 3)) (ht : (pc : Int) + off = (tgt : Int)) (hp : pc + 3 = pc') (kt : x < y → V S ad G X tgt L st u) (kf : ¬ x < y → V S ad G X pc' L st u) : V S ad G X pc L (.int y :: .int x :: st) u := by
  obtain ⟨l, cy, D⟩ := G
  obtain ⟨p, e, R, s, m, args, below, meth, c, cells, slots, Q, A, nL⟩ := X
  obtain ⟨hx, hb, hml, hown, hts, hK, hG, hi, hA, hc, hs, hfr, hlo⟩ := C
  subst hp
  exact fun hSn H locs ls hP hS hl => lv_icmp_lt hx hb hd ht (fun q => kt q hSn H locs ls hP hS hl) (fun q => kf q hSn H locs ls hP hS hl)
theorem V_if_ge (C : Cx ad G X cc own fr lo) {x : Int32} {off : Int} {tgt : Nat} (hd : decode cc pc = .ok (.ifCond .ge off, 3)) (ht : (pc : Int) + off = (tgt : Int)) (hp : pc + 3 = pc') (kt : 0 ≤ x → V S ad G X tgt L st u) (kf : ¬ 0 ≤ x → V S ad G X pc' L st u) : V S ad G X pc L (.int x :: st) u := by
  obtain ⟨l, cy, D⟩ := G
  obtain ⟨p, e, R, s, m, args, below, meth, c, cells, slots, Q, A, nL⟩ := X
  obtain ⟨hx, hb, hml, hown, hts, hK, hG, hi, hA, hc, hs, hfr, hlo⟩ := C
  subst hp
  exact fun hSn H locs ls hP hS hl => lv_if_ge hx hb hd ht (fun q => kt q hSn H locs ls hP hS hl) (fun q => kf q hSn H locs ls hP hS hl)
theorem V_icmp_ge (C : Cx ad G X cc own fr lo) {x y : Int32} {off : Int} {tgt : Nat} (hd : decode cc pc = .ok (.if_icmp .ge off, 3)) (ht : (pc : Int) + off = (tgt : Int)) (hp : pc + 3 = pc') (kt : y ≤ x → V S ad G X tgt L st u) (kf : ¬ y ≤ x → V S ad G X pc' L st u) : V S ad G X pc L (.int y :: .int x :: st) u := by
  obtain ⟨l, cy, D⟩ := G
  obtain ⟨p, e, R, s, m, args, below, meth, c, cells, slots, Q, A, nL⟩ := X
  obtain ⟨hx, hb, hml, hown, hts, hK, hG, hi, hA, hc, hs, hfr, hlo⟩ := C
  subst hp
  exact fun hSn H locs ls hP hS hl => lv_icmp_ge hx hb hd ht (fun q => kt q hSn H locs ls hP hS hl) (fun q => kf q hSn H locs ls hP hS hl)
theorem V_if_gt (C : Cx ad G X cc own fr lo) {x : Int32} {off : Int} {tgt : Nat} (hd : decode cc pc = .ok (.ifCond .gt off, 3)) (ht : (pc : Int) + off = (tgt : Int)) (hp : pc + 3 = pc') (kt : 0 < x → V S ad G X tgt L st u) (kf : ¬ 0 < x → V S ad G X pc' L st u) : V S ad G X pc L (.int x :: st) u := by
  obtain ⟨l, cy, D⟩ := G
  obtain ⟨p, e, R, s, m, args, below, meth, c, cells, slots, Q, A, nL⟩ := X
  obtain ⟨hx, hb, hml, hown, hts, hK, hG, hi, hA, hc, hs, hfr, hlo⟩ := C
  subst hp
  exact fun hSn H locs ls hP hS hl => lv_if_gt hx hb hd ht (fun q => kt q hSn H locs ls hP hS hl) (fun q => kf q hSn H locs ls hP hS hl)
theorem V_icmp_gt (C : Cx ad G X cc own fr lo) {x y : Int32} {off : Int} {tgt : Nat} (hd : decode cc pc = .ok (.if_icmp .gt off, 3)) (ht : (pc : Int) + off = (tgt : Int)) (hp : pc + 3 = pc') (kt : y < x → V S ad G X tgt L st u) (kf : ¬ y < x → V S ad G X pc' L st u) : V S ad G X pc L (.int y :: .int x :: st) u := by
  obtain ⟨l, cy, D⟩ := G
  obtain ⟨p, e, R, s, m, args, below, meth, c, cells, slots, Q, A, nL⟩ := X
  obtain ⟨hx, hb, hml, hown, hts, hK, hG, hi, hA, hc, hs, hfr, hlo⟩ := C
  subst hp
  exact fun hSn H locs ls hP hS hl => lv_icmp_gt hx hb hd ht (fun q => kt q hSn H locs ls hP hS hl) (fun q => kf q hSn H locs ls hP hS hl)
theorem V_if_le (C : Cx ad G X cc own fr lo) {x : Int32} {off : Int} {tgt : Nat} (hd : decode cc pc = .ok (.ifCond .le off, 3)) (ht : (pc : Int) + off = (tgt : Int)) (hp : pc + 3 = pc') (kt : x ≤ 0 → V S ad G X tgt L st u) (kf : ¬ x ≤ 0 → V S ad G X pc' L st u) : V S ad G X pc L (.int x :: st) u := by
  obtain ⟨l, cy, D⟩ := G
  obtain ⟨p, e, R, s, m, args, below, meth, c, cells, slots, Q, A, nL⟩ := X
  obtain ⟨hx, hb, hml, hown, hts, hK, hG, hi, hA, hc, hs, hfr, hlo⟩ := C
  subst hp
  exact fun hSn H locs ls hP hS hl => lv_if_le hx hb hd ht (fun q => kt q hSn H locs ls hP hS hl) (fun q => kf q hSn H locs ls hP hS hl)
theorem V_icmp_le (C : Cx ad G X cc own fr lo) {x y : Int32} {off : Int} {tgt : Nat} (hd : decode cc pc = .ok (.if_icmp .le off, 3)) (ht : (pc : Int) + off = (tgt : Int)) (hp : pc + 3 = pc') (kt : x ≤ y → V S ad G X tgt L st u) (kf : ¬ x ≤ y → V S ad G X pc' L st u) : V S ad G X pc L (.int y :: .int x :: st) u := by
  obtain ⟨l, cy, D⟩ := G
  obtain ⟨p, e, R, s, m, args, below, meth, c, cells, slots, Q, A, nL⟩ := X
  obtain ⟨hx, hb, hml, hown, hts, hK, hG, hi, hA, hc, hs, hfr, hlo⟩ := C
  subst hp
  exact fun hSn H locs ls hP hS hl => lv_icmp_le hx hb hd ht (fun q => kt q hSn H locs ls hP hS hl) (fun q => kf q hSn H locs ls hP hS hl)
theorem V_goto (C : Cx ad G X cc own fr lo) {off : Int} {tgt : Nat} (hd : decode cc pc = .ok (.goto off, 3)) (ht : (pc : Int) + off = (tgt : Int)) (h : V S ad G X tgt L st u) : V S ad G X pc L st u := by
  obtain ⟨l, cy, D⟩ := G
  obtain ⟨p, e, R, s, m, args, below, meth, c, cells, slots, Q, A, nL⟩ := X
  obtain ⟨hx, hb, hml, hown, hts, hK, hG, hi, hA, hc, hs, hfr, hlo⟩ := C
  exact fun hSn H locs ls hP hS hl => lv_goto hx hb hd ht (h hSn H locs ls hP hS hl)
theorem V_tin (C : Cx ad G X cc own fr lo) {dflt lo1 hi1 : Int} {offs : Array Int} {len : Nat} {x : Int32} {off : Int} {tgt : Nat} (hd : decode cc pc = .ok (.tableswitch dflt lo1 hi1 offs, len)) (v : Int32) (hx1 : x = v) (h1 : ¬ v.toInt < lo1) (h2 : ¬ hi1 < v.toInt) (ho : offs[(v.toInt - lo1).toNat]? = some off) (ht : (pc : Int) + off = (tgt : Int)) (h : V S ad G X tgt L st u) : V S ad G X pc L (.int x :: st) u := by
  obtain ⟨l, cy, D⟩ := G
  obtain ⟨p, e, R, s, m, args, below, meth, c, cells, slots, Q, A, nL⟩ := X
  obtain ⟨hx, hb, hml, hown, hts, hK, hG, hi, hA, hc, hs, hfr, hlo⟩ := C
  subst hx1
  exact fun hSn H locs ls hP hS hl => lv_tableIn hx hb hd h1 h2 ho ht (h hSn H locs ls hP hS hl)
theorem V_tout (C : Cx ad G X cc own fr lo) {dflt lo1 hi1 : Int} {offs : Array Int} {len : Nat} {x : Int32} {tgt : Nat} (hd : decode cc pc = .ok (.tableswitch dflt lo1 hi1 offs, len)) (hx1 : x.toInt < lo1 ∨ hi1 < x.toInt) (ht : (pc : Int) + dflt = (tgt : Int)) (h : V S ad G X tgt L st u) : V S ad G X pc L (.int x :: st) u := by
  obtain ⟨l, cy, D⟩ := G
  obtain ⟨p, e, R, s, m, args, below, meth, c, cells, slots, Q, A, nL⟩ := X
  obtain ⟨hx, hb, hml, hown, hts, hK, hG, hi, hA, hc, hs, hfr, hlo⟩ := C
  exact fun hSn H locs ls hP hS hl => lv_tableOut hx hb hd hx1 ht (h hSn H locs ls hP hS hl)
theorem V_getI (C : Cx ad G X cc own fr lo) {ci N k idx : Nat} {Cn ref : String} {T : u_T} {ty : Nat → FieldType} {fs : List (Option (Option Nat))} (F : CF ci Cn T N ty) (hsh : S[k]? = some (.inl (ci, fs))) (j : Nat) (hj : fs[j]? = some none) (hjN : j < N) (hw : Cond.fieldLink own idx ref (T j).2.1 (T j).2.2.1 ∈ BW) (hsame : (T j).1 = ref) (hd : decode cc pc = .ok (.getfield idx, 3)) (hp : pc + 3 = pc') (h : V S ad G X pc' L (.int (u k j) :: st) u) : V S ad G X pc L (.ref (ad k) :: st) u := by
  obtain ⟨l, cy, D⟩ := G
  obtain ⟨p, e, R, s, m, args, below, meth, c, cells, slots, Q, A, nL⟩ := X
  obtain ⟨hx, hb, hml, hown, hts, hK, hG, hi, hA, hc, hs, hfr, hlo⟩ := C
  subst hp
  subst hsame
  have e := flds_get ad (u k) fs 0 j none hj
  rw [Nat.zero_add] at e
  exact fun hSn H locs ls hP hS hl => va_get hx hb hts F.2.1 hown hK hP k (wdo_get hsh ad cy u) F.1 j hjN (hts _ hw) (fun _ h9 => h9) e hd (h hSn H locs ls hP hS hl)
theorem V_getR (C : Cx ad G X cc own fr lo) {ci N k q idx : Nat} {Cn ref : String} {T : u_T} {ty : Nat → FieldType} {fs : List (Option (Option Nat))} (F : CF ci Cn T N ty) (hsh : S[k]? = some (.inl (ci, fs))) (j : Nat) (hj : fs[j]? = some (some (some q))) (hjN : j < N) (hw : Cond.fieldLink own idx ref (T j).2.1 (T j).2.2.1 ∈ BW) (hsame : (T j).1 = ref) (hd : decode cc pc = .ok (.getfield idx, 3)) (hp : pc + 3 = pc') (h : V S ad G X pc' L (.ref (ad q) :: st) u) : V S ad G X pc L (.ref (ad k) :: st) u := by
  obtain ⟨l, cy, D⟩ := G
  obtain ⟨p, e, R, s, m, args, below, meth, c, cells, slots, Q, A, nL⟩ := X
  obtain ⟨hx, hb, hml, hown, hts, hK, hG, hi, hA, hc, hs, hfr, hlo⟩ := C
  subst hp
  subst hsame
  exact fun hSn H locs ls hP hS hl => va_get hx hb hts F.2.1 hown hK hP k (wdo_get hsh ad cy u) F.1 j hjN (hts _ hw) (fun _ h9 => h9) (flds_get ad (u k) fs 0 j (some (some q)) hj) hd (h hSn H locs ls hP hS hl)
theorem V_put (C : Cx ad G X cc own fr lo) {ci N k idx : Nat} {Cn ref : String} {T : u_T} {ty : Nat → FieldType} {fs : List (Option (Option Nat))} (F : CF ci Cn T N ty) (hsh : S[k]? = some (.inl (ci, fs))) (j : Nat) (hj : fs[j]? = some none) (hjN : j < N) (hw : Cond.fieldLink own idx ref (T j).2.1 (T j).2.2.1 ∈ BW) (hsame : (T j).1 = ref) (hfin : (T j).2.2.2 = false) {x : Int32} (hn : narrow (ty j) (.int x) = .int x) (hfit : fits (ty j) (.int x) = true) (hd : decode cc pc = .ok (.putfield idx, 3)) (hp : pc + 3 = pc') (h : V S ad G X pc' L st (mst u k j x)) : V S ad G X pc L (.int x :: .ref (ad k) :: st) u := by
  obtain ⟨l, cy, D⟩ := G
  obtain ⟨p, e, R, s, m, args, below, meth, c, cells, slots, Q, A, nL⟩ := X
  obtain ⟨hx, hb, hml, hown, hts, hK, hG, hi, hA, hc, hs, hfr, hlo⟩ := C
  subst hp
  subst hsame
  intro hSn H locs ls hP hS hl
  have hD : va_D A (wdo S ad cy u) := wdo_D (fun i j a b => hi i j (Nat.lt_of_lt_of_le a hSn) (Nat.lt_of_lt_of_le b hSn)) (fun k a => hA k (Nat.lt_of_lt_of_le a hSn))
  have hlen : j < (flds ad (u k) 0 fs).length := by rw [flds_len]; exact (List.getElem?_eq_some_iff.mp hj).1
  refine va_put hx hb hts F.2.1 ty F.2.2.1 F.2.2.2 hown hK hP hD hS k (wdo_get hsh ad cy u) F.1 j hjN (hts _ hw) (fun _ h9 => h9) hfin (F.2.2.1 j hjN) hn hfit hlen hd (fun H1 locs1 hP1 _ hS1 => ?_)
  refine h hSn H1 locs1 ls ?_ hS1 hl
  have e := flds_set ad (u k) x fs 0 j hj
  rw [Nat.zero_add] at e
  rw [e] at hP1
  have e2 : _ = wdo S ad cy (mst u k j x) := wdo_set hsh ad cy u (upd (u k) j x)
  show va_P D vwCl (wdo S ad cy _) H1
  rw [← e2]
  exact hP1
theorem V_iald (C : Cx ad G X cc own fr lo) {k n : Nat} (hsh : S[k]? = some (.inr ((0, n), none))) {i : Int32} (hin : vp_in i n) (hd : decode cc pc = .ok (.iaload, 1)) (hp : pc + 1 = pc') (h : V S ad G X pc' L (.int (u k i.toNatClampNeg) :: st) u) : V S ad G X pc L (.int i :: .ref (ad k) :: st) u := by
  obtain ⟨l, cy, D⟩ := G
  obtain ⟨p, e, R, s, m, args, below, meth, c, cells, slots, Q, A, nL⟩ := X
  obtain ⟨hx, hb, hml, hown, hts, hK, hG, hi, hA, hc, hs, hfr, hlo⟩ := C
  subst hp
  exact fun hSn H locs ls hP hS hl => va_iald hx hb hK hP k 0 (wdo_get hsh ad cy u) rfl hin hd (h hSn H locs ls hP hS hl)
theorem V_iast (C : Cx ad G X cc own fr lo) {k n : Nat} (hsh : S[k]? = some (.inr ((0, n), none))) {i x : Int32} (hin : vp_in i n) (hd : decode cc pc = .ok (.iastore, 1)) (hp : pc + 1 = pc') (h : V S ad G X pc' L st (mst u k i.toNatClampNeg x)) : V S ad G X pc L (.int x :: .int i :: .ref (ad k) :: st) u := by
  obtain ⟨l, cy, D⟩ := G
  obtain ⟨p, e, R, s, m, args, below, meth, c, cells, slots, Q, A, nL⟩ := X
  obtain ⟨hx, hb, hml, hown, hts, hK, hG, hi, hA, hc, hs, hfr, hlo⟩ := C
  subst hp
  intro hSn H locs ls hP hS hl
  have hD : va_D A (wdo S ad cy u) := wdo_D (fun i j a b => hi i j (Nat.lt_of_lt_of_le a hSn) (Nat.lt_of_lt_of_le b hSn)) (fun k a => hA k (Nat.lt_of_lt_of_le a hSn))
  refine va_iast hx hb hK hP hD hS k 0 (wdo_get hsh ad cy u) rfl hin hd (fun H1 locs1 hP1 _ hS1 => ?_)
  refine h hSn H1 locs1 ls ?_ hS1 hl
  have e2 : _ = wdo S ad cy (mst u k i.toNatClampNeg x) := wdo_set hsh ad cy u (upd (u k) i.toNatClampNeg x)
  show va_P D vwCl (wdo S ad cy _) H1
  rw [← e2]
  exact hP1
theorem V_aald (C : Cx ad G X cc own fr lo) {k t n q : Nat} {lst : List (Option Nat)} {Cn : String} (hsh : S[k]? = some (.inr ((t, n), some lst))) (ht : ∀ cy : Nat → ClassId, (tyl cy)[t]? = some (cy t, .object Cn)) {i : Int32} (hin : vp_in i n) (hq : lst.getD i.toNatClampNeg none = some q) (hd : decode cc pc = .ok (.aaload, 1)) (hp : pc + 1 = pc') (h : V S ad G X pc' L (.ref (ad q) :: st) u) : V S ad G X pc L (.int i :: .ref (ad k) :: st) u := by
  obtain ⟨l, cy, D⟩ := G
  obtain ⟨p, e, R, s, m, args, below, meth, c, cells, slots, Q, A, nL⟩ := X
  obtain ⟨hx, hb, hml, hown, hts, hK, hG, hi, hA, hc, hs, hfr, hlo⟩ := C
  subst hp
  intro hSn H locs ls hP hS hl
  have hlt : i.toNatClampNeg < n := Nat.not_le.mp fun z => hin (Or.inr z)
  refine va_aldq hx hb hK hP k t (wdo_get hsh ad cy u) (ht cy) hin hd ?_
  have e : rfs ad lst n i.toNatClampNeg = some (ad q) := by unfold rfs; rw [if_pos hlt, hq]; rfl
  rw [e]
  exact h hSn H locs ls hP hS hl
theorem V_alen (C : Cx ad G X cc own fr lo) {k t n : Nat} {ol : Option (List (Option Nat))} (hsh : S[k]? = some (.inr ((t, n), ol))) {ty : FieldType} (ht : ∀ cy : Nat → ClassId, (tyl cy)[t]? = some (cy t, ty)) {v : Int32} (hv : Int32.ofNat n = v) (hd : decode cc pc = .ok (.arraylength, 1)) (hp : pc + 1 = pc') (h : V S ad G X pc' L (.int v :: st) u) : V S ad G X pc L (.ref (ad k) :: st) u := by
  obtain ⟨l, cy, D⟩ := G
  obtain ⟨p, e, R, s, m, args, below, meth, c, cells, slots, Q, A, nL⟩ := X
  obtain ⟨hx, hb, hml, hown, hts, hK, hG, hi, hA, hc, hs, hfr, hlo⟩ := C
  subst hp
  cases ol with
  | none => exact fun hSn H locs ls hP hS hl => va_alen hx hb hK hP k t (wdo_get hsh ad cy u) (ht cy) hv hd (h hSn H locs ls hP hS hl)
  | some l2 => exact fun hSn H locs ls hP hS hl => va_alen hx hb hK hP k t (wdo_get hsh ad cy u) (ht cy) hv hd (h hSn H locs ls hP hS hl)
theorem V_gait (C : Cx ad G X cc own fr lo) {idx : Nat} (hw : Cond.fieldLink own idx RX3 "GAIT_OF" "[I" ∈ BW) (hd : decode cc pc = .ok (.getstatic idx, 3)) (hp : pc + 3 = pc') (h : V S ad G X pc' L (.ref (ad 2000) :: st) u) : V S ad G X pc L st u := by
  obtain ⟨l, cy, D⟩ := G
  obtain ⟨p, e, R, s, m, args, below, meth, c, cells, slots, Q, A, nL⟩ := X
  obtain ⟨hx, hb, hml, hown, hts, hK, hG, hi, hA, hc, hs, hfr, hlo⟩ := C
  subst hp
  exact fun hSn H locs ls hP hS hl => va_gets hx hb hG.1.1 hS hown (hts _ hw) (fun _ h9 => h9) hd (h hSn H locs ls hP hS hl)
theorem V_gait_ld (C : Cx ad G X cc own fr lo) {i : Int32} (hin : vp_in i 7) (hd : decode cc pc = .ok (.iaload, 1)) (hp : pc + 1 = pc') (h : V S ad G X pc' L (.int (tGait i.toNatClampNeg) :: st) u) : V S ad G X pc L (.int i :: .ref (ad 2000) :: st) u := by
  obtain ⟨l, cy, D⟩ := G
  obtain ⟨p, e, R, s, m, args, below, meth, c, cells, slots, Q, A, nL⟩ := X
  obtain ⟨hx, hb, hml, hown, hts, hK, hG, hi, hA, hc, hs, hfr, hlo⟩ := C
  subst hp
  exact fun hSn H locs ls hP hS hl => va_ti hx hb hG.1.2 hS hin rfl hd (h hSn H locs ls hP hS hl)
theorem V_above (C : Cx ad G X cc own fr lo) {idx : Nat} (hw : Cond.fieldLink own idx RX3 "ABOVE" "[I" ∈ BW) (hd : decode cc pc = .ok (.getstatic idx, 3)) (hp : pc + 3 = pc') (h : V S ad G X pc' L (.ref (ad 2001) :: st) u) : V S ad G X pc L st u := by
  obtain ⟨l, cy, D⟩ := G
  obtain ⟨p, e, R, s, m, args, below, meth, c, cells, slots, Q, A, nL⟩ := X
  obtain ⟨hx, hb, hml, hown, hts, hK, hG, hi, hA, hc, hs, hfr, hlo⟩ := C
  subst hp
  exact fun hSn H locs ls hP hS hl => va_gets hx hb hG.2.1.1 hS hown (hts _ hw) (fun _ h9 => h9) hd (h hSn H locs ls hP hS hl)
theorem V_above_ld (C : Cx ad G X cc own fr lo) {i : Int32} (hin : vp_in i 7) (hd : decode cc pc = .ok (.iaload, 1)) (hp : pc + 1 = pc') (h : V S ad G X pc' L (.int (tAbove i.toNatClampNeg) :: st) u) : V S ad G X pc L (.int i :: .ref (ad 2001) :: st) u := by
  obtain ⟨l, cy, D⟩ := G
  obtain ⟨p, e, R, s, m, args, below, meth, c, cells, slots, Q, A, nL⟩ := X
  obtain ⟨hx, hb, hml, hown, hts, hK, hG, hi, hA, hc, hs, hfr, hlo⟩ := C
  subst hp
  exact fun hSn H locs ls hP hS hl => va_ti hx hb hG.2.1.2 hS hin rfl hd (h hSn H locs ls hP hS hl)
theorem V_powers (C : Cx ad G X cc own fr lo) {idx : Nat} (hw : Cond.fieldLink own idx RX4 "POWERS" "[I" ∈ BW) (hd : decode cc pc = .ok (.getstatic idx, 3)) (hp : pc + 3 = pc') (h : V S ad G X pc' L (.ref (ad 2002) :: st) u) : V S ad G X pc L st u := by
  obtain ⟨l, cy, D⟩ := G
  obtain ⟨p, e, R, s, m, args, below, meth, c, cells, slots, Q, A, nL⟩ := X
  obtain ⟨hx, hb, hml, hown, hts, hK, hG, hi, hA, hc, hs, hfr, hlo⟩ := C
  subst hp
  exact fun hSn H locs ls hP hS hl => va_gets hx hb hG.2.2.1.1 hS hown (hts _ hw) (fun _ h9 => h9) hd (h hSn H locs ls hP hS hl)
theorem V_powers_ld (C : Cx ad G X cc own fr lo) {i : Int32} (hin : vp_in i 6) (hd : decode cc pc = .ok (.iaload, 1)) (hp : pc + 1 = pc') (h : V S ad G X pc' L (.int (tPowers i.toNatClampNeg) :: st) u) : V S ad G X pc L (.int i :: .ref (ad 2002) :: st) u := by
  obtain ⟨l, cy, D⟩ := G
  obtain ⟨p, e, R, s, m, args, below, meth, c, cells, slots, Q, A, nL⟩ := X
  obtain ⟨hx, hb, hml, hown, hts, hK, hG, hi, hA, hc, hs, hfr, hlo⟩ := C
  subst hp
  exact fun hSn H locs ls hP hS hl => va_ti hx hb hG.2.2.1.2 hS hin rfl hd (h hSn H locs ls hP hS hl)
end RULES
