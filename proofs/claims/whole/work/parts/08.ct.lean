/-! contracts over the whole world -/
def CtP (S : List Shp) (ad : Nat → Nat) (cy : Nat → ClassId) (D : va_G) (u : Mem) (U : State) : Prop := va_P D vwCl (wdo S ad cy u) U.heap ∧ va_K D vwCl (tyl cy) U ∧ GS ad (inW ad) U U.heap ∧ (∀ i j : Nat, i < 1000 → j < 1000 → ad i = ad j → i = j) ∧ S.length ≤ 1000
def CtQ (S : List Shp) (ad : Nat → Nat) (cy : Nat → ClassId) (D : va_G) (r : Option Value) (u : Mem) : Array Value → State → Outcome → State → Prop := fun _ s0 oc t => oc = .returned r ∧ va_P D vwCl (wdo S ad cy u) t.heap ∧ va_F (inW ad) s0 t
def CtR (fr lo : Nat) : Room := { frames := fr, cells := 0, slots := 0, locals := lo }
def Ct (S : List Shp) (ad : Nat → Nat) (G : Gh) (y : MethodName) (cc : ByteArray) (nL : Nat) (ret : Option FieldType) (fr lo : Nat) (av : List Value) (u : Mem) (r : Option Value) (u' : Mem) : Prop := match G with
  | (l, cy, D) => Met l y (.code y cc nL ret :: BW) (CtR fr lo) (va_Pc av (CtP S ad cy D u)) (CtQ S ad cy D r u') 0 0 (inW ad)
theorem CtP_blind {S : List Shp} {ad : Nat → Nat} {cy : Nat → ClassId} {D : va_G} {u : Mem} {av : List Value} : FrameBlind (va_Pc av (CtP S ad cy D u)) := by
  intro a U g mk q
  obtain ⟨q0, q1, q2, q3, q4⟩ := q
  exact ⟨q0, q1, va_K.moved (u := U) (U := U.calling g mk a) (Vm.Alike.refl U.vm) q2, GS.same (u := U) (U := U.calling g mk a) rfl q3, q4⟩
/-- what is said of a method that is called -/
def MFv (y : MethodName) (bytes : ByteArray) (maxL : Nat) (ret : Option FieldType) (n : Nat) : Prop := Cond.instanceMethod y ∈ BW ∧ Cond.selects y.cls y y ∈ BW ∧ Cond.initialized y.cls ∈ BW ∧ Cond.code y bytes maxL ret ∈ BW ∧ y.cls ≠ "java/lang/invoke/MethodHandle" ∧ y.cls ≠ "java/lang/invoke/VarHandle" ∧ (parseMethodDescriptor y.desc).map (fun d => d.parameters.length) = some n
def MFs (y : MethodName) (bytes : ByteArray) (maxL : Nat) (ret : Option FieldType) (n : Nat) : Prop := Cond.static y ∈ BW ∧ Cond.initialized y.cls ∈ BW ∧ Cond.code y bytes maxL ret ∈ BW ∧ y.cls ≠ "java/lang/invoke/MethodHandle" ∧ y.cls ≠ "java/lang/invoke/VarHandle" ∧ (parseMethodDescriptor y.desc).map (fun d => d.parameters.length) = some n
theorem in_code {y : MethodName} {bytes : ByteArray} {maxL : Nat} {ret : Option FieldType} (h : Cond.code y bytes maxL ret ∈ BW) : GoodIn BW (.code y bytes maxL ret :: BW) := by
  intro w hw
  rcases List.mem_cons.mp hw with q | q
  · rw [q]; exact bw_self _ h
  · exact bw_self _ q
/-- two moves, one behind the other, that both keep to A -/
theorem vaS_on {A : Nat → Prop} {H0 H H1 : Heap} {locs more : List Loc} (h : va_S A H0 H locs) (hz : H.size ≤ H1.size) (hk : ∀ q : Nat, q < H.size → ¬ A q → H1[q]? = H[q]?) (hm : ∀ x ∈ more, A x.base) : va_S A H0 H1 (locs ++ more) := by
  obtain ⟨a, b, c⟩ := h
  refine ⟨by omega, ?_, ?_⟩
  · intro q h1 h2
    rw [← b q h1 h2]
    exact hk q (by omega) h2
  · intro x hx
    cases List.mem_append.mp hx with
    | inl y => exact c x y
    | inr y => exact hm x y
theorem W_aft {p : Program} {l : Launch} {e : Env} {R : Room} {s : State} {m : MethodId} {args : Array Value} {below : List Frame} {meth : Method} {c : Code} {H : Heap} {locs : List Loc} {cells slots : Nat} {Q : State → Prop} {pc : Nat} {ls : Array Slot} {st0 rest : List Value} {S : List Shp} {ad : Nat → Nat} {cy : Nat → ClassId} {D : va_G} {r : Option Value} {u' : Mem} {A : Nat → Prop} {av : Array Value}
    (hr : va_Run p l e R s m args below meth c H locs cells slots 0 0 (F0 m pc ls st0) rest (CtQ S ad cy D r u' av) (inW ad)) (hS : va_S A s.heap H locs) (hA : ∀ q, inW ad q → A q)
    (kk : ∀ (H1 : Heap) (locs1 : List Loc), va_P D vwCl (wdo S ad cy u') H1 → va_S A s.heap H1 locs1 → W p l e R s m args below meth c H1 locs1 cells slots Q (F0 m (pc + 3) ls (r.toList ++ rest))) : W p l e R s m args below meth c H locs cells slots Q (F0 m pc ls st0) := by
  intro T hT X
  obtain ⟨v, s0, t, T', Lx, h0, X', hL, e1, e2, ⟨hv, hb, hz, hk⟩, st⟩ := hr T hT X
  cases hv
  rw [h0] at hz hk
  obtain ⟨t2, a1, b1⟩ := kk T'.heap (locs ++ Lx) (by rw [e1]; exact hb)
    (vaS_on hS (by rw [e1]; exact hz) (fun q h1 h2 => by rw [e1]; exact hk q h1 (fun z => h2 (hA q z))) (fun x hx => hA _ (hL x hx))) T' rfl X'
  exact ⟨t2, st t2 a1, b1⟩
theorem Cx_pre {S : List Shp} {ad : Nat → Nat} {cy : Nat → ClassId} {D : va_G} {u : Mem} {s : State} {H : Heap} {A : Nat → Prop} {locs : List Loc} {av : List Value} (hK : va_K D vwCl (tyl cy) s) (hG : GS ad A s s.heap) (hi : ∀ i j : Nat, i < 1000 → j < 1000 → ad i = ad j → i = j) (hA : ∀ k : Nat, k < 1000 → A (ad k)) (hn : S.length ≤ 1000) (hP : va_P D vwCl (wdo S ad cy u) H) (hS : va_S A s.heap H locs) : ∀ U : State, U.heap = H → s.WarmedH U.vm → va_Pc av (CtP S ad cy D u) av.toArray U := by
  intro U hU hW
  refine ⟨rfl, by rw [hU]; exact hP, va_K.moved hW.alike hK, GS.narrow (GS.go hG hW (fun a h1 h2 => by rw [hU]; exact hS.2.1 a h1 h2)) (fun q hq => ?_), hi, hn⟩
  obtain ⟨k, hk, rfl⟩ := hq
  exact hA k hk
section CALLS
variable {S : List Shp} {ad : Nat → Nat} {G : Gh} {X : Amb} {cc : ByteArray} {own : String} {fr lo pc pc' : Nat} {L : List (Nat × Value)} {st stk : List Value} {u u' : Mem} {y : MethodName} {bytes : ByteArray} {maxL fr' lo' b idx n : Nat} {ret : Option FieldType} {As : List Value} {r : Option Value}
theorem V_callV (C : Cx ad G X cc own fr lo) {ci N : Nat} {T : u_T} {ty : Nat → FieldType} {fs : List (Option (Option Nat))} (F : CF ci y.cls T N ty) (hsh : S[b]? = some (.inl (ci, fs))) (M : MFv y bytes maxL ret n) (hw : Cond.methodLink own idx y ∈ BW) (hR : fr' + 1 ≤ fr ∧ 8 + (maxL + 11) + lo' ≤ lo) (hn : As.length = n) (hst : stk = As.reverse ++ .ref (ad b) :: st) (hcat : (st.map fun v => v.category).sum ≤ 8) (hd : decode cc pc = .ok (.invokevirtual idx, 3)) (hp : pc + 3 = pc') (hc : Ct S ad G y bytes maxL ret fr' lo' (.ref (ad b) :: As) u r u') (h : V S ad G X pc' L (r.toList ++ st) u') : V S ad G X pc L stk u := by
  obtain ⟨l, cy, D⟩ := G
  obtain ⟨p, e, R, s, m, args, below, meth, c, cells, slots, Q, A, nL⟩ := X
  obtain ⟨hx, hb, hml, hown, hts, hK, hG, hi, hA, hcc, hcs, hfr, hlo⟩ := C
  subst hp; subst hst
  obtain ⟨m1, m2, m3, m4, m5, m6, m7⟩ := M
  have cw := cwV (R := R) (s := s) (args := args) (own := own) (C := y.cls) (index := idx) (y := y) (bytes := bytes) (maxL := maxL) (ret := ret) (Ts := BW) (ws := .code y bytes maxL ret :: BW) (ws' := BW) (rm := CtR fr' lo') (mc := 0) (ms := 0) n hts (fun w hw' => by
    rcases List.mem_append.mp (show w ∈ ([.methodLink own idx y, .instanceMethod y, .selects y.cls y y, .initialized y.cls] : List Cond) ++ (.code y bytes maxL ret :: BW) from hw') with q | q
    · rcases List.mem_cons.mp q with q | q
      · rw [q]; exact bw_self _ hw
      · rcases List.mem_cons.mp q with q | q
        · rw [q]; exact bw_self _ m1
        · rcases List.mem_cons.mp q with q | q
          · rw [q]; exact bw_self _ m2
          · rcases List.mem_cons.mp q with q | q
            · rw [q]; exact bw_self _ m3
            · exact absurd q List.not_mem_nil
    · exact in_code m4 _ q) rfl rfl rfl ⟨rfl, m5, m6, m7⟩ ⟨Nat.le_trans hR.1 hfr, Nat.le_trans hR.2 hlo⟩
  intro hSn H locs ls hP hS hl
  have hrec := va_recv (q := (y.cls, T, N)) hK hP F.1 (wdo_get hsh ad cy u)
  exact W_aft (va_runV (rest := st) ⟨hx, hb, hml, hown, hts⟩ hc cw ⟨CtP_blind, hrec, Cx_pre hK hG hi hA hSn hP hS⟩ rfl hn hl.1 rfl (lv_room hcat) hd ⟨hcc, hcs⟩) hS (fun q hq => by obtain ⟨k, hk, rfl⟩ := hq; exact hA k hk) (fun H1 locs1 hP1 hS1 => h hSn H1 locs1 ls hP1 hS1 hl)
theorem V_callS (C : Cx ad G X cc own fr lo) (M : MFs y bytes maxL ret n) (hw : Cond.methodLink own idx y ∈ BW) (hR : fr' + 1 ≤ fr ∧ 8 + (maxL + 11) + lo' ≤ lo) (hn : As.length = n) (hst : stk = As.reverse ++ st) (hcat : (st.map fun v => v.category).sum ≤ 8) (hd : decode cc pc = .ok (.invokestatic idx, 3)) (hp : pc + 3 = pc') (hc : Ct S ad G y bytes maxL ret fr' lo' As u r u') (h : V S ad G X pc' L (r.toList ++ st) u') : V S ad G X pc L stk u := by
  obtain ⟨l, cy, D⟩ := G
  obtain ⟨p, e, R, s, m, args, below, meth, c, cells, slots, Q, A, nL⟩ := X
  obtain ⟨hx, hb, hml, hown, hts, hK, hG, hi, hA, hcc, hcs, hfr, hlo⟩ := C
  subst hp; subst hst
  obtain ⟨m1, m3, m4, m5, m6, m7⟩ := M
  have cw := va_cwS (R := R) (s := s) (args := args) (own := own) (index := idx) (y := y) (bytes := bytes) (maxL := maxL) (ret := ret) (Ts := BW) (ws := .code y bytes maxL ret :: BW) (ws' := BW) (rm := CtR fr' lo') (mc := 0) (ms := 0) n hts (fun w hw' => by
    rcases List.mem_append.mp (show w ∈ ([.methodLink own idx y, .static y, .initialized y.cls] : List Cond) ++ (.code y bytes maxL ret :: BW) from hw') with q | q
    · rcases List.mem_cons.mp q with q | q
      · rw [q]; exact bw_self _ hw
      · rcases List.mem_cons.mp q with q | q
        · rw [q]; exact bw_self _ m1
        · rcases List.mem_cons.mp q with q | q
          · rw [q]; exact bw_self _ m3
          · exact absurd q List.not_mem_nil
    · exact in_code m4 _ q) rfl rfl rfl ⟨m5, m6, m7⟩ ⟨Nat.le_trans hR.1 hfr, Nat.le_trans hR.2 hlo⟩
  intro hSn H locs ls hP hS hl
  exact W_aft (va_runS (rest := st) ⟨hx, hb, hml, hown, hts⟩ hc cw ⟨CtP_blind, Cx_pre hK hG hi hA hSn hP hS⟩ rfl hn hl.1 rfl (lv_room hcat) hd ⟨hcc, hcs⟩) hS (fun q hq => by obtain ⟨k, hk, rfl⟩ := hq; exact hA k hk) (fun H1 locs1 hP1 hS1 => h hSn H1 locs1 ls hP1 hS1 hl)
theorem V_callN (C : Cx ad G X cc own fr lo) {host : String} (M : MFs y bytes maxL ret n) (hw : (own, idx, y, host) ∈ nestL) (hR : fr' + 1 ≤ fr ∧ 8 + (maxL + 11) + lo' ≤ lo) (hn : As.length = n) (hst : stk = As.reverse ++ st) (hcat : (st.map fun v => v.category).sum ≤ 8) (hd : decode cc pc = .ok (.invokestatic idx, 3)) (hp : pc + 3 = pc') (hc : Ct S ad G y bytes maxL ret fr' lo' As u r u') (h : V S ad G X pc' L (r.toList ++ st) u') : V S ad G X pc L stk u := by
  obtain ⟨l, cy, D⟩ := G
  obtain ⟨p, e, R, s, m, args, below, meth, c, cells, slots, Q, A, nL⟩ := X
  obtain ⟨hx, hb, hml, hown, hts, hK, hG, hi, hA, hcc, hcs, hfr, hlo⟩ := C
  subst hp; subst hst
  obtain ⟨m1, m3, m4, m5, m6, m7⟩ := M
  have cw := va_cnB (R := R) (s := s) (args := args) (own := own) (host := host) (index := idx) (y := y) (bytes := bytes) (maxL := maxL) (ret := ret) (Ts := BW) (ws := .code y bytes maxL ret :: BW) (ws' := BW) (rm := CtR fr' lo') (mc := 0) (ms := 0) n hts (in_code m4) rfl rfl rfl (hG.2.2.2.2.2.2.2 _ hw) (hts _ m3) ⟨m5, m6, m7⟩ ⟨Nat.le_trans hR.1 hfr, Nat.le_trans hR.2 hlo⟩
  intro hSn H locs ls hP hS hl
  exact W_aft (va_runSN (rest := st) ⟨hx, hb, hml, hown, hts⟩ hc ⟨cw, hts _ m1, trivial⟩ ⟨CtP_blind, Cx_pre hK hG hi hA hSn hP hS⟩ rfl hn hl.1 rfl (lv_room hcat) hd ⟨hcc, hcs⟩) hS (fun q hq => by obtain ⟨k, hk, rfl⟩ := hq; exact hA k hk) (fun H1 locs1 hP1 hS1 => h hSn H1 locs1 ls hP1 hS1 hl)
end CALLS
section OF
variable {S : List Shp} {ad : Nat → Nat} {G : Gh} {cc : ByteArray} {fr lo nL : Nat} {u u' : Mem} {y : MethodName} {av : List Value} {r : Option Value}

theorem Ct_ofI {rt : FieldType} (hy : plainName y.cls = true) (hle : (lg_sl av).length ≤ nL) (body : ∀ X : Amb, Cx ad G X cc y.cls fr lo → X.2.2.2.2.2.2.2.2.2.2.2.2.2 = nL → (∀ (pc : Nat) (L : List (Nat × Value)) (x : Int32), decode cc pc = .ok (.ireturn, 1) → r = some (.int x) → narrow rt (.int x) = .int x → V S ad G X pc L [.int x] u') → V S ad G X 0 (lv_args 0 av) [] u) : Ct S ad G y cc nL (some rt) fr lo av u r u' := by
  obtain ⟨l, cy, D⟩ := G
  refine Met.ofW (cc := cc) (maxL := nL) (ret := (some rt)) hy rfl ?_
  intro p e s m args below meth c s₁ B hml hv
  obtain ⟨rfl, hP, hK, hG, hi, hn⟩ := hv
  have hx := B.exec
  have hb := B.bytes
  have hr := B.returns
  have hts := atoms_spec (ws := .code y cc nL (some rt) :: BW) B.pre
  have hown : s.vm.findClass y.cls = some m.cls := findClass_of_methodNamed B.named
  have hlocks := B.notSynchronized
  have hl := lv_entry av (n := nL) hle
  rw [lg_entry_eq]
  generalize (lg_sl av ++ List.replicate (nL - (lg_sl av).length) Slot.unset).toArray = ls at hl ⊢
  refine body (p, e, CtR fr lo, s, m, av.toArray, below, meth, c, 0, 0, MQ below (CtQ S ad cy D r u') av.toArray s 0 0 (inW ad), inW ad, nL) ⟨hx, hb, hml, hown, fun w hw => hts w (List.mem_cons_of_mem _ hw), hK, hG, hi, fun k hk => ⟨k, hk, rfl⟩, Nat.le_refl _, Nat.le_refl _, Nat.le_refl _, Nat.le_refl _⟩ rfl ?_ hn s.heap [] ls hP va_S.rf hl
  intro pc L x hd hr2 hnar
  subst hr2
  intro hSn H locs ls' hP' hS' hl'
  exact W.zret (v := x) hx hb hr hnar (fun t ht hW => ⟨rfl, by rw [ht]; exact hP', hS'.F ht⟩) hS'.2.2 hd hlocks
theorem Ct_ofV (hy : plainName y.cls = true) (hle : (lg_sl av).length ≤ nL) (body : ∀ X : Amb, Cx ad G X cc y.cls fr lo → X.2.2.2.2.2.2.2.2.2.2.2.2.2 = nL → (∀ (pc : Nat) (L : List (Nat × Value)), decode cc pc = .ok (.return_, 1) → r = none → V S ad G X pc L [] u') → V S ad G X 0 (lv_args 0 av) [] u) : Ct S ad G y cc nL none fr lo av u r u' := by
  obtain ⟨l, cy, D⟩ := G
  refine Met.ofW (cc := cc) (maxL := nL) (ret := none) hy rfl ?_
  intro p e s m args below meth c s₁ B hml hv
  obtain ⟨rfl, hP, hK, hG, hi, hn⟩ := hv
  have hx := B.exec
  have hb := B.bytes
  have hr := B.returns
  have hts := atoms_spec (ws := .code y cc nL none :: BW) B.pre
  have hown : s.vm.findClass y.cls = some m.cls := findClass_of_methodNamed B.named
  have hlocks := B.notSynchronized
  have hl := lv_entry av (n := nL) hle
  rw [lg_entry_eq]
  generalize (lg_sl av ++ List.replicate (nL - (lg_sl av).length) Slot.unset).toArray = ls at hl ⊢
  refine body (p, e, CtR fr lo, s, m, av.toArray, below, meth, c, 0, 0, MQ below (CtQ S ad cy D r u') av.toArray s 0 0 (inW ad), inW ad, nL) ⟨hx, hb, hml, hown, fun w hw => hts w (List.mem_cons_of_mem _ hw), hK, hG, hi, fun k hk => ⟨k, hk, rfl⟩, Nat.le_refl _, Nat.le_refl _, Nat.le_refl _, Nat.le_refl _⟩ rfl ?_ hn s.heap [] ls hP va_S.rf hl
  intro pc L hd hr2
  subst hr2
  intro hSn H locs ls' hP' hS' hl'
  exact W.vret hx hb hr (fun t ht hW => ⟨rfl, by rw [ht]; exact hP', hS'.F ht⟩) hS'.2.2 hd hlocks
theorem Ct_ofR {rt : FieldType} (hy : plainName y.cls = true) (hrt : (∃ n, rt = .object n) ∨ ∃ t, rt = .array t) (hle : (lg_sl av).length ≤ nL) (body : ∀ X : Amb, Cx ad G X cc y.cls fr lo → X.2.2.2.2.2.2.2.2.2.2.2.2.2 = nL → (∀ (pc : Nat) (L : List (Nat × Value)) (x : Nat), decode cc pc = .ok (.areturn, 1) → r = some (.ref x) → V S ad G X pc L [.ref x] u') → V S ad G X 0 (lv_args 0 av) [] u) : Ct S ad G y cc nL (some rt) fr lo av u r u' := by
  obtain ⟨l, cy, D⟩ := G
  refine Met.ofW (cc := cc) (maxL := nL) (ret := (some rt)) hy rfl ?_
  intro p e s m args below meth c s₁ B hml hv
  obtain ⟨rfl, hP, hK, hG, hi, hn⟩ := hv
  have hx := B.exec
  have hb := B.bytes
  have hr := B.returns
  have hts := atoms_spec (ws := .code y cc nL (some rt) :: BW) B.pre
  have hown : s.vm.findClass y.cls = some m.cls := findClass_of_methodNamed B.named
  have hlocks := B.notSynchronized
  have hl := lv_entry av (n := nL) hle
  rw [lg_entry_eq]
  generalize (lg_sl av ++ List.replicate (nL - (lg_sl av).length) Slot.unset).toArray = ls at hl ⊢
  refine body (p, e, CtR fr lo, s, m, av.toArray, below, meth, c, 0, 0, MQ below (CtQ S ad cy D r u') av.toArray s 0 0 (inW ad), inW ad, nL) ⟨hx, hb, hml, hown, fun w hw => hts w (List.mem_cons_of_mem _ hw), hK, hG, hi, fun k hk => ⟨k, hk, rfl⟩, Nat.le_refl _, Nat.le_refl _, Nat.le_refl _, Nat.le_refl _⟩ rfl ?_ hn s.heap [] ls hP va_S.rf hl
  intro pc L x hd hr2
  subst hr2
  intro hSn H locs ls' hP' hS' hl'
  exact W.aret (v := .ref x) hx hb hr hrt (Or.inr ⟨x, rfl⟩) (fun t ht hW => ⟨rfl, by rw [ht]; exact hP', hS'.F ht⟩) hS'.2.2 hd hlocks
end OF
