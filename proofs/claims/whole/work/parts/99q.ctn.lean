/-! contracts of constructors, and calls of them -/
def aA (ad : Nat → Nat) (sz : Nat) : Nat → Prop := fun q => inW ad q ∨ sz ≤ q
def CtPN (S : List Shp) (ad : Nat → Nat) (cy : Nat → ClassId) (D : va_G) (u : Mem) (sz : Nat) (U : State) : Prop := CtP S ad cy D u U ∧ U.heap.size = sz ∧ AOs U ∧ GS ad (aA ad sz) U U.heap
def CtQN (S : List Shp) (ad : Nat → Nat) (cy : Nat → ClassId) (D : va_G) (u : Mem) (A : Nat → Prop) : Array Value → State → Outcome → State → Prop := fun _ s0 oc t => oc = .returned none ∧ va_P D vwCl (wdo S ad cy u) t.heap ∧ va_F A s0 t
def CtRN (fr lo mc ms : Nat) : Room := { frames := fr, cells := mc, slots := ms, locals := lo }
def CtN (S : List Shp) (ad : Nat → Nat) (G : Gh) (y : MethodName) (cc : ByteArray) (nL fr lo mc ms sz : Nat) (av : List Value) (u : Mem) (S' : List Shp) (u' : Mem) : Prop := match G with
  | (l, cy, D) => Met l y (.code y cc nL none :: BW) (CtRN fr lo mc ms) (va_Pc av (CtPN S ad cy D u sz)) (CtQN S' ad cy D u' (aA ad sz)) mc ms (aA ad sz)
theorem CtPN_blind {S : List Shp} {ad : Nat → Nat} {cy : Nat → ClassId} {D : va_G} {u : Mem} {sz : Nat} {av : List Value} : FrameBlind (va_Pc av (CtPN S ad cy D u sz)) := by
  intro a U g mk q
  obtain ⟨q0, ⟨q1, q2, q3, q4⟩, q5, q6, q7⟩ := q
  exact ⟨q0, ⟨q1, va_K.moved (u := U) (U := U.calling g mk a) (Vm.Alike.refl U.vm) q2, GS.same (u := U) (U := U.calling g mk a) rfl q3, q4⟩, q5, AOs.moved (u := U) (U := U.calling g mk a) (Vm.Alike.refl U.vm) q6, GS.same (u := U) (U := U.calling g mk a) rfl q7⟩
theorem Ct_ofN {S S' : List Shp} {ad : Nat → Nat} {G : Gh} {cc : ByteArray} {fr lo nL mc ms sz n0 : Nat} {u u' : Mem} {y : MethodName} {av : List Value} (hy : plainName y.cls = true) (hin : y.name = "<init>") (hle : (lg_sl av).length ≤ nL) (had : ∀ k, n0 ≤ k → k < 1000 → ad k = sz + (k - n0)) (body : ∀ X : Amb, Cx ad G X cc y.cls fr lo → X.2.2.2.2.2.2.2.2.2.2.2.2.2 = nL → En ad X n0 mc ms sz → Xname X → (∀ (c s0 pc : Nat) (L : List (Nat × Value)), c ≤ mc → s0 ≤ ms → decode cc pc = .ok (.return_, 1) → V S' ad G (bmp X c s0) pc L [] u') → V S ad G (bmp X 0 0) 0 (lv_args 0 av) [] u) : CtN S ad G y cc nL fr lo mc ms sz av u S' u' := by
  obtain ⟨l, cy, D⟩ := G
  refine Met.ofW (cc := cc) (maxL := nL) (ret := none) hy rfl ?_
  intro p e s m args below meth c s₁ B hml hv
  obtain ⟨rfl, ⟨hP, hK, hG, hi, hn⟩, h5, h6, h7⟩ := hv
  have hx := B.exec
  have hb := B.bytes
  have hr := B.returns
  have hts := atoms_spec (ws := .code y cc nL none :: BW) B.pre
  have hown : s.vm.findClass y.cls = some m.cls := findClass_of_methodNamed B.named
  have hlocks := B.notSynchronized
  have hnm : meth.name = "<init>" := ((name_of_methodNamed B.named B.method).1).trans hin
  have hl := lv_entry av (n := nL) hle
  rw [lg_entry_eq]
  generalize (lg_sl av ++ List.replicate (nL - (lg_sl av).length) Slot.unset).toArray = ls at hl ⊢
  refine V_bmp0 (X := (p, e, CtRN fr lo mc ms, s, m, av.toArray, below, meth, c, 0, 0, MQ below (CtQN S' ad cy D u' (aA ad sz)) av.toArray s mc ms (aA ad sz), aA ad sz, nL)) (body (p, e, CtRN fr lo mc ms, s, m, av.toArray, below, meth, c, 0, 0, MQ below (CtQN S' ad cy D u' (aA ad sz)) av.toArray s mc ms (aA ad sz), aA ad sz, nL) ⟨hx, hb, hml, hown, fun w hw => hts w (List.mem_cons_of_mem _ hw), hK, h7, hi, fun k hk => Or.inl ⟨k, hk, rfl⟩, Nat.zero_le _, Nat.zero_le _, Nat.le_refl _, Nat.le_refl _⟩ rfl ⟨rfl, rfl, Nat.le_refl _, Nat.le_refl _, h5, fun q hq => Or.inr (by rw [← h5]; exact hq), had, fun q hq => hq, h6⟩ hnm ?_) hn s.heap [] ls hP va_S.rf hl
  intro c' s0 pc L hc hs hd
  intro hSn H locs ls' hP' hS' hl'
  refine W.widen (k := mc) (n := ms) (by omega) (by omega) ?_
  exact W.vret hx hb hr (fun t ht hW => ⟨rfl, by rw [ht]; exact hP', hS'.F ht⟩) hS'.2.2 hd hlocks
def MFi (y : MethodName) (bytes : ByteArray) (maxL : Nat) : Prop := Cond.instanceMethod y ∈ BW ∧ Cond.initialized y.cls ∈ BW ∧ Cond.code y bytes maxL none ∈ BW ∧ y.cls ≠ "java/lang/invoke/MethodHandle" ∧ y.cls ≠ "java/lang/invoke/VarHandle" ∧ (parseMethodDescriptor y.desc).map (fun d => d.parameters.length) = some 0 ∧ y.name = "<init>"
section CALLI
variable {S S' : List Shp} {ad : Nat → Nat} {G : Gh} {X : Amb} {cc : ByteArray} {own : String} {fr lo pc pc' n0 mc ms sz c s0 k fr' lo' mc' ms' sz' maxL idx : Nat} {L : List (Nat × Value)} {st : List Value} {u u' : Mem} {y : MethodName} {bytes : ByteArray}
theorem W_aftN {p : Program} {l : Launch} {e : Env} {R : Room} {s : State} {m : MethodId} {args : Array Value} {below : List Frame} {meth : Method} {c : Code} {H : Heap} {locs : List Loc} {cells slots mc ms : Nat} {Q : State → Prop} {pc : Nat} {ls : Array Slot} {st0 rest : List Value} {S : List Shp} {ad : Nat → Nat} {cy : Nat → ClassId} {D : va_G} {u' : Mem} {A A' : Nat → Prop} {av : Array Value}
    (hr : va_Run p l e R s m args below meth c H locs cells slots mc ms (F0 m pc ls st0) rest (CtQN S ad cy D u' A' av) A') (hS : va_S A s.heap H locs) (hA : ∀ q, A' q → A q)
    (kk : ∀ (H1 : Heap) (locs1 : List Loc), va_P D vwCl (wdo S ad cy u') H1 → va_S A s.heap H1 locs1 → W p l e R s m args below meth c H1 locs1 (cells + mc) (slots + ms) Q (F0 m (pc + 3) ls rest)) : W p l e R s m args below meth c H locs cells slots Q (F0 m pc ls st0) := by
  intro T hT X
  obtain ⟨v, s0, t, T', Lx, h0, X', hL, e1, e2, ⟨hv, hb, hz, hk⟩, st⟩ := hr T hT X
  cases hv
  rw [h0] at hz hk
  obtain ⟨t2, a1, b1⟩ := kk T'.heap (locs ++ Lx) (by rw [e1]; exact hb)
    (vaS_on hS (by rw [e1]; exact hz) (fun q h1 h2 => by rw [e1]; exact hk q h1 (fun z => h2 (hA q z))) (fun x hx => hA _ (hL x hx))) T' rfl X'
  exact ⟨t2, st t2 a1, b1⟩
theorem Cx_preN {S : List Shp} {ad : Nat → Nat} {cy : Nat → ClassId} {D : va_G} {u : Mem} {s : State} {H : Heap} {A : Nat → Prop} {locs : List Loc} {av : List Value} {sz : Nat} (hK : va_K D vwCl (tyl cy) s) (hG : GS ad A s s.heap) (hi : ∀ i j : Nat, i < 1000 → j < 1000 → ad i = ad j → i = j) (hA : ∀ k : Nat, k < 1000 → A (ad k)) (hA2 : ∀ q, sz ≤ q → A q) (hn : S.length ≤ 1000) (hP : va_P D vwCl (wdo S ad cy u) H) (hS : va_S A s.heap H locs) (hz : H.size = sz) (ha : AOs s) : ∀ U : State, U.heap = H → s.WarmedH U.vm → va_Pc av (CtPN S ad cy D u sz) av.toArray U := by
  intro U hU hW
  have g1 := GS.go hG hW (fun a h1 h2 => by rw [hU]; exact hS.2.1 a h1 h2)
  refine ⟨rfl, ⟨by rw [hU]; exact hP, va_K.moved hW.alike hK, GS.narrow g1 (fun q hq => ?_), hi, hn⟩, by rw [hU]; exact hz, ha.moved hW.alike, GS.narrow g1 (fun q hq => ?_)⟩
  · obtain ⟨k, hk, rfl⟩ := hq
    exact hA k hk
  · rcases hq with ⟨k, hk, rfl⟩ | hq
    · exact hA k hk
    · exact hA2 q hq
theorem V_callI (E : En ad X n0 mc ms sz) (C0 : Cx ad G X cc own fr lo) (hSl : S.length = n0 + c) (hlt : n0 + mc < 1000) (M : MFi y bytes maxL) (hw : Cond.methodLink own idx y ∈ BW) (hR : fr' + 1 ≤ fr ∧ 8 + (maxL + 11) + lo' ≤ lo) (hc : c + mc' ≤ mc) (hs : s0 + ms' ≤ ms) (hcat : (st.map fun v => v.category).sum ≤ 8) (hd : decode cc pc = .ok (.invokespecial idx, 3)) (hp : pc + 3 = pc') (hsz : sz' = sz + c) (hct : CtN S ad G y bytes maxL fr' lo' mc' ms' sz' [.ref (ad k)] u S' u') (hS' : S'.length ≤ 1000) (h : V S' ad G (bmp X (c + mc') (s0 + ms')) pc' L st u') : V S ad G (bmp X c s0) pc L (.ref (ad k) :: st) u := by
  have C := Cx_bmp C0 E (k := c) (n := s0) (by omega) (by omega)
  obtain ⟨l, cy, D⟩ := G
  obtain ⟨p, e, R, s, m, args, below, meth, cd, cells, slots, Q, A, nL⟩ := X
  obtain ⟨hx, hb, hml, hown, hts, hK, hG, hi, hA, hcc, hcs, hfr, hlo⟩ := C
  obtain ⟨e1, e2, e3, e4, e5, e6, e7, e8, e9⟩ := E
  subst hp; subst e1; subst e2; subst hsz
  obtain ⟨m1, m3, m4, m5, m6, m7, m8⟩ := M
  have cw := cwI (R := R) (s := s) (args := args) (own := own) (index := idx) (y := y) (bytes := bytes) (maxL := maxL) (Ts := BW) (ws := .code y bytes maxL none :: BW) (ws' := BW) (rm := CtRN fr' lo' mc' ms') (mc := mc') (ms := ms') 0 hts (in_code m4) rfl rfl rfl (hts _ m3) (hts _ hw) (hts _ m1) m8 ⟨m5, m6, m7⟩ ⟨Nat.le_trans hR.1 hfr, Nat.le_trans hR.2 hlo⟩
  intro hSn H locs ls hP hS hl T hT Y
  have hz : H.size = sz + c := by
    have q1 := Y.heapSize
    rw [hT, e5] at q1
    have q2 := hp_sz hP (by have := hS.1; rw [e5] at this; exact this) hSl (by omega) e7
    omega
  refine W_aftN (va_runI (As := []) (b := ad k) (rest := st) ⟨hx, hb, hml, hown, hts⟩ hct cw ⟨CtPN_blind, Cx_preN hK hG hi hA (fun q hq => e6 q (by omega)) hSn hP hS hz e9⟩ rfl rfl hl.1 rfl (lv_room hcat) hd ⟨by omega, by omega⟩) hS (fun q hq => ?_) (fun H1 locs1 hP1 hS1 => ?_) T hT Y
  · rcases hq with ⟨k, hk, rfl⟩ | hq
    · exact hA k hk
    · exact e6 q (by omega)
  · have h2 := h hS' H1 locs1 ls hP1 hS1 hl
    rw [show 0 + c + mc' = 0 + (c + mc') by omega, show 0 + s0 + ms' = 0 + (s0 + ms') by omega]
    exact h2
theorem V_callIN {host : String} (E : En ad X n0 mc ms sz) (C0 : Cx ad G X cc own fr lo) (hSl : S.length = n0 + c) (hlt : n0 + mc < 1000) (M : MFi y bytes maxL) (hw : (own, idx, y, host) ∈ nestL) (hR : fr' + 1 ≤ fr ∧ 8 + (maxL + 11) + lo' ≤ lo) (hc : c + mc' ≤ mc) (hs : s0 + ms' ≤ ms) (hcat : (st.map fun v => v.category).sum ≤ 8) (hd : decode cc pc = .ok (.invokespecial idx, 3)) (hp : pc + 3 = pc') (hsz : sz' = sz + c) (hct : CtN S ad G y bytes maxL fr' lo' mc' ms' sz' [.ref (ad k)] u S' u') (hS' : S'.length ≤ 1000) (h : V S' ad G (bmp X (c + mc') (s0 + ms')) pc' L st u') : V S ad G (bmp X c s0) pc L (.ref (ad k) :: st) u := by
  have C := Cx_bmp C0 E (k := c) (n := s0) (by omega) (by omega)
  obtain ⟨l, cy, D⟩ := G
  obtain ⟨p, e, R, s, m, args, below, meth, cd, cells, slots, Q, A, nL⟩ := X
  obtain ⟨hx, hb, hml, hown, hts, hK, hG, hi, hA, hcc, hcs, hfr, hlo⟩ := C
  obtain ⟨e1, e2, e3, e4, e5, e6, e7, e8, e9⟩ := E
  subst hp; subst e1; subst e2; subst hsz
  obtain ⟨m1, m3, m4, m5, m6, m7, m8⟩ := M
  have cw := va_cnB (R := R) (s := s) (args := args) (own := own) (host := host) (index := idx) (y := y) (bytes := bytes) (maxL := maxL) (ret := none) (Ts := BW) (ws := .code y bytes maxL none :: BW) (ws' := BW) (rm := CtRN fr' lo' mc' ms') (mc := mc') (ms := ms') 0 hts (in_code m4) rfl rfl rfl (hG.2.2.2.2.2.2.2 _ hw) (hts _ m3) ⟨m5, m6, m7⟩ ⟨Nat.le_trans hR.1 hfr, Nat.le_trans hR.2 hlo⟩
  intro hSn H locs ls hP hS hl T hT Y
  have hz : H.size = sz + c := by
    have q1 := Y.heapSize
    rw [hT, e5] at q1
    have q2 := hp_sz hP (by have := hS.1; rw [e5] at this; exact this) hSl (by omega) e7
    omega
  refine W_aftN (va_runIN (As := []) (b := ad k) (rest := st) ⟨hx, hb, hml, hown, hts⟩ hct ⟨cw, m8, hts _ m1⟩ ⟨CtPN_blind, Cx_preN hK hG hi hA (fun q hq => e6 q (by omega)) hSn hP hS hz e9⟩ rfl rfl hl.1 rfl (lv_room hcat) hd ⟨by omega, by omega⟩) hS (fun q hq => ?_) (fun H1 locs1 hP1 hS1 => ?_) T hT Y
  · rcases hq with ⟨k, hk, rfl⟩ | hq
    · exact hA k hk
    · exact e6 q (by omega)
  · have h2 := h hS' H1 locs1 ls hP1 hS1 hl
    rw [show 0 + c + mc' = 0 + (c + mc') by omega, show 0 + s0 + ms' = 0 + (s0 + ms') by omega]
    exact h2
end CALLI
