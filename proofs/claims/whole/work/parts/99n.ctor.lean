/-! constructors: the list of cells grows -/
def bmp (X : Amb) (k n : Nat) : Amb := match X with | (p, e, R, s, m, args, below, meth, c, cells, slots, Q, A, nL) => (p, e, R, s, m, args, below, meth, c, cells + k, slots + n, Q, A, nL)
/-- a place where cells may be made: n0 cells stand at its entry, at most mc come (ms slots), at the addresses from sz on -/
def aoC : List String := ["CarryFair$Carrier", "CarryFair$Errand", "CarryFair$Ware", "CarryFair$Sheet", "java/lang/String"]
/-- the rows of rows of numbers -/
def AO2 (U : State) : Prop := ∃ (comp cA : ClassId) (k : Class), U.vm.findClass "[I" = some comp ∧ U.vm.classes[cA]? = some k ∧ k.kind = .array comp (.array .int) ∧ U.vm.findClass "[[I" = some cA
theorem AO2.moved {u U : State} (hvm : u.vm.Alike U.vm) (h : AO2 u) : AO2 U := by
  obtain ⟨comp, cA, k, h1, h2, h3, h4⟩ := h
  obtain ⟨k', hk', he⟩ := hvm.2.2 _ _ h2
  exact ⟨comp, cA, k', by rw [hvm.findClass]; exact h1, hk', by rw [he]; exact h3, by rw [hvm.findClass]; exact h4⟩
def AOs (U : State) : Prop := (∀ C ∈ aoC, va_AO C U) ∧ AO2 U
theorem AOs.moved {u U : State} (hvm : u.vm.Alike U.vm) (h : AOs u) : AOs U := ⟨fun C hC => (h.1 C hC).moved hvm, h.2.moved hvm⟩
def En (ad : Nat → Nat) (X : Amb) (n0 mc ms sz : Nat) : Prop := match X with
  | (_, _, R, s, _, _, _, _, _, cells, slots, _, A, _) => cells = 0 ∧ slots = 0 ∧ mc ≤ R.cells ∧ ms ≤ R.slots ∧ s.heap.size = sz ∧ (∀ q, s.heap.size ≤ q → A q) ∧ (∀ k, n0 ≤ k → k < 1000 → ad k = sz + (k - n0)) ∧ (∀ q, A q → inW ad q ∨ sz ≤ q) ∧ AOs s
theorem Cx_bmp {ad : Nat → Nat} {G : Gh} {X : Amb} {cc : ByteArray} {own : String} {fr lo n0 mc ms sz k n : Nat} (C : Cx ad G X cc own fr lo) (E : En ad X n0 mc ms sz) (hk : k ≤ mc) (hn : n ≤ ms) : Cx ad G (bmp X k n) cc own fr lo := by
  obtain ⟨l, cy, D⟩ := G
  obtain ⟨p, e, R, s, m, args, below, meth, c, cells, slots, Q, A, nL⟩ := X
  obtain ⟨hx, hb, hml, hown, hts, hK, hG, hi, hA, hcc, hcs, hfr, hlo⟩ := C
  obtain ⟨e1, e2, e3, e4, -⟩ := E
  subst e1; subst e2
  exact ⟨hx, hb, hml, hown, hts, hK, hG, hi, hA, by omega, by omega, hfr, hlo⟩
theorem V_bmp0 {S : List Shp} {ad : Nat → Nat} {G : Gh} {X : Amb} {pc : Nat} {L : List (Nat × Value)} {st : List Value} {u : Mem} (h : V S ad G (bmp X 0 0) pc L st u) : V S ad G X pc L st u := by
  obtain ⟨l, cy, D⟩ := G
  obtain ⟨p, e, R, s, m, args, below, meth, c, cells, slots, Q, A, nL⟩ := X
  exact h
theorem new_ad {ad : Nat → Nat} {A : Nat → Prop} {S : List Shp} {cy : Nat → ClassId} {D : va_G} {u : Mem} {n0 c mc sz q : Nat} {x : va_E} {H1 : Heap} (hP : va_P D vwCl (wdo S ad cy u ++ [(q, x)]) H1) (hD : va_D A (wdo S ad cy u ++ [(q, x)])) (hSl : S.length = n0 + c) (hlt : n0 + mc < 1000) (hc : c + 1 ≤ mc) (had : ∀ k, n0 ≤ k → k < 1000 → ad k = sz + (k - n0)) (hAq : ∀ q, A q → inW ad q ∨ sz ≤ q) (hz : H1.size ≤ sz + (c + 1)) : q = ad S.length := by
  have hq : (wdo S ad cy u ++ [(q, x)])[S.length]? = some (q, x) := by
    rw [List.getElem?_append_right (by rw [wdo_len]; exact Nat.le_refl _), wdo_len, Nat.sub_self]; rfl
  have hne : ∀ k, k < S.length → ad k ≠ q := by
    intro k hk e
    obtain ⟨sh, hsh⟩ : ∃ sh, S[k]? = some sh := ⟨_, List.getElem?_eq_getElem hk⟩
    have h1 : (wdo S ad cy u ++ [(q, x)])[k]? = some (ad k, cel ad cy sh (u k)) := by
      rw [List.getElem?_append_left (by rw [wdo_len]; exact hk)]; exact wdo_get hsh ad cy u
    have := hD.1 k S.length _ _ h1 hq e
    omega
  have hlq : q < H1.size := (hP _ _ hq).lt
  have hge : sz ≤ q := by
    rcases hAq q (hD.2 _ _ hq) with ⟨k, hk, e⟩ | h
    · have : ¬ k < S.length := fun z => hne k z e
      rw [← e, had k (by omega) hk]; omega
    · exact h
  rw [had S.length (by omega) (by omega)]
  by_cases hj : q < sz + c
  · have := hne (n0 + (q - sz)) (by omega)
    rw [had _ (by omega) (by omega)] at this
    omega
  · omega
section NEW
variable {S : List Shp} {ad : Nat → Nat} {G : Gh} {X : Amb} {cc : ByteArray} {own : String} {fr lo pc pc' n0 mc ms sz c s0 : Nat} {L : List (Nat × Value)} {st : List Value} {u : Mem}
theorem V_new {ci N idx : Nat} {Cn : String} {T : u_T} {ty : Nat → FieldType} (F : CF ci Cn T N ty) (E : En ad X n0 mc ms sz) (C0 : Cx ad G X cc own fr lo) (hSl : S.length = n0 + c) (hlt : n0 + mc < 1000) (hc : c + 1 ≤ mc) (hs : s0 + N ≤ ms) (w1 : Cond.classLink own idx Cn ∈ BW) (w2 : Cond.instantiable Cn N ∈ BW) (w3 : Cond.initialized Cn ∈ BW) (fsh : List (Option (Option Nat))) (hu : u S.length = fun _ => 0) (hfs : ∀ j, j < N → defaultValue (ty j) = vp_V (flds ad (fun _ => 0) 0 fsh) j) (hd : decode cc pc = .ok (.new idx, 3)) (hp : pc + 3 = pc') (h : V (S ++ [.inl (ci, fsh)]) ad G (bmp X (c + 1) (s0 + N)) pc' L (.ref (ad S.length) :: st) u) : V S ad G (bmp X c s0) pc L st u := by
  have C := Cx_bmp C0 E (k := c) (n := s0) (by omega) (by omega)
  obtain ⟨l, cy, D⟩ := G
  obtain ⟨p, e, R, s, m, args, below, meth, cd, cells, slots, Q, A, nL⟩ := X
  obtain ⟨hx, hb, hml, hown, hts, hK, hG, hi, hA, hcc, hcs, hfr, hlo⟩ := C
  obtain ⟨e1, e2, e3, e4, e5, e6, e7, e8, e9⟩ := E
  subst hp; subst e1; subst e2
  intro hSn H locs ls hP hS hl
  have hD : va_D A (wdo S ad cy u) := wdo_D (fun i j a b => hi i j (Nat.lt_of_lt_of_le a hSn) (Nat.lt_of_lt_of_le b hSn)) (fun k a => hA k (Nat.lt_of_lt_of_le a hSn))
  refine va_new (ci := ci) (fs := flds ad (u S.length) 0 fsh) hx hb hts F.2.1 ty F.2.2.1 hown (hts _ w1) (hts _ w2) (hts _ w3) hK hP hD hS e6 F.1 (by rw [hu]; exact hfs) (by omega) (by omega) hd (fun q H1 hP1 hD1 hS1 => ?_)
  intro T1 hT1 Y1
  have hz : H1.size ≤ sz + (c + 1) := by have := Y1.heapSize; rw [hT1, e5] at this; omega
  obtain rfl := new_ad hP1 hD1 hSl hlt hc e7 e8 hz
  have hP2 : va_P D vwCl (wdo (S ++ [.inl (ci, fsh)]) ad cy u) H1 := by rw [wdo_app]; exact hP1
  have h2 := h (by rw [List.length_append]; simp; omega) H1 locs ls hP2 hS1 hl
  have h3 : W p l e R s m args below meth cd H1 locs (0 + c + 1) (0 + s0 + N) Q (F0 m (pc + 3) ls (.ref (ad S.length) :: st)) := by
    rw [show 0 + c + 1 = 0 + (c + 1) by omega, show 0 + s0 + N = 0 + (s0 + N) by omega]; exact h2
  exact h3 T1 hT1 Y1
theorem V_newa (E : En ad X n0 mc ms sz) (C0 : Cx ad G X cc own fr lo) (hSl : S.length = n0 + c) (hlt : n0 + mc < 1000) (hc : c + 1 ≤ mc) {n : Int32} {N : Nat} (hs : s0 + N ≤ ms) (w1 : Cond.arrayClass .int ∈ BW) (hu : u S.length = fun _ => 0) (hn : ¬ n < 0) (hN : n.toNatClampNeg = N) (hb4 : N * 4 ≤ 536870912) (hd : decode cc pc = .ok (.newarray .int, 2)) (hp : pc + 2 = pc') (h : V (S ++ [.inr ((0, N), none)]) ad G (bmp X (c + 1) (s0 + N)) pc' L (.ref (ad S.length) :: st) u) : V S ad G (bmp X c s0) pc L (.int n :: st) u := by
  have C := Cx_bmp C0 E (k := c) (n := s0) (by omega) (by omega)
  obtain ⟨l, cy, D⟩ := G
  obtain ⟨p, e, R, s, m, args, below, meth, cd, cells, slots, Q, A, nL⟩ := X
  obtain ⟨hx, hb, hml, hown, hts, hK, hG, hi, hA, hcc, hcs, hfr, hlo⟩ := C
  obtain ⟨e1, e2, e3, e4, e5, e6, e7, e8, e9⟩ := E
  subst hp; subst e1; subst e2
  intro hSn H locs ls hP hS hl
  have hD : va_D A (wdo S ad cy u) := wdo_D (fun i j a b => hi i j (Nat.lt_of_lt_of_le a hSn) (Nat.lt_of_lt_of_le b hSn)) (fun k a => hA k (Nat.lt_of_lt_of_le a hSn))
  refine va_newa (atype := .int) (ty := .int) (a0 := (N, .inl (u S.length))) (N' := N) hx hb (hts _ w1) rfl hK hP hD hS e6 (by intro cA; rw [hu]; rfl) hn hN hb4 (by omega) (by omega) hd (fun q cA H1 hK1 hP1 hD1 hS1 => ?_)
  have hcA : cA = cy 0 := by
    have h1 := (hK1.2 (tyl cy).length (cA, .int) (by rw [List.getElem?_append_right (Nat.le_refl _), Nat.sub_self]; rfl)).2
    have h2 := (hK.2 0 (cy 0, .int) rfl).2
    have h1' : s.vm.findClass ("[" ++ FieldType.int.toString) = some cA := h1
    have h2' : s.vm.findClass ("[" ++ FieldType.int.toString) = some (cy 0) := h2
    exact Option.some.inj (h1'.symm.trans h2')
  subst hcA
  intro T1 hT1 Y1
  have hz : H1.size ≤ sz + (c + 1) := by have := Y1.heapSize; rw [hT1, e5] at this; omega
  obtain rfl := new_ad hP1 hD1 hSl hlt hc e7 e8 hz
  have hP2 : va_P D vwCl (wdo (S ++ [.inr ((0, N), none)]) ad cy u) H1 := by rw [wdo_app]; exact hP1
  have h2 := h (by rw [List.length_append]; simp; omega) H1 locs ls hP2 hS1 hl
  have h3 : W p l e R s m args below meth cd H1 locs (0 + c + 1) (0 + s0 + N) Q (F0 m (pc + 2) ls (.ref (ad S.length) :: st)) := by
    rw [show 0 + c + 1 = 0 + (c + 1) by omega, show 0 + s0 + N = 0 + (s0 + N) by omega]; exact h2
  exact h3 T1 hT1 Y1
theorem rfs_new (ad : Nat → Nat) (N : Nat) : rfs ad (List.replicate N none) N = fun _ => none := by
  funext i
  unfold rfs
  by_cases h : i < N
  · rw [if_pos h]; simp [List.getD, List.getElem?_replicate, h]
  · rw [if_neg h]
theorem V_newq (E : En ad X n0 mc ms sz) (C0 : Cx ad G X cc own fr lo) (hSl : S.length = n0 + c) (hlt : n0 + mc < 1000) (hc : c + 1 ≤ mc) {n : Int32} {N t idx : Nat} {Cn : String} (ht : ∀ cy : Nat → ClassId, (tyl cy)[t]? = some (cy t, .object Cn)) (hs : s0 + N ≤ ms) (w1 : Cond.classLink own idx Cn ∈ BW) (w2 : Cn ∈ aoC) (hn : ¬ n < 0) (hN : n.toNatClampNeg = N) (hb4 : N * 4 ≤ 536870912) (hd : decode cc pc = .ok (.anewarray idx, 3)) (hp : pc + 3 = pc') (h : V (S ++ [.inr ((t, N), some (List.replicate N none))]) ad G (bmp X (c + 1) (s0 + N)) pc' L (.ref (ad S.length) :: st) u) : V S ad G (bmp X c s0) pc L (.int n :: st) u := by
  have C := Cx_bmp C0 E (k := c) (n := s0) (by omega) (by omega)
  obtain ⟨l, cy, D⟩ := G
  obtain ⟨p, e, R, s, m, args, below, meth, cd, cells, slots, Q, A, nL⟩ := X
  obtain ⟨hx, hb, hml, hown, hts, hK, hG, hi, hA, hcc, hcs, hfr, hlo⟩ := C
  obtain ⟨e1, e2, e3, e4, e5, e6, e7, e8, e9⟩ := E
  subst hp; subst e1; subst e2
  intro hSn H locs ls hP hS hl
  have hD : va_D A (wdo S ad cy u) := wdo_D (fun i j a b => hi i j (Nat.lt_of_lt_of_le a hSn) (Nat.lt_of_lt_of_le b hSn)) (fun k a => hA k (Nat.lt_of_lt_of_le a hSn))
  refine va_newq (C := Cn) (N' := N) hx hb hown (hts _ w1) (e9.1 _ w2) hK hP hD hS e6 hn hN hb4 (by omega) (by omega) hd (fun q cA H1 hK1 hP1 hD1 hS1 => ?_)
  have hcA : cA = cy t := by
    obtain ⟨_, _, _, _, _, h1⟩ := (hK1.2 (tyl cy).length (cA, .object Cn) (by rw [List.getElem?_append_right (Nat.le_refl _), Nat.sub_self]; rfl)).2
    obtain ⟨_, _, _, _, _, h2⟩ := (hK.2 t (cy t, .object Cn) (ht cy)).2
    exact Option.some.inj (h1.symm.trans h2)
  subst hcA
  intro T1 hT1 Y1
  have hz : H1.size ≤ sz + (c + 1) := by have := Y1.heapSize; rw [hT1, e5] at this; omega
  obtain rfl := new_ad hP1 hD1 hSl hlt hc e7 e8 hz
  have hP2 : va_P D vwCl (wdo (S ++ [.inr ((t, N), some (List.replicate N none))]) ad cy u) H1 := by
    rw [wdo_app]
    show va_P D vwCl (wdo S ad cy u ++ [(ad S.length, .inl (cy t, N, .inr (.inr (.inr (.inr (rfs ad (List.replicate N none) N))))))]) H1
    rw [rfs_new]
    exact hP1
  have h2 := h (by rw [List.length_append]; simp; omega) H1 locs ls hP2 hS1 hl
  have h3 : W p l e R s m args below meth cd H1 locs (0 + c + 1) (0 + s0 + N) Q (F0 m (pc + 3) ls (.ref (ad S.length) :: st)) := by
    rw [show 0 + c + 1 = 0 + (c + 1) by omega, show 0 + s0 + N = 0 + (s0 + N) by omega]; exact h2
  exact h3 T1 hT1 Y1
end NEW
theorem wO_1 : Cond.instanceMethod objectInit ∈ BW := bw 112 (by decide +kernel) (by decide +kernel)
theorem wO_2 : Cond.code objectInit ⟨#[0xb1]⟩ 1 none ∈ BW := bw 113 (by decide +kernel) (by decide +kernel)
section SETS
variable {S : List Shp} {ad : Nat → Nat} {G : Gh} {X : Amb} {cc : ByteArray} {own : String} {fr lo pc pc' : Nat} {L : List (Nat × Value)} {st : List Value} {u : Mem}
def Xname (X : Amb) : Prop := match X with | (_, _, _, _, _, _, _, meth, _, _, _, _, _, _) => meth.name = "<init>"
theorem Xname_bmp {X : Amb} {k n : Nat} (h : Xname X) : Xname (bmp X k n) := by
  obtain ⟨p, e, R, s, m, args, below, meth, c, cells, slots, Q, A, nL⟩ := X
  exact h
theorem V_putR (C : Cx ad G X cc own fr lo) {ci N k q idx : Nat} {Cn ref : String} {T : u_T} {ty : Nat → FieldType} {fs : List (Option (Option Nat))} (F : CF ci Cn T N ty) (hsh : S[k]? = some (.inl (ci, fs))) (j : Nat) (hjl : j < fs.length) (hjN : j < N) (hname : Xname X) (hw : Cond.fieldLink own idx ref (T j).2.1 (T j).2.2.1 ∈ BW) (hsame : (T j).1 = ref) (hdecl : (T j).1 = own) (hfin : (T j).2.2.2 = true) (hn : narrow (ty j) (.ref (ad q)) = .ref (ad q)) (hfit : fits (ty j) (.ref (ad q)) = true) (hd : decode cc pc = .ok (.putfield idx, 3)) (hp : pc + 3 = pc') (h : V (S.set k (.inl (ci, fs.set j (some (some q))))) ad G X pc' L st u) : V S ad G X pc L (.ref (ad q) :: .ref (ad k) :: st) u := by
  obtain ⟨l, cy, D⟩ := G
  obtain ⟨p, e, R, s, m, args, below, meth, c, cells, slots, Q, A, nL⟩ := X
  obtain ⟨hx, hb, hml, hown, hts, hK, hG, hi, hA, hcc, hcs, hfr, hlo⟩ := C
  subst hp
  subst hsame
  intro hSn H locs ls hP hS hl
  have hD : va_D A (wdo S ad cy u) := wdo_D (fun i j a b => hi i j (Nat.lt_of_lt_of_le a hSn) (Nat.lt_of_lt_of_le b hSn)) (fun k a => hA k (Nat.lt_of_lt_of_le a hSn))
  have hlen : j < (flds ad (u k) 0 fs).length := by rw [flds_len]; exact hjl
  refine va_putF (v := .ref (ad q)) hx hb hts F.2.1 ty F.2.2.1 F.2.2.2 hown hK hP hD hS k (wdo_get hsh ad cy u) F.1 j hjN (hts _ hw) (fun _ h9 => h9) hfin hname hdecl (F.2.2.1 j hjN) hn hfit hlen hd (fun H1 locs1 hP1 _ hS1 => ?_)
  refine h (by rw [List.length_set]; exact hSn) H1 locs1 ls ?_ hS1 hl
  rw [flds_setR ad (u k) q fs 0 j] at hP1
  have e2 := wdo_setS (shs := S) (k := k) ad cy u (.inl (ci, fs.set j (some (some q))))
  rw [← e2]
  exact hP1
theorem rfs_set (ad : Nat → Nat) (l : List (Option Nat)) (n i q : Nat) (hi : i < n) (hl : l.length = n) : va_up (rfs ad l n) i (some (ad q)) = rfs ad (l.set i (some q)) n := by
  funext j
  unfold va_up rfs
  by_cases e : j = i
  · subst e
    rw [if_pos rfl, if_pos hi]
    simp [List.getD, List.getElem?_set_self (show j < l.length by omega)]
  · rw [if_neg e]
    by_cases h : j < n
    · rw [if_pos h, if_pos h]
      simp [List.getD, List.getElem?_set_ne (Ne.symm e)]
    · rw [if_neg h, if_neg h]
theorem V_aast (C : Cx ad G X cc own fr lo) {k t n q i' ci : Nat} {lst : List (Option Nat)} {Cn : String} {T : u_T} {N : Nat} {ty : Nat → FieldType} {vs : List (Option (Option Nat))} (F : CF ci Cn T N ty) (hsh : S[k]? = some (.inr ((t, n), some lst))) (ht : ∀ cy : Nat → ClassId, (tyl cy)[t]? = some (cy t, .object Cn)) (hq : S[q]? = some (.inl (ci, vs))) {i : Int32} (hin : inb i n) (hi' : i.toNatClampNeg = i') (hll : lst.length = n) (hd : decode cc pc = .ok (.aastore, 1)) (hp : pc + 1 = pc') (h : V (S.set k (.inr ((t, n), some (lst.set i' (some q))))) ad G X pc' L st u) : V S ad G X pc L (.ref (ad q) :: .int i :: .ref (ad k) :: st) u := by
  obtain ⟨l, cy, D⟩ := G
  obtain ⟨p, e, R, s, m, args, below, meth, c, cells, slots, Q, A, nL⟩ := X
  obtain ⟨hx, hb, hml, hown, hts, hK, hG, hi, hA, hcc, hcs, hfr, hlo⟩ := C
  subst hp; subst hi'
  intro hSn H locs ls hP hS hl
  have hlt : i.toNatClampNeg < n := Nat.not_le.mp fun z => hin (Or.inr z)
  have hD : va_D A (wdo S ad cy u) := wdo_D (fun i j a b => hi i j (Nat.lt_of_lt_of_le a hSn) (Nat.lt_of_lt_of_le b hSn)) (fun k a => hA k (Nat.lt_of_lt_of_le a hSn))
  refine va_astq (r := (Cn, T, N)) hx hb hK hP hD hS k t q ci (wdo_get hsh ad cy u) (ht cy) (wdo_get hq ad cy u) F.1 hin hd (fun H1 locs1 hP1 _ hS1 => ?_)
  refine h (by rw [List.length_set]; exact hSn) H1 locs1 ls ?_ hS1 hl
  have e2 := wdo_setS (shs := S) (k := k) ad cy u (.inr ((t, n), some (lst.set i.toNatClampNeg (some q))))
  rw [← e2]
  show va_P D vwCl ((wdo S ad cy u).set k (ad k, .inl (cy t, n, .inr (.inr (.inr (.inr (rfs ad (lst.set i.toNatClampNeg (some q)) n))))))) H1
  rw [← rfs_set ad lst n _ q hlt hll]
  exact hP1
theorem asg_self {s : State} {comp c0 : ClassId} (h1 : s.vm.findClass "java/lang/String" = some comp) (h2 : s.vm.findClass "java/lang/String" = some c0) : s.vm.assignable c0 comp = true := by
  obtain rfl := Option.some.inj (h1.symm.trans h2)
  unfold Vm.assignable
  rw [show (256 : Nat) = 255 + 1 from rfl, Vm.assignableAux]
  simp
theorem V_aastS (C : Cx ad G X cc own fr lo) {k t n q i' : Nat} {lst : List (Option Nat)} (hsh : S[k]? = some (.inr ((t, n), some lst))) (ht : ∀ cy : Nat → ClassId, (tyl cy)[t]? = some (cy t, .object "java/lang/String")) (hq : q < 16) {i : Int32} (hin : inb i n) (hi' : i.toNatClampNeg = i') (hll : lst.length = n) (hd : decode cc pc = .ok (.aastore, 1)) (hp : pc + 1 = pc') (h : V (S.set k (.inr ((t, n), some (lst.set i' (some (1000 + q)))))) ad G X pc' L st u) : V S ad G X pc L (.ref (ad (1000 + q)) :: .int i :: .ref (ad k) :: st) u := by
  obtain ⟨l, cy, D⟩ := G
  obtain ⟨p, e, R, s, m, args, below, meth, c, cells, slots, Q, A, nL⟩ := X
  obtain ⟨hx, hb, hml, hown, hts, hK, hG, hi, hA, hcc, hcs, hfr, hlo⟩ := C
  subst hp; subst hi'
  intro hSn H locs ls hP hS hl
  have hlt : i.toNatClampNeg < n := Nat.not_le.mp fun z => hin (Or.inr z)
  have hD : va_D A (wdo S ad cy u) := wdo_D (fun i j a b => hi i j (Nat.lt_of_lt_of_le a hSn) (Nat.lt_of_lt_of_le b hSn)) (fun k a => hA k (Nat.lt_of_lt_of_le a hSn))
  refine vb_astq hx hb hK hP hD hS k t (wdo_get hsh ad cy u) (ht cy) (vk_recv (hG.2.2.2.1 q hq) (Nat.lt_succ_self 0) hS) (fun comp c0 h1 h2 => asg_self h1 h2) hin hd (fun H1 locs1 hP1 _ hS1 => ?_)
  refine h (by rw [List.length_set]; exact hSn) H1 locs1 ls ?_ hS1 hl
  have e2 := wdo_setS (shs := S) (k := k) ad cy u (.inr ((t, n), some (lst.set i.toNatClampNeg (some (1000 + q)))))
  rw [← e2]
  show va_P D vwCl ((wdo S ad cy u).set k (ad k, .inl (cy t, n, .inr (.inr (.inr (.inr (rfs ad (lst.set i.toNatClampNeg (some (1000 + q))) n))))))) H1
  rw [← rfs_set ad lst n _ (1000 + q) hlt hll]
  exact hP1
theorem V_objInit (C : Cx ad G X cc own fr lo) {idx k : Nat} (hw : Cond.methodLink own idx objectInit ∈ BW) (hR : 1 ≤ fr ∧ 20 ≤ lo) (hcat : (st.map fun v => v.category).sum ≤ 8) (hd : decode cc pc = .ok (.invokespecial idx, 3)) (hp : pc + 3 = pc') (h : V S ad G X pc' L st u) : V S ad G X pc L (.ref (ad k) :: st) u := by
  obtain ⟨l, cy, D⟩ := G
  obtain ⟨p, e, R, s, m, args, below, meth, c, cells, slots, Q, A, nL⟩ := X
  obtain ⟨hx, hb, hml, hown, hts, hK, hG, hi, hA, hcc, hcs, hfr, hlo⟩ := C
  subst hp
  intro hSn H locs ls hP hS hl
  refine W.objInit hx hb hown (hts _ hw) (hts _ wO_1) (hts _ wO_2) rfl (by rw [hml]; exact hl.1) rfl hd (by omega) (by show 2 * 0 + _ + 12 ≤ _; omega) ?_
  exact h hSn H locs ls hP hS hl
end SETS
