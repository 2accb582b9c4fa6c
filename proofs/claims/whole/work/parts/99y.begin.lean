/-! the law from its entry -/
/-! THE CLAIM OUT OF ONE WALK OF THE LAW'S BODY. Your part is whole_start (and what it stands on); all else here is the same for every law, but numbers. -/
def R_law : String := "CarryFairLaw"
def lw_P (b : Addr) (xs : List Int32) (args : Array Value) (s : State) : Prop := args = #[.ref b] ∧ s.IntsAt b xs ∧ xs.length ≤ 3072 ∧ (Jvm.Cond.and given_1 narrow_1).before args s = true
def lw_Q (_ : Array Value) (s : State) (o : Outcome) (t : State) : Prop := o = .returned (some (.int 1)) ∧ Framed s o t [] 600000 7302250
def lw_Z (below : List Frame) (a : Array Value) (s : State) : State → Prop := fun t => ∃ o, t.status = .running ∧ Ended t below o ∧ lw_Q a s o t
/-- the law's own end, with 1 on the stack, nothing written that was there before, its room as the claim has it -/
theorem lw_ret {p : Program} {l : Launch} {e : Env} {s : State} {m : MethodId} {below : List Frame} {meth : Method} {c : Code} {b : Nat} (hx : p.tables.exec = Jvm.exec) (hb : c.code = code) (hr : meth.sig.returnType = ret) (hlocks : meth.locks = false) {pc : Nat} {H : Heap} {ls : Array Slot} (hdg : decode code pc = .ok (.ireturn, 1)) : W p l e room_1 s m #[Value.ref b] below meth c H [] 600000 7302250 (lw_Z below #[Value.ref b] s) (F0 m pc ls [.int 1]) := by
  intro T hT X
  obtain ⟨fs, hret, hrun, hended, hW, hframe⟩ := X.leave (v := some (.int 1)) (hlocks := hlocks) (fun h => by rw [hr] at h; cases h)
  have hmeth' : T.vm.method? m = some meth := X.method'
  refine ⟨T.setFrames fs, ?_, .returned (some (.int 1)), hrun, hended, rfl, ⟨_, rfl⟩, hW, hframe⟩
  jvm_step X.here [X.here.top, hx, hb, hdg, hmeth', hr, ret, narrow_b1]
  (try refine ⟨rfl, ?_⟩); (try refine ⟨rfl, ?_⟩)
  first | (intro acts; rw [hret _ acts rfl rfl rfl]) | rw [hret _ _ rfl rfl rfl]
  exact Steps.refl _
/-- what holds at the law's entry: the machine, the code, the tables' words (any of lw_tbl by 'hts w (by decide +kernel)'), the script of L ints xs at the cell b, what the Statement gives of the start (any of its parts by flat_of_before) -/
def lw_At (p : Program) (s : State) (m : MethodId) (meth : Method) (c : Code) (b L : Nat) (xs : Nat → Int32) : Prop :=
  p.tables.exec = Jvm.exec ∧ c.code = code ∧ meth.sig.returnType = ret ∧ c.maxLocals = 4 ∧ s.vm.findClass R_law = some m.cls ∧ (∀ w ∈ lw_tbl, w.before #[Value.ref b] s = true) ∧ va_X b L xs s s.heap ∧ b < s.heap.size ∧ meth.locks = false ∧ (Jvm.Cond.and given_1 narrow_1).before #[Value.ref b] s = true
set_option maxRecDepth 100000 in
set_option maxHeartbeats 4000000 in
theorem whole_start {p : Program} {e : Env} {s : State} {m : MethodId} {below : List Frame} {meth : Method} {c : Code} (l : Launch) (hflags : l.flags = flags0) {b L : Nat} {xs : Nat → Int32} (hL : L ≤ 3072) (C0 : lw_At p s m meth c b L xs) : W p l e room_1 s m #[Value.ref b] below meth c s.heap [] 0 0 (lw_Z below #[Value.ref b] s) (entryFrame m ([Value.ref b] : List Value).toArray 4) := by
  obtain ⟨hx, hb, hr, hml, hown, hts, hX, hbl, hlocks, hgv⟩ := C0
  have hs := flat_of_before _ hgv
  have hA0 : ∀ a : Nat, a < s.heap.size → ¬ (fun q : Nat => s.heap.size ≤ q) a := fun a ha => Nat.not_le.mpr ha
  obtain ⟨ad, had, hG⟩ := start_GS (A := fun q : Nat => s.heap.size ≤ q) hs hts hA0
  obtain ⟨D, hD⟩ := known hts
  obtain ⟨hAO, cy, hcy⟩ := arrays hts
  have hK : va_K D vwCl (tyl cy) s := ⟨hD, hcy⟩
  have hl := lv_entry ([.ref b]) (n := 4) (Nat.le_of_ble_eq_true rfl)
  rw [lg_entry_eq]
  generalize (lg_sl ([.ref b]) ++ List.replicate (4 - (lg_sl ([.ref b])).length) Slot.unset).toArray = ls at hl ⊢
  have hl : lv_has ls 4 [(0, .ref b)] := hl
  have inj : ∀ i j : Nat, i < 1000 → j < 1000 → ad i = ad j → i = j := fun i j hi hj h => by rw [had i hi, had j hj] at h; omega
  obtain ⟨X, hXe⟩ : ∃ X : Amb, X = (p, e, room_1, s, m, #[Value.ref b], below, meth, c, 0, 0, lw_Z below #[Value.ref b] s, (fun q : Nat => s.heap.size ≤ q), 4) := ⟨_, rfl⟩
  have C : Cx ad (l, cy, D) X cL_law "CarryFairLaw" 13 480 := by
    subst hXe
    exact ⟨hx, hb, hml, hown, fun w hw => hts w (List.mem_filter.mp hw).1, hK, hG, inj, fun k hk => by rw [had k hk]; exact Nat.le_add_right _ _, Nat.zero_le _, Nat.zero_le _, by decide, by decide⟩
  have E : En ad X 0 132 6565 s.heap.size := by
    subst hXe
    exact ⟨rfl, rfl, by decide, by decide, rfl, fun q hq => hq, fun k _ hk => by rw [had k hk, Nat.sub_zero], fun q hq => Or.inr hq, hAO⟩
  have Z : ∀ k n, Scr (bmp X k n) b L xs := by
    subst hXe
    exact fun k n => ⟨hX, hbl, Nat.not_le.mpr hbl, rfl⟩
  have CC : ∀ k n, k ≤ 132 → n ≤ 6565 → Cx ad (l, cy, D) (bmp X k n) cL_law "CarryFairLaw" 13 480 := fun k n h1 h2 => Cx_bmp C E h1 h2
  have hN : ∀ k n, (bmp X k n).2.2.2.2.2.2.2.2.2.2.2.2.2 = 4 := fun k n => (bmp_nL X k n).trans (by rw [hXe])
  have hret : ∀ k n, k ≤ 132 → n ≤ 6565 → ∀ S Lc u, V S ad (l, cy, D) (bmp X k n) 1778 Lc [.int 1] u := by
    subst hXe
    intro k n hk hn S Lc u hSn H locs ls hP hS hl
    refine va_forget (fun q hq => hS.2.2 q hq) ?_
    refine W.widen (k := 600000) (n := 7302250) (by omega) (by omega) ?_
    exact lw_ret hx hb hr hlocks dL_law_1778
  have main : V [] ad (l, cy, D) (bmp X 0 0) 0 [(0, .ref b)] [] (fun _ _ => 0) := by
    refine N_new cf9 E C (k := 0) rfl rfl (by omega) (by decide) (by decide) (bw 106 (by decide +kernel) (by decide +kernel)) (bw 107 (by decide +kernel) (by decide +kernel)) (bw 88 (by decide +kernel) (by decide +kernel)) [some none, some none, some none, some none, some none, some none, some none, some none, none] rfl (dfX9 ad) dL_law_0 rfl (S' := [] ++ [.inl (8, [some none, some none, some none, some none, some none, some none, some none, some none, none])]) rfl rfl rfl ?_
    refine V_dup (CC _ _ (by decide) (by decide)) dL_law_3 rfl rfl ?_
    refine V_callI E C (k := 0) (c := 1) rfl (by omega) I_X9 (bw 108 (by decide +kernel) (by decide +kernel)) ⟨by decide, by decide⟩ (mc' := 115) (ms' := 3408) (by decide) (by decide) (Nat.le_of_ble_eq_true rfl) dL_law_4 rfl rfl (kX9_init (S0 := []) (B := 0) rfl (by omega) (fun _ _ => rfl) (fun k h1 h2 => by rw [had k h2]; omega)) (Nat.le_of_ble_eq_true rfl) ?_
    refine V_astore_n (CC _ _ (by decide) (by decide)) dL_law_7 rfl rfl (by decide) (hN _ _) (L' := [(1, .ref (ad 0)), (0, .ref b)]) [0, 1] rfl ?_
    refine N_new cf10 E C (k := 116) rfl rfl (by omega) (by decide) (by decide) (bw 1067 (by decide +kernel) (by decide +kernel)) (bw 1068 (by decide +kernel) (by decide +kernel)) (bw 99 (by decide +kernel) (by decide +kernel)) [some none, some none, some none, none, some none, some none, none, some none, some none, some none, none, none, none, some none, none, none, none, none, none, none, some none, some none, none, none, none, none, some none, some none, some none, some none] (uC0_k (by omega)) (dfX10 ad) dL_law_8 rfl (S' := ([] ++ RI9 0) ++ [.inl (9, [some none, some none, some none, none, some none, some none, none, some none, some none, some none, none, none, none, some none, none, none, none, none, none, none, some none, some none, none, none, none, none, some none, some none, some none, some none])]) rfl rfl rfl ?_
    refine V_dup (CC _ _ (by decide) (by decide)) dL_law_11 rfl rfl ?_
    refine V_callI E C (k := 116) (c := 117) rfl (by omega) I_X10 (bw 1069 (by decide +kernel) (by decide +kernel)) ⟨by decide, by decide⟩ (mc' := 15) (ms' := 3118) (by decide) (by decide) (Nat.le_of_ble_eq_true rfl) dL_law_12 rfl rfl (kX10_init (S0 := [] ++ RI9 0) (B := 116) rfl (by omega) (fun k hk => uC0_k (by omega)) (fun k h1 h2 => by rw [had k h2]; omega)) (Nat.le_of_ble_eq_true rfl) ?_
    refine V_astore_n (CC _ _ (by decide) (by decide)) dL_law_15 rfl rfl (by decide) (hN _ _) (L' := [(2, .ref (ad 116)), (1, .ref (ad 0)), (0, .ref b)]) [0, 1, 2] rfl ?_
    refine V_iconst (CC _ _ (by decide) (by decide)) dL_law_16 rfl (v := nI 0) (by decide) ?_
    refine V_istore_n (CC _ _ (by decide) (by decide)) dL_law_17 rfl rfl (by decide) (hN _ _) (L' := lwL b ad (nI 0)) [0, 1, 2, 3] rfl ?_
    refine V_S (S' := shs) rfl ?_
    exact lw_loop (CC _ _ (by decide) (by decide)) (Z _ _) hL (fun Lc u => hret _ _ (by decide) (by decide) _ _ _) (L + 1) 0 (Nat.zero_le _) (by omega) uL0 Inv_start
  subst hXe
  exact V_bmp0 main (Nat.zero_le _) s.heap [] ls (fun k q h => by simp [wdo] at h) va_S.rf hl
