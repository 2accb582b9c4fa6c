/-! the start: what is given, in the words of the judgement -/
abbrev flG : List Cond := flatC (Jvm.Cond.and given_1 narrow_1)
theorem ao2_of {args : Array Value} {s : State} (h : (Cond.arrayOver (.array .int)).before args s = true) : AO2 s := by
  obtain ⟨comp, c, k, a1, -, a2, a3, a4⟩ := arrayOverA_spec h
  exact ⟨comp, c, k, a1, a2, a3, a4⟩
section ST
variable {args : Array Value} {s : State} {A : Nat → Prop}
theorem tab_at (hs : ∀ c ∈ flG, c.before args s = true) (hA : ∀ a : Nat, a < s.heap.size → ¬ A a) {C n : String} {N : Nat} {f : Nat → Int32} (hN : N < 100) (hl : (Cond.laysStatic C n "[I").before args s = true) (hi : (Cond.initialized C).before args s = true) (w1 : Cond.arrayOf (.static C n "[I") .int ∈ flG) (w2 : Cond.eq (.length (.static C n "[I")) (.int (Int32.ofNat N)) ∈ flG) (w3 : ∀ j, j < N → Cond.eq (.elem (.static C n "[I") (.int (Int32.ofNat j))) (.int (f j)) ∈ flG) : ∃ t : Nat, va_Z C n "[I" (.ref t) A s s.heap ∧ va_T .int t N (fun i => .int (f i)) A s s.heap := by
  obtain ⟨t, ht, hT⟩ := va_Tof (f := fun i => .int (f i)) (A := A) (by omega) (hs _ w1) (va_eqt (hs _ w2)) (fun j hj => va_eqt (hs _ (w3 j hj))) hA
  exact ⟨t, va_Zref hl hi ht hA, hT⟩
theorem str_at (hs : ∀ c ∈ flG, c.before args s = true) (hA : ∀ a : Nat, a < s.heap.size → ¬ A a) {k : Nat} {b : List Int32} (hN : b.length < 100) (w1 : Cond.exactly (.string "CarryFair$Tape" k) "java/lang/String" ∈ flG) (w2 : Cond.eq (.field (.string "CarryFair$Tape" k) "java/lang/String" "coder" "B") (.int 0) ∈ flG) (w3 : Cond.arrayOf (.field (.string "CarryFair$Tape" k) "java/lang/String" "value" "[B") .byte ∈ flG) (w4 : Cond.eq (.length (.field (.string "CarryFair$Tape" k) "java/lang/String" "value" "[B")) (.int (Int32.ofNat b.length)) ∈ flG) (w5 : ∀ j, j < b.length → Cond.eq (.elem (.field (.string "CarryFair$Tape" k) "java/lang/String" "value" "[B") (.int (Int32.ofNat j))) (.int (b.getD j 0)) ∈ flG) : ∃ q : Nat × Nat, vk_S 1 [b.length] [b] (fun _ => q.1) (fun _ => q.2) A s s.heap ∧ (Term.string "CarryFair$Tape" k).eval args s none [] s = some (.ref q.1) := by
  have z : ∀ i, i < 1 → i = 0 := fun i hi => by omega
  obtain ⟨adK, adV, h1, h2⟩ := vk_Sof (N := 1) (tm := fun _ => .string "CarryFair$Tape" k) (len := [b.length]) (byt := [b]) (A := A) (args := args) (s := s) (fun i hi => by rw [z i hi]; show b.length < 2 ^ 31; omega) (fun i hi => hs _ w1) (fun i hi => hs _ w2) (fun i hi => hs _ w3) (fun i hi => by rw [z i hi]; exact hs _ w4) (fun i hi j hj => by rw [z i hi] at hj ⊢; exact hs _ (w5 j hj)) (fun i j hi hj h => absurd ((z i hi).trans (z j hj).symm) h) hA
  refine ⟨(adK 0, adV 0), ⟨fun i hi => ?_, fun i j hi hj _ => (z i hi).trans (z j hj).symm⟩, h2 0 (by omega)⟩
  have h3 := h1.1 i hi
  rw [z i hi] at h3 ⊢
  exact h3
def strT : List Nat := [119, 123, 125, 127, 129, 131, 133, 76, 85, 54, 95, 97, 63, 106, 108, 68]
theorem strs_all (hs : ∀ c ∈ flG, c.before args s = true) (hA : ∀ a : Nat, a < s.heap.size → ¬ A a) : ∃ f g : Nat → Nat, ∀ i, i < 16 → vk_S 1 [(strL.getD i []).length] [strL.getD i []] (fun _ => f i) (fun _ => g i) A s s.heap ∧ (Term.string "CarryFair$Tape" (strT.getD i 0)).eval args s none [] s = some (.ref (f i)) := by
  have h0 : ∀ i : Nat, ∃ q : Nat × Nat, i < 16 → vk_S 1 [(strL.getD i []).length] [strL.getD i []] (fun _ => q.1) (fun _ => q.2) A s s.heap ∧ (Term.string "CarryFair$Tape" (strT.getD i 0)).eval args s none [] s = some (.ref q.1) := by
    intro i
    by_cases hi : i < 16
    · rcases (show i = 0 ∨ i = 1 ∨ i = 2 ∨ i = 3 ∨ i = 4 ∨ i = 5 ∨ i = 6 ∨ i = 7 ∨ i = 8 ∨ i = 9 ∨ i = 10 ∨ i = 11 ∨ i = 12 ∨ i = 13 ∨ i = 14 ∨ i = 15 by omega) with rfl | rfl | rfl | rfl | rfl | rfl | rfl | rfl | rfl | rfl | rfl | rfl | rfl | rfl | rfl | rfl
      · obtain ⟨q, h⟩ := str_at (A := A) hs hA (k := 119) (b := [99, 97, 114, 114, 105, 101, 114]) (by decide) (by decide +kernel) (by decide +kernel) (by decide +kernel) (by decide +kernel) (by decide +kernel)
        exact ⟨q, fun _ => h⟩
      · obtain ⟨q, h⟩ := str_at (A := A) hs hA (k := 123) (b := [111, 108, 100]) (by decide) (by decide +kernel) (by decide +kernel) (by decide +kernel) (by decide +kernel) (by decide +kernel)
        exact ⟨q, fun _ => h⟩
      · obtain ⟨q, h⟩ := str_at (A := A) hs hA (k := 125) (b := [112, 97, 105, 114, 101, 100]) (by decide) (by decide +kernel) (by decide +kernel) (by decide +kernel) (by decide +kernel) (by decide +kernel)
        exact ⟨q, fun _ => h⟩
      · obtain ⟨q, h⟩ := str_at (A := A) hs hA (k := 127) (b := [99, 104, 101, 97, 116, 105, 110, 103]) (by decide) (by decide +kernel) (by decide +kernel) (by decide +kernel) (by decide +kernel) (by decide +kernel)
        exact ⟨q, fun _ => h⟩
      · obtain ⟨q, h⟩ := str_at (A := A) hs hA (k := 129) (b := [104, 97, 110, 100, 101, 100]) (by decide) (by decide +kernel) (by decide +kernel) (by decide +kernel) (by decide +kernel) (by decide +kernel)
        exact ⟨q, fun _ => h⟩
      · obtain ⟨q, h⟩ := str_at (A := A) hs hA (k := 131) (b := [119, 97, 116, 101, 114, 121]) (by decide) (by decide +kernel) (by decide +kernel) (by decide +kernel) (by decide +kernel) (by decide +kernel)
        exact ⟨q, fun _ => h⟩
      · obtain ⟨q, h⟩ := str_at (A := A) hs hA (k := 133) (b := [98, 111, 97, 116, 101, 100]) (by decide) (by decide +kernel) (by decide +kernel) (by decide +kernel) (by decide +kernel) (by decide +kernel)
        exact ⟨q, fun _ => h⟩
      · obtain ⟨q, h⟩ := str_at (A := A) hs hA (k := 76) (b := [97, 116]) (by decide) (by decide +kernel) (by decide +kernel) (by decide +kernel) (by decide +kernel) (by decide +kernel)
        exact ⟨q, fun _ => h⟩
      · obtain ⟨q, h⟩ := str_at (A := A) hs hA (k := 85) (b := [115, 116, 114, 111, 110, 103]) (by decide) (by decide +kernel) (by decide +kernel) (by decide +kernel) (by decide +kernel) (by decide +kernel)
        exact ⟨q, fun _ => h⟩
      · obtain ⟨q, h⟩ := str_at (A := A) hs hA (k := 54) (b := [119, 97, 121]) (by decide) (by decide +kernel) (by decide +kernel) (by decide +kernel) (by decide +kernel) (by decide +kernel)
        exact ⟨q, fun _ => h⟩
      · obtain ⟨q, h⟩ := str_at (A := A) hs hA (k := 95) (b := [121, 97, 114, 100, 115]) (by decide) (by decide +kernel) (by decide +kernel) (by decide +kernel) (by decide +kernel) (by decide +kernel)
        exact ⟨q, fun _ => h⟩
      · obtain ⟨q, h⟩ := str_at (A := A) hs hA (k := 97) (b := [114, 105, 118, 101, 114]) (by decide) (by decide +kernel) (by decide +kernel) (by decide +kernel) (by decide +kernel) (by decide +kernel)
        exact ⟨q, fun _ => h⟩
      · obtain ⟨q, h⟩ := str_at (A := A) hs hA (k := 63) (b := [101, 114, 114, 97, 110, 100]) (by decide) (by decide +kernel) (by decide +kernel) (by decide +kernel) (by decide +kernel) (by decide +kernel)
        exact ⟨q, fun _ => h⟩
      · obtain ⟨q, h⟩ := str_at (A := A) hs hA (k := 106) (b := [102, 114, 111, 109]) (by decide) (by decide +kernel) (by decide +kernel) (by decide +kernel) (by decide +kernel) (by decide +kernel)
        exact ⟨q, fun _ => h⟩
      · obtain ⟨q, h⟩ := str_at (A := A) hs hA (k := 108) (b := [116, 111]) (by decide) (by decide +kernel) (by decide +kernel) (by decide +kernel) (by decide +kernel) (by decide +kernel)
        exact ⟨q, fun _ => h⟩
      · obtain ⟨q, h⟩ := str_at (A := A) hs hA (k := 68) (b := [119, 97, 114, 101]) (by decide) (by decide +kernel) (by decide +kernel) (by decide +kernel) (by decide +kernel) (by decide +kernel)
        exact ⟨q, fun _ => h⟩
    · exact ⟨(0, 0), fun h => absurd h hi⟩
  obtain ⟨q, hq⟩ := Classical.axiomOfChoice h0
  exact ⟨fun i => (q i).1, fun i => (q i).2, hq⟩
theorem ev_two {t t' : Term} {x : Nat} (h : (Cond.eq t t').before args s = true) (ht : t.eval args s none [] s = some (.ref x)) : t'.eval args s none [] s = some (.ref x) := by
  obtain ⟨y, h1, h2⟩ := Cond.eq_one h
  rw [h2, ← h1, ht]
theorem strs_R (hs : ∀ c ∈ flG, c.before args s = true) (hts : ∀ w ∈ lw_tbl, w.before args s = true) {f : Nat → Nat} {ad : Nat → Nat} (had : ∀ i, i < 16 → ad (1000 + i) = f i) (hf : ∀ i, i < 16 → (Term.string "CarryFair$Tape" (strT.getD i 0)).eval args s none [] s = some (.ref (f i))) : ∀ q ∈ strR, vk_R q.1 q.2.1 q.2.2.1 (ad (1000 + q.2.2.2)) s := by
  have hf : ∀ i, i < 16 → True ∧ (Term.string "CarryFair$Tape" (strT.getD i 0)).eval args s none [] s = some (.ref (f i)) := fun i hi => ⟨trivial, hf i hi⟩
  unfold strR
  exact List.forall_mem_cons.mpr ⟨(show vk_R "CarryFair$Tape" 119 "carrier" (ad (1000 + 0)) s from (had 0 (by omega)).symm ▸ vk_R.of (hts _ (List.mem_of_getElem? (i := 882) (by decide +kernel))) (hf 0 (by omega)).2), List.forall_mem_cons.mpr ⟨(show vk_R "CarryFair$Tape" 123 "old" (ad (1000 + 1)) s from (had 1 (by omega)).symm ▸ vk_R.of (hts _ (List.mem_of_getElem? (i := 935) (by decide +kernel))) (hf 1 (by omega)).2), List.forall_mem_cons.mpr ⟨(show vk_R "CarryFair$Tape" 125 "paired" (ad (1000 + 2)) s from (had 2 (by omega)).symm ▸ vk_R.of (hts _ (List.mem_of_getElem? (i := 936) (by decide +kernel))) (hf 2 (by omega)).2), List.forall_mem_cons.mpr ⟨(show vk_R "CarryFair$Tape" 127 "cheating" (ad (1000 + 3)) s from (had 3 (by omega)).symm ▸ vk_R.of (hts _ (List.mem_of_getElem? (i := 937) (by decide +kernel))) (hf 3 (by omega)).2), List.forall_mem_cons.mpr ⟨(show vk_R "CarryFair$Tape" 129 "handed" (ad (1000 + 4)) s from (had 4 (by omega)).symm ▸ vk_R.of (hts _ (List.mem_of_getElem? (i := 938) (by decide +kernel))) (hf 4 (by omega)).2), List.forall_mem_cons.mpr ⟨(show vk_R "CarryFair$Tape" 131 "watery" (ad (1000 + 5)) s from (had 5 (by omega)).symm ▸ vk_R.of (hts _ (List.mem_of_getElem? (i := 939) (by decide +kernel))) (hf 5 (by omega)).2), List.forall_mem_cons.mpr ⟨(show vk_R "CarryFair$Tape" 133 "boated" (ad (1000 + 6)) s from (had 6 (by omega)).symm ▸ vk_R.of (hts _ (List.mem_of_getElem? (i := 940) (by decide +kernel))) (hf 6 (by omega)).2), List.forall_mem_cons.mpr ⟨(show vk_R "CarryFair$Tape" 76 "at" (ad (1000 + 7)) s from (had 7 (by omega)).symm ▸ vk_R.of (hts _ (List.mem_of_getElem? (i := 945) (by decide +kernel))) (hf 7 (by omega)).2), List.forall_mem_cons.mpr ⟨(show vk_R "CarryFair$Tape" 85 "strong" (ad (1000 + 8)) s from (had 8 (by omega)).symm ▸ vk_R.of (hts _ (List.mem_of_getElem? (i := 955) (by decide +kernel))) (hf 8 (by omega)).2), List.forall_mem_cons.mpr ⟨(show vk_R "CarryFair$Tape" 54 "way" (ad (1000 + 9)) s from (had 9 (by omega)).symm ▸ vk_R.of (hts _ (List.mem_of_getElem? (i := 957) (by decide +kernel))) (hf 9 (by omega)).2), List.forall_mem_cons.mpr ⟨(show vk_R "CarryFair$Tape" 95 "yards" (ad (1000 + 10)) s from (had 10 (by omega)).symm ▸ vk_R.of (hts _ (List.mem_of_getElem? (i := 966) (by decide +kernel))) (hf 10 (by omega)).2), List.forall_mem_cons.mpr ⟨(show vk_R "CarryFair$Tape" 97 "river" (ad (1000 + 11)) s from (had 11 (by omega)).symm ▸ vk_R.of (hts _ (List.mem_of_getElem? (i := 967) (by decide +kernel))) (hf 11 (by omega)).2), List.forall_mem_cons.mpr ⟨(show vk_R "CarryFair$Tape" 63 "errand" (ad (1000 + 12)) s from (had 12 (by omega)).symm ▸ vk_R.of (hts _ (List.mem_of_getElem? (i := 969) (by decide +kernel))) (hf 12 (by omega)).2), List.forall_mem_cons.mpr ⟨(show vk_R "CarryFair$Tape" 106 "from" (ad (1000 + 13)) s from (had 13 (by omega)).symm ▸ vk_R.of (hts _ (List.mem_of_getElem? (i := 974) (by decide +kernel))) (hf 13 (by omega)).2), List.forall_mem_cons.mpr ⟨(show vk_R "CarryFair$Tape" 108 "to" (ad (1000 + 14)) s from (had 14 (by omega)).symm ▸ vk_R.of (hts _ (List.mem_of_getElem? (i := 975) (by decide +kernel))) (hf 14 (by omega)).2), List.forall_mem_cons.mpr ⟨(show vk_R "CarryFair$Tape" 68 "ware" (ad (1000 + 15)) s from (had 15 (by omega)).symm ▸ vk_R.of (hts _ (List.mem_of_getElem? (i := 977) (by decide +kernel))) (hf 15 (by omega)).2), List.forall_mem_cons.mpr ⟨(show vk_R "CarryFairModel" 39 "carrier" (ad (1000 + 0)) s from (had 0 (by omega)).symm ▸ vk_R.of (hts _ (List.mem_of_getElem? (i := 1075) (by decide +kernel))) (ev_two (hs _ (show Cond.eq (.string "CarryFair$Tape" 119) (.string "CarryFairModel" 39) ∈ flG by decide +kernel)) (hf 0 (by omega)).2)), List.forall_mem_cons.mpr ⟨(show vk_R "CarryFairModel" 41 "old" (ad (1000 + 1)) s from (had 1 (by omega)).symm ▸ vk_R.of (hts _ (List.mem_of_getElem? (i := 1076) (by decide +kernel))) (ev_two (hs _ (show Cond.eq (.string "CarryFair$Tape" 123) (.string "CarryFairModel" 41) ∈ flG by decide +kernel)) (hf 1 (by omega)).2)), List.forall_mem_cons.mpr ⟨(show vk_R "CarryFairModel" 43 "paired" (ad (1000 + 2)) s from (had 2 (by omega)).symm ▸ vk_R.of (hts _ (List.mem_of_getElem? (i := 1077) (by decide +kernel))) (ev_two (hs _ (show Cond.eq (.string "CarryFair$Tape" 125) (.string "CarryFairModel" 43) ∈ flG by decide +kernel)) (hf 2 (by omega)).2)), List.forall_mem_cons.mpr ⟨(show vk_R "CarryFairModel" 45 "cheating" (ad (1000 + 3)) s from (had 3 (by omega)).symm ▸ vk_R.of (hts _ (List.mem_of_getElem? (i := 1078) (by decide +kernel))) (ev_two (hs _ (show Cond.eq (.string "CarryFair$Tape" 127) (.string "CarryFairModel" 45) ∈ flG by decide +kernel)) (hf 3 (by omega)).2)), List.forall_mem_cons.mpr ⟨(show vk_R "CarryFairModel" 47 "handed" (ad (1000 + 4)) s from (had 4 (by omega)).symm ▸ vk_R.of (hts _ (List.mem_of_getElem? (i := 1079) (by decide +kernel))) (ev_two (hs _ (show Cond.eq (.string "CarryFair$Tape" 129) (.string "CarryFairModel" 47) ∈ flG by decide +kernel)) (hf 4 (by omega)).2)), List.forall_mem_cons.mpr ⟨(show vk_R "CarryFairModel" 49 "watery" (ad (1000 + 5)) s from (had 5 (by omega)).symm ▸ vk_R.of (hts _ (List.mem_of_getElem? (i := 1080) (by decide +kernel))) (ev_two (hs _ (show Cond.eq (.string "CarryFair$Tape" 131) (.string "CarryFairModel" 49) ∈ flG by decide +kernel)) (hf 5 (by omega)).2)), List.forall_mem_cons.mpr ⟨(show vk_R "CarryFairModel" 51 "boated" (ad (1000 + 6)) s from (had 6 (by omega)).symm ▸ vk_R.of (hts _ (List.mem_of_getElem? (i := 1081) (by decide +kernel))) (ev_two (hs _ (show Cond.eq (.string "CarryFair$Tape" 133) (.string "CarryFairModel" 51) ∈ flG by decide +kernel)) (hf 6 (by omega)).2)), List.forall_mem_cons.mpr ⟨(show vk_R "CarryFairModel" 326 "at" (ad (1000 + 7)) s from (had 7 (by omega)).symm ▸ vk_R.of (hts _ (List.mem_of_getElem? (i := 1564) (by decide +kernel))) (ev_two (hs _ (show Cond.eq (.string "CarryFair$Tape" 76) (.string "CarryFairModel" 326) ∈ flG by decide +kernel)) (hf 7 (by omega)).2)), List.forall_mem_cons.mpr ⟨(show vk_R "CarryFairModel" 334 "strong" (ad (1000 + 8)) s from (had 8 (by omega)).symm ▸ vk_R.of (hts _ (List.mem_of_getElem? (i := 1573) (by decide +kernel))) (ev_two (hs _ (show Cond.eq (.string "CarryFair$Tape" 85) (.string "CarryFairModel" 334) ∈ flG by decide +kernel)) (hf 8 (by omega)).2)), List.forall_mem_cons.mpr ⟨(show vk_R "CarryFairModel" 340 "way" (ad (1000 + 9)) s from (had 9 (by omega)).symm ▸ vk_R.of (hts _ (List.mem_of_getElem? (i := 1578) (by decide +kernel))) (ev_two (hs _ (show Cond.eq (.string "CarryFair$Tape" 54) (.string "CarryFairModel" 340) ∈ flG by decide +kernel)) (hf 9 (by omega)).2)), List.forall_mem_cons.mpr ⟨(show vk_R "CarryFairModel" 345 "yards" (ad (1000 + 10)) s from (had 10 (by omega)).symm ▸ vk_R.of (hts _ (List.mem_of_getElem? (i := 1583) (by decide +kernel))) (ev_two (hs _ (show Cond.eq (.string "CarryFair$Tape" 95) (.string "CarryFairModel" 345) ∈ flG by decide +kernel)) (hf 10 (by omega)).2)), List.forall_mem_cons.mpr ⟨(show vk_R "CarryFairModel" 347 "river" (ad (1000 + 11)) s from (had 11 (by omega)).symm ▸ vk_R.of (hts _ (List.mem_of_getElem? (i := 1584) (by decide +kernel))) (ev_two (hs _ (show Cond.eq (.string "CarryFair$Tape" 97) (.string "CarryFairModel" 347) ∈ flG by decide +kernel)) (hf 11 (by omega)).2)), List.forall_mem_cons.mpr ⟨(show vk_R "CarryFairModel" 349 "errand" (ad (1000 + 12)) s from (had 12 (by omega)).symm ▸ vk_R.of (hts _ (List.mem_of_getElem? (i := 1585) (by decide +kernel))) (ev_two (hs _ (show Cond.eq (.string "CarryFair$Tape" 63) (.string "CarryFairModel" 349) ∈ flG by decide +kernel)) (hf 12 (by omega)).2)), List.forall_mem_cons.mpr ⟨(show vk_R "CarryFairModel" 354 "from" (ad (1000 + 13)) s from (had 13 (by omega)).symm ▸ vk_R.of (hts _ (List.mem_of_getElem? (i := 1586) (by decide +kernel))) (ev_two (hs _ (show Cond.eq (.string "CarryFair$Tape" 106) (.string "CarryFairModel" 354) ∈ flG by decide +kernel)) (hf 13 (by omega)).2)), List.forall_mem_cons.mpr ⟨(show vk_R "CarryFairModel" 356 "to" (ad (1000 + 14)) s from (had 14 (by omega)).symm ▸ vk_R.of (hts _ (List.mem_of_getElem? (i := 1587) (by decide +kernel))) (ev_two (hs _ (show Cond.eq (.string "CarryFair$Tape" 108) (.string "CarryFairModel" 356) ∈ flG by decide +kernel)) (hf 14 (by omega)).2)), List.forall_mem_cons.mpr ⟨(show vk_R "CarryFairModel" 358 "ware" (ad (1000 + 15)) s from (had 15 (by omega)).symm ▸ vk_R.of (hts _ (List.mem_of_getElem? (i := 1588) (by decide +kernel))) (ev_two (hs _ (show Cond.eq (.string "CarryFair$Tape" 68) (.string "CarryFairModel" 358) ∈ flG by decide +kernel)) (hf 15 (by omega)).2)), fun _ h => absurd h List.not_mem_nil⟩⟩⟩⟩⟩⟩⟩⟩⟩⟩⟩⟩⟩⟩⟩⟩⟩⟩⟩⟩⟩⟩⟩⟩⟩⟩⟩⟩⟩⟩⟩⟩
theorem nests (hts : ∀ w ∈ lw_tbl, w.before args s = true) : ∀ q ∈ nestL, va_Nw (.methodLinkNest q.1 q.2.1 q.2.2.1 q.2.2.2) s := by
  unfold nestL
  exact List.forall_mem_cons.mpr ⟨(show va_Nw (.methodLinkNest "CarryFair$Fair" 44 ⟨"CarryFair$Carrier", "<init>", "()V"⟩ "CarryFair") s from va_Nw.of rfl (hts _ (List.mem_of_getElem? (i := 165) (by decide +kernel)))), List.forall_mem_cons.mpr ⟨(show va_Nw (.methodLinkNest "CarryFair$Fair" 45 ⟨"CarryFair$Errand", "<init>", "()V"⟩ "CarryFair") s from va_Nw.of rfl (hts _ (List.mem_of_getElem? (i := 198) (by decide +kernel)))), List.forall_mem_cons.mpr ⟨(show va_Nw (.methodLinkNest "CarryFair$Fair" 46 ⟨"CarryFair$Ware", "<init>", "()V"⟩ "CarryFair") s from va_Nw.of rfl (hts _ (List.mem_of_getElem? (i := 232) (by decide +kernel)))), List.forall_mem_cons.mpr ⟨(show va_Nw (.methodLinkNest "CarryFair" 24 ⟨"CarryFair$Rounds", "<init>", "()V"⟩ "CarryFair") s from va_Nw.of rfl (hts _ (List.mem_of_getElem? (i := 292) (by decide +kernel)))), List.forall_mem_cons.mpr ⟨(show va_Nw (.methodLinkNest "CarryFair" 35 ⟨"CarryFair$Tape", "<init>", "()V"⟩ "CarryFair") s from va_Nw.of rfl (hts _ (List.mem_of_getElem? (i := 317) (by decide +kernel)))), List.forall_mem_cons.mpr ⟨(show va_Nw (.methodLinkNest "CarryFair" 49 ⟨"CarryFair$Sheet", "<init>", "()V"⟩ "CarryFair") s from va_Nw.of rfl (hts _ (List.mem_of_getElem? (i := 344) (by decide +kernel)))), List.forall_mem_cons.mpr ⟨(show va_Nw (.methodLinkNest "CarryFair$Fair" 78 ⟨"CarryFair", "within", "(III)Z"⟩ "CarryFair") s from va_Nw.of rfl (hts _ (List.mem_of_getElem? (i := 414) (by decide +kernel)))), List.forall_mem_cons.mpr ⟨(show va_Nw (.methodLinkNest "CarryFair$Fair" 116 ⟨"CarryFair", "has", "(II)Z"⟩ "CarryFair") s from va_Nw.of rfl (hts _ (List.mem_of_getElem? (i := 430) (by decide +kernel)))), List.forall_mem_cons.mpr ⟨(show va_Nw (.methodLinkNest "CarryFair$Rounds" 73 ⟨"CarryFair", "has", "(II)Z"⟩ "CarryFair") s from va_Nw.of rfl (hts _ (List.mem_of_getElem? (i := 639) (by decide +kernel)))), List.forall_mem_cons.mpr ⟨(show va_Nw (.methodLinkNest "CarryFair$Tape" 146 ⟨"CarryFair", "within", "(III)Z"⟩ "CarryFair") s from va_Nw.of rfl (hts _ (List.mem_of_getElem? (i := 954) (by decide +kernel)))), List.forall_mem_cons.mpr ⟨(show va_Nw (.methodLinkNest "CarryFair$Sheet" 22 ⟨"CarryFair", "within", "(III)Z"⟩ "CarryFair") s from va_Nw.of rfl (hts _ (List.mem_of_getElem? (i := 1032) (by decide +kernel)))), fun _ h => absurd h List.not_mem_nil⟩⟩⟩⟩⟩⟩⟩⟩⟩⟩⟩
theorem known (hts : ∀ w ∈ lw_tbl, w.before args s = true) : ∃ D : va_G, ∀ (k : Nat) (q : vw_C), vwCl[k]? = some q → u_Kn s q.1 q.2.1 q.2.2 (D.1 k) (D.2 k) := by
  have htB : ∀ w ∈ BW, w.before args s = true := fun w hw => hts w (List.mem_filter.mp hw).1
  obtain ⟨c0, i0, k0⟩ := u_known (n := 5) htB cf0.2.1 (hts _ (List.mem_of_getElem? (i := 164) (by decide +kernel)))
  obtain ⟨c1, i1, k1⟩ := u_known (n := 5) htB cf1.2.1 (hts _ (List.mem_of_getElem? (i := 197) (by decide +kernel)))
  obtain ⟨c2, i2, k2⟩ := u_known (n := 9) htB cf2.2.1 (hts _ (List.mem_of_getElem? (i := 115) (by decide +kernel)))
  obtain ⟨c4, i4, k4⟩ := u_known (n := 6) htB cf4.2.1 (hts _ (List.mem_of_getElem? (i := 291) (by decide +kernel)))
  obtain ⟨c5, i5, k5⟩ := u_known (n := 3) htB cf5.2.1 (hts _ (List.mem_of_getElem? (i := 343) (by decide +kernel)))
  obtain ⟨c6, i6, k6⟩ := u_known (n := 6) htB cf6.2.1 (hts _ (List.mem_of_getElem? (i := 316) (by decide +kernel)))
  obtain ⟨c7, i7, k7⟩ := u_known (n := 2) htB cf7.2.1 (hts _ (List.mem_of_getElem? (i := 231) (by decide +kernel)))
  obtain ⟨c8, i8, k8⟩ := u_known (n := 3) htB cf8.2.1 (hts _ (List.mem_of_getElem? (i := 127) (by decide +kernel)))
  obtain ⟨c9, i9, k9⟩ := u_known (n := 9) htB cf9.2.1 (hts _ (List.mem_of_getElem? (i := 107) (by decide +kernel)))
  obtain ⟨c10, i10, k10⟩ := u_known (n := 30) htB cf10.2.1 (hts _ (List.mem_of_getElem? (i := 1068) (by decide +kernel)))
  refine ⟨(fun k => ([c0, c1, c2, c4, c5, c6, c7, c8, c9, c10] : List ClassId).getD k c0, fun k => ([i0, i1, i2, i4, i5, i6, i7, i8, i9, i10] : List (Nat → Nat)).getD k i0), fun k q hq => ?_⟩
  match k, hq with
  | 0, hq => cases hq; exact k0
  | 1, hq => cases hq; exact k1
  | 2, hq => cases hq; exact k2
  | 3, hq => cases hq; exact k4
  | 4, hq => cases hq; exact k5
  | 5, hq => cases hq; exact k6
  | 6, hq => cases hq; exact k7
  | 7, hq => cases hq; exact k8
  | 8, hq => cases hq; exact k9
  | 9, hq => cases hq; exact k10
  | k + 10, hq => simp [vwCl] at hq
theorem arrays (hts : ∀ w ∈ lw_tbl, w.before args s = true) : AOs s ∧ ∃ cy : Nat → ClassId, ∀ (k : Nat) (q : ClassId × FieldType), (tyl cy)[k]? = some q → ArrOfT s q.1 q.2 ∧ va_RA s q.1 q.2 := by
  have ha2 : AO2 s := ao2_of (hts _ (List.mem_of_getElem? (i := 133) (by decide +kernel)))
  have hao : ∀ C ∈ aoC, va_AO C s := by
    unfold aoC
    exact List.forall_mem_cons.mpr ⟨va_AO.of (C := "CarryFair$Carrier") (hts _ (List.mem_of_getElem? (i := 121) (by decide +kernel))), List.forall_mem_cons.mpr ⟨va_AO.of (C := "CarryFair$Errand") (hts _ (List.mem_of_getElem? (i := 123) (by decide +kernel))), List.forall_mem_cons.mpr ⟨va_AO.of (C := "CarryFair$Ware") (hts _ (List.mem_of_getElem? (i := 125) (by decide +kernel))), List.forall_mem_cons.mpr ⟨va_AO.of (C := "CarryFair$Sheet") (hts _ (List.mem_of_getElem? (i := 342) (by decide +kernel))), List.forall_mem_cons.mpr ⟨va_AO.of (C := "java/lang/String") (hts _ (List.mem_of_getElem? (i := 1074) (by decide +kernel))), fun _ h => absurd h List.not_mem_nil⟩⟩⟩⟩⟩
  refine ⟨⟨hao, ha2⟩, ?_⟩
  have ob : ∀ C, va_AO C s → ∃ c : ClassId, ArrOfT s c (.object C) ∧ va_RA s c (.object C) := fun C h => by
    obtain ⟨comp, c, k, h1, h2, h3, h4, h5⟩ := Cond.arrayOver_spec h
    exact ⟨c, fun N z => ⟨(fun k h => by cases h), k, h3, comp, h4⟩, k, comp, h3, h4, h1, h5⟩
  obtain ⟨y0, k0, p0, a1, a2, a3⟩ := Cond.arrayClass_spec (type := .int) (hts _ (List.mem_of_getElem? (i := 163) (by decide +kernel)))
  obtain ⟨comp4, y4, k4, b1, b2, b3, b4⟩ := ha2
  obtain ⟨y1, o1, q1⟩ := ob "CarryFair$Carrier" (va_AO.of (C := "CarryFair$Carrier") (hts _ (List.mem_of_getElem? (i := 121) (by decide +kernel))))
  obtain ⟨y2, o2, q2⟩ := ob "CarryFair$Errand" (va_AO.of (C := "CarryFair$Errand") (hts _ (List.mem_of_getElem? (i := 123) (by decide +kernel))))
  obtain ⟨y3, o3, q3⟩ := ob "CarryFair$Ware" (va_AO.of (C := "CarryFair$Ware") (hts _ (List.mem_of_getElem? (i := 125) (by decide +kernel))))
  obtain ⟨y5, o5, q5⟩ := ob "CarryFair$Sheet" (va_AO.of (C := "CarryFair$Sheet") (hts _ (List.mem_of_getElem? (i := 342) (by decide +kernel))))
  obtain ⟨y6, o6, q6⟩ := ob "java/lang/String" (va_AO.of (C := "java/lang/String") (hts _ (List.mem_of_getElem? (i := 1074) (by decide +kernel))))
  refine ⟨fun k => ([y0, y1, y2, y3, y4, y5, y6] : List ClassId).getD k y0, fun k q hq => ?_⟩
  match k, hq with
  | 0, hq => cases hq; exact ⟨fun N z => ⟨(fun k h => by cases h), k0, a2, p0, a3⟩, a1⟩
  | 1, hq => cases hq; exact ⟨o1, q1⟩
  | 2, hq => cases hq; exact ⟨o2, q2⟩
  | 3, hq => cases hq; exact ⟨o3, q3⟩
  | 4, hq => cases hq; exact ⟨fun N z => ⟨(fun k h => by cases h), k4, b2, comp4, b3⟩, b4⟩
  | 5, hq => cases hq; exact ⟨o5, q5⟩
  | 6, hq => cases hq; exact ⟨o6, q6⟩
  | k + 7, hq => simp at hq
theorem start_GS (hs : ∀ c ∈ flG, c.before args s = true) (hts : ∀ w ∈ lw_tbl, w.before args s = true) (hA : ∀ a : Nat, a < s.heap.size → ¬ A a) : ∃ ad : Nat → Nat, (∀ k, k < 1000 → ad k = s.heap.size + k) ∧ GS ad A s s.heap := by
  obtain ⟨t1, z1, u1⟩ := tab_at (A := A) hs hA (C := "CarryFair$Kinds") (n := "GAIT_OF") (N := 7) (f := tGait) (by omega) (hts _ (List.mem_of_getElem? (i := 493) (by decide +kernel))) (hts _ (List.mem_of_getElem? (i := 91) (by decide +kernel))) (by decide +kernel) (by decide +kernel) (by decide +kernel)
  obtain ⟨t2, z2, u2⟩ := tab_at (A := A) hs hA (C := "CarryFair$Kinds") (n := "ABOVE") (N := 7) (f := tAbove) (by omega) (hts _ (List.mem_of_getElem? (i := 998) (by decide +kernel))) (hts _ (List.mem_of_getElem? (i := 91) (by decide +kernel))) (by decide +kernel) (by decide +kernel) (by decide +kernel)
  obtain ⟨t3, z3, u3⟩ := tab_at (A := A) hs hA (C := "CarryFair$Rounds") (n := "POWERS") (N := 6) (f := tPowers) (by omega) (hts _ (List.mem_of_getElem? (i := 641) (by decide +kernel))) (hts _ (List.mem_of_getElem? (i := 96) (by decide +kernel))) (by decide +kernel) (by decide +kernel) (by decide +kernel)
  obtain ⟨f, g, hfg⟩ := strs_all (A := A) hs hA
  obtain ⟨ad, had⟩ : ∃ ad : Nat → Nat, ad = fun k => if k < 1000 then s.heap.size + k else if k < 1100 then f (k - 1000) else if k < 2000 then g (k - 1100) else if k = 2000 then t1 else if k = 2001 then t2 else t3 := ⟨_, rfl⟩
  have e0 : ∀ k, k < 1000 → ad k = s.heap.size + k := fun k hk => by rw [had]; exact if_pos hk
  have e1 : ∀ i, i < 16 → ad (1000 + i) = f i := fun i hi => by
    rw [had]; dsimp only; rw [if_neg (by omega), if_pos (by omega), Nat.add_sub_cancel_left]
  have e2 : ∀ i, i < 16 → ad (1100 + i) = g i := fun i hi => by
    rw [had]; dsimp only; rw [if_neg (by omega), if_neg (by omega), if_pos (by omega), Nat.add_sub_cancel_left]
  have e3 : ad 2000 = t1 := by rw [had]; rfl
  have e4 : ad 2001 = t2 := by rw [had]; rfl
  have e5 : ad 2002 = t3 := by rw [had]; rfl
  refine ⟨ad, e0, ⟨by rw [e3]; exact z1, by rw [e3]; exact u1⟩, ⟨by rw [e4]; exact z2, by rw [e4]; exact u2⟩, ⟨by rw [e5]; exact z3, by rw [e5]; exact u3⟩, fun i hi => ?_, ?_, ?_, strs_R hs hts e1 (fun i hi => (hfg i hi).2), nests hts⟩
  · rw [e1 i hi, e2 i hi]; exact (hfg i hi).1
  · exact va_Zof (hts _ (List.mem_of_getElem? (i := 896) (by decide +kernel))) (hts _ (List.mem_of_getElem? (i := 102) (by decide +kernel))) (va_eqi (hs _ (by decide +kernel))) hA
  · exact va_Zqof (hts _ (List.mem_of_getElem? (i := 912) (by decide +kernel))) (hts _ (List.mem_of_getElem? (i := 104) (by decide +kernel))) (hs _ (by decide +kernel)) hA
end ST
