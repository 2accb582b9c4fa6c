/-! Math.min, Math.max, System.arraycopy, lcmp; text constants -/
def jmin (x y : Int32) : Int32 := if y < x then y else x
def jmax (x y : Int32) : Int32 := if x < y then y else x
section RULES2
variable {S : List Shp} {ad : Nat → Nat} {G : Gh} {X : Amb} {cc : ByteArray} {own : String} {fr lo pc pc' : Nat} {L : List (Nat × Value)} {st : List Value} {u : Mem}
theorem wM_max1 : Cond.static Lib.Math.max.name ∈ BW := bw 151 (by decide +kernel) (by decide +kernel)
theorem wM_max2 : Cond.code Lib.Math.max.name Lib.Math.max.code 2 (some .int) ∈ BW := bw 152 (by decide +kernel) (by decide +kernel)
theorem wM_min1 : Cond.static Lib.Math.min.name ∈ BW := bw 661 (by decide +kernel) (by decide +kernel)
theorem wM_min2 : Cond.code Lib.Math.min.name Lib.Math.min.code 2 (some .int) ∈ BW := bw 662 (by decide +kernel) (by decide +kernel)
theorem wM_3 : Cond.initialized "java/lang/Math" ∈ BW := bw 92 (by decide +kernel) (by decide +kernel)
theorem V_mmax (C : Cx ad G X cc own fr lo) {idx : Nat} {x y : Int32} (hw : Cond.methodLink own idx Lib.Math.max.name ∈ BW) (hR : 1 ≤ fr ∧ 21 ≤ lo) (hcat : (st.map fun v => v.category).sum ≤ 8) (hd : decode cc pc = .ok (.invokestatic idx, 3)) (hp : pc + 3 = pc') (h : V S ad G X pc' L (.int (jmax x y) :: st) u) : V S ad G X pc L (.int y :: .int x :: st) u := by
  obtain ⟨l, cy, D⟩ := G
  obtain ⟨p, e, R, s, m, args, below, meth, c, cells, slots, Q, A, nL⟩ := X
  obtain ⟨hx, hb, hml, hown, hts, hK, hG, hi, hA, hcc, hcs, hfr, hlo⟩ := C
  subst hp
  exact fun hSn H locs ls hP hS hl => va_mmax hx hb (hml.trans hl.1.symm) hown (hts _ hw) (hts _ wM_max1) (hts _ wM_3) (hts _ wM_max2) (by omega) (by omega) hcc hcs hd (h hSn H locs ls hP hS hl)
theorem V_mmin (C : Cx ad G X cc own fr lo) {idx : Nat} {x y : Int32} (hw : Cond.methodLink own idx Lib.Math.min.name ∈ BW) (hR : 1 ≤ fr ∧ 21 ≤ lo) (hcat : (st.map fun v => v.category).sum ≤ 8) (hd : decode cc pc = .ok (.invokestatic idx, 3)) (hp : pc + 3 = pc') (h : V S ad G X pc' L (.int (jmin x y) :: st) u) : V S ad G X pc L (.int y :: .int x :: st) u := by
  obtain ⟨l, cy, D⟩ := G
  obtain ⟨p, e, R, s, m, args, below, meth, c, cells, slots, Q, A, nL⟩ := X
  obtain ⟨hx, hb, hml, hown, hts, hK, hG, hi, hA, hcc, hcs, hfr, hlo⟩ := C
  subst hp
  exact fun hSn H locs ls hP hS hl => va_mmin hx hb (hml.trans hl.1.symm) hown (hts _ hw) (hts _ wM_min1) (hts _ wM_3) (hts _ wM_min2) (by omega) (by omega) hcc hcs hd (h hSn H locs ls hP hS hl)
theorem wC_1 : Cond.native arraycopyName ∈ BW := bw 779 (by decide +kernel) (by decide +kernel)
theorem wC_2 : Cond.static arraycopyName ∈ BW := bw 778 (by decide +kernel) (by decide +kernel)
theorem wC_3 : Cond.initialized "java/lang/System" ∈ BW := bw 101 (by decide +kernel) (by decide +kernel)
theorem V_acopy (C : Cx ad G X cc own fr lo) {idx k0 k1 n0 n1 : Nat} (h0 : S[k0]? = some (.inr ((0, n0), none))) (h1 : S[k1]? = some (.inr ((0, n1), none))) {sp dp n : Int32} (g1 : ¬ sp < 0) (g2 : ¬ dp < 0) (g3 : ¬ n < 0) (g4 : sp.toNatClampNeg + n.toNatClampNeg ≤ n0) (g5 : dp.toNatClampNeg + n.toNatClampNeg ≤ n1) (hw : Cond.methodLink own idx arraycopyName ∈ BW) (hR : 1 ≤ fr ∧ 30 ≤ lo) (hcat : (st.map fun v => v.category).sum ≤ 8) (hd : decode cc pc = .ok (.invokestatic idx, 3)) (hp : pc + 3 = pc') (h : V S ad G X pc' L st (mcp u k0 k1 sp.toNatClampNeg dp.toNatClampNeg n.toNatClampNeg)) : V S ad G X pc L (.int n :: .int dp :: .ref (ad k1) :: .int sp :: .ref (ad k0) :: st) u := by
  obtain ⟨l, cy, D⟩ := G
  obtain ⟨p, e, R, s, m, args, below, meth, c, cells, slots, Q, A, nL⟩ := X
  obtain ⟨hx, hb, hml, hown, hts, hK, hG, hi, hA, hcc, hcs, hfr, hlo⟩ := C
  subst hp
  intro hSn H locs ls hP hS hl
  have hD : va_D A (wdo S ad cy u) := wdo_D (fun i j a b => hi i j (Nat.lt_of_lt_of_le a hSn) (Nat.lt_of_lt_of_le b hSn)) (fun k a => hA k (Nat.lt_of_lt_of_le a hSn))
  have hnw : nativeFrameWords "java/lang/System" "arraycopy" 5 + 11 ≤ 22 := by decide
  refine va_copyi hx hb (hml.trans hl.1.symm) hown (hts _ hw) (hts _ wC_1) (hts _ wC_2) (hts _ wC_3) hK hP hD hS k0 k1 0 0 (ty := .int) (wdo_get h0 ad cy u) (wdo_get h1 ad cy u) rfl rfl rfl g1 g2 g3 g4 g5 (fun _ _ => rfl) (by omega) (by omega) hd (fun H1 locs1 hP1 _ hS1 => ?_)
  refine h hSn H1 locs1 ls ?_ hS1 hl
  have e2 : _ = wdo S ad cy (mcp u k0 k1 sp.toNatClampNeg dp.toNatClampNeg n.toNatClampNeg) := wdo_set h1 ad cy u (va_cpy (u k0) (u k1) sp.toNatClampNeg dp.toNatClampNeg n.toNatClampNeg)
  show va_P D vwCl (wdo S ad cy _) H1
  rw [← e2]
  exact hP1
theorem V_aaldA (C : Cx ad G X cc own fr lo) {k t n q : Nat} {lst : List (Option Nat)} {et : FieldType} (hsh : S[k]? = some (.inr ((t, n), some lst))) (ht : ∀ cy : Nat → ClassId, (tyl cy)[t]? = some (cy t, .array et)) {i : Int32} (hin : vp_in i n) (hq : lst.getD i.toNatClampNeg none = some q) (hd : decode cc pc = .ok (.aaload, 1)) (hp : pc + 1 = pc') (h : V S ad G X pc' L (.ref (ad q) :: st) u) : V S ad G X pc L (.int i :: .ref (ad k) :: st) u := by
  obtain ⟨l, cy, D⟩ := G
  obtain ⟨p, e, R, s, m, args, below, meth, c, cells, slots, Q, A, nL⟩ := X
  obtain ⟨hx, hb, hml, hown, hts, hK, hG, hi, hA, hcc, hcs, hfr, hlo⟩ := C
  subst hp
  intro hSn H locs ls hP hS hl
  have hlt : i.toNatClampNeg < n := Nat.not_le.mp fun z => hin (Or.inr z)
  have e : rfs ad lst n i.toNatClampNeg = some (ad q) := by unfold rfs; rw [if_pos hlt, hq]; rfl
  have hv : (vp_cell (cy t) (n, .inr (.inr (.inr (.inr (rfs ad lst n)))))).slots[i.toNatClampNeg]? = some (.ref (ad q)) := by
    rw [vp_cell_q, arrV_read _ _ hlt, e]; rfl
  exact W.aald (v := .ref (ad q)) (ty := .array et) hx hb (hP k _ (wdo_get hsh ad cy u)) ((hK.2 t _ (ht cy)).1 n (fun j => va_rf (rfs ad lst n j))) rfl (fun z => by cases z) (by show ¬ (i < 0 ∨ (arrV _ _ _).slots.size ≤ _); rw [arrV_size]; exact hin) hv rfl rfl hd (h hSn H locs ls hP hS hl)
theorem V_lcmp (C : Cx ad G X cc own fr lo) {x y : Int64} (hd : decode cc pc = .ok (.lcmp, 1)) (hp : pc + 1 = pc') (h : V S ad G X pc' L (.int (lg_cmp x y) :: st) u) : V S ad G X pc L (.long y :: .long x :: st) u := by
  obtain ⟨l, cy, D⟩ := G
  obtain ⟨p, e, R, s, m, args, below, meth, c, cells, slots, Q, A, nL⟩ := X
  obtain ⟨hx, hb, hml, hown, hts, hK, hG, hi, hA, hcc, hcs, hfr, hlo⟩ := C
  subst hp
  exact fun hSn H locs ls hP hS hl => W.lcmp hx hb hd (h hSn H locs ls hP hS hl)
theorem V_i2c (C : Cx ad G X cc own fr lo) {x : Int32} (hd : decode cc pc = .ok (.i2c, 1)) (hp : pc + 1 = pc') (h : V S ad G X pc' L (.int (x.toUInt32 % 65536).toInt32 :: st) u) : V S ad G X pc L (.int x :: st) u := by
  obtain ⟨l, cy, D⟩ := G
  obtain ⟨p, e, R, s, m, args, below, meth, c, cells, slots, Q, A, nL⟩ := X
  obtain ⟨hx, hb, hml, hown, hts, hK, hG, hi, hA, hcc, hcs, hfr, hlo⟩ := C
  subst hp
  exact fun hSn H locs ls hP hS hl => lv_i2c hx hb hd rfl (h hSn H locs ls hP hS hl)
theorem V_sval (C : Cx ad G X cc own fr lo) {i idx : Nat} (h16 : i < 16) (hw : Cond.fieldLink own idx "java/lang/String" "value" "[B" ∈ BW) (hd : decode cc pc = .ok (.getfield idx, 3)) (hp : pc + 3 = pc') (h : V S ad G X pc' L (.ref (ad (1100 + i)) :: st) u) : V S ad G X pc L (.ref (ad (1000 + i)) :: st) u := by
  obtain ⟨l, cy, D⟩ := G
  obtain ⟨p, e, R, s, m, args, below, meth, c, cells, slots, Q, A, nL⟩ := X
  obtain ⟨hx, hb, hml, hown, hts, hK, hG, hi, hA, hcc, hcs, hfr, hlo⟩ := C
  subst hp
  exact fun hSn H locs ls hP hS hl => vk_getf hx hb ((hG.2.2.2.1 i h16).1 0 (by omega)).2.2.1 hS hown (hts _ hw) (fun _ h9 => h9) hd (h hSn H locs ls hP hS hl)
theorem V_scod (C : Cx ad G X cc own fr lo) {i idx : Nat} (h16 : i < 16) (hw : Cond.fieldLink own idx "java/lang/String" "coder" "B" ∈ BW) (hd : decode cc pc = .ok (.getfield idx, 3)) (hp : pc + 3 = pc') (h : V S ad G X pc' L (.int 0 :: st) u) : V S ad G X pc L (.ref (ad (1000 + i)) :: st) u := by
  obtain ⟨l, cy, D⟩ := G
  obtain ⟨p, e, R, s, m, args, below, meth, c, cells, slots, Q, A, nL⟩ := X
  obtain ⟨hx, hb, hml, hown, hts, hK, hG, hi, hA, hcc, hcs, hfr, hlo⟩ := C
  subst hp
  exact fun hSn H locs ls hP hS hl => vk_getf hx hb ((hG.2.2.2.1 i h16).1 0 (by omega)).2.1 hS hown (hts _ hw) (fun _ h9 => h9) hd (h hSn H locs ls hP hS hl)
theorem V_slen (C : Cx ad G X cc own fr lo) {i : Nat} (h16 : i < 16) (hd : decode cc pc = .ok (.arraylength, 1)) (hp : pc + 1 = pc') (h : V S ad G X pc' L (.int (nI (strL.getD i []).length) :: st) u) : V S ad G X pc L (.ref (ad (1100 + i)) :: st) u := by
  obtain ⟨l, cy, D⟩ := G
  obtain ⟨p, e, R, s, m, args, below, meth, c, cells, slots, Q, A, nL⟩ := X
  obtain ⟨hx, hb, hml, hown, hts, hK, hG, hi, hA, hcc, hcs, hfr, hlo⟩ := C
  subst hp
  exact fun hSn H locs ls hP hS hl => va_tlen hx hb ((hG.2.2.2.1 i h16).1 0 (by omega)).2.2.2 hS rfl hd (h hSn H locs ls hP hS hl)
theorem V_sbald (C : Cx ad G X cc own fr lo) {i : Nat} (h16 : i < 16) {x : Int32} (hin : vp_in x (strL.getD i []).length) (hd : decode cc pc = .ok (.baload, 1)) (hp : pc + 1 = pc') (h : V S ad G X pc' L (.int ((strL.getD i []).getD x.toNatClampNeg 0) :: st) u) : V S ad G X pc L (.int x :: .ref (ad (1100 + i)) :: st) u := by
  obtain ⟨l, cy, D⟩ := G
  obtain ⟨p, e, R, s, m, args, below, meth, c, cells, slots, Q, A, nL⟩ := X
  obtain ⟨hx, hb, hml, hown, hts, hK, hG, hi, hA, hcc, hcs, hfr, hlo⟩ := C
  subst hp
  exact fun hSn H locs ls hP hS hl => va_tb hx hb ((hG.2.2.2.1 i h16).1 0 (by omega)).2.2.2 hS hin rfl hd (h hSn H locs ls hP hS hl)
theorem V_compact (C : Cx ad G X cc own fr lo) {idx : Nat} (hw : Cond.fieldLink own idx "java/lang/String" "COMPACT_STRINGS" "Z" ∈ BW) (hd : decode cc pc = .ok (.getstatic idx, 3)) (hp : pc + 3 = pc') (h : V S ad G X pc' L (.int 1 :: st) u) : V S ad G X pc L st u := by
  obtain ⟨l, cy, D⟩ := G
  obtain ⟨p, e, R, s, m, args, below, meth, c, cells, slots, Q, A, nL⟩ := X
  obtain ⟨hx, hb, hml, hown, hts, hK, hG, hi, hA, hcc, hcs, hfr, hlo⟩ := C
  subst hp
  exact fun hSn H locs ls hP hS hl => va_gets hx hb hG.2.2.2.2.1 hS hown (hts _ hw) (fun _ h9 => h9) hd (h hSn H locs ls hP hS hl)
theorem V_fmt (C : Cx ad G X cc own fr lo) {idx : Nat} (hw : Cond.fieldLink own idx "jdk/internal/util/Preconditions" "SIOOBE_FORMATTER" "Ljava/util/function/BiFunction;" ∈ BW) (hd : decode cc pc = .ok (.getstatic idx, 3)) (hp : pc + 3 = pc') (h : ∀ r : Option Nat, V S ad G X pc' L (va_rf r :: st) u) : V S ad G X pc L st u := by
  obtain ⟨l, cy, D⟩ := G
  obtain ⟨p, e, R, s, m, args, below, meth, c, cells, slots, Q, A, nL⟩ := X
  obtain ⟨hx, hb, hml, hown, hts, hK, hG, hi, hA, hcc, hcs, hfr, hlo⟩ := C
  subst hp
  rcases hG.2.2.2.2.2.1 with hz | ⟨t, hz⟩
  · exact fun hSn H locs ls hP hS hl => va_gets hx hb hz hS hown (hts _ hw) (fun _ h9 => h9) hd (h none hSn H locs ls hP hS hl)
  · exact fun hSn H locs ls hP hS hl => va_gets hx hb hz hS hown (hts _ hw) (fun _ h9 => h9) hd (h (some t) hSn H locs ls hP hS hl)
theorem V_callT (C : Cx ad G X cc own fr lo) {stk : List Value} {u' : Mem} {y : MethodName} {bytes : ByteArray} {maxL fr' lo' b idx n : Nat} {ret : Option FieldType} {As : List Value} {r : Option Value} (hb16 : b < 16) (hcls : y.cls = "java/lang/String") (M : MFv y bytes maxL ret n) (hw : Cond.methodLink own idx y ∈ BW) (hR : fr' + 1 ≤ fr ∧ 8 + (maxL + 11) + lo' ≤ lo) (hn : As.length = n) (hst : stk = As.reverse ++ .ref (ad (1000 + b)) :: st) (hcat : (st.map fun v => v.category).sum ≤ 8) (hd : decode cc pc = .ok (.invokevirtual idx, 3)) (hp : pc + 3 = pc') (hc : Ct S ad G y bytes maxL ret fr' lo' (.ref (ad (1000 + b)) :: As) u r u') (h : V S ad G X pc' L (r.toList ++ st) u') : V S ad G X pc L stk u := by
  obtain ⟨l, cy, D⟩ := G
  obtain ⟨p, e, R, s, m, args, below, meth, c, cells, slots, Q, A, nL⟩ := X
  obtain ⟨hx, hb, hml, hown, hts, hK, hG, hi, hA, hcc, hcs, hfr, hlo⟩ := C
  subst hp; subst hst
  obtain ⟨m1, m2, m3, m4, m5, m6, m7⟩ := M
  have cw := cwV (R := R) (s := s) (args := args) (own := own) (C := y.cls) (index := idx) (y := y) (bytes := bytes) (maxL := maxL) (ret := ret) (Ts := BW) (ws := .code y bytes maxL ret :: BW) (ws' := BW) (rm := CtR fr' lo') (mc := 0) (ms := 0) n hts (fun w hw' => by
    rcases List.mem_append.mp (show w ∈ ([.methodLink own idx y, .instanceMethod y, .selects y.cls y y, .initialized y.cls] : List Cond) ++ (.code y bytes maxL ret :: BW) from hw') with q | q
    · rcases List.mem_cons.mp q with q | q
      · rw [q]; exact bw_self _ hw
      · rcases List.mem_cons.mp q with q | q
        · rw [q]; exact bw_self _ m1
        · rcases List.mem_cons.mp q with q | q
          · rw [q]; exact bw_self _ m2
          · rcases List.mem_cons.mp q with q | q
            · rw [q]; exact bw_self _ m3
            · exact absurd q List.not_mem_nil
    · exact in_code m4 _ q) rfl rfl rfl ⟨rfl, m5, m6, m7⟩ ⟨Nat.le_trans hR.1 hfr, Nat.le_trans hR.2 hlo⟩
  intro hSn H locs ls hP hS hl
  have hrec := vk_recv (hG.2.2.2.1 b hb16) (Nat.lt_succ_self 0) hS
  rw [← hcls] at hrec
  exact W_aft (va_runV (rest := st) ⟨hx, hb, hml, hown, hts⟩ hc cw ⟨CtP_blind, hrec, Cx_pre hK hG hi hA hSn hP hS⟩ rfl hn hl.1 rfl (lv_room hcat) hd ⟨hcc, hcs⟩) hS (fun q hq => by obtain ⟨k, hk, rfl⟩ := hq; exact hA k hk) (fun H1 locs1 hP1 hS1 => h hSn H1 locs1 ls hP1 hS1 hl)
end RULES2
theorem M_coder : MFv yJ0_coder_7d493 cJ0_coder_7d493 1 (some .byte) 0 := ⟨bw 892 (by decide +kernel) (by decide +kernel), bw 893 (by decide +kernel) (by decide +kernel), bw 102 (by decide +kernel) (by decide +kernel), bw 894 (by decide +kernel) (by decide +kernel), by decide +kernel, by decide +kernel, by decide +kernel⟩
theorem M_isLatin1 : MFv yJ0_isLatin1_aae02 cJ0_isLatin1_aae02 1 (some .boolean) 0 := ⟨bw 902 (by decide +kernel) (by decide +kernel), bw 903 (by decide +kernel) (by decide +kernel), bw 102 (by decide +kernel) (by decide +kernel), bw 904 (by decide +kernel) (by decide +kernel), by decide +kernel, by decide +kernel, by decide +kernel⟩
theorem M_length : MFv yJ0_length_8abf5 cJ0_length_8abf5 1 (some .int) 0 := ⟨bw 888 (by decide +kernel) (by decide +kernel), bw 889 (by decide +kernel) (by decide +kernel), bw 102 (by decide +kernel) (by decide +kernel), bw 890 (by decide +kernel) (by decide +kernel), by decide +kernel, by decide +kernel, by decide +kernel⟩
theorem M_charAt : MFv yJ0_charAt_5068e cJ0_charAt_5068e 2 (some .char) 1 := ⟨bw 898 (by decide +kernel) (by decide +kernel), bw 899 (by decide +kernel) (by decide +kernel), bw 102 (by decide +kernel) (by decide +kernel), bw 900 (by decide +kernel) (by decide +kernel), by decide +kernel, by decide +kernel, by decide +kernel⟩
theorem M_checkIndex : MFs yJ0_checkIndex_df160 cJ0_checkIndex_df160 2 none 2 := ⟨bw 909 (by decide +kernel) (by decide +kernel), bw 102 (by decide +kernel) (by decide +kernel), bw 910 (by decide +kernel) (by decide +kernel), by decide +kernel, by decide +kernel, by decide +kernel⟩
theorem M_charAtL : MFs yJ1_charAt_3b067 cJ1_charAt_3b067 2 (some .char) 2 := ⟨bw 906 (by decide +kernel) (by decide +kernel), bw 103 (by decide +kernel) (by decide +kernel), bw 907 (by decide +kernel) (by decide +kernel), by decide +kernel, by decide +kernel, by decide +kernel⟩
theorem M_preCheck : MFs yJ3_checkIndex_8e157 cJ3_checkIndex_8e157 3 (some .int) 3 := ⟨bw 914 (by decide +kernel) (by decide +kernel), bw 104 (by decide +kernel) (by decide +kernel), bw 915 (by decide +kernel) (by decide +kernel), by decide +kernel, by decide +kernel, by decide +kernel⟩
set_option maxHeartbeats 1000000 in
set_option maxRecDepth 20000 in
theorem c_coder {S : List Shp} {ad : Nat → Nat} {G : Gh} {u : Mem} {i : Nat} (h16 : i < 16) : Ct S ad G yJ0_coder_7d493 cJ0_coder_7d493 1 (some .byte) 0 0 [.ref (ad (1000 + i))] u (some (.int 0)) u := by
  refine Ct_ofI (by decide) (Nat.le_refl 1) (fun X C hnL K => ?_)
  refine V_compact C (bw 895 (by decide +kernel) (by decide +kernel)) dJ0_coder_7d493_0 rfl ?_
  refine V_if_eq C dJ0_coder_7d493_3 (tgt := 13) rfl rfl (fun q => absurd q (by decide)) (fun _ => ?_)
  refine V_aload_n C 0 dJ0_coder_7d493_6 rfl rfl rfl ?_
  refine V_scod C h16 (bw 1654 (by decide +kernel) (by decide +kernel)) dJ0_coder_7d493_7 rfl ?_
  refine V_goto C dJ0_coder_7d493_10 (tgt := 14) rfl ?_
  exact K _ _ _ dJ0_coder_7d493_14 rfl (by decide)
set_option maxHeartbeats 1000000 in
set_option maxRecDepth 20000 in
theorem c_isLatin1 {S : List Shp} {ad : Nat → Nat} {G : Gh} {u : Mem} {i : Nat} (h16 : i < 16) : Ct S ad G yJ0_isLatin1_aae02 cJ0_isLatin1_aae02 1 (some .boolean) 0 0 [.ref (ad (1000 + i))] u (some (.int 1)) u := by
  refine Ct_ofI (by decide) (Nat.le_refl 1) (fun X C hnL K => ?_)
  refine V_compact C (bw 895 (by decide +kernel) (by decide +kernel)) dJ0_isLatin1_aae02_0 rfl ?_
  refine V_if_eq C dJ0_isLatin1_aae02_3 (tgt := 17) rfl rfl (fun q => absurd q (by decide)) (fun _ => ?_)
  refine V_aload_n C 0 dJ0_isLatin1_aae02_6 rfl rfl rfl ?_
  refine V_scod C h16 (bw 1654 (by decide +kernel) (by decide +kernel)) dJ0_isLatin1_aae02_7 rfl ?_
  refine V_if_ne C dJ0_isLatin1_aae02_10 (tgt := 17) rfl rfl (fun q => absurd rfl q) (fun _ => ?_)
  refine V_iconst C dJ0_isLatin1_aae02_13 rfl (v := 1) rfl ?_
  refine V_goto C dJ0_isLatin1_aae02_14 (tgt := 18) rfl ?_
  exact K _ _ _ dJ0_isLatin1_aae02_18 rfl (by decide)
theorem getD_mem {l : List Int32} {j : Nat} (h : j < l.length) : l.getD j 0 ∈ l := by
  rw [List.getD_eq_getElem?_getD, List.getElem?_eq_getElem h]
  exact List.getElem_mem h
def slen (i : Nat) : Int32 := nI (strL.getD i []).length
def sch (i : Nat) (x : Int32) : Int32 := (strL.getD i []).getD x.toNatClampNeg 0
theorem str_all : ∀ i, i < 16 → (strL.getD i []).length < 100 ∧ ∀ b ∈ strL.getD i [], ((b &&& 255).toUInt32 % 65536).toInt32 = b ∧ narrow .char (.int b) = .int b := by decide +kernel
set_option maxHeartbeats 1000000 in
set_option maxRecDepth 20000 in
theorem c_length {S : List Shp} {ad : Nat → Nat} {G : Gh} {u : Mem} {i : Nat} (h16 : i < 16) : Ct S ad G yJ0_length_8abf5 cJ0_length_8abf5 1 (some .int) 1 20 [.ref (ad (1000 + i))] u (some (.int (slen i))) u := by
  refine Ct_ofI (by decide) (Nat.le_refl 1) (fun X C hnL K => ?_)
  refine V_aload_n C 0 dJ0_length_8abf5_0 rfl rfl rfl ?_
  refine V_sval C h16 (bw 1653 (by decide +kernel) (by decide +kernel)) dJ0_length_8abf5_1 rfl ?_
  refine V_slen C h16 dJ0_length_8abf5_4 rfl ?_
  refine V_aload_n C 0 dJ0_length_8abf5_5 rfl rfl rfl ?_
  refine V_callT C h16 rfl M_coder (bw 891 (by decide +kernel) (by decide +kernel)) ⟨by decide, by decide⟩ rfl rfl (Nat.le_of_ble_eq_true rfl) dJ0_length_8abf5_6 rfl (c_coder h16) ?_
  refine V_ishr C dJ0_length_8abf5_9 rfl ?_
  refine K _ _ _ dJ0_length_8abf5_10 ?_ rfl
  exact congrArg (fun z => some (Value.int z)) (sb_shr0 _).symm
set_option maxHeartbeats 1000000 in
set_option maxRecDepth 20000 in
theorem c_preCheck {S : List Shp} {ad : Nat → Nat} {G : Gh} {u : Mem} {x n : Int32} (r : Option Nat) (h0 : ¬ x < 0) (h1 : x < n) : Ct S ad G yJ3_checkIndex_8e157 cJ3_checkIndex_8e157 3 (some .int) 0 0 [.int x, .int n, va_rf r] u (some (.int x)) u := by
  have hle : (lg_sl [.int x, .int n, va_rf r]).length ≤ 3 := by cases r <;> exact Nat.le_refl 3
  refine Ct_ofI (by decide) hle (fun X C hnL K => ?_)
  refine V_sub (L' := [(0, .int x), (1, .int n)]) [0, 1] rfl ?_
  refine V_iload_n C 0 dJ3_checkIndex_8e157_0 rfl rfl rfl ?_
  refine V_if_lt C dJ3_checkIndex_8e157_1 (tgt := 9) rfl rfl (fun q => absurd q h0) (fun _ => ?_)
  refine V_iload_n C 0 dJ3_checkIndex_8e157_4 rfl rfl rfl ?_
  refine V_iload_n C 1 dJ3_checkIndex_8e157_5 rfl rfl rfl ?_
  refine V_icmp_lt C dJ3_checkIndex_8e157_6 (tgt := 16) rfl rfl (fun _ => ?_) (fun q => absurd h1 q)
  refine V_iload_n C 0 dJ3_checkIndex_8e157_16 rfl rfl rfl ?_
  exact K _ _ _ dJ3_checkIndex_8e157_17 rfl rfl
set_option maxHeartbeats 1000000 in
set_option maxRecDepth 20000 in
theorem c_checkIndex {S : List Shp} {ad : Nat → Nat} {G : Gh} {u : Mem} {x n : Int32} (h0 : ¬ x < 0) (h1 : x < n) : Ct S ad G yJ0_checkIndex_df160 cJ0_checkIndex_df160 2 none 1 22 [.int x, .int n] u none u := by
  refine Ct_ofV (by decide) (Nat.le_refl 2) (fun X C hnL K => ?_)
  refine V_iload_n C 0 dJ0_checkIndex_df160_0 rfl rfl rfl ?_
  refine V_iload_n C 1 dJ0_checkIndex_df160_1 rfl rfl rfl ?_
  refine V_fmt C (bw 911 (by decide +kernel) (by decide +kernel)) dJ0_checkIndex_df160_2 rfl (fun r => ?_)
  refine V_callS C M_preCheck (bw 913 (by decide +kernel) (by decide +kernel)) ⟨by decide, by decide⟩ rfl rfl (Nat.le_of_ble_eq_true rfl) dJ0_checkIndex_df160_5 rfl (c_preCheck r h0 h1) ?_
  refine V_pop C dJ0_checkIndex_df160_8 rfl rfl ?_
  exact K _ _ dJ0_checkIndex_df160_9 rfl
set_option maxHeartbeats 1000000 in
set_option maxRecDepth 20000 in
theorem c_charAtL {S : List Shp} {ad : Nat → Nat} {G : Gh} {u : Mem} {i : Nat} (h16 : i < 16) {x : Int32} (hin : vp_in x (strL.getD i []).length) : Ct S ad G yJ1_charAt_3b067 cJ1_charAt_3b067 2 (some .char) 2 43 [.ref (ad (1100 + i)), .int x] u (some (.int (sch i x))) u := by
  obtain ⟨hl, hb⟩ := str_all i h16
  obtain ⟨j, hj, rfl⟩ := vp_in_of hin (by omega)
  refine Ct_ofI (by decide) (Nat.le_refl 2) (fun X C hnL K => ?_)
  refine V_iload_n C 1 dJ1_charAt_3b067_0 rfl rfl rfl ?_
  refine V_aload_n C 0 dJ1_charAt_3b067_1 rfl rfl rfl ?_
  refine V_slen C h16 dJ1_charAt_3b067_2 rfl ?_
  refine V_callS C M_checkIndex (bw 908 (by decide +kernel) (by decide +kernel)) ⟨by decide, by decide⟩ rfl rfl (Nat.le_of_ble_eq_true rfl) dJ1_charAt_3b067_3 rfl (c_checkIndex (nI_pos (by omega)) (nI_lt hj (by omega))) ?_
  refine V_aload_n C 0 dJ1_charAt_3b067_6 rfl rfl rfl ?_
  refine V_iload_n C 1 dJ1_charAt_3b067_7 rfl rfl rfl ?_
  refine V_sbald C h16 hin dJ1_charAt_3b067_8 rfl ?_
  refine V_sipush C dJ1_charAt_3b067_9 rfl (v := 255) rfl ?_
  refine V_iand C dJ1_charAt_3b067_12 rfl ?_
  refine V_i2c C dJ1_charAt_3b067_13 rfl ?_
  have hm : (strL.getD i []).getD (nI j).toNatClampNeg 0 ∈ strL.getD i [] := by
    rw [nI_clamp (by omega)]
    exact getD_mem hj
  obtain ⟨e1, e2⟩ := hb _ hm
  refine K _ _ _ dJ1_charAt_3b067_14 ?_ ?_
  · rw [e1]; rfl
  · rw [e1]; exact e2
set_option maxHeartbeats 1000000 in
set_option maxRecDepth 20000 in
theorem c_charAt {S : List Shp} {ad : Nat → Nat} {G : Gh} {u : Mem} {i : Nat} (h16 : i < 16) {x : Int32} (hin : vp_in x (strL.getD i []).length) : Ct S ad G yJ0_charAt_5068e cJ0_charAt_5068e 2 (some .char) 3 64 [.ref (ad (1000 + i)), .int x] u (some (.int (sch i x))) u := by
  obtain ⟨hl, hb⟩ := str_all i h16
  refine Ct_ofI (by decide) (Nat.le_refl 2) (fun X C hnL K => ?_)
  refine V_aload_n C 0 dJ0_charAt_5068e_0 rfl rfl rfl ?_
  refine V_callT C h16 rfl M_isLatin1 (bw 901 (by decide +kernel) (by decide +kernel)) ⟨by decide, by decide⟩ rfl rfl (Nat.le_of_ble_eq_true rfl) dJ0_charAt_5068e_1 rfl (c_isLatin1 h16) ?_
  refine V_if_eq C dJ0_charAt_5068e_4 (tgt := 16) rfl rfl (fun q => absurd q (by decide)) (fun _ => ?_)
  refine V_aload_n C 0 dJ0_charAt_5068e_7 rfl rfl rfl ?_
  refine V_sval C h16 (bw 1653 (by decide +kernel) (by decide +kernel)) dJ0_charAt_5068e_8 rfl ?_
  refine V_iload_n C 1 dJ0_charAt_5068e_11 rfl rfl rfl ?_
  refine V_callS C M_charAtL (bw 905 (by decide +kernel) (by decide +kernel)) ⟨by decide, by decide⟩ rfl rfl (Nat.le_of_ble_eq_true rfl) dJ0_charAt_5068e_12 rfl (c_charAtL h16 hin) ?_
  refine K _ _ _ dJ0_charAt_5068e_15 rfl ?_
  obtain ⟨j, hj, rfl⟩ := vp_in_of hin (by omega)
  have hm : (strL.getD i []).getD (nI j).toNatClampNeg 0 ∈ strL.getD i [] := by
    rw [nI_clamp (by omega)]
    exact getD_mem hj
  exact (hb _ hm).2
