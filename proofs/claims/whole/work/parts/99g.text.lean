/-! the call text -/
section TEXT2
variable {u m : Mem} {t : Nat → Nat} {L s a k v n : Nat} {r r' r0 : Nat → Int32}
theorem Inv_wipe (h : Inv u) : Inv (mst (mst u 104 1 0) 116 14 0) := by
  obtain ⟨i1, i3⟩ := h.2.2.2.1
  obtain ⟨x, a, b, ha, hb, hI⟩ := same_tape (f := fun _ => some ((0 : Int32), mst u 104 1 0)) (g := fun _ => some (0, mst (mst u 104 1 0) 116 14 0)) (n := 0) h rfl rfl (fun y h1 _ => mst_k h1 _ _) (mst_s _ _ _ _) (by omega) (fun y h1 _ => mst_k h1 _ _) (mst_j (by omega) _ _) (mst_s _ _ _ _) (fun i hi => by rw [mst_k (by omega), mst_k (by omega)]; exact i3 i hi) (fun i hi => absurd hi (Nat.not_lt_zero _))
  have e := (Prod.mk.inj (Option.some.inj hb)).2
  rw [e]
  exact hI
def QtM (m : Mem) (r' : Nat → Int32) (M : Mem) : Prop := (∀ x, x ≠ 116 → x ≠ 117 → x ≠ 127 → M x = m x) ∧ M 117 = r' ∧ M 116 3 = m 116 3 ∧ M 116 14 = 0
def QtB (m M : Mem) : Prop := (∀ x, x ≠ 116 → x ≠ 127 → M x = m x) ∧ M 116 3 = m 116 3 ∧ M 116 14 = 0
theorem text_run (h : Inv u) {u1 : Mem} (R1 : Rep u1 65 (u 117)) (F1 : Fr 65 u u1) (hm : Hm u m) : (∃ K W M r', FX6_tellTo 65 u1 = some (nI K, W) ∧ Rep W 65 r' ∧ Wf r' ∧ KU u1 W ∧ 0 < K ∧ K ≤ 120 ∧ FX10_text m = some (nI K, M) ∧ QtM m r' M) ∨ ∃ sF W M, FX6_tellTo 65 u1 = some (-1 - nI sF, W) ∧ sF ≤ 120 ∧ KU u1 W ∧ FX10_text m = some (-1 - nI sF, M) ∧ QtB m M := by
  have hW := h.2.1
  obtain ⟨t1, t2⟩ := h.1.2.2.2.1
  obtain ⟨⟨i1, i2⟩, i3⟩ := h.2.2.2.1
  have i2 : tn (u 116 14) ≤ 120 := i2
  generalize hL : tn (u 116 14) = L at *
  have hTu : Tp u 105 (fun i => tn (u 105 i)) L := fun i hi => by
    have e := t2 i hi
    have hb := i3 i (by omega)
    rw [← e] at hb
    exact ⟨hb.1, by have : tn (u 105 i) ≤ 255 := hb.2; show tn (u 105 i) < 256; omega⟩
  have hT1 : Tp (mst u1 104 4 0) 105 (fun i => tn (u 105 i)) L := Tp_k hTu (by rw [mst_k (by omega)]; exact F1 105 (by omega))
  have hL1 : mst u1 104 4 0 104 1 = nI L := by rw [mst_j (by omega), F1 104 (by omega), t1]; exact i1
  obtain ⟨s, a, k, v, hk⟩ := tok_ex (fun i => tn (u 105 i)) (Nat.zero_le L)
  have hbk := tok_b hk (fun i hi => (hTu i hi).2)
  obtain ⟨u2, f1, f2, f3⟩ := c_nxt hk i2 hT1 hL1 (mst_s _ _ _ _)
  have hm7 : m 117 = u 117 := hm 117 (by omega)
  have e16 : ∀ j, m 116 j = u 116 j := fun j => by rw [hm 116 (by omega)]
  -- the reference's start
  have hT3 : ∀ w : Mem, w 125 = u 125 → Tp w 125 (fun i => tn (u 105 i)) L := fun w hw i hi => by
    rw [hw, ← t2 i hi]; exact hTu i hi
  have start : FX10_text m = Option.bind (FX10_next (mst (mst (mst (mst (mst (mst m 116 16 0) 116 19 0) 116 22 0) 116 23 (nI (nc (u 117)))) 116 24 (nI (ne (u 117)))) 116 25 (nI (nw (u 117))))) (fun q2 => Option.bind (FX10_readItem q2) (fun q3 => Option.bind (lp (BX10_text_56) FU q3) (fun q56_10 => JX10_text_97 q56_10))) := by
    have n1 : mst (mst (mst m 116 16 0) 116 19 0) 116 22 0 117 42 = nI (nc (u 117)) := by rw [mst_k (by omega), mst_k (by omega), mst_k (by omega), hm7]; exact (nc_eq hW).1
    have n2 : ∀ y, mst (mst (mst (mst m 116 16 0) 116 19 0) 116 22 0) 116 23 y 117 43 = nI (ne (u 117)) := fun y => by rw [mst_k (by omega), mst_k (by omega), mst_k (by omega), mst_k (by omega), hm7]; exact (ne_eq hW).1
    have n3 : ∀ y z, mst (mst (mst (mst (mst m 116 16 0) 116 19 0) 116 22 0) 116 23 y) 116 24 z 117 44 = nI (nw (u 117)) := fun y z => by rw [mst_k (by omega), mst_k (by omega), mst_k (by omega), mst_k (by omega), mst_k (by omega), hm7]; exact (nw_eq hW).1
    unfold FX10_text
    simp only [nm, n1, n2, n3]
  have b0 : BF m (mst (mst (mst (mst (mst (mst m 116 16 0) 116 19 0) 116 22 0) 116 23 (nI (nc (u 117)))) 116 24 (nI (ne (u 117)))) 116 25 (nI (nw (u 117)))) := BF_trans (BF_mst (by omega) _ _) (BF_trans (BF_mst (by omega) _ _) (BF_trans (BF_mst (by omega) _ _) (BF_trans (BF_mst (by omega) _ _) (BF_trans (BF_mst (by omega) _ _) (BF_mst (by omega) _ _)))))
  have k16 : mst (mst (mst (mst (mst (mst m 116 16 0) 116 19 0) 116 22 0) 116 23 (nI (nc (u 117)))) 116 24 (nI (ne (u 117)))) 116 25 (nI (nw (u 117))) 116 16 = nI 0 := by
    rw [mst_j (by omega), mst_j (by omega), mst_j (by omega), mst_j (by omega), mst_j (by omega), mst_s]; rfl
  have k19 : mst (mst (mst (mst (mst (mst m 116 16 0) 116 19 0) 116 22 0) 116 23 (nI (nc (u 117)))) 116 24 (nI (ne (u 117)))) 116 25 (nI (nw (u 117))) 116 19 = 0 := by
    rw [mst_j (by omega), mst_j (by omega), mst_j (by omega), mst_j (by omega), mst_s]
  have k22 : mst (mst (mst (mst (mst (mst m 116 16 0) 116 19 0) 116 22 0) 116 23 (nI (nc (u 117)))) 116 24 (nI (ne (u 117)))) 116 25 (nI (nw (u 117))) 116 22 = nI 0 := by
    rw [mst_j (by omega), mst_j (by omega), mst_j (by omega), mst_s]; rfl
  have k23 : mst (mst (mst (mst (mst (mst m 116 16 0) 116 19 0) 116 22 0) 116 23 (nI (nc (u 117)))) 116 24 (nI (ne (u 117)))) 116 25 (nI (nw (u 117))) 116 23 = nI (nc (u 117)) := by
    rw [mst_j (by omega), mst_j (by omega), mst_s]
  have k24 : mst (mst (mst (mst (mst (mst m 116 16 0) 116 19 0) 116 22 0) 116 23 (nI (nc (u 117)))) 116 24 (nI (ne (u 117)))) 116 25 (nI (nw (u 117))) 116 24 = nI (ne (u 117)) := by
    rw [mst_j (by omega), mst_s]
  have k25 : mst (mst (mst (mst (mst (mst m 116 16 0) 116 19 0) 116 22 0) 116 23 (nI (nc (u 117)))) 116 24 (nI (ne (u 117)))) 116 25 (nI (nw (u 117))) 116 25 = nI (nw (u 117)) := mst_s _ _ _ _
  rw [start]
  generalize mst (mst (mst (mst (mst (mst m 116 16 0) 116 19 0) 116 22 0) 116 23 (nI (nc (u 117)))) 116 24 (nI (ne (u 117)))) 116 25 (nI (nw (u 117))) = m1 at *
  have k14 : m1 116 14 = nI L := by rw [b0.2 14 (by omega), e16]; exact i1
  obtain ⟨m2, g1, g2, g3⟩ := m_nxt hk i2 (hT3 m1 (by rw [b0.1 125 (by omega) (by omega)]; exact hm 125 (by omega))) k14 k16
  have c : ∀ j, 19 ≤ j → m2 116 j = m1 116 j := fun j hj => g3.2 j (by omega) (by omega) (by omega) (by omega)
  have B2 : BF m m2 := BF_trans b0 (BF_NF g3)
  have J2 : JS u2 m2 (fun i => tn (u 105 i)) L s a k v := ⟨⟨f2, Tp_k hT1 (f3 105 (by omega))⟩, ⟨g2, hT3 m2 (by rw [B2.1 125 (by omega) (by omega)]; exact hm 125 (by omega)), by rw [c 19 (by omega)]; exact k19⟩, ⟨by omega, by omega, i2, by omega, by omega, fun z => ⟨hbk.2.2.2.2.2.1 z, (hbk.2.2.2.2.2.2.2 z).2⟩⟩⟩
  have KC1 : KU u1 u2 := KU_trans (fun x h1 h2 => mst_k h2 _ _) (KU_KC f3)
  have R2 : Rep0 u2 65 (u 117) := Rep0_KC (u := mst u1 104 4 0) f3 (Rep0_KC (u := u1) (fun x hx => mst_k hx _ _) (Rep_0 R1) hW) hW
  have e127 : m2 117 = u 117 := by rw [B2.1 117 (by omega) (by omega)]; exact hm7
  have hJ := J_loop (t := fun i => tn (u 105 i)) (L := L) (r0 := u 117) 121 u2 m2 s a k v 0 (u 117) J2 R2 hW (by rw [c 22 (by omega)]; exact k22) (by rw [c 23 (by omega)]; exact k23) (by rw [c 24 (by omega)]; exact k24) (by rw [c 25 (by omega)]; exact k25) (by omega) (by omega) (fun i hi => absurd hi (Nat.not_lt_zero _)) (fun i hi => by
    have : i = 0 := by omega
    subst this
    exact hW) rfl FU FU (by unfold FU; omega) (by unfold FU; omega)
  have tell : ∀ c', lp (BX6_tellTo_11 65) FU (nI 0, u2) = c' → FX6_tellTo 65 u1 = Option.bind c' (fun q11_8 => (if q11_8.1 = 0 then Option.bind (FX8_measure (65 + 4) q11_8.2.2) (fun q9 => some (q11_8.2.1, q9)) else (if q11_8.1 = 1 then some (((-1) - (q11_8.2.2 104 3)), q11_8.2.2) else (some (((-1) - (q11_8.2.2 104 3)), q11_8.2.2))))) := fun c' hc => by
    unfold FX6_tellTo
    rw [f1, bs]
    rw [show (0 : Int32) = nI 0 from rfl, hc]
  have ass : ∀ F : Mem → Option (Int32 × Mem), Option.bind (FX10_readItem m2) (fun q3 => Option.bind (lp (BX10_text_56) FU q3) F) = Option.bind (Option.bind (FX10_readItem m2) (fun q => lp BX10_text_56 FU q)) F := fun F => by
    cases FX10_readItem m2 <;> rfl
  rw [g1, bs, ass]
  rcases hJ with ⟨K, s', a', v', u', m', r', q1, q2, q3, ⟨q4, q5⟩, q6, q7, q8, ⟨q9, q10⟩, q11, q12, q13⟩ | ⟨f, x, u', m', sF, q1, q2, q3, q4, q5, q6, q7, q8, q9⟩
  · left
    rw [q2, bs]
    obtain ⟨s3, a3, k3, v3, u3, m3, j1, j2, j3, j4, j5, j6⟩ := J_go q3
    have m17 := q3.2.1.1.2.2.2.1
    have z19 : mst m3 116 14 0 116 19 = 0 := by rw [mst_j (by omega)]; exact j3.2.1.2.2
    have e7 : mst m3 116 14 0 117 = u 117 := by rw [mst_k (by omega), j5.1 117 (by omega), q8.1 117 (by omega) (by omega)]; exact e127
    have e27 : mst m3 116 14 0 127 = m' 127 := by rw [mst_k (by omega)]; exact j5.1 127 (by omega)
    have ap := m_apply (m := mst m3 116 14 0) (K := K) q10 e7 (by rw [mst_j (by omega), j5.2 22 (by omega) (by omega) (by omega) (by omega)]; exact q6) (by rw [e27]; exact q11) (by rw [e27]; exact q12)
    rw [e27, ← q13] at ap
    refine ⟨K, msr u' 65 r' 3, mrow (mst m3 116 14 0) 117 r', r', ?_, msr_Rep q4 q5, q5, KU_trans KC1 (KU_trans q7 (KU_Fr (Fr_msr _ _ _))), q9, q10, ?_, fun y h1 h2 h3 => ?_, mrow_at _ _ _, ?_, ?_⟩
    · rw [tell _ q1, bs, if_pos rfl, c_measure q4.2.2.2.2.2 q5, bs]
    · unfold JX10_text_97 JX10_text_110
      rw [if_pos (by rw [m17]; rfl), j2, bs, if_pos z19, ap, bs]
    · rw [mrow_ne h2, mst_k h1, j5.1 y h1, q8.1 y h1 h3, B2.1 y h1 h3]
    · rw [mrow_ne (by omega), mst_j (by omega), j5.2 3 (by omega) (by omega) (by omega) (by omega), q8.2 3 (by omega), B2.2 3 (by omega)]
    · rw [mrow_ne (by omega), mst_s]
  · right
    rw [q3, bs]
    have fin : ∀ M, M 116 15 = nI sF → M 116 19 = 1 → BF m M → Option.bind (some M) (fun q11 => (if ((mst q11 116 14 0) 116 19) = 0 then Option.bind (lp (BX10_text_136) FU (0, 0, (mst q11 116 14 0))) (fun q136_15 => some (q136_15.1, q136_15.2.2)) else some (((-1) - ((mst q11 116 14 0) 116 15)), (mst q11 116 14 0)))) = some (-1 - nI sF, mst M 116 14 0) ∧ QtB m (mst M 116 14 0) := fun M h1 h2 h3 => by
      refine ⟨?_, fun y y1 y2 => ?_, ?_, mst_s _ _ _ _⟩
      · rw [bs, if_neg (by rw [mst_j (by omega), h2]; decide), mst_j (by omega), h1]
      · rw [mst_k y1]; exact h3.1 y y1 y2
      · rw [mst_j (by omega)]; exact h3.2 3 (by omega)
    have tl : FX6_tellTo 65 u1 = some (-1 - nI sF, u') := by
      rw [tell _ q2, bs]
      dsimp only
      rw [q4]
      rcases q1 with rfl | rfl
      · rw [if_neg (by decide), if_pos rfl]
      · rw [if_neg (by decide), if_neg (by decide)]
    have B3 : BF m m' := BF_trans B2 q9
    by_cases z19 : m' 116 19 = 1
    · obtain ⟨y1, y2⟩ := fin m' q6 z19 B3
      refine ⟨sF, u', mst m' 116 14 0, tl, by omega, KU_trans KC1 q8, ?_, y2⟩
      unfold JX10_text_97 JX10_text_110
      rw [w_must z19, w_must z19, y1]
      split <;> rfl
    · rcases q7 with z | ⟨z1, z2⟩
      · exact absurd z z19
      · obtain ⟨y1, y2⟩ := fin (mst m' 116 19 1) (by rw [mst_j (by omega)]; exact q6) (mst_s _ _ _ _) (BF_trans B3 (BF_mst (by omega) _ _))
        refine ⟨sF, u', mst (mst m' 116 19 1) 116 14 0, tl, by omega, KU_trans KC1 q8, ?_, y2⟩
        unfold JX10_text_97 JX10_text_110
        rw [if_neg z2, must_no z1, y1]
theorem ne_fault {K sF : Nat} (h0 : 0 < K) (h1 : K ≤ 120) (h2 : sF ≤ 120) : nI K ≠ -1 - nI sF := by
  have key : ∀ K, K < 121 → ∀ sF, sF < 121 → nI K ≠ -1 - nI sF := by decide +kernel
  exact key K (by omega) sF (by omega)
theorem le_fault {sF : Nat} (h2 : sF ≤ 120) : -1 - nI sF ≤ 0 := by
  have key : ∀ sF, sF < 121 → -1 - nI sF ≤ 0 := by decide +kernel
  exact key sF (by omega)
theorem s_text (h : Inv u) : Same FX9_text FX10_text u := by
  have hR := h.1.1
  have hW := h.2.1
  have h0 := Inv_wipe h
  obtain ⟨u1, b1, b2, b3⟩ := c_become (p := 65) hR hW (by omega)
  rcases text_run h b2 b3 (m := u) (fun _ _ => rfl) with ⟨K, W, M0, r', t1, t2, t3, t4, t5, t6, t7, t8⟩ | ⟨sF, W, M0, t1, t2, t3, t4, t5⟩
  · have R3 : Rep (mst W 104 1 0) 65 r' := Rep_congr (fun x _ _ => mst_k (by omega) _ _) t3 t2
    obtain ⟨u4, c1, c2, c3⟩ := c_become (p := 1) R3 t3 (by omega)
    have hF : FX9_text u = some (nI K, u4) := by
      unfold FX9_text
      rw [b1, bs, t1, bs]
      dsimp only
      rw [if_neg (by rw [L0, nle (by omega) (by omega)]; omega), c1, bs]
    have eW : ∀ x, (x = 0 ∨ (33 ≤ x ∧ x < 65) ∨ 105 ≤ x) → u4 x = u x := fun x hx => by
      rw [c3 x (by omega), mst_k (by omega), t4 x (by omega) (by omega), b3 x (by omega)]
    have e104 : u4 104 1 = 0 := by rw [c3 104 (by omega), mst_s]
    rcases text_run h b2 b3 (m := u4) (fun x hx => eW x (by omega)) with ⟨K2, W2, M, r2, y1, y2, y3, y4, y5, y6, y7, y8, y9, y10, y11⟩ | ⟨sF, W2, M, y1, y2, y3, y4, y5⟩
    · rw [t1] at y1
      obtain ⟨p1, p2⟩ := Prod.mk.inj (Option.some.inj y1)
      rw [← p2] at y2
      have R3' : Rep (mst W 104 1 0) 65 r2 := Rep_congr (fun x _ _ => mst_k (by omega) _ _) y3 y2
      obtain ⟨u5, d1, d2, d3⟩ := c_become (p := 1) R3' y3 (by omega)
      rw [c1] at d1
      have e5 := Option.some.inj d1
      subst e5
      rw [← p1] at y7
      refine ⟨nI K, u4, M, hF, y7, ?_⟩
      obtain ⟨x, a, b, ha, hb, hI⟩ := same_row (f := fun _ => some (nI K, mst u4 116 14 0)) (g := fun _ => some (nI K, M)) (r' := r2) (u1 := mst u4 116 14 0) (u2 := M) (x := nI K) h0 (Rep_congr (fun x _ _ => mst_k (by omega) _ _) y3 d2) y3 (by
          refine ⟨fun x hx => ?_, ?_⟩
          · by_cases q : x = 116
            · subst q
              rw [mst_row, mst_row, eW 116 (by omega), mst_k (show 116 ≠ 104 by omega)]
            · rw [mst_k q, mst_k q, mst_k (by omega)]
              exact eW x hx
          · rw [mst_k (by omega), e104, mst_k (by omega), mst_s]) rfl rfl (by
          refine ⟨fun x hx => ?_, ?_, ?_⟩
          · by_cases q : x = 117
            · subst q; rw [mrow_at]; exact y9
            · rw [mrow_ne q, mst_k (by unfold keepM at hx; omega)]
              exact y8 x (by unfold keepM at hx; omega) q (by unfold keepM at hx; omega)
          · rw [mrow_ne (by omega), mst_j (by omega)]; exact y10
          · rw [mrow_ne (by omega), mst_s]; exact y11)
      have e := (Prod.mk.inj (Option.some.inj hb)).2
      rw [e]
      exact hI
    · rw [t1] at y1
      exact absurd (Prod.mk.inj (Option.some.inj y1)).1 (ne_fault t5 t6 y2)
  · have hF : FX9_text u = some (-1 - nI sF, mst W 104 1 0) := by
      unfold FX9_text
      rw [b1, bs, t1, bs]
      dsimp only
      rw [if_pos (le_fault t2)]
    have eW : ∀ x, (x < 65 ∨ 105 ≤ x) → mst W 104 1 0 x = u x := fun x hx => by
      rw [mst_k (by omega), t3 x (by omega) (by omega), b3 x (by omega)]
    rcases text_run h b2 b3 (m := mst W 104 1 0) (fun x hx => eW x (by omega)) with ⟨K2, W2, M, r2, y1, y2, y3, y4, y5, y6, y7, y8, y9, y10, y11⟩ | ⟨sF2, W2, M, y1, y2, y3, y4, y5, y6, y7⟩
    · rw [t1] at y1
      exact absurd (Prod.mk.inj (Option.some.inj y1)).1.symm (ne_fault y5 y6 t2)
    · rw [t1] at y1
      obtain ⟨p1, p2⟩ := Prod.mk.inj (Option.some.inj y1)
      rw [← p1] at y4
      refine ⟨-1 - nI sF, mst W 104 1 0, M, hF, y4, ?_⟩
      obtain ⟨x, a, b, ha, hb, hI⟩ := same_val (f := fun _ => some (-1 - nI sF, mst (mst W 104 1 0) 116 14 0)) (g := fun _ => some (-1 - nI sF, M)) h0 (u1 := mst (mst W 104 1 0) 116 14 0) (u2 := M) (x := -1 - nI sF) (by
          refine ⟨fun x hx => ?_, ?_⟩
          · by_cases q : x = 116
            · subst q
              rw [mst_row, mst_row, eW 116 (by omega), mst_k (show 116 ≠ 104 by omega)]
            · rw [mst_k q, mst_k q, eW x hx, mst_k (show x ≠ 104 by omega)]
          · rw [mst_k (by omega), mst_s, mst_k (by omega), mst_s]) rfl rfl (by
          refine ⟨fun x hx => ?_, ?_, ?_⟩
          · rw [mst_k (by unfold keepM at hx; omega)]
            exact y5 x (by unfold keepM at hx; omega) (by unfold keepM at hx; omega)
          · rw [mst_j (by omega)]; exact y6
          · rw [mst_s]; exact y7)
      have e := (Prod.mk.inj (Option.some.inj hb)).2
      rw [e]
      exact hI
end TEXT2
