/-! the class' rounds -/
section FIND4
variable {u : Mem} {r : Nat → Int32} {B : Nat}
theorem mn7_lp {Bf : (Int32 × Int32 → Option (Int32 × Int32)) → Int32 × Int32 → Option (Int32 × Int32)} {f : Nat → Nat} (hf : ∀ p, f p ≤ 1000000) (hs : ∀ p, p < 7 → ∀ a rec, Bf rec (a, nI p) = rec (jmin a (nI (f p)), nI p + 1)) (he : ∀ a rec, Bf rec (a, nI 7) = some (a, nI 7)) : lp Bf FU (1000000, 0) = some (nI (mn7 f 7), nI 7) := by
  refine lp_for Bf (fun p => (nI (mn7 f p), nI p)) _ 7 (by omega) (fun p hp rec => ?_) (fun rec => he _ rec)
  show Bf rec (nI (mn7 f p), nI p) = rec (nI (mn7 f (p + 1)), nI (p + 1))
  have h1 : mn7 f p ≤ 1000000 := mn7_le f p
  have h2 := hf p
  rw [hs p hp, nmin (by omega) (by omega), nI_1]
  rfl
theorem c_part {u1 : Mem} {ρ : Nat → Int32} {T : Nat → Nat → Nat} {s S : Nat} (hw : Wf r) (hp : pcn s ≤ 5) (hS : S < 256) (hg : Gat u1 r s (ne r)) (hT : TB ρ (3 ^ chK s (ne r)) T) (hle : ∀ c p, T c p ≤ 1000000) : FX4_yardsOfPart (nI S) (mrow u1 102 ρ) = some (nI (mn7 (T (cdS (nuF s (ne r)) S (chK s (ne r)))) 7)) := by
  have h8 := ne_eq hw
  have hk5 := chK_le hp h8.2
  obtain ⟨n1, n2, n3⟩ := nu_all s (ne r)
  obtain ⟨g1, g2⟩ := hg
  generalize hK : chK s (ne r) = k at *
  generalize hN : nuF s (ne r) = num at *
  have h3 := p3k (show k < 6 by omega)
  have hcd := (cdS_dg (num := num) (S := S) (show k < 6 by omega) k (Nat.le_refl _)).1
  have e97 : mrow u1 102 ρ 97 = u1 97 := mrow_ne (by omega) _
  have e98 : mrow u1 102 ρ 98 = u1 98 := mrow_ne (by omega) _
  have e102 : mrow u1 102 ρ 102 = ρ := mrow_at _ _ _
  have in1 : lp (BX4_yardsOfPart_4 (nI S) (mrow u1 102 ρ)) FU (0, 0) = some (nI (cdS num S k), nI k) := by
    refine lp_for (BX4_yardsOfPart_4 (nI S) (mrow u1 102 ρ)) (fun i => (nI (cdS num S i), nI i)) _ k (by omega) (fun i hi rec => ?_) (fun rec => ?_)
    · show BX4_yardsOfPart_4 (nI S) (mrow u1 102 ρ) rec (nI (cdS num S i), nI i) = rec (nI (cdS num S (i + 1)), nI (i + 1))
      have ci : (nI i).toNatClampNeg = i := ncl (by omega)
      obtain ⟨p1, p2, p3⟩ := pw3 (show i < 6 by omega)
      dsimp only [BX4_yardsOfPart_4]
      simp only [e97, g1, e98, ci, (g2 i hi).1, p1]
      rw [if_neg (n_ngt hi (by omega)), if_pos (inb_t (by omega) (by omega)), nhas hS (by have := (n1 i hi).1; omega), b2]
      by_cases y : hs S (num i) = true
      · rw [if_pos y, if_pos (inb_t (by omega) (by omega)), L2, nmul, nadd, nI_1]
        rw [show cdS num S (i + 1) = cdS num S i + 2 * 3 ^ i from if_pos y]
      · rw [if_neg y, nI_1]
        rw [show cdS num S (i + 1) = cdS num S i from if_neg y]
    · show BX4_yardsOfPart_4 (nI S) (mrow u1 102 ρ) rec (nI (cdS num S k), nI k) = _
      dsimp only [BX4_yardsOfPart_4]
      simp only [e97, g1]
      rw [if_pos (n_ge (Nat.le_refl _) (by omega))]
  unfold FX4_yardsOfPart
  rw [in1, bs]
  refine lp_bind (mn7_lp (f := T (cdS num S k)) (fun p => hle _ p) (fun p hp a rec => ?_) (fun a rec => ?_)) rfl
  · have cp : (nI (7 * cdS num S k + p)).toNatClampNeg = 7 * cdS num S k + p := ncl (by omega)
    dsimp only [BX4_yardsOfPart_47]
    simp only [i7, e102, cp, hT _ p hcd hp]
    rw [if_neg (by rw [L7]; exact n_ngt hp (by omega)), if_pos (inb_t (by omega) (by omega))]
  · dsimp only [BX4_yardsOfPart_47]
    rw [L7, if_pos (n_ge (Nat.le_refl _) (by omega))]
theorem c_find (h : Rep u B r) (hw : Wf r) (hB : B ≤ 65) {c kd s : Nat} (hc : c < nc r) (hkd : kd < 7) (hs2 : s < 2 ^ ne r) (hs' : s < 256) (hp : pcn s ≤ 5) : ∃ u', FX4_find B (nI c) (nI kd) (nI s) u = some u' ∧ RQ u u' ∧ ∀ S, S < 256 → (∀ e, hs S e = true → hs s e = true) → FX4_yardsOfPart (nI S) u' = some (nI (RV r kd (bK kd (cF r c 2)) (cF r c 1) S)) := by
  have h8 := ne_eq hw
  have h6 := nc_eq hw
  have hk5 := chK_le hp h8.2
  have hin := nu_inj s (ne r)
  obtain ⟨n1, n2, n3⟩ := nu_all s (ne r)
  have hd := Ds_Dm hw kd
  have h3 := p3k (show chK s (ne r) < 6 by omega)
  have hP := cP hw hc
  have hS := cS hw hc
  have hg2 := gt_lt kd
  have hbk : bK kd (cF r c 2) ≤ 198 := bK_le hS.2
  obtain ⟨u1, f1, f2, f3⟩ := c_gather h hw hB hs' hp
  have R1 := RQ_Rep hB f3 hw h
  obtain ⟨pw1, pw2, pw3'⟩ := pw3 (show chK s (ne r) < 6 by omega)
  have ck : (nI (chK s (ne r))).toNatClampNeg = chK s (ne r) := ncl (by omega)
  have cc : (nI c).toNatClampNeg = c := ncl (by omega)
  have cp : (nI (cF r c 1)).toNatClampNeg = cF r c 1 := ncl (by omega)
  have fill : lp (BX4_find_20 B (nI c) (nI kd) (nI s) (nI (3 ^ chK s (ne r)))) FU (0, u1) = some (nI (7 * 3 ^ chK s (ne r)), mrow u1 102 (tb (7 * 3 ^ chK s (ne r)) (fun _ => 1000000) (u1 102))) := by
    have h0 : (fun i => (nI i, mrow u1 102 (tb i (fun _ => 1000000) (u1 102)))) 0 = (0, u1) := by
      show (nI 0, mrow u1 102 (tb 0 (fun _ => 1000000) (u1 102))) = (0, u1)
      rw [tb_0, mrow_self]; rfl
    rw [← h0]
    refine lp_for (BX4_find_20 B (nI c) (nI kd) (nI s) (nI (3 ^ chK s (ne r)))) (fun i => (nI i, mrow u1 102 (tb i (fun _ => 1000000) (u1 102)))) _ (7 * 3 ^ chK s (ne r)) (by omega) (fun i hi rec => ?_) (fun rec => ?_)
    · show BX4_find_20 B (nI c) (nI kd) (nI s) (nI (3 ^ chK s (ne r))) rec (nI i, mrow u1 102 (tb i (fun _ => 1000000) (u1 102))) = rec (nI (i + 1), mrow u1 102 (tb (i + 1) (fun _ => 1000000) (u1 102)))
      have ci : (nI i).toNatClampNeg = i := ncl (by omega)
      have eg := tb_grow i (fun _ => 1000000) (u1 102)
      dsimp only [BX4_find_20]
      rw [L7, nmul, if_neg (n_ngt (by omega) (by omega)), if_pos (inb_t (by omega) (by omega)), ci, nI_1, LM, mst_mrow]
      exact congrArg (fun z => rec (nI (i + 1), mrow u1 102 z)) eg
    · show BX4_find_20 B (nI c) (nI kd) (nI s) (nI (3 ^ chK s (ne r))) rec (nI (7 * 3 ^ chK s (ne r)), mrow u1 102 (tb (7 * 3 ^ chK s (ne r)) (fun _ => 1000000) (u1 102))) = _
      dsimp only [BX4_find_20]
      rw [L7, nmul, if_pos (n_ge (by omega) (by omega))]
  have hT0 : TB (upd (tb (7 * 3 ^ chK s (ne r)) (fun _ => 1000000) (u1 102)) (cF r c 1) 0) (3 ^ chK s (ne r)) (T0 (cF r c 1)) := by
    have hb : TB (tb (7 * 3 ^ chK s (ne r)) (fun _ => 1000000) (u1 102)) (3 ^ chK s (ne r)) (fun _ _ => 1000000) := fun x p hx hp => tb_get (by omega) _ _
    have := TB_up hb (x := 0) hP.2 0
    rw [Nat.mul_zero, Nat.zero_add] at this
    exact this
  have eB : ∀ ρ a, B ≤ a → a < B + 32 → mrow u1 102 ρ a = u1 a := fun ρ a _ _ => mrow_ne (by omega) ρ
  have htab : ∀ p q, p < 7 → q < 7 → u1 (B + 4 + 4 + gt kd) (7 * p + q) = nI (Ds r kd p q) := fun p q hp hq => R1.2.2.2.2.2.2 (gt kd) p q hg2 hp hq
  obtain ⟨o, ⟨ρ, T, o1, o2, o3⟩, e⟩ := lp_inv (Bf := BX4_find_88 B (nI c) (nI kd) (nI s) (nI (3 ^ chK s (ne r))) (B + 12 + c) (nI (bK kd (cF r c 2))) (B + 4 + 4 + gt kd)) (s0 := (0, mrow u1 102 (upd (tb (7 * 3 ^ chK s (ne r)) (fun _ => 1000000) (u1 102)) (cF r c 1) 0))) (fun m st => st.1 = nI m ∧ ∃ ρ T, st.2 = mrow u1 102 ρ ∧ TB ρ (3 ^ chK s (ne r)) T ∧ CI (aE r) (bE r) (wE r) (Ds r kd) (bK kd (cF r c 2)) (cF r c 1) (nuF s (ne r)) (chK s (ne r)) T m 0) (fun o => ∃ ρ T, o.2 = mrow u1 102 ρ ∧ TB ρ (3 ^ chK s (ne r)) T ∧ CI (aE r) (bE r) (wE r) (Ds r kd) (bK kd (cF r c 2)) (cF r c 1) (nuF s (ne r)) (chK s (ne r)) T (3 ^ chK s (ne r)) 0) (N := 3 ^ chK s (ne r)) (by omega) (fun m hm st hI rec => by
      obtain ⟨s1, s2⟩ := st
      obtain ⟨i1, ρ, T, i2, i3, i4⟩ := hI
      have i1 : s1 = nI m := i1
      have i2 : s2 = mrow u1 102 ρ := i2
      subst i1
      subst i2
      left
      obtain ⟨ρ', T', k1, k2, k3⟩ := c_goOn (u := u1) hw hp f2 (show bK kd (cF r c 2) < 1000 by omega) (show B + 4 + 4 + gt kd < 97 by omega) htab hm i3 i4
      refine ⟨(nI (m + 1), mrow u1 102 ρ'), ⟨rfl, ρ', T', rfl, k2, CI_next k3⟩, ?_⟩
      dsimp only [BX4_find_88]
      rw [if_neg (n_ngt hm (by omega)), k1, bs, nI_1])
    (fun st hI rec => by
      obtain ⟨s1, s2⟩ := st
      obtain ⟨i1, ρ, T, i2, i3, i4⟩ := hI
      have i1 : s1 = nI (3 ^ chK s (ne r)) := i1
      have i2 : s2 = mrow u1 102 ρ := i2
      subst i1
      subst i2
      refine ⟨(nI (3 ^ chK s (ne r)), mrow u1 102 ρ), ⟨ρ, T, rfl, i3, i4⟩, ?_⟩
      dsimp only [BX4_find_88]
      rw [if_pos (n_ge (Nat.le_refl _) (by omega))])
    ⟨rfl, _, _, rfl, hT0, CI_0 hd⟩
  refine ⟨mrow u1 102 ρ, ?_, RQ_trans f3 (RQ_mrow (by omega) _ _), fun S hS1 hS2 => ?_⟩
  · have ePl : u1 (B + 12 + c) 1 = nI (cF r c 1) := qP R1 hw hc
    have eSt : u1 (B + 12 + c) 2 = nI (cF r c 2) := qS R1 hw hc
    have eb1 : ∀ ρ, mrow u1 102 ρ (B + 12 + c) = u1 (B + 12 + c) := fun ρ => eB ρ _ (by omega) (by omega)
    unfold FX4_find
    rw [f1, bs]
    simp only [f2.1, ck, pw1]
    rw [if_pos (inb_t (by omega) (by omega)), fill, bs]
    simp only [cc, eb1, ePl, cp, mst_mrow, eSt]
    rw [if_pos (inb_t (by omega) (by omega)), if_pos (inb_t (by omega) (by omega)), c_tableFor hkd, bs, kbear hkd (by omega), e, bs, o1]
  · rw [c_part hw hp hS1 f2 o2 o3.1]
    have hIs := class_done hd (aE_lt r) (bE_lt r) hP.2 (show chK s (ne r) < 6 by omega) hin (fun i hi => by have := (n1 i hi).1; omega) o3.2.1 o3.2.2.1 (fun m i hm hi => (o3.2.2.2.1 m i hm hi).1) (fun m i hm hi => (o3.2.2.2.1 m i hm hi).2) (S := S) (fun e he => n3 e (hs_lt hs2 (hS2 e he)) (hS2 e he))
    exact congrArg (fun z => some (nI z)) (IsR_eq hIs (rv_is _ _ _ _ _ _ _))
end FIND4
