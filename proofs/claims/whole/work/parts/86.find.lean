/-! the class' search for rounds -/
section FIND
variable {u : Mem} {r : Nat → Int32} {B : Nat}
/-- only the cells of the rounds' tables have changed -/
def RQ (u u' : Mem) : Prop := ∀ a, (a < 97 ∨ 103 ≤ a) → u' a = u a
theorem RQ_refl (u : Mem) : RQ u u := fun _ _ => rfl
theorem RQ_trans {a b c : Mem} (h : RQ a b) (k : RQ b c) : RQ a c := fun x hx => by rw [k x hx, h x hx]
theorem RQ_mst {F : Nat} (h : 97 ≤ F ∧ F < 103) (u : Mem) (j : Nat) (x : Int32) : RQ u (mst u F j x) := fun a ha => mst_k (by omega) _ _
theorem RQ_mrow {F : Nat} (h : 97 ≤ F ∧ F < 103) (u : Mem) (ρ : Nat → Int32) : RQ u (mrow u F ρ) := fun a ha => mrow_ne (by omega) _
theorem RQ_Qc {u u' : Mem} (h : RQ u u') : Qc u u' := ⟨fun a ha => h a (by omega), by rw [h 104 (by omega)]⟩
theorem RQ_Rep {u u' : Mem} (hB : B ≤ 65) (h : RQ u u') (hw : Wf r) (k : Rep u B r) : Rep u' B r := Rep_congr (fun a _ _ => h a (by omega)) hw k
/-- what is gathered of a set -/
def Gat (u : Mem) (r : Nat → Int32) (s n : Nat) : Prop := u 97 5 = nI (chK s n) ∧ ∀ i, i < chK s n → u 98 i = nI (nuF s n i) ∧ u 99 i = nI (eF r (nuF s n i) 0) ∧ u 100 i = nI (eF r (nuF s n i) 1) ∧ u 101 i = nI (eF r (nuF s n i) 2)
theorem c_gather (h : Rep u B r) (hw : Wf r) (hB : B ≤ 65) {s : Nat} (hs' : s < 256) (hp : pcn s ≤ 5) : ∃ u', FX4_gather B (nI s) u = some u' ∧ Gat u' r s (ne r) ∧ RQ u u' := by
  have h8 := ne_eq hw
  obtain ⟨o, ⟨o1, o2⟩, e⟩ := lp_inv (Bf := BX4_gather_7 B (nI s)) (s0 := (0, mst u 97 5 0)) (fun k st => st.1 = nI k ∧ Gat st.2 r s k ∧ RQ u st.2) (fun o => Gat o.2 r s (ne r) ∧ RQ u o.2) (N := ne r) (by omega) (fun k hk st hI rec => by
      obtain ⟨s1, s2⟩ := st
      obtain ⟨i1, i2, i3⟩ := hI
      have i1 : s1 = nI k := i1
      subst i1
      have i2 : Gat s2 r s k := i2
      have i3 : RQ u s2 := i3
      have R2 := RQ_Rep hB i3 hw h
      left
      by_cases y : hs s k = true
      · obtain ⟨g1, g2⟩ := i2
        have c5 := chK_le hp (show k + 1 ≤ 8 by omega)
        rw [chK_up y] at c5
        have cK' : (nI (chK s k)).toNatClampNeg = chK s k := ncl (by omega)
        have ck : (nI k).toNatClampNeg = k := ncl (by omega)
        have en : nuF s (k + 1) = stf (nuF s k) (chK s k) k := if_pos y
        have n98 : ∀ (v : Mem) j x, mst v 98 j x 97 5 = v 97 5 := fun v j x => by rw [mst_k (by omega)]
        have n100 : ∀ (v : Mem) j x, mst v 100 j x 97 5 = v 97 5 := fun v j x => by rw [mst_k (by omega)]
        have n99 : ∀ (v : Mem) j x, mst v 99 j x 97 5 = v 97 5 := fun v j x => by rw [mst_k (by omega)]
        have n101 : ∀ (v : Mem) j x, mst v 101 j x 97 5 = v 97 5 := fun v j x => by rw [mst_k (by omega)]
        have b98 : ∀ (v : Mem) j x f, mst v 98 j x (B + 18 + k) f = v (B + 18 + k) f := fun v j x f => by rw [mst_k (by omega)]
        have b99 : ∀ (v : Mem) j x f, mst v 99 j x (B + 18 + k) f = v (B + 18 + k) f := fun v j x f => by rw [mst_k (by omega)]
        have b100 : ∀ (v : Mem) j x f, mst v 100 j x (B + 18 + k) f = v (B + 18 + k) f := fun v j x f => by rw [mst_k (by omega)]
        have q0 := qp R2 hw hk
        have q1 := qa R2 hw hk
        have q2 := qb R2 hw hk
        refine ⟨(nI (k + 1), mst (mst (mst (mst (mst s2 98 (chK s k) (nI k)) 99 (chK s k) (nI (eF r k 0))) 100 (chK s k) (nI (eF r k 1))) 101 (chK s k) (nI (eF r k 2))) 97 5 (nI (chK s k + 1))), ⟨rfl, ⟨?_, fun i hi => ?_⟩, ?_⟩, ?_⟩
        · dsimp only
          rw [mst_s, chK_up y]
        · dsimp only
          rw [chK_up y] at hi
          rw [mst_k (show 98 ≠ 97 by omega), mst_k (show 98 ≠ 101 by omega), mst_k (show 98 ≠ 100 by omega), mst_k (show 98 ≠ 99 by omega), mst_k (show 99 ≠ 97 by omega), mst_k (show 99 ≠ 101 by omega), mst_k (show 99 ≠ 100 by omega), mst_k (show 100 ≠ 97 by omega), mst_k (show 100 ≠ 101 by omega), mst_k (show 101 ≠ 97 by omega), en]
          by_cases c : i = chK s k
          · rw [c, mst_s, mst_s, mst_s, mst_s]
            have : stf (nuF s k) (chK s k) k (chK s k) = k := if_pos rfl
            rw [this]
            exact ⟨rfl, rfl, rfl, rfl⟩
          · have : stf (nuF s k) (chK s k) k i = nuF s k i := if_neg c
            rw [this, mst_j c, mst_j c, mst_j c, mst_j c, mst_k (show 99 ≠ 98 by omega), mst_k (show 100 ≠ 99 by omega), mst_k (show 100 ≠ 98 by omega), mst_k (show 101 ≠ 100 by omega), mst_k (show 101 ≠ 99 by omega), mst_k (show 101 ≠ 98 by omega)]
            exact g2 i (by omega)
        · dsimp only
          exact RQ_trans i3 (RQ_trans (RQ_mst (by omega) _ _ _) (RQ_trans (RQ_mst (by omega) _ _ _) (RQ_trans (RQ_mst (by omega) _ _ _) (RQ_trans (RQ_mst (by omega) _ _ _) (RQ_mst (by omega) _ _ _)))))
        · dsimp only [BX4_gather_7, nm]
          simp only [n98, n99, n100, n101, b98, b99, b100, g1, cK', ck, q0, q1, q2]
          rw [if_neg (by rw [q6 R2 hw]; exact n_ngt hk (by omega)), nhas hs' (by omega), b2, if_pos y, if_neg (by rw [L5]; exact n_ngt (by omega) (by omega)), if_pos (inb_t (by omega) (by omega)), if_pos (inb_t (by omega) (by omega)), if_pos (inb_t (by omega) (by omega)), if_pos (inb_t (by omega) (by omega)), if_pos (inb_t (by omega) (by omega)), if_pos (inb_t (by omega) (by omega)), if_pos (inb_t (by omega) (by omega)), nI_1, nI_1]
      · refine ⟨(nI (k + 1), s2), ⟨rfl, ?_, i3⟩, ?_⟩
        · show Gat s2 r s (k + 1)
          unfold Gat
          rw [chK_no y, show nuF s (k + 1) = nuF s k from if_neg y]
          exact i2
        · dsimp only [BX4_gather_7]
          rw [if_neg (by rw [q6 R2 hw]; exact n_ngt hk (by omega)), nhas hs' (by omega), b2, if_neg y, nI_1])
    (fun st hI rec => by
      obtain ⟨s1, s2⟩ := st
      obtain ⟨i1, i2, i3⟩ := hI
      have i1 : s1 = nI (ne r) := i1
      subst i1
      have i3 : RQ u s2 := i3
      have R2 := RQ_Rep hB i3 hw h
      refine ⟨(nI (ne r), s2), ⟨i2, i3⟩, ?_⟩
      dsimp only [BX4_gather_7]
      rw [if_pos (by rw [q6 R2 hw]; exact n_ge (Nat.le_refl _) (by omega))])
    ⟨rfl, ⟨by show mst u 97 5 0 97 5 = nI 0; rw [mst_s]; rfl, fun i hi => absurd hi (Nat.not_lt_zero _)⟩, RQ_mst (by omega) _ _ _⟩
  refine ⟨o.2, ?_, o1, o2⟩
  unfold FX4_gather
  rw [e, bs]
theorem c_howAt {m i : Nat} (hm : m < 243) (hi : i < 6) : FX4_howAt (nI m) (nI i) u = some (nI (dg m i)) := by
  obtain ⟨p1, p2, p3⟩ := pw3 hi
  have ci : (nI i).toNatClampNeg = i := ncl (by omega)
  have hq : m / 3 ^ i < 2147483648 := Nat.lt_of_le_of_lt (Nat.div_le_self _ _) (by omega)
  unfold FX4_howAt
  simp only [ci, p1]
  rw [if_pos (inb_t (by omega) (by omega)), if_pos (nI_ne0 p3 (by omega)), ndiv (by omega) p3 (by omega), show (3 : Int32) = nI 3 from rfl, nrem hq (by omega) (by omega)]
  rfl
theorem c_step {ρ : Nat → Int32} {N m x t tc : Nat} {T d : Nat → Nat → Nat} (htc : tc ≠ 102) (hT : TB ρ N T) (hN : N ≤ 243) (hle : ∀ c p, T c p ≤ 1000000) (hdl : ∀ p q, d p q ≤ 1000000) (htab : ∀ p q, p < 7 → q < 7 → u tc (7 * p + q) = nI (d p q)) (hm : m < N) (hx : x < N) (ht : t < 7) : ∃ v, FX4_step (nI m) (nI x) (nI t) tc (mrow u 102 ρ) = some (mrow u 102 (upd ρ (7 * x + t) (nI v))) ∧ v ≤ T x t ∧ (∀ p, p < 7 → v ≤ T m p + d p t) ∧ (v = T x t ∨ ∃ p, p < 7 ∧ T m p < 1000000 ∧ v = T m p + d p t) := by
  have e102 : mrow u 102 ρ 102 = ρ := mrow_at _ _ _
  have etc : mrow u 102 ρ tc = u tc := mrow_ne htc _
  have hin : (nI (7 * x + t)).toNatClampNeg = 7 * x + t := ncl (by omega)
  obtain ⟨o, ⟨v, o1, o2, o3, o4⟩, e⟩ := lp_inv (Bf := BX4_step_16 (nI m) (nI x) (nI t) tc (mrow u 102 ρ)) (s0 := (nI (T x t), 0)) (fun p st => (∃ v, st.1 = nI v ∧ v ≤ T x t ∧ (∀ p', p' < p → v ≤ T m p' + d p' t) ∧ (v = T x t ∨ ∃ p', p' < 7 ∧ T m p' < 1000000 ∧ v = T m p' + d p' t)) ∧ st.2 = nI p) (fun o => ∃ v, o.1 = nI v ∧ v ≤ T x t ∧ (∀ p', p' < 7 → v ≤ T m p' + d p' t) ∧ (v = T x t ∨ ∃ p', p' < 7 ∧ T m p' < 1000000 ∧ v = T m p' + d p' t)) (N := 7) (by omega) (fun p hp st hI rec => by
      obtain ⟨s1, s2⟩ := st
      obtain ⟨⟨v, v1, v2, v3, v4⟩, i2⟩ := hI
      have v1 : s1 = nI v := v1
      have i2 : s2 = nI p := i2
      subst v1
      subst i2
      have hlx := hle x t
      have hlm := hle m p
      have hdp := hdl p t
      have c1 : (nI (7 * m + p)).toNatClampNeg = 7 * m + p := ncl (by omega)
      have c2 : (nI (7 * p + t)).toNatClampNeg = 7 * p + t := ncl (by omega)
      have r1 : ρ (7 * m + p) = nI (T m p) := hT m p hm hp
      have r2 : u tc (7 * p + t) = nI (d p t) := htab p t hp ht
      left
      by_cases y : v ≤ T m p
      · refine ⟨(nI v, nI (p + 1)), ⟨⟨v, rfl, v2, fun p' hp' => ?_, v4⟩, rfl⟩, ?_⟩
        · by_cases c : p' = p
          · subst c; exact Nat.le_trans y (Nat.le_add_right _ _)
          · exact v3 p' (by omega)
        · dsimp only [BX4_step_16]
          simp only [i7, e102, etc, c1, c2, r1, r2]
          rw [if_neg (by rw [L7]; exact n_ngt hp (by omega)), if_pos (inb_t (by omega) (by omega)), if_pos (n_ge y (by omega)), nI_1]
      · refine ⟨(nI (min v (T m p + d p t)), nI (p + 1)), ⟨⟨_, rfl, Nat.le_trans (Nat.min_le_left _ _) v2, fun p' hp' => ?_, ?_⟩, rfl⟩, ?_⟩
        · by_cases c : p' = p
          · subst c; exact Nat.min_le_right _ _
          · exact Nat.le_trans (Nat.min_le_left _ _) (v3 p' (by omega))
        · by_cases c : v ≤ T m p + d p t
          · rw [Nat.min_eq_left c]; exact v4
          · rw [Nat.min_eq_right (by omega)]; exact Or.inr ⟨p, hp, by omega, rfl⟩
        · dsimp only [BX4_step_16]
          simp only [i7, e102, etc, c1, c2, r1, r2]
          rw [if_neg (by rw [L7]; exact n_ngt hp (by omega)), if_pos (inb_t (by omega) (by omega)), if_neg (n_ngt (by omega) (by omega)), if_pos (inb_t (by omega) (by omega)), nadd, nmin (by omega) (by omega), nI_1])
    (fun st hI rec => by
      obtain ⟨s1, s2⟩ := st
      obtain ⟨⟨v, v1, v2, v3, v4⟩, i2⟩ := hI
      have i2 : s2 = nI 7 := i2
      subst i2
      refine ⟨(s1, nI 7), ⟨v, v1, v2, v3, v4⟩, ?_⟩
      dsimp only [BX4_step_16]
      rw [L7, if_pos (n_ge (Nat.le_refl _) (by omega))])
    ⟨⟨T x t, rfl, Nat.le_refl _, fun p' hp' => absurd hp' (Nat.not_lt_zero _), Or.inl rfl⟩, rfl⟩
  refine ⟨v, ?_, o2, o3, o4⟩
  unfold FX4_step
  simp only [i7, e102, hin, hT x t hx ht]
  rw [if_pos (inb_t (by omega) (by omega)), e, bs, if_pos (inb_t (by omega) (by omega)), o1, mst_mrow]
end FIND
