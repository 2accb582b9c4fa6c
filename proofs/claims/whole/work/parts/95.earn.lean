/-! which errands earn a ware soonest: the two searches find the same -/
theorem bm_at {P : Nat → Bool} {v t : Nat → Nat} : ∀ n k, k < n → P k = true → bm P v t n ≤ v k * 256 + t k
  | 0, k, h, _ => absurd h (Nat.not_lt_zero _)
  | n + 1, k, h, hp => by
    rw [bm_up]
    by_cases e : k = n
    · subst e
      rw [if_pos hp]
      exact Nat.min_le_right _ _
    · have ih := bm_at (P := P) (v := v) (t := t) n k (by omega) hp
      by_cases c : P n = true
      · rw [if_pos c]; exact Nat.le_trans (Nat.min_le_left _ _) ih
      · rw [if_neg c]; exact ih
theorem bm_ex {P : Nat → Bool} {v t : Nat → Nat} : ∀ n, bm P v t n = 256000000 ∨ ∃ k, k < n ∧ P k = true ∧ bm P v t n = v k * 256 + t k
  | 0 => Or.inl rfl
  | n + 1 => by
    rw [bm_up]
    by_cases c : P n = true
    · rw [if_pos c]
      by_cases d : bm P v t n ≤ v n * 256 + t n
      · rw [Nat.min_eq_left d]
        rcases bm_ex (P := P) (v := v) (t := t) n with q | ⟨k, k1, k2, k3⟩
        · exact Or.inl q
        · exact Or.inr ⟨k, by omega, k2, k3⟩
      · rw [Nat.min_eq_right (by omega)]
        exact Or.inr ⟨n, by omega, c, rfl⟩
    · rw [if_neg c]
      rcases bm_ex (P := P) (v := v) (t := t) n with q | ⟨k, k1, k2, k3⟩
      · exact Or.inl q
      · exact Or.inr ⟨k, by omega, k2, k3⟩
def mnS (P : Nat → Bool) (f : Nat → Nat) : Nat → Nat
  | 0 => 1000000
  | k + 1 => if P k then min (mnS P f k) (f k) else mnS P f k
theorem mnS_le (P : Nat → Bool) (f : Nat → Nat) : ∀ n, mnS P f n ≤ 1000000
  | 0 => Nat.le_refl _
  | n + 1 => by
    have ih := mnS_le P f n
    unfold mnS
    by_cases c : P n = true
    · rw [if_pos c]; exact Nat.le_trans (Nat.min_le_left _ _) ih
    · rw [if_neg c]; exact ih
theorem mnS_ex (P : Nat → Bool) (f : Nat → Nat) : ∀ n, mnS P f n = 1000000 ∨ ∃ k, k < n ∧ P k = true ∧ mnS P f n = f k
  | 0 => Or.inl rfl
  | n + 1 => by
    have ih := mnS_ex P f n
    unfold mnS
    by_cases c : P n = true
    · rw [if_pos c]
      by_cases d : mnS P f n ≤ f n
      · rw [Nat.min_eq_left d]
        rcases ih with q | ⟨k, k1, k2, k3⟩
        · exact Or.inl q
        · exact Or.inr ⟨k, by omega, k2, k3⟩
      · rw [Nat.min_eq_right (by omega)]
        exact Or.inr ⟨n, by omega, c, rfl⟩
    · rw [if_neg c]
      rcases ih with q | ⟨k, k1, k2, k3⟩
      · exact Or.inl q
      · exact Or.inr ⟨k, by omega, k2, k3⟩
theorem rm_hs (S e x : Nat) : hs (S ^^^ (S &&& 2 ^ e)) x = (hs S x && !decide (e = x)) := by
  unfold hs
  rw [Nat.testBit_xor, Nat.testBit_and, Nat.testBit_two_pow]
  by_cases c : S.testBit x = true
  · rw [c]
    by_cases d : e = x
    · rw [decide_eq_true d]; rfl
    · rw [decide_eq_false d]; rfl
  · have c2 : S.testBit x = false := by simpa using c
    rw [c2]; rfl
theorem sum_rm {S e : Nat} (f : Nat → Nat) (h : hs S e = true) : ∀ n, sumS (hs S) f n = sumS (hs (S ^^^ (S &&& 2 ^ e))) f n + if e < n then f e else 0
  | 0 => rfl
  | n + 1 => by
    have ih := sum_rm f h n
    by_cases d : e = n
    · subst d
      have q : hs (S ^^^ (S &&& 2 ^ e)) e = false := by rw [rm_hs, decide_eq_true rfl, h]; rfl
      rw [show sumS (hs S) f (e + 1) = sumS (hs S) f e + f e from if_pos h, show sumS (hs (S ^^^ (S &&& 2 ^ e))) f (e + 1) = sumS (hs (S ^^^ (S &&& 2 ^ e))) f e from if_neg (by rw [q]; decide), ih, if_neg (Nat.lt_irrefl e), if_pos (show e < e + 1 by omega), Nat.add_zero]
    · have q : hs (S ^^^ (S &&& 2 ^ e)) n = hs S n := by rw [rm_hs, decide_eq_false d]; simp
      by_cases c : hs S n = true
      · rw [show sumS (hs S) f (n + 1) = sumS (hs S) f n + f n from if_pos c, show sumS (hs (S ^^^ (S &&& 2 ^ e))) f (n + 1) = sumS (hs (S ^^^ (S &&& 2 ^ e))) f n + f n from if_pos (by rw [q]; exact c), ih]
        by_cases y : e < n
        · rw [if_pos y, if_pos (show e < n + 1 by omega)]; omega
        · rw [if_neg y, if_neg (show ¬ e < n + 1 by omega)]; omega
      · rw [show sumS (hs S) f (n + 1) = sumS (hs S) f n from if_neg c, show sumS (hs (S ^^^ (S &&& 2 ^ e))) f (n + 1) = sumS (hs (S ^^^ (S &&& 2 ^ e))) f n from if_neg (by rw [q]; exact c), ih]
        by_cases y : e < n
        · rw [if_pos y, if_pos (show e < n + 1 by omega)]
        · rw [if_neg y, if_neg (show ¬ e < n + 1 by omega)]
section EARN
variable {u m : Mem} {r : Nat → Int32} {B : Nat}
theorem reach_wo (hw : Wf r) {kd p a b : Nat} (hp : p < 7) (h1 : Ds r kd p a < 1000000) (h2 : Ds r kd p b < 1000000) : Ds r 0 a b < 1000000 := by
  have hd := Ds_Dm hw kd
  have hE := eg_Eg hw (gt kd)
  have hE0 := eg_Eg hw (gt 0)
  have t := hd.2.2.2.1 a b p hp
  rw [hd.2.1 a p] at t
  have f1 := hd.2.2.2.2 p a h1
  have f2 := hd.2.2.2.2 p b h2
  have hN : NW = 1000000 := rfl
  have hpat : ∀ i j, eg r (gt kd) i j = NW ↔ eg r (gt 0) i j = NW := fun i j => by
    unfold eg
    by_cases c : i = j
    · rw [if_pos c, if_pos c]
    · rw [if_neg c, if_neg c]
      by_cases d : i < 7 ∧ j < 7
      · rw [if_pos d, if_pos d]
        by_cases e : tn (r (wy i j)) = 0
        · rw [if_pos e, if_pos e]
        · rw [if_neg e, if_neg e]
          have hy := (hw.2.1 i j d.1 d.2 c).1.2
          have g1 := gy_le (g := gt kd) (v := tn (r (wy i j + 1))) hy
          have g2 := gy_le (g := gt 0) (v := tn (r (wy i j + 1))) hy
          constructor <;> intro z <;> omega
      · rw [if_neg d, if_neg d]
  have hc := fw_con hE hE0 hpat 7 (Nat.le_refl _) a b
  have e1 : Ds r kd a b = fw (eg r (gt kd)) 7 a b := rfl
  have e2 : Ds r 0 a b = fw (eg r (gt 0)) 7 a b := rfl
  have hle := Ds_le hw 0 a b
  rw [e1] at t
  by_cases z : Ds r 0 a b = 1000000
  · rw [e2] at z
    have := hc.mpr z
    omega
  · omega
theorem RC_0 (hw : Wf r) (c : Nat) : RC r c 0 = 0 := by
  have h := rv_is (aE r) (bE r) (wE r) (Ds r (cF r c 0)) (bc r c) (cF r c 1) 0
  have hx := (h.2 0 (by decide)).mpr ⟨[], cF r c 1, 0, by
    have : dn 0 = fun _ => 0 := by
      funext e
      unfold dn hs
      rw [Nat.zero_testBit]
      rfl
    rw [this]; rfl, Nat.le_refl _⟩
  exact Nat.le_zero.mp hx
theorem RC_part (hw : Wf r) {c S T : Nat} (hc : c < nc r) (hT : ∀ e, hs T e = true → hs S e = true) : RC r c T ≤ RC r c S := rv_part (Ds_Dm hw _) (aE_lt r) (bE_lt r) (cP hw hc).2 hT
def abP (r : Nat → Int32) (c e : Nat) : Bool := decide (eF r e 3 = 0) && (decide (eF r e 0 ≤ bc r c) && (decide (Ds r (cF r c 0) (cF r c 1) (eF r e 1) < 1000000) && decide (Ds r (cF r c 0) (cF r c 1) (eF r e 2) < 1000000)))
def abS (r : Nat → Int32) (c : Nat) : Nat := setS (abP r c) (ne r)
theorem abP_iff {c e : Nat} : abP r c e = true ↔ eF r e 3 = 0 ∧ eF r e 0 ≤ bc r c ∧ rchA r c e := by
  unfold abP rchA
  simp only [Bool.and_eq_true, decide_eq_true_eq]
def pjP (r : Nat → Int32) (c w S : Nat) : Prop := (wF' r w ≤ cF r c 3 ∧ S = 0) ∨ (cF r c 3 < wF' r w ∧ wF' r w ≤ cF r c 3 + paS r (cF r c 0) S ∧ cF r c 3 + paS r (cF r c 0) S < wF' r w + mnS (hs S) (payE r (cF r c 0)) (ne r))
noncomputable def eaP (r : Nat → Int32) (c w S : Nat) : Bool := @decide ((∀ e, hs S e = true → hs (abS r c) e = true) ∧ pcn S ≤ 5 ∧ pjP r c w S) (Classical.propDecidable _)
noncomputable def ewP (r : Nat → Int32) (c w S : Nat) : Bool := @decide ((∀ e, hs S e = true → hs (eS r 0) e = true) ∧ pcn S ≤ 5 ∧ woOk r S ∧ wF' r w ≤ cF r c 3 + paS r (cF r c 0) S) (Classical.propDecidable _)
theorem eaP_iff {c w S : Nat} : eaP r c w S = true ↔ (∀ e, hs S e = true → hs (abS r c) e = true) ∧ pcn S ≤ 5 ∧ pjP r c w S := @decide_eq_true_iff _ (Classical.propDecidable _)
theorem ewP_iff {c w S : Nat} : ewP r c w S = true ↔ (∀ e, hs S e = true → hs (eS r 0) e = true) ∧ pcn S ≤ 5 ∧ woOk r S ∧ wF' r w ≤ cF r c 3 + paS r (cF r c 0) S := @decide_eq_true_iff _ (Classical.propDecidable _)
theorem ea_ew (hw : Wf r) {c w S : Nat} (hc : c < nc r) (hS : S < abS r c + 1) (h : eaP r c w S = true) : ewP r c w S = true ∧ S < 2 ^ ne r := by
  obtain ⟨h1, h2, h3⟩ := eaP_iff.mp h
  have hlt : abS r c < 2 ^ ne r := setS_lt _ _
  have hab : ∀ e, hs S e = true → e < ne r ∧ eF r e 3 = 0 ∧ eF r e 0 ≤ bc r c ∧ rchA r c e := fun e he => by
    have := h1 e he
    unfold abS at this
    rw [setS_bit, Bool.and_eq_true] at this
    exact ⟨of_decide_eq_true this.1, abP_iff.mp this.2⟩
  refine ⟨ewP_iff.mpr ⟨fun e he => ?_, h2, fun e he hh => ?_, ?_⟩, by omega⟩
  · obtain ⟨a1, a2, a3⟩ := hab e he
    unfold eS
    rw [setS_bit, decide_eq_true a1]
    exact decide_eq_true a2
  · obtain ⟨a1, a2, a3, a4⟩ := hab e hh
    exact reach_wo hw (cP hw hc).2 a4.1 a4.2
  · rcases h3 with ⟨b1, b2⟩ | ⟨b1, b2, b3⟩
    · omega
    · exact b2
theorem ew_ea (hw : Wf r) {c w S : Nat} (hc : c < nc r) (hS : S < 2 ^ ne r) (h : ewP r c w S = true) (hf : RC r c S < 1000000) (hmin : ∀ S', S' < 2 ^ ne r → ewP r c w S' = true → RC r c S * 256 + S ≤ RC r c S' * 256 + S') : eaP r c w S = true ∧ S < abS r c + 1 := by
  obtain ⟨h1, h2, h3, h4⟩ := ewP_iff.mp h
  have h8 := (ne_eq hw).2
  have hpw := pw_le h8
  have hS2 : S < 256 := by omega
  have hr := (able_iff hw (kd := cF r c 0) (W := bc r c) hc hS hS2).mp hf
  have hsub : ∀ e, hs S e = true → hs (abS r c) e = true := fun e he => by
    have hen := hs_lt hS he
    have hl := h1 e he
    unfold eS at hl
    rw [setS_bit, Bool.and_eq_true] at hl
    obtain ⟨q1, q2, q3⟩ := hr e hen he
    unfold abS
    rw [setS_bit, decide_eq_true hen]
    exact abP_iff.mpr ⟨of_decide_eq_true hl.2, q1, q2, q3⟩
  refine ⟨eaP_iff.mpr ⟨hsub, h2, ?_⟩, by have := sub_le hsub; omega⟩
  by_cases z : wF' r w ≤ cF r c 3
  · left
    refine ⟨z, ?_⟩
    have h0 : ewP r c w 0 = true := ewP_iff.mpr ⟨fun e he => (by unfold hs at he; rw [Nat.zero_testBit] at he; exact Bool.noConfusion he), by decide, fun e _ he => (by unfold hs at he; rw [Nat.zero_testBit] at he; exact Bool.noConfusion he), by omega⟩
    have := hmin 0 (Nat.two_pow_pos _) h0
    rw [RC_0 hw] at this
    omega
  · right
    refine ⟨by omega, h4, ?_⟩
    by_cases y : cF r c 3 + paS r (cF r c 0) S < wF' r w + mnS (hs S) (payE r (cF r c 0)) (ne r)
    · exact y
    · exfalso
      have hpl := paS_le hw (cF r c 0) S
      rcases mnS_ex (hs S) (payE r (cF r c 0)) (ne r) with q | ⟨e, e1, e2, e3⟩
      · omega
      · have hsum := sum_rm (payE r (cF r c 0)) e2 (ne r)
        rw [if_pos e1] at hsum
        have hsum : paS r (cF r c 0) S = paS r (cF r c 0) (S ^^^ (S &&& 2 ^ e)) + payE r (cF r c 0) e := hsum
        have hT : ∀ x, hs (S ^^^ (S &&& 2 ^ e)) x = true → hs S x = true := fun x hx => diff_sub hx
        have hle := sub_le hT
        have hne : S ^^^ (S &&& 2 ^ e) ≠ S := fun q => by
          have := rm_hs S e e
          rw [q, e2, decide_eq_true rfl] at this
          cases this
        have hw' : ewP r c w (S ^^^ (S &&& 2 ^ e)) = true := ewP_iff.mpr ⟨fun x hx => h1 x (hT x hx), Nat.le_trans (pcn_sub hT) h2, fun x hx hh => h3 x hx (hT x hh), by omega⟩
        have h5 := hmin _ (by omega) hw'
        have h6 := RC_part hw hc hT
        omega
theorem earn_same (hw : Wf r) {c w : Nat} (hc : c < nc r) : bm (eaP r c w) (RC r c) (fun p => p) (abS r c + 1) = bm (ewP r c w) (RC r c) (fun p => p) (2 ^ ne r) := by
  apply Nat.le_antisymm
  · rcases bm_ex (P := ewP r c w) (v := RC r c) (t := fun p => p) (2 ^ ne r) with q | ⟨S, S1, S2, S3⟩
    · rw [q]; exact bm_le _ _ _ _
    · by_cases z : RC r c S < 1000000
      · obtain ⟨a1, a2⟩ := ew_ea hw hc S1 S2 z (fun S' h1 h2 => by rw [← S3]; exact bm_at (P := ewP r c w) (v := RC r c) (t := fun p => p) _ S' h1 h2)
        rw [S3]
        exact bm_at (P := eaP r c w) (v := RC r c) (t := fun p => p) _ S a2 a1
      · have := bm_le (eaP r c w) (RC r c) (fun p => p) (abS r c + 1)
        have h2 : bm (ewP r c w) (RC r c) (fun p => p) (2 ^ ne r) = RC r c S * 256 + S := S3
        omega
  · rcases bm_ex (P := eaP r c w) (v := RC r c) (t := fun p => p) (abS r c + 1) with q | ⟨S, S1, S2, S3⟩
    · rw [q]; exact bm_le _ _ _ _
    · obtain ⟨a1, a2⟩ := ea_ew hw hc S1 S2
      rw [S3]
      exact bm_at (P := ewP r c w) (v := RC r c) (t := fun p => p) _ S a2 a1
end EARN
