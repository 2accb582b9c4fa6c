/-! rounds as lists of deeds: an errand's number for the first time takes it up, for the second time does it -/
def stf (s : Nat → Nat) (x v : Nat) : Nat → Nat := fun y => if y = x then v else s y
def ld (w s : Nat → Nat) : Nat → Nat
  | 0 => 0
  | k + 1 => if s k = 1 then ld w s k + w k else ld w s k
theorem ld_congr {w s s' : Nat → Nat} : ∀ n, (∀ k, k < n → (s k = 1 ↔ s' k = 1)) → ld w s n = ld w s' n
  | 0, _ => rfl
  | n + 1, h => by
    have ih := ld_congr (w := w) n (fun k hk => h k (by omega))
    have hn := h n (by omega)
    unfold ld
    rw [ih]
    by_cases c : s n = 1
    · rw [if_pos c, if_pos (hn.mp c)]
    · rw [if_neg c, if_neg (fun z => c (hn.mpr z))]
theorem ld_le {w s s' : Nat → Nat} : ∀ n, (∀ k, k < n → s k = 1 → s' k = 1) → ld w s n ≤ ld w s' n
  | 0, _ => Nat.le_refl _
  | n + 1, h => by
    have ih := ld_le (w := w) n (fun k hk => h k (by omega))
    have hn := h n (by omega)
    unfold ld
    by_cases c : s n = 1
    · rw [if_pos c, if_pos (hn c)]; omega
    · rw [if_neg c]; split <;> omega
theorem ld_up {w s : Nat → Nat} {x : Nat} (hx : s x ≠ 1) : ∀ n, ld w (stf s x 1) n = ld w s n + if x < n then w x else 0
  | 0 => rfl
  | n + 1 => by
    have ih := ld_up (w := w) hx n
    unfold ld
    by_cases e : n = x
    · subst e
      rw [if_pos (show stf s n 1 n = 1 by simp [stf]), if_neg hx, ih, if_neg (by omega), if_pos (by omega)]
      omega
    · have : stf s x 1 n = s n := by simp [stf, e]
      rw [this, ih]
      by_cases c : x < n
      · have c2 : x < n + 1 := by omega
        simp only [c, c2, if_true]; split <;> omega
      · have c2 : ¬ x < n + 1 := by omega
        simp only [c, c2, if_false]; split <;> omega
abbrev Dst : Type := (Nat → Nat) × Nat × Nat
def dstep (a b w : Nat → Nat) (d : Nat → Nat → Nat) (W : Nat) (q : Dst) (e : Nat) : Option Dst :=
  if q.1 e = 0 then (if ld w q.1 8 + w e ≤ W then some (stf q.1 e 1, a e, q.2.2 + d q.2.1 (a e)) else none)
  else if q.1 e = 1 then some (stf q.1 e 2, b e, q.2.2 + d q.2.1 (b e)) else none
def run (a b w : Nat → Nat) (d : Nat → Nat → Nat) (W : Nat) : Dst → List Nat → Option Dst
  | q, [] => some q
  | q, e :: l => match dstep a b w d W q e with
    | none => none
    | some q' => run a b w d W q' l
section DEEDS
variable {a b w : Nat → Nat} {d : Nat → Nat → Nat} {W : Nat}
theorem run_cons {q q' q2 : Dst} {e : Nat} {l : List Nat} (h : dstep a b w d W q e = some q') (h2 : run a b w d W q' l = some q2) : run a b w d W q (e :: l) = some q2 := by
  unfold run; rw [h]; exact h2
theorem run_inv {q q2 : Dst} {e : Nat} {l : List Nat} (h : run a b w d W q (e :: l) = some q2) : ∃ q', dstep a b w d W q e = some q' ∧ run a b w d W q' l = some q2 := by
  unfold run at h
  cases hd : dstep a b w d W q e with
  | none => rw [hd] at h; cases h
  | some q' => rw [hd] at h; exact ⟨q', rfl, h⟩
theorem run_app {l1 l2 : List Nat} : ∀ {q q' q2 : Dst}, run a b w d W q l1 = some q' → run a b w d W q' l2 = some q2 → run a b w d W q (l1 ++ l2) = some q2 := by
  induction l1 with
  | nil => intro q q' q2 h h2; cases h; exact h2
  | cons e l ih =>
    intro q q' q2 h h2
    obtain ⟨q1, g1, g2⟩ := run_inv h
    exact run_cons g1 (ih g2 h2)
theorem run_one {q q' : Dst} {e : Nat} (h : dstep a b w d W q e = some q') : run a b w d W q [e] = some q' := run_cons h rfl
theorem dstep_0 {s : Nat → Nat} {p c e : Nat} (h : s e = 0) (hl : ld w s 8 + w e ≤ W) : dstep a b w d W (s, p, c) e = some (stf s e 1, a e, c + d p (a e)) := by
  unfold dstep; rw [if_pos h, if_pos hl]
theorem dstep_1 {s : Nat → Nat} {p c e : Nat} (h : s e = 1) : dstep a b w d W (s, p, c) e = some (stf s e 2, b e, c + d p (b e)) := by
  unfold dstep; rw [if_neg (by show ¬ s e = 0; omega), if_pos h]
theorem dstep_inv {s : Nat → Nat} {p c e : Nat} {q' : Dst} (h : dstep a b w d W (s, p, c) e = some q') : (s e = 0 ∧ ld w s 8 + w e ≤ W ∧ q' = (stf s e 1, a e, c + d p (a e))) ∨ (s e = 1 ∧ q' = (stf s e 2, b e, c + d p (b e))) := by
  unfold dstep at h
  by_cases c0 : s e = 0
  · rw [if_pos c0] at h
    by_cases c1 : ld w s 8 + w e ≤ W
    · rw [if_pos c1] at h; cases h; exact Or.inl ⟨c0, c1, rfl⟩
    · rw [if_neg c1] at h; cases h
  · rw [if_neg c0] at h
    by_cases c1 : s e = 1
    · rw [if_pos c1] at h; cases h; exact Or.inr ⟨c1, rfl⟩
    · rw [if_neg c1] at h; cases h
end DEEDS
/-- the stands of a set that is done -/
def dn (S : Nat) : Nat → Nat := fun e => if hs S e then 2 else 0
def Can (a b w : Nat → Nat) (d : Nat → Nat → Nat) (W s S v : Nat) : Prop := ∃ (l : List Nat) (p c : Nat), run a b w d W (fun _ => 0, s, 0) l = some (dn S, p, c) ∧ c ≤ v
/-- x is the round: NW if there is none -/
def IsR (a b w : Nat → Nat) (d : Nat → Nat → Nat) (W s S x : Nat) : Prop := x ≤ NW ∧ ∀ v, v < NW → (x ≤ v ↔ Can a b w d W s S v)
theorem IsR_eq {a b w : Nat → Nat} {d : Nat → Nat → Nat} {W s S x y : Nat} (h1 : IsR a b w d W s S x) (h2 : IsR a b w d W s S y) : x = y := by
  have key : ∀ {x y}, IsR a b w d W s S x → IsR a b w d W s S y → y ≤ x := by
    intro x y h1 h2
    by_cases c : x < NW
    · exact (h2.2 x c).mpr ((h1.2 x c).mp (Nat.le_refl x))
    · have := h1.1; have := h2.1; omega
  exact Nat.le_antisymm (key h2 h1) (key h1 h2)

theorem IsR_ex (a b w : Nat → Nat) (d : Nat → Nat → Nat) (W s S : Nat) : ∃ x, IsR a b w d W s S x := by
  by_cases h : ∃ v, v < NW ∧ Can a b w d W s S v
  · obtain ⟨k, ⟨k1, k2⟩, k3⟩ := pk_least _ h
    refine ⟨k, by omega, fun v hv => ⟨fun q => ?_, fun q => ?_⟩⟩
    · obtain ⟨l, p, c, r, z⟩ := k2
      exact ⟨l, p, c, r, by omega⟩
    · exact Nat.not_lt.mp fun z => k3 v z ⟨hv, q⟩
  · exact ⟨NW, Nat.le_refl _, fun v hv => ⟨fun q => by omega, fun q => absurd ⟨v, hv, q⟩ h⟩⟩
noncomputable def rv (a b w : Nat → Nat) (d : Nat → Nat → Nat) (W s S : Nat) : Nat := Classical.choose (IsR_ex a b w d W s S)
theorem rv_is (a b w : Nat → Nat) (d : Nat → Nat → Nat) (W s S : Nat) : IsR a b w d W s S (rv a b w d W s S) := Classical.choose_spec (IsR_ex a b w d W s S)
section DEEDS2
variable {a b w : Nat → Nat} {d : Nat → Nat → Nat} {W : Nat}
/-- what a run leaves behind: errands once begun stay so -/
theorem run_ge {l : List Nat} : ∀ {q q2 : Dst}, run a b w d W q l = some q2 → (∀ e, q.1 e ≤ q2.1 e) ∧ q.2.2 ≤ q2.2.2 := by
  induction l with
  | nil => intro q q2 h; cases h; exact ⟨fun e => Nat.le_refl _, Nat.le_refl _⟩
  | cons e l ih =>
    intro q q2 h
    obtain ⟨q1, g1, g2⟩ := run_inv h
    obtain ⟨i1, i2⟩ := ih g2
    obtain ⟨s, p, c⟩ := q
    rcases dstep_inv g1 with ⟨k1, k2, rfl⟩ | ⟨k1, rfl⟩
    · refine ⟨fun x => Nat.le_trans ?_ (i1 x), Nat.le_trans (Nat.le_add_right _ _) i2⟩
      show s x ≤ stf s e 1 x
      unfold stf; split
      · next z => rw [z, k1]; omega
      · exact Nat.le_refl _
    · refine ⟨fun x => Nat.le_trans ?_ (i1 x), Nat.le_trans (Nat.le_add_right _ _) i2⟩
      show s x ≤ stf s e 2 x
      unfold stf; split
      · next z => rw [z, k1]; omega
      · exact Nat.le_refl _
theorem run_mem {l : List Nat} : ∀ {q q2 : Dst}, run a b w d W q l = some q2 → ∀ e, e ∈ l → 1 ≤ q2.1 e := by
  induction l with
  | nil => intro q q2 h e he; cases he
  | cons x l ih =>
    intro q q2 h e he
    obtain ⟨q1, g1, g2⟩ := run_inv h
    rcases List.mem_cons.mp he with rfl | he
    · have := (run_ge g2).1 e
      obtain ⟨s, p, c⟩ := q
      rcases dstep_inv g1 with ⟨k1, k2, rfl⟩ | ⟨k1, rfl⟩
      · have : stf s e 1 e = 1 := by simp [stf]
        have h3 : stf s e 1 e ≤ q2.1 e := by assumption
        omega
      · have : stf s e 2 e = 2 := by simp [stf]
        have h3 : stf s e 2 e ≤ q2.1 e := by assumption
        omega
    · exact ih g2 e he
/-- fewer errands: no longer -/
theorem run_part (hd : Dm d) (ha : ∀ e, a e < 7) (hb : ∀ e, b e < 7) (T : Nat) {l : List Nat} : ∀ {q q2 : Dst} {p' c' : Nat}, q.2.1 < 7 → run a b w d W q l = some q2 → c' + d p' q.2.1 ≤ q.2.2 → ∃ (l' : List Nat) (p2 c2 : Nat), run a b w d W (fun e => if hs T e then q.1 e else 0, p', c') l' = some (fun e => if hs T e then q2.1 e else 0, p2, c2) ∧ c2 + d p2 q2.2.1 ≤ q2.2.2 ∧ c2 ≤ q2.2.2 := by
  induction l with
  | nil => intro q q2 p' c' hq h hc; cases h; exact ⟨[], p', c', rfl, hc, by omega⟩
  | cons e l ih =>
    intro q q2 p' c' hq h hc
    obtain ⟨q1, g1, g2⟩ := run_inv h
    obtain ⟨s, p, c⟩ := q
    have hc' : c' + d p' p ≤ c := hc
    have hq' : p < 7 := hq
    rcases dstep_inv g1 with ⟨k1, k2, rfl⟩ | ⟨k1, rfl⟩
    · have tr := hd.2.2.2.1 p' (a e) p hq'
      by_cases ht : hs T e = true
      · have st : dstep a b w d W (fun e => if hs T e then s e else 0, p', c') e = some (stf (fun e => if hs T e then s e else 0) e 1, a e, c' + d p' (a e)) := by
          refine dstep_0 (by simp [ht, k1]) ?_
          have : ld w (fun e => if hs T e then s e else 0) 8 ≤ ld w s 8 := ld_le 8 (fun k _ z => by
            by_cases hk : hs T k = true
            · simpa [hk] using z
            · simp [hk] at z)
          omega
        obtain ⟨l', p2, c2, r1, r2, r3⟩ := ih (p' := a e) (c' := c' + d p' (a e)) (ha e) g2 (by show _ + d (a e) (a e) ≤ c + d p (a e); rw [hd.1]; omega)
        refine ⟨e :: l', p2, c2, run_cons st ?_, r2, r3⟩
        have : stf (fun e => if hs T e then s e else 0) e 1 = fun x => if hs T x then stf s e 1 x else 0 := by
          funext x; unfold stf; by_cases z : x = e
          · subst z; simp [ht]
          · simp [z]
        rw [this]; exact r1
      · obtain ⟨l', p2, c2, r1, r2, r3⟩ := ih (p' := p') (c' := c') (ha e) g2 (by show c' + d p' (a e) ≤ c + d p (a e); omega)
        refine ⟨l', p2, c2, ?_, r2, r3⟩
        have : (fun x => if hs T x then stf s e 1 x else 0) = fun x => if hs T x then s x else 0 := by
          funext x; unfold stf; by_cases z : x = e
          · subst z; simp [ht]
          · simp [z]
        rw [← this]; exact r1
    · have tr := hd.2.2.2.1 p' (b e) p hq'
      by_cases ht : hs T e = true
      · have st : dstep a b w d W (fun e => if hs T e then s e else 0, p', c') e = some (stf (fun e => if hs T e then s e else 0) e 2, b e, c' + d p' (b e)) := dstep_1 (by simp [ht, k1])
        obtain ⟨l', p2, c2, r1, r2, r3⟩ := ih (p' := b e) (c' := c' + d p' (b e)) (hb e) g2 (by show _ + d (b e) (b e) ≤ c + d p (b e); rw [hd.1]; omega)
        refine ⟨e :: l', p2, c2, run_cons st ?_, r2, r3⟩
        have : stf (fun e => if hs T e then s e else 0) e 2 = fun x => if hs T x then stf s e 2 x else 0 := by
          funext x; unfold stf; by_cases z : x = e
          · subst z; simp [ht]
          · simp [z]
        rw [this]; exact r1
      · obtain ⟨l', p2, c2, r1, r2, r3⟩ := ih (p' := p') (c' := c') (hb e) g2 (by show c' + d p' (b e) ≤ c + d p (b e); omega)
        refine ⟨l', p2, c2, ?_, r2, r3⟩
        have : (fun x => if hs T x then stf s e 2 x else 0) = fun x => if hs T x then s x else 0 := by
          funext x; unfold stf; by_cases z : x = e
          · subst z; simp [ht]
          · simp [z]
        rw [← this]; exact r1
theorem Can_part (hd : Dm d) (ha : ∀ e, a e < 7) (hb : ∀ e, b e < 7) {s S T v : Nat} (hs7 : s < 7) (hT : ∀ e, hs T e = true → hs S e = true) (h : Can a b w d W s S v) : Can a b w d W s T v := by
  obtain ⟨l, p, c, r, z⟩ := h
  obtain ⟨l', p2, c2, r1, r2, r3⟩ := run_part hd ha hb T (p' := s) (c' := 0) (show s < 7 from hs7) r (by show 0 + d s s ≤ 0; rw [hd.1]; omega)
  refine ⟨l', p2, c2, ?_, Nat.le_trans r3 z⟩
  have e1 : (fun e => if hs T e then (fun _ : Nat => 0) e else 0) = fun _ => 0 := by funext x; simp
  have e2 : (fun e => if hs T e then dn S e else 0) = dn T := by
    funext x; unfold dn
    by_cases t : hs T x = true
    · simp [t, hT x t]
    · simp [t]
  rw [show (fun e => if hs T e then ((fun _ => 0, s, 0) : Dst).1 e else 0) = fun _ => 0 from e1] at r1
  rw [show (fun e => if hs T e then ((dn S, p, c) : Dst).1 e else 0) = dn T from e2] at r1
  exact r1
theorem rv_part (hd : Dm d) (ha : ∀ e, a e < 7) (hb : ∀ e, b e < 7) {s S T : Nat} (hs7 : s < 7) (hT : ∀ e, hs T e = true → hs S e = true) : rv a b w d W s T ≤ rv a b w d W s S := by
  have h1 := rv_is a b w d W s S
  have h2 := rv_is a b w d W s T
  by_cases c : rv a b w d W s S < NW
  · exact (h2.2 _ c).mpr (Can_part hd ha hb hs7 hT ((h1.2 _ c).mp (Nat.le_refl _)))
  · have := h2.1; omega
/-- who can do a set, and at all -/
theorem run_able (hd : Dm d) (ha : ∀ e, a e < 7) (hb : ∀ e, b e < 7) {s : Nat} (hs7 : s < 7) {l : List Nat} : ∀ {q q2 : Dst}, q.2.1 < 7 → run a b w d W q l = some q2 → d s q.2.1 ≤ q.2.2 → (∀ e, 1 ≤ q.1 e → w e ≤ W ∧ d s (a e) ≤ q.2.2) → (∀ e, q.1 e = 2 → d s (b e) ≤ q.2.2) → (∀ e, 1 ≤ q2.1 e → w e ≤ W ∧ d s (a e) ≤ q2.2.2) ∧ (∀ e, q2.1 e = 2 → d s (b e) ≤ q2.2.2) := by
  induction l with
  | nil => intro q q2 hq h h1 h2 h3; cases h; exact ⟨h2, h3⟩
  | cons e l ih =>
    intro q q2 hq h h1 h2 h3
    obtain ⟨q1, g1, g2⟩ := run_inv h
    obtain ⟨s1, p, c⟩ := q
    have h1' : d s p ≤ c := h1
    rcases dstep_inv g1 with ⟨k1, k2, rfl⟩ | ⟨k1, rfl⟩
    · have tr := hd.2.2.2.1 s (a e) p hq
      refine ih (ha e) g2 (by show d s (a e) ≤ c + d p (a e); omega) (fun x hx => ?_) (fun x hx => ?_)
      · have hx' : 1 ≤ stf s1 e 1 x := hx
        unfold stf at hx'
        by_cases z : x = e
        · subst z; exact ⟨by omega, by show d s (a x) ≤ c + d p (a x); omega⟩
        · rw [if_neg z] at hx'
          have := h2 x hx'
          exact ⟨this.1, Nat.le_trans this.2 (Nat.le_add_right _ _)⟩
      · have hx' : stf s1 e 1 x = 2 := hx
        unfold stf at hx'
        by_cases z : x = e
        · subst z; rw [if_pos rfl] at hx'; omega
        · rw [if_neg z] at hx'
          exact Nat.le_trans (h3 x hx') (Nat.le_add_right _ _)
    · have tr := hd.2.2.2.1 s (b e) p hq
      refine ih (hb e) g2 (by show d s (b e) ≤ c + d p (b e); omega) (fun x hx => ?_) (fun x hx => ?_)
      · have hx' : 1 ≤ stf s1 e 2 x := hx
        have : 1 ≤ s1 x := by
          unfold stf at hx'
          by_cases z : x = e
          · subst z; omega
          · rw [if_neg z] at hx'; exact hx'
        have := h2 x this
        exact ⟨this.1, Nat.le_trans this.2 (Nat.le_add_right _ _)⟩
      · have hx' : stf s1 e 2 x = 2 := hx
        unfold stf at hx'
        by_cases z : x = e
        · subst z; show d s (b x) ≤ c + d p (b x); omega
        · rw [if_neg z] at hx'
          exact Nat.le_trans (h3 x hx') (Nat.le_add_right _ _)
/-- one by one -/
theorem run_each (hd : Dm d) (ha : ∀ e, a e < 7) (hb : ∀ e, b e < 7) {s S : Nat} (hs7 : s < 7) (hok : ∀ e, e < 8 → hs S e = true → w e ≤ W ∧ d s (a e) < NW ∧ d s (b e) < NW) : ∀ n, n ≤ 8 → ∃ (l : List Nat) (p c : Nat), run a b w d W (fun _ => 0, s, 0) l = some (fun e => if e < n ∧ hs S e = true then 2 else 0, p, c) ∧ p < 7 ∧ d s p < NW ∧ c ≤ n * 50688
  | 0, _ => ⟨[], s, 0, by
      have : (fun e => if e < 0 ∧ hs S e = true then 2 else 0) = fun _ : Nat => 0 := by funext e; simp
      rw [this]; rfl, hs7, by rw [hd.1]; decide, by omega⟩
  | n + 1, hn => by
    obtain ⟨l, p, c, r, hp, hf, hc⟩ := run_each hd ha hb hs7 hok n (by omega)
    by_cases ht : hs S n = true
    · obtain ⟨o1, o2, o3⟩ := hok n (by omega) ht
      have k1 : d p (a n) ≤ 25344 := by
        apply hd.2.2.2.2
        have t := hd.2.2.2.1 p (a n) s hs7
        have f1 := hd.2.2.2.2 _ _ o2
        have f2 := hd.2.2.2.2 _ _ hf
        have := hd.2.1 p s
        have : NW = 1000000 := rfl
        omega
      have k2 : d (a n) (b n) ≤ 25344 := by
        apply hd.2.2.2.2
        have t := hd.2.2.2.1 (a n) (b n) s hs7
        have f1 := hd.2.2.2.2 _ _ o2
        have f2 := hd.2.2.2.2 _ _ o3
        have := hd.2.1 (a n) s
        have : NW = 1000000 := rfl
        omega
      have hz : ld w (fun e => if e < n ∧ hs S e = true then 2 else 0) 8 = 0 := by
        have : ld w (fun e => if e < n ∧ hs S e = true then 2 else 0) 8 = ld w (fun _ => 0) 8 := ld_congr 8 (fun k _ => by
          constructor
          · intro z; split at z <;> omega
          · intro z; omega)
        rw [this]; rfl
      have st1 := dstep_0 (a := a) (b := b) (d := d) (w := w) (W := W) (p := p) (c := c) (e := n) (s := fun e => if e < n ∧ hs S e = true then 2 else 0) (by simp) (by rw [hz]; omega)
      have st2 := dstep_1 (a := a) (b := b) (d := d) (w := w) (W := W) (p := a n) (c := c + d p (a n)) (e := n) (s := stf (fun e => if e < n ∧ hs S e = true then 2 else 0) n 1) (by simp [stf])
      refine ⟨l ++ [n, n], b n, c + d p (a n) + d (a n) (b n), run_app r ?_, hb n, o3, by omega⟩
      refine run_cons st1 (run_cons st2 ?_)
      show some _ = some _
      congr 2
      funext e
      unfold stf
      by_cases z : e = n
      · subst z; simp [ht]
      · rw [if_neg z, if_neg z]
        by_cases y : e < n
        · simp [y, show e < n + 1 by omega]
        · simp [y, show ¬ e < n + 1 by omega]
    · have hc2 : c ≤ (n + 1) * 50688 := Nat.le_trans hc (Nat.mul_le_mul_right 50688 (Nat.le_succ n))
      refine ⟨l, p, c, ?_, hp, hf, hc2⟩
      rw [r]
      congr 2
      funext e
      by_cases z : e = n
      · subst z; simp [ht]
      · by_cases y : e < n
        · simp [y, show e < n + 1 by omega]
        · simp [y, show ¬ e < n + 1 by omega]
theorem rv_able (hd : Dm d) (ha : ∀ e, a e < 7) (hb : ∀ e, b e < 7) {s S : Nat} (hs7 : s < 7) (hS : S < 256) : rv a b w d W s S < NW ↔ ∀ e, e < 8 → hs S e = true → w e ≤ W ∧ d s (a e) < NW ∧ d s (b e) < NW := by
  have hR := rv_is a b w d W s S
  constructor
  · intro c e he ht
    obtain ⟨l, p, c', r, z⟩ := (hR.2 _ c).mp (Nat.le_refl _)
    obtain ⟨q1, q2⟩ := run_able hd ha hb hs7 (show ((fun _ => 0, s, 0) : Dst).2.1 < 7 from hs7) r (by show d s s ≤ 0; rw [hd.1]; omega) (fun e he => by have : 1 ≤ 0 := he; omega) (fun e he => by have : 0 = 2 := he; omega)
    have hde : dn S e = 2 := by simp [dn, ht]
    have g1 := q1 e (by show 1 ≤ dn S e; omega)
    have g2 := q2 e hde
    have g1' : d s (a e) ≤ c' := g1.2
    have g2' : d s (b e) ≤ c' := g2
    exact ⟨g1.1, by omega, by omega⟩
  · intro hok
    obtain ⟨l, p, c, r, -, -, hc⟩ := run_each (W := W) hd ha hb hs7 hok 8 (Nat.le_refl 8)
    have hlt : c < NW := by have : NW = 1000000 := rfl
                            omega
    refine Nat.lt_of_le_of_lt ((hR.2 c hlt).mpr ⟨l, p, c, ?_, Nat.le_refl _⟩) hlt
    rw [r]
    congr 2
    funext e
    unfold dn
    by_cases z : e < 8
    · simp [z]
    · have hz : hs S e = false := hs256 hS (by omega)
      simp [hz]
end DEEDS2
