/-! the class' table and the reference's -/
section DP3
variable {a b w : Nat → Nat} {d : Nat → Nat → Nat} {W s0 : Nat} {num : Nat → Nat} {k : Nat}
def Snd (a b w : Nat → Nat) (d : Nat → Nat → Nat) (W s0 : Nat) (num : Nat → Nat) (k : Nat) (T : Nat → Nat → Nat) : Prop := ∀ c p, c < 3 ^ k → p < 7 → T c p < NW → Rch a b w d W s0 num k c p (T c p)
/-- a set of the chosen ones that is done: its number -/
def cdS (num : Nat → Nat) (S : Nat) : Nat → Nat
  | 0 => 0
  | i + 1 => if hs S (num i) then cdS num S i + 2 * 3 ^ i else cdS num S i
theorem cdS_dg (hk : k < 6) {S : Nat} : ∀ n, n ≤ k → cdS num S n < 3 ^ n ∧ ∀ j, j < 5 → dg (cdS num S n) j = if j < n ∧ hs S (num j) = true then 2 else 0
  | 0, _ => ⟨by show 0 < 3 ^ 0; omega, fun j _ => by rw [if_neg (by omega)]; exact dg_0 j⟩
  | n + 1, hn => by
    obtain ⟨i1, i2⟩ := cdS_dg hk (S := S) n (by omega)
    have h3 := p3k (show n < 6 by omega)
    have e3 : 3 ^ (n + 1) = 3 * 3 ^ n := by rw [Nat.pow_succ, Nat.mul_comm]
    have h4 := p3k (show n + 1 < 6 by omega)
    unfold cdS
    by_cases z : hs S (num n) = true
    · rw [if_pos z]
      refine ⟨by omega, fun j hj => ?_⟩
      have f0 := i2 n (by omega)
      rw [if_neg (by omega)] at f0
      have f1 : ∀ j, j < 5 → dg (cdS num S n + 3 ^ n) j = if j = n then 1 else dg (cdS num S n) j := fun j hj => by
        rw [dg_up (by omega) (by omega) hj (by omega), f0]
      have f2 := f1 n (by omega)
      rw [if_pos rfl] at f2
      rw [show cdS num S n + 2 * 3 ^ n = cdS num S n + 3 ^ n + 3 ^ n by omega, dg_up (by omega) (by omega) hj (by omega), f1 j hj, f2]
      by_cases y : j = n
      · subst y; rw [if_pos rfl, if_pos ⟨by omega, z⟩]
      · rw [if_neg y, if_neg y, i2 j hj]
        by_cases v : j < n
        · have : j < n + 1 := by omega
          simp only [v, this, true_and]
        · rw [if_neg (by omega), if_neg (by omega)]
    · rw [if_neg z]
      refine ⟨by omega, fun j hj => ?_⟩
      rw [i2 j hj]
      by_cases y : j = n
      · subst y; rw [if_neg (by omega), if_neg (fun q => z q.2)]
      · by_cases v : j < n
        · have : j < n + 1 := by omega
          simp only [v, this, true_and]
        · rw [if_neg (by omega), if_neg (by omega)]
theorem sg_cdS (hk : k < 6) (hin : ∀ i j, i < k → j < k → num i = num j → i = j) {S : Nat} (hS : ∀ e, hs S e = true → ∃ i, i < k ∧ num i = e) : sg num (cdS num S k) k = dn S := by
  symm
  apply sg_ext hin
  · intro i hi
    rw [(cdS_dg hk k (Nat.le_refl k)).2 i (by omega)]
    unfold dn
    simp only [hi, true_and]
  · intro e he
    unfold dn
    rw [if_neg]
    intro z
    obtain ⟨i, hi, y⟩ := hS e z
    exact he i hi y
theorem sg_inj (hk : k < 6) (hin : ∀ i j, i < k → j < k → num i = num j → i = j) {c c' : Nat} (hc : c < 3 ^ k) (hc' : c' < 3 ^ k) (h : sg num c k = sg num c' k) : c = c' := by
  refine dg_all hk hc hc' (fun i hi => ?_)
  have := congrFun h (num i)
  rw [sg_at hin k (Nat.le_refl k) hi, sg_at hin k (Nat.le_refl k) hi] at this
  exact this
def RelC (num : Nat → Nat) (k : Nat) (s : Nat → Nat) (m : Nat) : Prop := m < 3 ^ k ∧ s = sg num m k
theorem class_done (hd : Dm d) (ha : ∀ e, a e < 7) (hb : ∀ e, b e < 7) (hs0 : s0 < 7) (hk : k < 6) (hin : ∀ i j, i < k → j < k → num i = num j → i = j) (h8 : ∀ i, i < k → num i < 8) {T : Nat → Nat → Nat} (hsn : Snd a b w d W s0 num k T) (hT0 : T 0 s0 = 0) (h0 : ∀ m i, m < 3 ^ k → i < k → dg m i = 0 → lsum w num m k + w (num i) ≤ W → ∀ q, q < 7 → T (m + 3 ^ i) (a (num i)) ≤ T m q + d q (a (num i))) (h1 : ∀ m i, m < 3 ^ k → i < k → dg m i = 1 → ∀ q, q < 7 → T (m + 3 ^ i) (b (num i)) ≤ T m q + d q (b (num i))) {S : Nat} (hS : ∀ e, hs S e = true → ∃ i, i < k ∧ num i = e) : IsR a b w d W s0 S (mn7 (T (cdS num S k)) 7) := by
  have hc := (cdS_dg (num := num) hk (S := S) k (Nat.le_refl k)).1
  have hp := p3p k
  refine dp_done (Rel := RelC num k) (N := 3 ^ k - 1) (B := T) hd ha hb hs0 (fun s m h => by have := h.1; omega) ?_ ⟨hp, (sg_0 k).symm⟩ hT0 hS (sg_cdS hk hin hS) (fun m h => ?_) (fun _ _ => rfl) (fun p hp' z => hsn _ p hc hp' z)
  · intro m hm s i s' x hi hr hv
    obtain ⟨r1, r2⟩ := hr
    subst r2
    right
    rcases hv with ⟨v1, v2, v3, v4⟩ | ⟨v1, v3, v4⟩
    · rw [sg_at hin k (Nat.le_refl k) hi] at v1
      rw [ld_sg hin h8 k (Nat.le_refl k)] at v2
      subst v3; subst v4
      have hup := sg_up hk hin r1 hi (show dg m i < 2 by omega)
      rw [v1] at hup
      exact ⟨m + 3 ^ i, by have := p3p i; omega, Or.inl ⟨dg_ul hk r1 hi (by omega), hup.symm⟩, h0 m i r1 hi v1 v2⟩
    · rw [sg_at hin k (Nat.le_refl k) hi] at v1
      subst v3; subst v4
      have hup := sg_up hk hin r1 hi (show dg m i < 2 by omega)
      rw [v1] at hup
      exact ⟨m + 3 ^ i, by have := p3p i; omega, Or.inl ⟨dg_ul hk r1 hi (by omega), hup.symm⟩, h1 m i r1 hi v1⟩
  · exact sg_inj hk hin h.1 hc (by rw [← h.2, sg_cdS hk hin hS])
/-- the reference's numbers may be ahead: what is carried may be done -/
def RelM (num : Nat → Nat) (k : Nat) (s : Nat → Nat) (m : Nat) : Prop := m < 3 ^ k ∧ ∀ e, sg num m k e = s e ∨ (s e = 1 ∧ sg num m k e = 2)
def HInv (a b w : Nat → Nat) (d : Nat → Nat → Nat) (W s0 : Nat) (num : Nat → Nat) (k m : Nat) (T : Nat → Nat → Nat) : Prop := ∃ B : Nat → Nat → Nat, (∀ c p, m ≤ c → B c p = T c p) ∧ B 0 s0 = 0 ∧ ∀ c, c < m → Clo a b w d W num k (RelM num k) B B c
theorem H_step {m : Nat} {T T' : Nat → Nat → Nat} (hT : ∀ c p, T' c p ≤ T c p) (hc : Clo a b w d W num k (RelM num k) T T' m) (h : HInv a b w d W s0 num k m T) : HInv a b w d W s0 num k (m + 1) T' := by
  obtain ⟨B, b1, b2, b3⟩ := h
  have hle : ∀ c p, (if c ≤ m then B c p else T' c p) ≤ B c p := fun c p => by
    by_cases z : c ≤ m
    · rw [if_pos z]; exact Nat.le_refl _
    · rw [if_neg z, b1 c p (by omega)]; exact hT c p
  refine ⟨fun c p => if c ≤ m then B c p else T' c p, fun c p z => if_neg (by omega), Eq.trans (if_pos (Nat.zero_le m)) b2, fun c z => ?_⟩
  intro s i s' x hi hr hv
  by_cases y : c < m
  · rcases b3 c y s i s' x hi hr hv with g | ⟨m', g1, g2, g3⟩
    · exact Or.inl g
    · refine Or.inr ⟨m', g1, g2, fun q hq => ?_⟩
      have := hle m' x
      have := g3 q hq
      show (if m' ≤ m then B m' x else T' m' x) ≤ (if c ≤ m then B c q else T' c q) + d q x
      rw [if_pos (show c ≤ m by omega)]
      omega
  · have : c = m := by omega
    subst this
    rcases hc s i s' x hi hr hv with g | ⟨m', g1, g2, g3⟩
    · exact Or.inl g
    · refine Or.inr ⟨m', g1, g2, fun q hq => ?_⟩
      have := g3 q hq
      show (if m' ≤ c then B m' x else T' m' x) ≤ (if c ≤ c then B c q else T' c q) + d q x
      rw [if_pos (Nat.le_refl c), if_neg (by omega), b1 c q (Nat.le_refl c)]
      exact this
theorem M_clo (hk : k < 6) (hin : ∀ i j, i < k → j < k → num i = num j → i = j) (h8 : ∀ i, i < k → num i < 8) {m : Nat} {T T1 T' : Nat → Nat → Nat} (h1 : ∀ q x, q < 7 → x < 7 → T1 (th b num m x k) x ≤ T m q + d q x) (ha : ∀ e, a e < 7) (hb : ∀ e, b e < 7) (h2 : ∀ c p, T' c p ≤ T1 c p) (h3 : ∀ i, i < k → dg m i = 0 → lsum w num m k + w (num i) ≤ W → T' (m + 3 ^ i) (a (num i)) ≤ T1 m (a (num i))) : Clo a b w d W num k (RelM num k) T T' m := by
  intro s i s' x hi hr hv
  obtain ⟨r1, r2⟩ := hr
  have hx : x < 7 := by
    rcases hv with ⟨_, _, _, rfl⟩ | ⟨_, _, rfl⟩
    · exact ha _
    · exact hb _
  obtain ⟨t1, t2, t3⟩ := th_dg (b := b) (num := num) hk (x := x) r1 k (Nat.le_refl k)
  have hahead : ∀ s2 : Nat → Nat, (∀ e, sg num m k e = s2 e ∨ (s2 e = 1 ∧ sg num m k e = 2)) → ∀ e, sg num (th b num m x k) k e = s2 e ∨ (s2 e = 1 ∧ sg num (th b num m x k) k e = 2) := fun s2 h e => by
    by_cases z : ∃ j, j < k ∧ num j = e
    · obtain ⟨j, hj, rfl⟩ := z
      have hje := h (num j)
      rw [sg_at hin k (Nat.le_refl k) hj] at hje ⊢
      rw [t3 j hj]
      by_cases y : dg m j = 1 ∧ b (num j) = x
      · rw [if_pos ⟨hj, y⟩]
        right
        have := y.1
        omega
      · rw [if_neg (fun q => y q.2)]; exact hje
    · have z' : ∀ j, j < k → num j ≠ e := fun j hj y => z ⟨j, hj, y⟩
      have := h e
      rw [sg_off k z'] at this ⊢
      exact this
  have hri := r2 (num i)
  rw [sg_at hin k (Nat.le_refl k) hi] at hri
  rcases hv with ⟨v1, v2, v3, v4⟩ | ⟨v1, v3, v4⟩
  · have hz : dg m i = 0 := by omega
    right
    by_cases y : th b num m x k = m
    · refine ⟨m + 3 ^ i, by have := p3p i; omega, Or.inl ⟨dg_ul hk r1 hi (by omega), fun e => ?_⟩, fun q hq => ?_⟩
      · rw [sg_up hk hin r1 hi (by omega), hz, v3]
        unfold stf
        by_cases u : e = num i
        · rw [if_pos u, if_pos u]; exact Or.inl rfl
        · rw [if_neg u, if_neg u]; exact r2 e
      · have g1 := h1 q x hq hx
        rw [y] at g1
        have hl : ld w (sg num m k) 8 ≤ ld w s 8 := ld_le 8 (fun e _ z => by
          rcases r2 e with u | u
          · omega
          · omega)
        rw [ld_sg hin h8 k (Nat.le_refl k)] at hl
        have g2 := h3 i hi hz (by omega)
        rw [v4] at g1 ⊢
        omega
    · refine ⟨th b num m x k, by omega, Or.inr ⟨t1, hahead s r2⟩, fun q hq => ?_⟩
      exact Nat.le_trans (h2 _ _) (h1 q x hq hx)
  · by_cases y : dg m i = 2
    · left
      refine ⟨r1, fun e => ?_⟩
      rw [v3]
      unfold stf
      by_cases u : e = num i
      · rw [if_pos u, u, sg_at hin k (Nat.le_refl k) hi]; exact Or.inl y
      · rw [if_neg u]; exact r2 e
    · right
      have hz : dg m i = 1 := by omega
      have hti := t3 i hi
      rw [if_pos ⟨hi, hz, v4.symm⟩] at hti
      refine ⟨th b num m x k, ?_, Or.inl ⟨t1, fun e => ?_⟩, fun q hq => ?_⟩
      · have : th b num m x k ≠ m := fun u => by rw [u] at hti; omega
        omega
      · rw [v3]
        unfold stf
        by_cases u : e = num i
        · rw [if_pos u, u, sg_at hin k (Nat.le_refl k) hi]; exact Or.inl hti
        · rw [if_neg u]; exact hahead s r2 e
      · exact Nat.le_trans (h2 _ _) (h1 q x hq hx)
theorem H_done (hd : Dm d) (ha : ∀ e, a e < 7) (hb : ∀ e, b e < 7) (hs0 : s0 < 7) (hk : k < 6) (hin : ∀ i j, i < k → j < k → num i = num j → i = j) {T : Nat → Nat → Nat} (hsn : Snd a b w d W s0 num k T) (hH : HInv a b w d W s0 num k (3 ^ k - 1) T) {S : Nat} (hS : ∀ e, hs S e = true → ∃ i, i < k ∧ num i = e) (hS2 : ∀ i, i < k → hs S (num i) = true) : IsR a b w d W s0 S (mn7 (T (3 ^ k - 1)) 7) := by
  obtain ⟨B, b1, b2, b3⟩ := hH
  have hp := p3p k
  obtain ⟨c1, c2⟩ := cdS_dg (num := num) hk (S := S) k (Nat.le_refl k)
  have hall : ∀ m, m < 3 ^ k → (∀ i, i < k → dg m i = 2) → m = 3 ^ k - 1 := by
    have key : ∀ k, k < 6 → ∀ m, m < 3 ^ k → (∀ i, i < k → dg m i = 2) → m = 3 ^ k - 1 := by decide +kernel
    exact key k hk
  have hcd : cdS num S k = 3 ^ k - 1 := hall _ c1 (fun i hi => by rw [c2 i (by omega), if_pos ⟨hi, hS2 i hi⟩])
  have hdl : ∀ i, i < k → dg (3 ^ k - 1) i = 2 := fun i hi => by rw [← hcd, c2 i (by omega), if_pos ⟨hi, hS2 i hi⟩]
  refine dp_done (Rel := RelM num k) (N := 3 ^ k - 1) (B := B) (cS := 3 ^ k - 1) hd ha hb hs0 (fun s m h => by have := h.1; omega) ?_ ⟨hp, fun e => by rw [sg_0]; exact Or.inl rfl⟩ b2 hS (by rw [← hcd]; exact sg_cdS hk hin hS) (fun m h => ?_) (fun p _ => (b1 _ p (Nat.le_refl _)).symm) (fun p hp' z => hsn _ p (by omega) hp' z)
  · intro m hm
    by_cases z : m < 3 ^ k - 1
    · exact b3 m z
    · have : m = 3 ^ k - 1 := by omega
      subst this
      intro s i s' x hi hr hv
      obtain ⟨r1, r2⟩ := hr
      have hri := r2 (num i)
      rw [sg_at hin k (Nat.le_refl k) hi, hdl i hi] at hri
      rcases hv with ⟨v1, v2, v3, v4⟩ | ⟨v1, v3, v4⟩
      · omega
      · left
        refine ⟨r1, fun e => ?_⟩
        rw [v3]
        unfold stf
        by_cases u : e = num i
        · rw [if_pos u, u, sg_at hin k (Nat.le_refl k) hi]; exact Or.inl (hdl i hi)
        · rw [if_neg u]; exact r2 e
  · refine hall m h.1 (fun i hi => ?_)
    have := h.2 (num i)
    rw [sg_at hin k (Nat.le_refl k) hi] at this
    have e : dn S (num i) = 2 := by simp [dn, hS2 i hi]
    omega
end DP3
