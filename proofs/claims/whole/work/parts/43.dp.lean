/-! digits to the base 3, tables of rounds -/
def dg (c i : Nat) : Nat := c / 3 ^ i % 3
theorem dg_lt (c i : Nat) : dg c i < 3 := Nat.mod_lt _ (by omega)
theorem dg_0 (i : Nat) : dg 0 i = 0 := by simp [dg]
theorem dg_up {c i j : Nat} (hc : c < 243) (hi : i < 5) (hj : j < 5) (h : dg c i < 2) : dg (c + 3 ^ i) j = if j = i then dg c i + 1 else dg c j := by
  have key : ∀ c, c < 243 → ∀ i, i < 5 → ∀ j, j < 5 → dg c i < 2 → dg (c + 3 ^ i) j = if j = i then dg c i + 1 else dg c j := by decide +kernel
  exact key c hc i hi j hj h
theorem dg_ul {k c i : Nat} (hk : k < 6) (hc : c < 3 ^ k) (hi : i < k) (h : dg c i < 2) : c + 3 ^ i < 3 ^ k := by
  have key : ∀ k, k < 6 → ∀ c, c < 3 ^ k → ∀ i, i < k → dg c i < 2 → c + 3 ^ i < 3 ^ k := by decide +kernel
  exact key k hk c hc i hi h
theorem dg_all {k c c' : Nat} (hk : k < 6) (hc : c < 3 ^ k) (hc' : c' < 3 ^ k) (h : ∀ i, i < k → dg c i = dg c' i) : c = c' := by
  have key : ∀ n c c', c < 3 ^ n → c' < 3 ^ n → (∀ i, i < n → dg c i = dg c' i) → c = c' := by
    intro n
    induction n with
    | zero => intro c c' h1 h2 _; omega
    | succ n ih =>
      intro c c' h1 h2 h
      have e : 3 ^ (n + 1) = 3 * 3 ^ n := by rw [Nat.pow_succ, Nat.mul_comm]
      have h0 := h 0 (by omega)
      have : c / 3 = c' / 3 := by
        refine ih _ _ (by omega) (by omega) (fun i hi => ?_)
        have := h (i + 1) (by omega)
        unfold dg at this ⊢
        rw [Nat.div_div_eq_div_mul, Nat.div_div_eq_div_mul]
        rw [Nat.pow_succ, Nat.mul_comm] at this
        exact this
      unfold dg at h0
      simp at h0
      omega
  exact key k c c' hc hc' h
theorem p3k {k : Nat} (hk : k < 6) : 3 ^ k ≤ 243 := by
  have key : ∀ k, k < 6 → 3 ^ k ≤ 243 := by decide
  exact key k hk
theorem p3p (k : Nat) : 0 < 3 ^ k := Nat.pow_pos (by omega)
/-- how the errands stand by a number of digits -/
def sg (num : Nat → Nat) (c : Nat) : Nat → Nat → Nat
  | 0 => fun _ => 0
  | k + 1 => stf (sg num c k) (num k) (dg c k)
def lsum (w num : Nat → Nat) (c : Nat) : Nat → Nat
  | 0 => 0
  | i + 1 => if dg c i = 1 then lsum w num c i + w (num i) else lsum w num c i
def th (b num : Nat → Nat) (c x : Nat) : Nat → Nat
  | 0 => c
  | i + 1 => if dg c i = 1 ∧ b (num i) = x then th b num c x i + 3 ^ i else th b num c x i
def mn7 (f : Nat → Nat) : Nat → Nat
  | 0 => NW
  | p + 1 => min (mn7 f p) (f p)
theorem mn7_le (f : Nat → Nat) : ∀ n, mn7 f n ≤ NW
  | 0 => Nat.le_refl _
  | n + 1 => Nat.le_trans (Nat.min_le_left _ _) (mn7_le f n)
theorem mn7_at (f : Nat → Nat) : ∀ n p, p < n → mn7 f n ≤ f p
  | 0, p, h => by omega
  | n + 1, p, h => by
    by_cases e : p = n
    · subst e; exact Nat.min_le_right _ _
    · exact Nat.le_trans (Nat.min_le_left _ _) (mn7_at f n p (by omega))
theorem mn7_ex (f : Nat → Nat) : ∀ n, mn7 f n = NW ∨ ∃ p, p < n ∧ mn7 f n = f p
  | 0 => Or.inl rfl
  | n + 1 => by
    show min (mn7 f n) (f n) = NW ∨ _
    by_cases c : mn7 f n ≤ f n
    · rcases mn7_ex f n with q | ⟨p, h1, h2⟩
      · left; omega
      · right; exact ⟨p, by omega, by show min (mn7 f n) (f n) = f p; omega⟩
    · right; exact ⟨n, by omega, by show min (mn7 f n) (f n) = f n; omega⟩
section DP
variable {num : Nat → Nat} {k : Nat}
theorem sg_off {c e : Nat} : ∀ n, (∀ i, i < n → num i ≠ e) → sg num c n e = 0
  | 0, _ => rfl
  | n + 1, h => by
    show stf (sg num c n) (num n) (dg c n) e = 0
    unfold stf
    rw [if_neg (fun z => h n (by omega) z.symm)]
    exact sg_off n (fun i hi => h i (by omega))
theorem sg_at (hin : ∀ i j, i < k → j < k → num i = num j → i = j) {c i : Nat} : ∀ n, n ≤ k → i < n → sg num c n (num i) = dg c i
  | 0, _, h => by omega
  | n + 1, hn, h => by
    show stf (sg num c n) (num n) (dg c n) (num i) = dg c i
    unfold stf
    by_cases z : i = n
    · subst z; rw [if_pos rfl]
    · rw [if_neg (fun y => z (hin i n (by omega) (by omega) y))]
      exact sg_at hin n (by omega) (by omega)
theorem sg_ext (hin : ∀ i j, i < k → j < k → num i = num j → i = j) {c : Nat} {s : Nat → Nat} (h1 : ∀ i, i < k → s (num i) = dg c i) (h2 : ∀ e, (∀ i, i < k → num i ≠ e) → s e = 0) : s = sg num c k := by
  funext e
  by_cases z : ∃ i, i < k ∧ num i = e
  · obtain ⟨i, hi, rfl⟩ := z
    rw [sg_at hin k (Nat.le_refl k) hi, h1 i hi]
  · have z' : ∀ i, i < k → num i ≠ e := fun i hi y => z ⟨i, hi, y⟩
    rw [sg_off k z', h2 e z']
theorem sg_up (hk : k < 6) (hin : ∀ i j, i < k → j < k → num i = num j → i = j) {c i : Nat} (hc : c < 3 ^ k) (hi : i < k) (h : dg c i < 2) : sg num (c + 3 ^ i) k = stf (sg num c k) (num i) (dg c i + 1) := by
  have := p3k hk
  symm
  apply sg_ext hin
  · intro j hj
    rw [dg_up (by omega) (by omega) (by omega) h]
    unfold stf
    by_cases z : j = i
    · subst z; simp
    · rw [if_neg (fun y => z (hin j i hj hi y)), if_neg z, sg_at hin k (Nat.le_refl k) hj]
  · intro e he
    unfold stf
    rw [if_neg (fun y => he i hi y.symm), sg_off k he]
theorem sg_0 : ∀ n, sg num 0 n = fun _ => 0
  | 0 => rfl
  | n + 1 => by
    show stf (sg num 0 n) (num n) (dg 0 n) = _
    rw [sg_0 n, dg_0]
    funext e
    unfold stf
    split <;> rfl
theorem ld_sg (hin : ∀ i j, i < k → j < k → num i = num j → i = j) (h8 : ∀ i, i < k → num i < 8) {w : Nat → Nat} {c : Nat} : ∀ n, n ≤ k → ld w (sg num c n) 8 = lsum w num c n
  | 0, _ => rfl
  | n + 1, hn => by
    have ih := ld_sg hin h8 (w := w) (c := c) n (by omega)
    have hz : sg num c n (num n) = 0 := sg_off n (fun i hi y => by have := hin i n (by omega) (by omega) y; omega)
    show ld w (stf (sg num c n) (num n) (dg c n)) 8 = if dg c n = 1 then lsum w num c n + w (num n) else lsum w num c n
    by_cases z : dg c n = 1
    · rw [if_pos z, z, ld_up (by omega), ih, if_pos (h8 n (by omega))]
    · rw [if_neg z, ← ih]
      apply ld_congr
      intro e _
      unfold stf
      by_cases y : e = num n
      · rw [if_pos y, y, hz]; omega
      · rw [if_neg y]
theorem th_dg {b : Nat → Nat} (hk : k < 6) {c x : Nat} (hc : c < 3 ^ k) : ∀ n, n ≤ k → th b num c x n < 3 ^ k ∧ c ≤ th b num c x n ∧ ∀ j, j < k → dg (th b num c x n) j = if j < n ∧ dg c j = 1 ∧ b (num j) = x then 2 else dg c j
  | 0, _ => ⟨hc, Nat.le_refl _, fun j _ => by rw [if_neg (by omega)]; rfl⟩
  | n + 1, hn => by
    obtain ⟨i1, i2, i3⟩ := th_dg (b := b) hk (x := x) hc n (by omega)
    have h3 := p3k hk
    have hn' := i3 n (by omega)
    rw [if_neg (by omega)] at hn'
    unfold th
    by_cases z : dg c n = 1 ∧ b (num n) = x
    · rw [if_pos z]
      refine ⟨dg_ul hk i1 (by omega) (by omega), Nat.le_trans i2 (Nat.le_add_right _ _), fun j hj => ?_⟩
      rw [dg_up (by omega) (by omega) (by omega) (by omega)]
      by_cases y : j = n
      · subst y; rw [if_pos rfl, if_pos ⟨by omega, z⟩]; omega
      · rw [if_neg y, i3 j hj]
        by_cases v : j < n
        · have : j < n + 1 := by omega
          simp only [v, this, true_and]
        · rw [if_neg (by omega), if_neg (by omega)]
    · rw [if_neg z]
      refine ⟨i1, i2, fun j hj => ?_⟩
      rw [i3 j hj]
      by_cases y : j = n
      · subst y; rw [if_neg (by omega), if_neg (fun q => z q.2)]
      · by_cases v : j < n
        · have : j < n + 1 := by omega
          simp only [v, this, true_and]
        · rw [if_neg (by omega), if_neg (by omega)]
end DP
section DP2
variable {a b w : Nat → Nat} {d : Nat → Nat → Nat} {W s0 : Nat} {num : Nat → Nat} {k : Nat}
def Rch (a b w : Nat → Nat) (d : Nat → Nat → Nat) (W s0 : Nat) (num : Nat → Nat) (k c p v : Nat) : Prop := ∃ (l : List Nat) (p' c' : Nat), run a b w d W (fun _ => 0, s0, 0) l = some (sg num c k, p', c') ∧ c' + d p' p ≤ v
theorem R_start (hd : Dm d) : Rch a b w d W s0 num k 0 s0 0 := ⟨[], s0, 0, by rw [sg_0]; rfl, by rw [hd.1]; omega⟩
theorem R_go (hd : Dm d) {c p x v : Nat} (hp : p < 7) (h : Rch a b w d W s0 num k c p v) : Rch a b w d W s0 num k c x (v + d p x) := by
  obtain ⟨l, p', c', h1, h2⟩ := h
  refine ⟨l, p', c', h1, ?_⟩
  have := hd.2.2.2.1 p' x p hp
  omega
theorem R_mono {c p v v' : Nat} (h : Rch a b w d W s0 num k c p v) (hv : v ≤ v') : Rch a b w d W s0 num k c p v' := by
  obtain ⟨l, p', c', h1, h2⟩ := h
  exact ⟨l, p', c', h1, by omega⟩
theorem R_take (hd : Dm d) (hk : k < 6) (hin : ∀ i j, i < k → j < k → num i = num j → i = j) (h8 : ∀ i, i < k → num i < 8) {c i v : Nat} (hc : c < 3 ^ k) (hi : i < k) (h0 : dg c i = 0) (hw : lsum w num c k + w (num i) ≤ W) (h : Rch a b w d W s0 num k c (a (num i)) v) : Rch a b w d W s0 num k (c + 3 ^ i) (a (num i)) v := by
  obtain ⟨l, p', c', h1, h2⟩ := h
  refine ⟨l ++ [num i], a (num i), c' + d p' (a (num i)), run_app h1 (run_one ?_), by rw [hd.1]; omega⟩
  rw [sg_up hk hin hc hi (by omega), h0]
  exact dstep_0 (by rw [sg_at hin k (Nat.le_refl k) hi, h0]) (by rw [ld_sg hin h8 k (Nat.le_refl k)]; exact hw)
theorem R_put (hd : Dm d) (hk : k < 6) (hin : ∀ i j, i < k → j < k → num i = num j → i = j) {c i v : Nat} (hc : c < 3 ^ k) (hi : i < k) (h0 : dg c i = 1) (h : Rch a b w d W s0 num k c (b (num i)) v) : Rch a b w d W s0 num k (c + 3 ^ i) (b (num i)) v := by
  obtain ⟨l, p', c', h1, h2⟩ := h
  refine ⟨l ++ [num i], b (num i), c' + d p' (b (num i)), run_app h1 (run_one ?_), by rw [hd.1]; omega⟩
  rw [sg_up hk hin hc hi (by omega), h0]
  exact dstep_1 (by rw [sg_at hin k (Nat.le_refl k) hi, h0])
theorem R_th (hd : Dm d) (hk : k < 6) (hin : ∀ i j, i < k → j < k → num i = num j → i = j) {c x v : Nat} (hc : c < 3 ^ k) (h : Rch a b w d W s0 num k c x v) : ∀ n, n ≤ k → Rch a b w d W s0 num k (th b num c x n) x v
  | 0, _ => h
  | n + 1, hn => by
    have ih := R_th hd hk hin hc h n (by omega)
    obtain ⟨i1, i2, i3⟩ := th_dg (b := b) (num := num) hk (x := x) hc n (by omega)
    have hn' := i3 n (by omega)
    rw [if_neg (by omega)] at hn'
    unfold th
    by_cases z : dg c n = 1 ∧ b (num n) = x
    · rw [if_pos z]
      obtain ⟨z1, z2⟩ := z
      subst z2
      exact R_put hd hk hin i1 (by omega) (by omega) ih
    · rw [if_neg z]; exact ih
def Val (a b w : Nat → Nat) (W : Nat) (s : Nat → Nat) (e : Nat) (s' : Nat → Nat) (x : Nat) : Prop := (s e = 0 ∧ ld w s 8 + w e ≤ W ∧ s' = stf s e 1 ∧ x = a e) ∨ (s e = 1 ∧ s' = stf s e 2 ∧ x = b e)
/-- what a stand's number hands on, from a table T to a table B -/
def Clo (a b w : Nat → Nat) (d : Nat → Nat → Nat) (W : Nat) (num : Nat → Nat) (k : Nat) (Rel : (Nat → Nat) → Nat → Prop) (T B : Nat → Nat → Nat) (m : Nat) : Prop :=
  ∀ s i s' x, i < k → Rel s m → Val a b w W s (num i) s' x → Rel s' m ∨ ∃ m', m < m' ∧ (Rel s' m' ∨ Rel s m') ∧ ∀ q, q < 7 → B m' x ≤ T m q + d q x
variable {Rel : (Nat → Nat) → Nat → Prop} {N : Nat} {B : Nat → Nat → Nat}
theorem P_step (hd : Dm d) (ha : ∀ e, a e < 7) (hb : ∀ e, b e < 7) (hN : ∀ s m, Rel s m → m ≤ N) (hcl : ∀ m, m ≤ N → Clo a b w d W num k Rel B B m) {i x : Nat} {s s' : Nat → Nat} (hi : i < k) (hv : Val a b w W s (num i) s' x) : ∀ j m q, N - m ≤ j → q < 7 → Rel s m → ∃ m' q', q' < 7 ∧ Rel s' m' ∧ B m' q' + d q' x ≤ B m q + d q x := by
  have hx : x < 7 := by
    rcases hv with ⟨_, _, _, rfl⟩ | ⟨_, _, rfl⟩
    · exact ha _
    · exact hb _
  intro j
  induction j with
  | zero =>
    intro m q hj hq hr
    have hm := hN s m hr
    rcases hcl m hm s i s' x hi hr hv with h | ⟨m', h1, h2, h3⟩
    · exact ⟨m, q, hq, h, Nat.le_refl _⟩
    · have : m' ≤ N := by
        rcases h2 with h2 | h2
        · exact hN _ _ h2
        · exact hN _ _ h2
      omega
  | succ j ih =>
    intro m q hj hq hr
    have hm := hN s m hr
    rcases hcl m hm s i s' x hi hr hv with h | ⟨m', h1, h2 | h2, h3⟩
    · exact ⟨m, q, hq, h, Nat.le_refl _⟩
    · exact ⟨m', x, hx, h2, by rw [hd.1]; exact h3 q hq⟩
    · obtain ⟨m2, q2, g1, g2, g3⟩ := ih m' x (by omega) hx h2
      refine ⟨m2, q2, g1, g2, Nat.le_trans g3 ?_⟩
      rw [hd.1]; exact h3 q hq
theorem P_run (hd : Dm d) (ha : ∀ e, a e < 7) (hb : ∀ e, b e < 7) (hN : ∀ s m, Rel s m → m ≤ N) (hcl : ∀ m, m ≤ N → Clo a b w d W num k Rel B B m) {l : List Nat} : ∀ {s s2 : Nat → Nat} {p c p2 c2 : Nat}, (∀ e, e ∈ l → ∃ i, i < k ∧ num i = e) → p < 7 → run a b w d W (s, p, c) l = some (s2, p2, c2) → (∃ m q, q < 7 ∧ Rel s m ∧ B m q + d q p ≤ c) → ∃ m q, q < 7 ∧ Rel s2 m ∧ B m q + d q p2 ≤ c2 := by
  induction l with
  | nil => intro s s2 p c p2 c2 hl hp h hP; cases h; exact hP
  | cons e l ih =>
    intro s s2 p c p2 c2 hl hp h hP
    obtain ⟨q1, g1, g2⟩ := run_inv h
    obtain ⟨m, q, m1, m2, m3⟩ := hP
    obtain ⟨i, hi, rfl⟩ := hl e (List.mem_cons_self ..)
    rcases dstep_inv g1 with ⟨k1, k2, rfl⟩ | ⟨k1, rfl⟩
    · obtain ⟨n, q', n1, n2, n3⟩ := P_step hd ha hb hN hcl hi (Or.inl ⟨k1, k2, rfl, rfl⟩) N m q (by omega) m1 m2
      refine ih (fun e he => hl e (List.mem_cons_of_mem _ he)) (ha _) g2 ⟨n, q', n1, n2, Nat.le_trans n3 ?_⟩
      have := hd.2.2.2.1 q (a (num i)) p hp
      omega
    · obtain ⟨n, q', n1, n2, n3⟩ := P_step hd ha hb hN hcl hi (Or.inr ⟨k1, rfl, rfl⟩) N m q (by omega) m1 m2
      refine ih (fun e he => hl e (List.mem_cons_of_mem _ he)) (hb _) g2 ⟨n, q', n1, n2, Nat.le_trans n3 ?_⟩
      have := hd.2.2.2.1 q (b (num i)) p hp
      omega
theorem dp_done (hd : Dm d) (ha : ∀ e, a e < 7) (hb : ∀ e, b e < 7) (hs0 : s0 < 7) (hN : ∀ s m, Rel s m → m ≤ N) (hcl : ∀ m, m ≤ N → Clo a b w d W num k Rel B B m) (h0 : Rel (fun _ => 0) 0) (hB0 : B 0 s0 = 0) {S cS : Nat} {T : Nat → Nat} (hS : ∀ e, hs S e = true → ∃ i, i < k ∧ num i = e) (hcS : sg num cS k = dn S) (hRS : ∀ m, Rel (dn S) m → m = cS) (hT : ∀ p, p < 7 → T p = B cS p) (hsn : ∀ p, p < 7 → T p < NW → Rch a b w d W s0 num k cS p (T p)) : IsR a b w d W s0 S (mn7 T 7) := by
  refine ⟨mn7_le T 7, fun v hv => ⟨fun h => ?_, fun h => ?_⟩⟩
  · rcases mn7_ex T 7 with q | ⟨p, p1, p2⟩
    · omega
    · obtain ⟨l, p', c', r1, r2⟩ := hsn p p1 (by omega)
      exact ⟨l, p', c', by rw [← hcS]; exact r1, by omega⟩
  · obtain ⟨l, p, c, r1, r2⟩ := h
    obtain ⟨m, q, q1, q2, q3⟩ := P_run hd ha hb hN hcl (fun e he => hS e (by
      have h1 : 1 ≤ dn S e := run_mem r1 e he
      unfold dn at h1
      by_cases z : hs S e = true
      · exact z
      · rw [if_neg z] at h1; omega)) hs0 r1 ⟨0, s0, hs0, h0, by rw [hB0, hd.1]; omega⟩
    have := hRS m q2
    subst this
    have := mn7_at T 7 q q1
    rw [hT q q1] at this
    omega
end DP2
