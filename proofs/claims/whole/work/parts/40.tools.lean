/-! numbers of 32 bits as natural numbers; loops by their states -/
theorem lp_for {σ O : Type} (B : (σ → Option O) → σ → Option O) (st : Nat → σ) (o : O) (N : Nat) (hN : N < 4096) (hs : ∀ k, k < N → ∀ rec : σ → Option O, B rec (st k) = rec (st (k + 1))) (he : ∀ rec : σ → Option O, B rec (st N) = some o) : lp B FU (st 0) = some o := by
  have key : ∀ j k, k + j = N → ∀ n, j < n → lp B n (st k) = some o := by
    intro j
    induction j with
    | zero =>
      intro k hk n hn
      cases n with
      | zero => omega
      | succ n =>
        have : k = N := by omega
        subst this
        exact he _
    | succ j ih =>
      intro k hk n hn
      cases n with
      | zero => omega
      | succ n =>
        show B (lp B n) (st k) = some o
        rw [hs k (by omega)]
        exact ih (k + 1) (by omega) n (by omega)
  exact key N 0 (by omega) FU (by unfold FU; omega)
abbrev tn (x : Int32) : Nat := x.toNatClampNeg
theorem L0 : (0 : Int32) = nI 0 := rfl
theorem L1 : (1 : Int32) = nI 1 := rfl
theorem L2 : (2 : Int32) = nI 2 := rfl
theorem L3 : (3 : Int32) = nI 3 := rfl
theorem L5 : (5 : Int32) = nI 5 := rfl
theorem L6 : (6 : Int32) = nI 6 := rfl
theorem L7 : (7 : Int32) = nI 7 := rfl
theorem L8 : (8 : Int32) = nI 8 := rfl
theorem L10 : (10 : Int32) = nI 10 := rfl
theorem L20 : (20 : Int32) = nI 20 := rfl
theorem L49 : (49 : Int32) = nI 49 := rfl
theorem L99 : (99 : Int32) = nI 99 := rfl
theorem L256 : (256 : Int32) = nI 256 := rfl
theorem LM : (1000000 : Int32) = nI 1000000 := rfl
theorem LMS : (256000000 : Int32) = nI 256000000 := rfl
theorem ncl {n : Nat} (h : n < 2147483648) : (nI n).toNatClampNeg = n := nI_clamp (by omega)
theorem nle {a b : Nat} (ha : a < 2147483648) (hb : b < 2147483648) : (nI a ≤ nI b) = (a ≤ b) := propext (nI_leI (by omega) (by omega))
theorem nlt {a b : Nat} (ha : a < 2147483648) (hb : b < 2147483648) : (nI a < nI b) = (a < b) := propext (nI_ltI (by omega) (by omega))
theorem neq {a b : Nat} (ha : a < 2147483648) (hb : b < 2147483648) : (nI a = nI b) = (a = b) := propext (nI_eq (by omega) (by omega))
theorem ninb {i n : Nat} (hi : i < 2147483648) : inb (nI i) n = (i < n) := by
  unfold inb
  rw [ncl hi]
  apply propext
  constructor
  · intro h
    omega
  · intro h q
    rcases q with q | q
    · exact nI_pos (by omega) q
    · omega
theorem nadd (a b : Nat) : nI a + nI b = nI (a + b) := nI_add a b
theorem nmul (a b : Nat) : nI a * nI b = nI (a * b) := pk_mul a b
theorem nsub {a b : Nat} (h : b ≤ a) : nI a - nI b = nI (a - b) := pk_sub h
theorem ndiv {a d : Nat} (ha : a < 2147483648) (h0 : 0 < d) (hd : d < 2147483648) : nI a / nI d = nI (a / d) := pk_div (by omega) h0 (by omega)
theorem nrem {a d : Nat} (ha : a < 2147483648) (h0 : 0 < d) (hd : d < 2147483648) : jrem (nI a) (nI d) = nI (a % d) := pk_rem (by omega) h0 (by omega)
theorem nmin {a b : Nat} (ha : a < 2147483648) (hb : b < 2147483648) : jmin (nI a) (nI b) = nI (min a b) := by
  unfold jmin
  by_cases h : b < a
  · rw [if_pos (by rw [nlt hb ha]; exact h), Nat.min_eq_right (by omega)]
  · rw [if_neg (by rw [nlt hb ha]; exact h), Nat.min_eq_left (by omega)]
theorem nmax {a b : Nat} (ha : a < 2147483648) (hb : b < 2147483648) : jmax (nI a) (nI b) = nI (max a b) := by
  unfold jmax
  by_cases h : a < b
  · rw [if_pos (by rw [nlt ha hb]; exact h), Nat.max_eq_right (by omega)]
  · rw [if_neg (by rw [nlt ha hb]; exact h), Nat.max_eq_left (by omega)]
theorem nshl {e : Nat} (h : e < 31) : jshl (nI 1) (nI e) = nI (2 ^ e) := by
  have key : ∀ e, e < 31 → jshl (nI 1) (nI e) = nI (2 ^ e) := by decide +kernel
  exact key e h
theorem nshl1 {e : Nat} (h : e < 31) : jshl 1 (nI e) = nI (2 ^ e) := nshl h
theorem nor (a b : Nat) : nI a ||| nI b = nI (a ||| b) := by
  apply Int32.toBitVec_inj.mp
  show BitVec.ofNat 32 a ||| BitVec.ofNat 32 b = BitVec.ofNat 32 (a ||| b)
  rw [BitVec.ofNat_or]
theorem nand (a b : Nat) : nI a &&& nI b = nI (a &&& b) := by
  apply Int32.toBitVec_inj.mp
  show BitVec.ofNat 32 a &&& BitVec.ofNat 32 b = BitVec.ofNat 32 (a &&& b)
  rw [BitVec.ofNat_and]
/-- a bit of a set -/
def hs (s e : Nat) : Bool := s.testBit e
theorem nhas {s e : Nat} (hs' : s < 256) (he : e < 8) : FX9_has (nI s) (nI e) = if hs s e then 1 else 0 := by
  have key : ∀ s, s < 256 → ∀ e, e < 8 → FX9_has (nI s) (nI e) = if hs s e then 1 else 0 := by decide +kernel
  exact key s hs' e he
theorem nhas2 {s e : Nat} (hs' : s < 256) (he : e < 8) : FX10_has (nI s) (nI e) = if hs s e then 1 else 0 := by
  have key : ∀ s, s < 256 → ∀ e, e < 8 → FX10_has (nI s) (nI e) = if hs s e then 1 else 0 := by decide +kernel
  exact key s hs' e he
theorem within_eq : FX10_within = FX9_within := by
  funext a b c
  unfold FX10_within FX9_within
  rfl
/-- a number from 0 on below n, or one that isn't -/
theorem wi_cases (p : Int32) {n : Nat} (hn : n < 2147483648) : (FX9_within p 0 (nI n - 1) = 0 ∧ (∀ k, k < n → p ≠ nI k)) ∨ ∃ k, k < n ∧ p = nI k ∧ FX9_within p 0 (nI n - 1) = 1 := by
  by_cases h0 : p < 0
  · left
    refine ⟨by unfold FX9_within; rw [if_pos h0], fun k hk e => ?_⟩
    rw [e] at h0
    exact nI_pos (by omega) h0
  · obtain ⟨k, hk, rfl⟩ := nI_of h0
    cases n with
    | zero =>
      left
      refine ⟨?_, fun k hk => by omega⟩
      unfold FX9_within
      rw [if_neg h0, if_pos]
      rw [show nI 0 - 1 = -1 by decide]
      exact Int32.lt_iff_toInt_lt.mpr (by rw [nI_toInt hk]; have : (-1 : Int32).toInt = -1 := by decide
                                          omega)
    | succ m =>
      rw [show nI (m + 1) - 1 = nI m from nI_pred m]
      by_cases h : k < m + 1
      · right
        refine ⟨k, h, rfl, ?_⟩
        unfold FX9_within
        rw [if_neg h0, if_neg (by rw [nlt (by omega) (by omega)]; omega)]
      · left
        refine ⟨?_, fun j hj e => ?_⟩
        · unfold FX9_within
          rw [if_neg h0, if_pos (by rw [nlt (by omega) (by omega)]; omega)]
        · rw [neq (by omega) (by omega)] at e
          omega
theorem wi_lit (p : Int32) {n : Nat} {m : Int32} (hn : n < 2147483648) (hm : nI n - 1 = m) : (FX9_within p 0 m = 0 ∧ (∀ k, k < n → p ≠ nI k)) ∨ ∃ k, k < n ∧ p = nI k ∧ FX9_within p 0 m = 1 := by
  rw [← hm]; exact wi_cases p hn
/-- a number from lo to hi -/
theorem wi_range (p : Int32) {lo hi : Nat} {a b : Int32} (ha : a = nI lo) (hb : b = nI hi) (hl : hi < 2147483648) (hlo : lo < 2147483648) : (FX9_within p a b = 0) ∨ ∃ k, lo ≤ k ∧ k ≤ hi ∧ p = nI k ∧ FX9_within p a b = 1 := by
  subst ha; subst hb
  by_cases h1 : p < nI lo
  · left; unfold FX9_within; rw [if_pos h1]
  · by_cases h2 : nI hi < p
    · left; unfold FX9_within; rw [if_neg h1, if_pos h2]
    · right
      have h0 : ¬ p < 0 := by
        intro h
        apply h1
        exact Int32.lt_iff_toInt_lt.mpr (by
          have e1 := Int32.lt_iff_toInt_lt.mp h
          rw [nI_toInt (by omega)]
          have : (0 : Int32).toInt = 0 := by decide
          omega)
      obtain ⟨k, hk, rfl⟩ := nI_of h0
      have h1' := h1
      have h2' := h2
      rw [nlt (by omega) (by omega)] at h1' h2'
      refine ⟨k, by omega, by omega, rfl, ?_⟩
      unfold FX9_within
      rw [if_neg h1, if_neg h2]
theorem mst_s (u : Mem) (k j : Nat) (x : Int32) : mst u k j x k j = x := by simp [mst, upd]
theorem mst_k {u : Mem} {k k' : Nat} (h : k' ≠ k) (j : Nat) (x : Int32) : mst u k j x k' = u k' := by simp [mst, h]
theorem mst_j {u : Mem} {j j' : Nat} (h : j' ≠ j) (k : Nat) (x : Int32) : mst u k j x k j' = u k j' := by simp [mst, upd, h]
theorem mst_row (u : Mem) (k j : Nat) (x : Int32) : mst u k j x k = upd (u k) j x := by simp [mst]
theorem mcp_k {u : Mem} {a0 a1 k : Nat} (h : k ≠ a1) (sp dp n : Nat) : mcp u a0 a1 sp dp n k = u k := by simp [mcp, h]
theorem mcp_row (u : Mem) (a0 a1 sp dp n : Nat) : mcp u a0 a1 sp dp n a1 = va_cpy (u a0) (u a1) sp dp n := by simp [mcp]
theorem cpy0 (f g : Nat → Int32) {n j : Nat} (h : j < n) : va_cpy f g 0 0 n j = f j := by simp [va_cpy, h]
/-- sums and sets over the first n -/
def setS (P : Nat → Bool) : Nat → Nat
  | 0 => 0
  | k + 1 => if P k then setS P k + 2 ^ k else setS P k
def sumS (P : Nat → Bool) (f : Nat → Nat) : Nat → Nat
  | 0 => 0
  | k + 1 => if P k then sumS P f k + f k else sumS P f k
def cntS (P : Nat → Bool) : Nat → Nat
  | 0 => 0
  | k + 1 => if P k then cntS P k + 1 else cntS P k
theorem setS_lt (P : Nat → Bool) : ∀ n, setS P n < 2 ^ n
  | 0 => by simp [setS]
  | k + 1 => by
    have := setS_lt P k
    unfold setS
    have e : 2 ^ (k + 1) = 2 ^ k + 2 ^ k := by omega
    split <;> omega
theorem setS_or (P : Nat → Bool) (k : Nat) : setS P k ||| 2 ^ k = setS P k + 2 ^ k := by
  have h := setS_lt P k
  have := Nat.two_pow_add_eq_or_of_lt h 1
  rw [Nat.mul_one] at this
  rw [Nat.or_comm, ← this, Nat.add_comm]
theorem setS_bit (P : Nat → Bool) : ∀ n e, hs (setS P n) e = (decide (e < n) && P e)
  | 0, e => by simp [setS, hs]
  | k + 1, e => by
    have ih := setS_bit P k
    have hlt := setS_lt P k
    unfold hs at ih ⊢
    unfold setS
    by_cases hp : P k = true
    · rw [if_pos hp, ← setS_or, Nat.testBit_or, ih e, Nat.testBit_two_pow]
      by_cases he : e = k
      · subst he; simp [hp]
      · have : (decide (k = e)) = false := by simp; omega
        rw [this, Bool.or_false]
        congr 1
        by_cases h1 : e < k
        · simp [h1]; omega
        · simp [h1]; omega
    · rw [if_neg hp, ih e]
      by_cases he : e = k
      · subst he; simp [hp]
      · congr 1
        by_cases h1 : e < k
        · simp [h1]; omega
        · simp [h1]; omega
theorem hs_ext {a b : Nat} (h : ∀ e, hs a e = hs b e) : a = b := Nat.eq_of_testBit_eq h
theorem hs_big {a e : Nat} (h : a < 2 ^ e) : hs a e = false := Nat.testBit_lt_two_pow h
theorem hs256 {a e : Nat} (h : a < 256) (he : 8 ≤ e) : hs a e = false := hs_big (Nat.lt_of_lt_of_le h (by
  have : 2 ^ 8 ≤ 2 ^ e := Nat.pow_le_pow_right (by omega) he
  omega))
theorem setS_256 (P : Nat → Bool) {n : Nat} (hn : n ≤ 8) : setS P n < 256 := Nat.lt_of_lt_of_le (setS_lt P n) (by
  have : 2 ^ n ≤ 2 ^ 8 := Nat.pow_le_pow_right (by omega) hn
  omega)
theorem setS_congr {P Q : Nat → Bool} {n : Nat} (h : ∀ k, k < n → P k = Q k) : setS P n = setS Q n := by
  induction n with
  | zero => rfl
  | succ n ih =>
    unfold setS
    rw [h n (by omega), ih (fun k hk => h k (by omega))]
theorem sumS_congr {P Q : Nat → Bool} {f g : Nat → Nat} {n : Nat} (h : ∀ k, k < n → P k = Q k) (hf : ∀ k, k < n → P k = true → f k = g k) : sumS P f n = sumS Q g n := by
  induction n with
  | zero => rfl
  | succ n ih =>
    unfold sumS
    rw [← h n (by omega), ih (fun k hk => h k (by omega)) (fun k hk => hf k (by omega))]
    by_cases hp : P n = true
    · rw [if_pos hp, if_pos hp, hf n (by omega) hp]
    · rw [if_neg hp, if_neg hp]
theorem sumS_le (P : Nat → Bool) (f : Nat → Nat) (b : Nat) : ∀ n, (∀ k, k < n → f k ≤ b) → sumS P f n ≤ n * b
  | 0, _ => by simp [sumS]
  | n + 1, h => by
    have ih := sumS_le P f b n (fun k hk => h k (by omega))
    have := h n (by omega)
    unfold sumS
    rw [Nat.add_mul, Nat.one_mul]
    split <;> omega
