/-! the first of the least: on the class' side yards times 256 and a tag, on the reference's two numbers -/
def bm (P : Nat → Bool) (v t : Nat → Nat) : Nat → Nat
  | 0 => 256000000
  | k + 1 => if P k then min (bm P v t k) (v k * 256 + t k) else bm P v t k
def bv (P : Nat → Bool) (v : Nat → Nat) : Nat → Nat
  | 0 => 1000000
  | k + 1 => if P k then min (bv P v k) (v k) else bv P v k
def ba (P : Nat → Bool) (v t : Nat → Nat) : Nat → Nat
  | 0 => 0
  | k + 1 => if P k = true ∧ v k < bv P v k then t k else ba P v t k
theorem bv_le (P : Nat → Bool) (v : Nat → Nat) : ∀ n, bv P v n ≤ 1000000
  | 0 => Nat.le_refl _
  | n + 1 => by
    have := bv_le P v n
    unfold bv
    split
    · omega
    · exact this
theorem best_ok (P : Nat → Bool) (v t : Nat → Nat) : ∀ n, (∀ k, k < n → P k = true → t k < 256) → (∀ j k, j < k → k < n → P j = true → P k = true → t j < t k) → (bv P v n = 1000000 ∧ bm P v t n = 256000000) ∨ (bv P v n < 1000000 ∧ bm P v t n = bv P v n * 256 + ba P v t n ∧ ∃ j, j < n ∧ P j = true ∧ ba P v t n = t j)
  | 0, _, _ => Or.inl ⟨rfl, rfl⟩
  | n + 1, h1, h2 => by
    have ih := best_ok P v t n (fun k hk => h1 k (by omega)) (fun j k hj hk => h2 j k hj (by omega))
    by_cases p : P n = true
    · have e1 : bm P v t (n + 1) = min (bm P v t n) (v n * 256 + t n) := if_pos p
      have e2 : bv P v (n + 1) = min (bv P v n) (v n) := if_pos p
      have ht := h1 n (by omega) p
      by_cases c : v n < bv P v n
      · have e3 : ba P v t (n + 1) = t n := if_pos ⟨p, c⟩
        rcases ih with ⟨i1, i2⟩ | ⟨i1, i2, j, j1, j2, j3⟩
        · right
          refine ⟨by omega, by omega, n, by omega, p, e3⟩
        · right
          refine ⟨by omega, by omega, n, by omega, p, e3⟩
      · have e3 : ba P v t (n + 1) = ba P v t n := if_neg (fun z => c z.2)
        rcases ih with ⟨i1, i2⟩ | ⟨i1, i2, j, j1, j2, j3⟩
        · left
          exact ⟨by omega, by omega⟩
        · right
          have := h2 j n j1 (by omega) j2 p
          refine ⟨by omega, by omega, j, by omega, j2, by omega⟩
    · have e1 : bm P v t (n + 1) = bm P v t n := if_neg p
      have e2 : bv P v (n + 1) = bv P v n := if_neg p
      have e3 : ba P v t (n + 1) = ba P v t n := if_neg (fun z => p z.1)
      rw [e1, e2, e3]
      rcases ih with i | ⟨i1, i2, j, j1, j2, j3⟩
      · exact Or.inl i
      · exact Or.inr ⟨i1, i2, j, by omega, j2, j3⟩
theorem bm_le (P : Nat → Bool) (v t : Nat → Nat) : ∀ n, bm P v t n ≤ 256000000
  | 0 => Nat.le_refl _
  | n + 1 => by
    have := bm_le P v t n
    unfold bm
    split
    · omega
    · exact this
theorem bm_congr {P Q : Nat → Bool} {v w t : Nat → Nat} {n : Nat} (h : ∀ k, k < n → P k = Q k) (hv : ∀ k, k < n → P k = true → v k = w k) : bm P v t n = bm Q w t n := by
  induction n with
  | zero => rfl
  | succ n ih =>
    unfold bm
    rw [← h n (by omega), ih (fun k hk => h k (by omega)) (fun k hk => hv k (by omega))]
    by_cases c : P n = true
    · rw [if_pos c, if_pos c, hv n (by omega) c]
    · rw [if_neg c, if_neg c]
/-- the tag as the reference's number, -1 when there is none -/
def bT (P : Nat → Bool) (v t : Nat → Nat) (n : Nat) : Int32 := if bv P v n < 1000000 then nI (ba P v t n) else -1
theorem bT_0 (P : Nat → Bool) (v t : Nat → Nat) : bT P v t 0 = -1 := if_neg (show ¬ (1000000 : Nat) < 1000000 from Nat.lt_irrefl _)
theorem bT_up (P : Nat → Bool) (v t : Nat → Nat) (n : Nat) : bT P v t (n + 1) = if P n = true ∧ v n < bv P v n then nI (t n) else bT P v t n := by
  have hl := bv_le P v n
  by_cases p : P n = true
  · have e2 : bv P v (n + 1) = min (bv P v n) (v n) := if_pos p
    by_cases c : v n < bv P v n
    · have e3 : ba P v t (n + 1) = t n := if_pos ⟨p, c⟩
      rw [if_pos ⟨p, c⟩]
      unfold bT
      rw [if_pos (by omega), e3]
    · have e3 : ba P v t (n + 1) = ba P v t n := if_neg (fun z => c z.2)
      rw [if_neg (fun z => c z.2)]
      unfold bT
      rw [e2, e3, show min (bv P v n) (v n) = bv P v n by omega]
  · have e2 : bv P v (n + 1) = bv P v n := if_neg p
    have e3 : ba P v t (n + 1) = ba P v t n := if_neg (fun z => p z.1)
    rw [if_neg (fun z => p z.1)]
    unfold bT
    rw [e2, e3]
theorem bv_up (P : Nat → Bool) (v : Nat → Nat) (n : Nat) : bv P v (n + 1) = if P n then min (bv P v n) (v n) else bv P v n := rfl
theorem bm_up (P : Nat → Bool) (v t : Nat → Nat) (n : Nat) : bm P v t (n + 1) = if P n then min (bm P v t n) (v n * 256 + t n) else bm P v t n := rfl
section BEST
variable {u : Mem}
theorem c_second {b : Nat} (hb : b ≤ 256000000) : FX9_secondOrNone (nI b) u = if b < 256000000 then some (nI (b % 256), u) else FX9_finding (-1000004) u := by
  unfold FX9_secondOrNone
  rw [L256, ndiv (by omega) (by omega) (by omega), bind_eta, nrem (by omega) (by omega) (by omega)]
  by_cases z : b < 256000000
  · rw [if_pos (by rw [LM, nlt (by omega) (by omega)]; omega), if_pos z]
  · rw [if_neg (by rw [LM, nlt (by omega) (by omega)]; omega), if_neg z]
end BEST
