/-! fewest yards: Floyd and Warshall's table, by its stages -/
abbrev NW : Nat := 1000000
def fw (e : Nat → Nat → Nat) : Nat → Nat → Nat → Nat
  | 0 => e
  | v + 1 => fun i j => min (fw e v i j) (fw e v i v + fw e v v j)
def Eg (e : Nat → Nat → Nat) : Prop := (∀ i, e i i = 0) ∧ (∀ i j, e i j = e j i) ∧ ∀ i j, e i j = NW ∨ e i j ≤ 198
theorem fw_0 {e : Nat → Nat → Nat} (h : Eg e) : ∀ v i, fw e v i i = 0
  | 0, i => h.1 i
  | v + 1, i => by
    show min (fw e v i i) _ = 0
    rw [fw_0 h v i]
    omega
theorem fw_sym {e : Nat → Nat → Nat} (h : Eg e) : ∀ v i j, fw e v i j = fw e v j i
  | 0, i, j => h.2.1 i j
  | v + 1, i, j => by
    show min (fw e v i j) (fw e v i v + fw e v v j) = min (fw e v j i) (fw e v j v + fw e v v i)
    rw [fw_sym h v i j, fw_sym h v i v, fw_sym h v v j, Nat.add_comm]
theorem fw_mono (e : Nat → Nat → Nat) (v i j : Nat) : fw e (v + 1) i j ≤ fw e v i j := Nat.min_le_left _ _
theorem fw_le {e : Nat → Nat → Nat} (h : Eg e) : ∀ v i j, fw e v i j ≤ NW
  | 0, i, j => by
    rcases h.2.2 i j with q | q
    · exact Nat.le_of_eq q
    · show e i j ≤ NW
      have : NW = 1000000 := rfl
      omega
  | v + 1, i, j => Nat.le_trans (fw_mono e v i j) (fw_le h v i j)
theorem fw_fin {e : Nat → Nat → Nat} (h : Eg e) : ∀ v i j, fw e v i j < NW → fw e v i j ≤ 198 * 2 ^ v
  | 0, i, j, q => by
    rcases h.2.2 i j with z | z
    · have : fw e 0 i j = NW := z
      omega
    · show e i j ≤ 198 * 2 ^ 0
      omega
  | v + 1, i, j, q => by
    have e1 : fw e (v + 1) i j = min (fw e v i j) (fw e v i v + fw e v v j) := rfl
    have e2 : 2 ^ (v + 1) = 2 * 2 ^ v := by omega
    by_cases c : fw e v i j ≤ fw e v i v + fw e v v j
    · have := fw_fin h v i j (by omega)
      omega
    · have h1 := fw_fin h v i v (by omega)
      have h2 := fw_fin h v v j (by omega)
      omega
theorem fw_tri {e : Nat → Nat → Nat} (h : Eg e) : ∀ v i j u, u < v → fw e v i j ≤ fw e v i u + fw e v u j
  | 0, i, j, u, hu => by omega
  | v + 1, i, j, u, hu => by
    have e1 : fw e (v + 1) i j = min (fw e v i j) (fw e v i v + fw e v v j) := rfl
    have e2 : fw e (v + 1) i u = min (fw e v i u) (fw e v i v + fw e v v u) := rfl
    have e3 : fw e (v + 1) u j = min (fw e v u j) (fw e v u v + fw e v v j) := rfl
    by_cases c : u = v
    · subst c
      have := fw_0 h u u
      omega
    · have t1 := fw_tri h v i j u (by omega)
      have t2 := fw_tri h v v j u (by omega)
      have t3 := fw_tri h v i v u (by omega)
      omega
theorem fw_step {e : Nat → Nat → Nat} (h : Eg e) : ∀ v i j, v ≤ 7 → i < 7 → j < 7 → i ≠ j → fw e v i j < NW → ∃ x, x < 7 ∧ x ≠ i ∧ e i x < NW ∧ e i x + fw e v x j ≤ fw e v i j
  | 0, i, j, hv, hi, hj, hij, q => ⟨j, hj, fun z => hij z.symm, q, by rw [fw_0 h 0 j]; exact Nat.le_refl _⟩
  | v + 1, i, j, hv, hi, hj, hij, q => by
    have e1 : fw e (v + 1) i j = min (fw e v i j) (fw e v i v + fw e v v j) := rfl
    by_cases c : fw e v i j ≤ fw e v i v + fw e v v j
    · obtain ⟨x, x1, x2, x3, x4⟩ := fw_step h v i j (by omega) hi hj hij (by omega)
      exact ⟨x, x1, x2, x3, by have := fw_mono e v x j; omega⟩
    · by_cases d : i = v
      · subst d
        have := fw_0 h i i
        omega
      · obtain ⟨x, x1, x2, x3, x4⟩ := fw_step h v i v (by omega) hi (by omega) d (by omega)
        refine ⟨x, x1, x2, x3, ?_⟩
        have e2 : fw e (v + 1) x j = min (fw e v x j) (fw e v x v + fw e v v j) := rfl
        omega
theorem fw_con {e e' : Nat → Nat → Nat} (h : Eg e) (h' : Eg e') (hp : ∀ i j, e i j = NW ↔ e' i j = NW) : ∀ v, v ≤ 7 → ∀ i j, fw e v i j = NW ↔ fw e' v i j = NW
  | 0, _, i, j => hp i j
  | v + 1, hv, i, j => by
    have e1 : fw e (v + 1) i j = min (fw e v i j) (fw e v i v + fw e v v j) := rfl
    have e2 : fw e' (v + 1) i j = min (fw e' v i j) (fw e' v i v + fw e' v v j) := rfl
    have q1 := fw_con h h' hp v (by omega) i j
    have q2 := fw_con h h' hp v (by omega) i v
    have q3 := fw_con h h' hp v (by omega) v j
    have hb : 2 ^ v ≤ 2 ^ 6 := Nat.pow_le_pow_right (by omega) (by omega)
    have a1 := fw_le h v i j; have a2 := fw_le h v i v; have a3 := fw_le h v v j
    have b1 := fw_le h' v i j; have b2 := fw_le h' v i v; have b3 := fw_le h' v v j
    have c1 := fw_fin h v i j; have c2 := fw_fin h v i v; have c3 := fw_fin h v v j
    have d1 := fw_fin h' v i j; have d2 := fw_fin h' v i v; have d3 := fw_fin h' v v j
    have : NW = 1000000 := rfl
    constructor <;> intro z <;> omega
/-- what is asked of yards between places -/
def Dm (d : Nat → Nat → Nat) : Prop := (∀ p, d p p = 0) ∧ (∀ p q, d p q = d q p) ∧ (∀ p q, d p q ≤ NW) ∧ (∀ p q x, x < 7 → d p q ≤ d p x + d x q) ∧ ∀ p q, d p q < NW → d p q ≤ 25344
theorem fw_Dm {e : Nat → Nat → Nat} (h : Eg e) : Dm (fw e 7) := ⟨fw_0 h 7, fw_sym h 7, fw_le h 7, fun p q x hx => fw_tri h 7 p q x hx, fun p q z => fw_fin h 7 p q z⟩
