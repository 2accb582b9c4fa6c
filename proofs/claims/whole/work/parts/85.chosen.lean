/-! the errands of a set by their order; tables in a row of numbers -/
def chK (s : Nat) (n : Nat) : Nat := cntS (hs s) n
def nuF (s : Nat) : Nat → Nat → Nat
  | 0 => fun _ => 0
  | n + 1 => if hs s n then stf (nuF s n) (chK s n) n else nuF s n
theorem chK_up {s n : Nat} (h : hs s n = true) : chK s (n + 1) = chK s n + 1 := if_pos h
theorem chK_no {s n : Nat} (h : ¬ hs s n = true) : chK s (n + 1) = chK s n := if_neg h
theorem chK_mono (s : Nat) {a b : Nat} (h : a ≤ b) : chK s a ≤ chK s b := by
  induction b with
  | zero =>
    have : a = 0 := by omega
    subst this
    exact Nat.le_refl _
  | succ b ih =>
    by_cases c : a = b + 1
    · subst c; exact Nat.le_refl _
    · have := ih (by omega)
      by_cases d : hs s b = true
      · rw [chK_up d]; exact Nat.le_trans this (Nat.le_succ _)
      · rw [chK_no d]; exact this
theorem chK_le {s n : Nat} (h : pcn s ≤ 5) (hn : n ≤ 8) : chK s n ≤ 5 := Nat.le_trans (chK_mono s hn) h
theorem nu_all (s : Nat) : ∀ n, (∀ i, i < chK s n → nuF s n i < n ∧ hs s (nuF s n i) = true) ∧ (∀ i j, i < j → j < chK s n → nuF s n i < nuF s n j) ∧ ∀ e, e < n → hs s e = true → ∃ i, i < chK s n ∧ nuF s n i = e
  | 0 => ⟨fun i h => absurd h (Nat.not_lt_zero _), fun i j _ h => absurd h (Nat.not_lt_zero _), fun e h => absurd h (Nat.not_lt_zero _)⟩
  | n + 1 => by
    obtain ⟨i1, i2, i3⟩ := nu_all s n
    by_cases c : hs s n = true
    · have e : nuF s (n + 1) = stf (nuF s n) (chK s n) n := if_pos c
      have at1 : ∀ i, i < chK s n → nuF s (n + 1) i = nuF s n i := fun i hi => by
        rw [e]; exact if_neg (by omega)
      have at2 : nuF s (n + 1) (chK s n) = n := by rw [e]; exact if_pos rfl
      rw [chK_up c]
      refine ⟨fun i hi => ?_, fun i j hij hj => ?_, fun x hx hh => ?_⟩
      · by_cases d : i < chK s n
        · rw [at1 i d]
          obtain ⟨y1, y2⟩ := i1 i d
          exact ⟨by omega, y2⟩
        · have : i = chK s n := by omega
          rw [this, at2]
          exact ⟨by omega, c⟩
      · by_cases d : j < chK s n
        · rw [at1 i (by omega), at1 j d]; exact i2 i j hij d
        · have : j = chK s n := by omega
          rw [this, at2, at1 i (by omega)]
          exact (i1 i (by omega)).1
      · by_cases d : x = n
        · exact ⟨chK s n, by omega, by rw [at2, d]⟩
        · obtain ⟨i, y1, y2⟩ := i3 x (by omega) hh
          exact ⟨i, by omega, by rw [at1 i y1]; exact y2⟩
    · have e : nuF s (n + 1) = nuF s n := if_neg c
      rw [chK_no c, e]
      refine ⟨fun i hi => ⟨Nat.lt_succ_of_lt (i1 i hi).1, (i1 i hi).2⟩, i2, fun x hx hh => ?_⟩
      by_cases d : x = n
      · rw [d] at hh; exact absurd hh c
      · exact i3 x (by omega) hh
theorem nu_inj (s n : Nat) : ∀ i j, i < chK s n → j < chK s n → nuF s n i = nuF s n j → i = j := fun i j hi hj e => by
  have h2 := (nu_all s n).2.1
  by_cases a : i < j
  · have := h2 i j a hj; omega
  · by_cases b : j < i
    · have := h2 j i b hi; omega
    · omega
/-- a table of yards, place by place -/
def TB (ρ : Nat → Int32) (N : Nat) (T : Nat → Nat → Nat) : Prop := ∀ c p, c < N → p < 7 → ρ (7 * c + p) = nI (T c p)
def TU (T : Nat → Nat → Nat) (x t v : Nat) : Nat → Nat → Nat := fun c p => if c = x ∧ p = t then v else T c p
theorem TU_at (T : Nat → Nat → Nat) (x t v : Nat) : TU T x t v x t = v := if_pos ⟨rfl, rfl⟩
theorem TU_ne {T : Nat → Nat → Nat} {x t v c p : Nat} (h : ¬ (c = x ∧ p = t)) : TU T x t v c p = T c p := if_neg h
theorem TB_up {ρ : Nat → Int32} {N : Nat} {T : Nat → Nat → Nat} (h : TB ρ N T) {x t : Nat} (ht : t < 7) (v : Nat) : TB (upd ρ (7 * x + t) (nI v)) N (TU T x t v) := by
  intro c p hc hp
  by_cases e : c = x ∧ p = t
  · obtain ⟨e1, e2⟩ := e
    subst e1; subst e2
    rw [TU_at, pk_us]
  · rw [TU_ne e, pk_un (by omega)]
    exact h c p hc hp
theorem TU_le {T : Nat → Nat → Nat} {x t v : Nat} (h : v ≤ T x t) (c p : Nat) : TU T x t v c p ≤ T c p := by
  by_cases e : c = x ∧ p = t
  · obtain ⟨e1, e2⟩ := e
    subst e1; subst e2
    rw [TU_at]; exact h
  · rw [TU_ne e]; exact Nat.le_refl _
/-- all NW but the first at one place -/
def T0 (s0 : Nat) : Nat → Nat → Nat := TU (fun _ _ => 1000000) 0 s0 0
section CHO
variable {a b w : Nat → Nat} {d : Nat → Nat → Nat} {W s0 : Nat} {num : Nat → Nat} {k : Nat}
theorem T0_Snd (hd : Dm d) : Snd a b w d W s0 num k (T0 s0) := by
  intro c p hc hp h
  by_cases e : c = 0 ∧ p = s0
  · obtain ⟨e1, e2⟩ := e
    subst e1; subst e2
    have : T0 p 0 p = 0 := TU_at _ _ _ _
    rw [this]
    exact R_start hd
  · have : T0 s0 c p = 1000000 := TU_ne e
    rw [this] at h
    exact absurd h (Nat.lt_irrefl _)
theorem T0_le (c p : Nat) : T0 s0 c p ≤ 1000000 := TU_le (T := fun _ _ => 1000000) (Nat.zero_le _) c p
theorem Snd_TU {T : Nat → Nat → Nat} (h : Snd a b w d W s0 num k T) {x t v : Nat} (hv : v < 1000000 → Rch a b w d W s0 num k x t v) : Snd a b w d W s0 num k (TU T x t v) := by
  intro c p hc hp q
  by_cases e : c = x ∧ p = t
  · obtain ⟨e1, e2⟩ := e
    subst e1; subst e2
    rw [TU_at] at q ⊢
    exact hv q
  · rw [TU_ne e] at q ⊢
    exact h c p hc hp q
theorem lsum_congr {w' : Nat → Nat} {c : Nat} : ∀ n, (∀ i, i < n → w (num i) = w' (num i)) → lsum w num c n = lsum w' num c n
  | 0, _ => rfl
  | n + 1, h => by
    have ih := lsum_congr (w' := w') (c := c) n (fun i hi => h i (by omega))
    unfold lsum
    rw [ih, h n (by omega)]
theorem lsum_le {B : Nat} {c : Nat} : ∀ n, (∀ i, i < n → w (num i) ≤ B) → lsum w num c n ≤ n * B
  | 0, _ => Nat.zero_le _
  | n + 1, h => by
    have ih := lsum_le (B := B) (c := c) n (fun i hi => h i (by omega))
    have := h n (by omega)
    rw [Nat.add_mul, Nat.one_mul]
    unfold lsum
    split
    · omega
    · exact Nat.le_trans ih (Nat.le_add_right _ _)
end CHO
theorem isub (a b c : Int32) : a - b - c = a - (b + c) := by
  apply Int32.toBitVec_inj.mp
  show a.toBitVec - b.toBitVec - c.toBitVec = a.toBitVec - (b.toBitVec + c.toBitVec)
  apply BitVec.eq_of_toNat_eq
  simp only [BitVec.toNat_sub, BitVec.toNat_add]
  omega
theorem room_le {W l w : Nat} (hW : W < 1000) (hl : l < 1000) (hw : w < 1000) : (nI W - nI l < nI w) = ¬ (l + w ≤ W) := by
  apply propext
  rw [Int32.lt_iff_toInt_lt, pk_sub_toInt (by omega) (by omega), nI_toInt (by omega)]
  omega
theorem pw3 {i : Nat} (h : i < 6) : tPowers i = nI (3 ^ i) ∧ 3 ^ i < 1000 ∧ 0 < 3 ^ i := by
  have key : ∀ i, i < 6 → tPowers i = nI (3 ^ i) ∧ 3 ^ i < 1000 ∧ 0 < 3 ^ i := by decide +kernel
  exact key i h
def aE (r : Nat → Int32) (e : Nat) : Nat := eF r e 1 % 7
def bE (r : Nat → Int32) (e : Nat) : Nat := eF r e 2 % 7
def wE (r : Nat → Int32) (e : Nat) : Nat := eF r e 0
theorem aE_lt (r : Nat → Int32) (e : Nat) : aE r e < 7 := Nat.mod_lt _ (by omega)
theorem bE_lt (r : Nat → Int32) (e : Nat) : bE r e < 7 := Nat.mod_lt _ (by omega)
theorem aE_eq {r : Nat → Int32} (h : Wf r) {e : Nat} (he : e < ne r) : aE r e = eF r e 1 := Nat.mod_eq_of_lt (eA h he).2
theorem bE_eq {r : Nat → Int32} (h : Wf r) {e : Nat} (he : e < ne r) : bE r e = eF r e 2 := Nat.mod_eq_of_lt (eB h he).2
/-- a carrier's round of a set, as one of a kind and with a strength, from a place -/
noncomputable def RV (r : Nat → Int32) (kd W p S : Nat) : Nat := rv (aE r) (bE r) (wE r) (Ds r kd) W p S
