/-! small loops of both sides over the row -/
theorem lp_bind {σ O X : Type} {Bf : (σ → Option O) → σ → Option O} {s : σ} {o : O} {f : O → Option X} {y : Option X} (h : lp Bf FU s = some o) (hf : f o = y) : Option.bind (lp Bf FU s) f = y := by rw [h]; exact hf
theorem set_loop {Bf : (Int32 × Int32 → Option (Int32 × Int32)) → Int32 × Int32 → Option (Int32 × Int32)} (P : Nat → Bool) {n : Nat} (hn : n ≤ 10) (hs : ∀ k, k < n → ∀ a rec, Bf rec (a, nI k) = if P k = true then rec (a ||| jshl 1 (nI k), nI k + 1) else rec (a, nI k + 1)) (he : ∀ a rec, Bf rec (a, nI n) = some (a, nI n)) : lp Bf FU (0, 0) = some (nI (setS P n), nI n) := by
  refine lp_for Bf (fun k => (nI (setS P k), nI k)) _ n (by omega) (fun k hk rec => ?_) (fun rec => he _ rec)
  show Bf rec (nI (setS P k), nI k) = rec (nI (setS P (k + 1)), nI (k + 1))
  rw [hs k hk, nI_succ]
  by_cases c : P k = true
  · rw [if_pos c, nshl1 (by omega), nor, setS_or]
    rw [show setS P (k + 1) = setS P k + 2 ^ k from if_pos c]
  · rw [if_neg c]
    rw [show setS P (k + 1) = setS P k from if_neg c]
theorem sum_loop {Bf : (Int32 × Int32 → Option (Int32 × Int32)) → Int32 × Int32 → Option (Int32 × Int32)} (P : Nat → Bool) (f : Nat → Nat) {n : Nat} (hn : n ≤ 10) (hs : ∀ k, k < n → ∀ a rec, Bf rec (a, nI k) = if P k = true then rec (a + nI (f k), nI k + 1) else rec (a, nI k + 1)) (he : ∀ a rec, Bf rec (a, nI n) = some (a, nI n)) : lp Bf FU (0, 0) = some (nI (sumS P f n), nI n) := by
  refine lp_for Bf (fun k => (nI (sumS P f k), nI k)) _ n (by omega) (fun k hk rec => ?_) (fun rec => he _ rec)
  show Bf rec (nI (sumS P f k), nI k) = rec (nI (sumS P f (k + 1)), nI (k + 1))
  rw [hs k hk, nI_succ]
  by_cases c : P k = true
  · rw [if_pos c, nadd]
    rw [show sumS P f (k + 1) = sumS P f k + f k from if_pos c]
  · rw [if_neg c]
    rw [show sumS P f (k + 1) = sumS P f k from if_neg c]
def sumI (f : Nat → Int32) : Nat → Int32
  | 0 => 0
  | k + 1 => sumI f k + f k
theorem sumI_loop {Bf : (Int32 × Int32 → Option (Int32 × Int32)) → Int32 × Int32 → Option (Int32 × Int32)} (f : Nat → Int32) {n : Nat} (hn : n ≤ 10) (hs : ∀ k, k < n → ∀ a rec, Bf rec (a, nI k) = rec (a + f k, nI k + 1)) (he : ∀ a rec, Bf rec (a, nI n) = some (a, nI n)) : lp Bf FU (0, 0) = some (sumI f n, nI n) := by
  refine lp_for Bf (fun k => (sumI f k, nI k)) _ n (by omega) (fun k hk rec => ?_) (fun rec => he _ rec)
  show Bf rec (sumI f k, nI k) = rec (sumI f (k + 1), nI (k + 1))
  rw [hs k hk, nI_succ]
  rfl
def mxS (P : Nat → Bool) (f : Nat → Nat) : Nat → Nat
  | 0 => 0
  | k + 1 => if P k then max (mxS P f k) (f k) else mxS P f k
theorem mxS_le (P : Nat → Bool) (f : Nat → Nat) (b : Nat) : ∀ n, (∀ k, k < n → P k = true → f k ≤ b) → mxS P f n ≤ b
  | 0, _ => Nat.zero_le _
  | n + 1, h => by
    have ih := mxS_le P f b n (fun k hk => h k (by omega))
    unfold mxS
    by_cases c : P n = true
    · rw [if_pos c]; have := h n (by omega) c; omega
    · rw [if_neg c]; exact ih
theorem mxS_ge (P : Nat → Bool) (f : Nat → Nat) : ∀ n k, k < n → P k = true → f k ≤ mxS P f n
  | 0, k, hk, _ => by omega
  | n + 1, k, hk, hp => by
    unfold mxS
    by_cases e : k = n
    · subst e; rw [if_pos hp]; exact Nat.le_max_right _ _
    · have := mxS_ge P f n k (by omega) hp
      by_cases c : P n = true
      · rw [if_pos c]; exact Nat.le_trans this (Nat.le_max_left _ _)
      · rw [if_neg c]; exact this
theorem mxS_congr {P Q : Nat → Bool} {f g : Nat → Nat} {n : Nat} (h : ∀ k, k < n → P k = Q k) (hf : ∀ k, k < n → P k = true → f k = g k) : mxS P f n = mxS Q g n := by
  induction n with
  | zero => rfl
  | succ n ih =>
    unfold mxS
    rw [← h n (by omega), ih (fun k hk => h k (by omega)) (fun k hk => hf k (by omega))]
    by_cases c : P n = true
    · rw [if_pos c, if_pos c, hf n (by omega) c]
    · rw [if_neg c, if_neg c]
theorem max_loop {Bf : (Int32 × Int32 → Option (Int32 × Int32)) → Int32 × Int32 → Option (Int32 × Int32)} (P : Nat → Bool) (f : Nat → Nat) {n : Nat} (hn : n ≤ 10) (hf : ∀ k, k < n → P k = true → f k ≤ 1000000000) (hs : ∀ k, k < n → ∀ a rec, Bf rec (a, nI k) = if P k = true then rec (jmax a (nI (f k)), nI k + 1) else rec (a, nI k + 1)) (he : ∀ a rec, Bf rec (a, nI n) = some (a, nI n)) : lp Bf FU (0, 0) = some (nI (mxS P f n), nI n) := by
  refine lp_for Bf (fun k => (nI (mxS P f k), nI k)) _ n (by omega) (fun k hk rec => ?_) (fun rec => he _ rec)
  show Bf rec (nI (mxS P f k), nI k) = rec (nI (mxS P f (k + 1)), nI (k + 1))
  have hb := mxS_le P f 1000000000 k (fun j hj => hf j (by omega))
  rw [hs k hk, nI_succ]
  by_cases c : P k = true
  · have := hf k hk c
    rw [if_pos c, nmax (by omega) (by omega)]
    rw [show mxS P f (k + 1) = max (mxS P f k) (f k) from if_pos c]
  · rw [if_neg c]
    rw [show mxS P f (k + 1) = mxS P f k from if_neg c]
/-- a set of the few errands that there are: a number below 2^n -/
theorem hs_lt {s n e : Nat} (h : s < 2 ^ n) (he : hs s e = true) : e < n := by
  by_cases c : e < n
  · exact c
  · have : hs s e = false := hs_big (Nat.lt_of_lt_of_le h (Nat.pow_le_pow_right (by omega) (by omega)))
    rw [this] at he; cases he
def eS (r : Nat → Int32) (x : Nat) : Nat := setS (fun e => decide (eF r e 3 = x)) (ne r)
def kS (r : Nat → Int32) (c : Nat) : Nat := setS (fun e => decide (eF r e 3 = 1) && decide (r (86 + 5 * e + 4) = nI c)) (ne r)
def wS (r : Nat → Int32) (s : Nat) : Nat := sumS (hs s) (fun e => eF r e 0) (ne r)
def hvS (r : Nat → Int32) (s : Nat) : Nat := mxS (hs s) (fun e => eF r e 0) (ne r)
def soS (r : Nat → Int32) : Nat := setS (fun w => !decide (r (126 + 2 * w + 1) = -1)) (nw r)
def hS (r : Nat → Int32) : Nat := sumS (fun s => !decide (r (46 + s) = -1)) (fun _ => 1) 10
def aS (r : Nat → Int32) (f : Nat) : Int32 := sumI (fun c => r (56 + 5 * c + f)) (nc r)
section SMALL
variable {r : Nat → Int32} {u m : Mem} {B : Nat}
theorem n_ge {n k : Nat} (h : n ≤ k) (hk : k < 2147483648) : nI n ≤ nI k := by rw [nle (by omega) hk]; exact h
theorem n_ngt {n k : Nat} (h : k < n) (hk : n < 2147483648) : ¬ nI n ≤ nI k := by rw [nle hk (by omega)]; omega
theorem b2 {c : Bool} {A : Type} {x y : A} : (if (if c = true then (1 : Int32) else 0) = 0 then x else y) = if c = true then y else x := by
  cases c <;> rfl
theorem eS_lt (hw : Wf r) (x : Nat) : eS r x < 256 := setS_256 _ (ne_eq hw).2
theorem kS_lt (hw : Wf r) (x : Nat) : kS r x < 256 := setS_256 _ (ne_eq hw).2
theorem wS_le (hw : Wf r) (s : Nat) : wS r s ≤ 480 := by
  have := ne_eq hw
  have h2 := sumS_le (hs s) (fun e => eF r e 0) 60 (ne r) (fun k hk => (eW hw hk).2)
  unfold wS
  omega
theorem c_errandsThat (h : Rep u B r) (hw : Wf r) {x : Nat} (hx : x < 2147483648) : FX2_errandsThat B (nI x) u = some (nI (eS r x)) := by
  have hn := ne_eq hw
  refine lp_bind (set_loop (fun e => decide (eF r e 3 = x)) (n := ne r) (by omega) (fun k hk a rec => ?_) (fun a rec => ?_)) rfl
  · dsimp only [BX2_errandsThat_4]
    rw [q6 h hw, if_neg (n_ngt hk (by omega)), if_pos (inb_t (by omega) (by omega)), ncl (by omega), qh h hw hk]
    have := (eH hw hk).2
    by_cases c : eF r k 3 = x
    · rw [if_pos (by rw [c]), if_pos (by simp [c])]
    · rw [if_neg (by rw [neq (by omega) hx]; exact c), if_neg (by simp [c])]
  · dsimp only [BX2_errandsThat_4]
    rw [q6 h hw, if_pos (n_ge (Nat.le_refl _) (by omega))]
theorem c_carriedBy (h : Rep u B r) (hw : Wf r) (x : Nat) : FX2_carriedBy B (nI x) u = some (nI (kS r x)) := by
  have hn := ne_eq hw
  refine lp_bind (set_loop (fun e => decide (eF r e 3 = 1) && decide (r (86 + 5 * e + 4) = nI x)) (n := ne r) (by omega) (fun k hk a rec => ?_) (fun a rec => ?_)) rfl
  · dsimp only [BX2_carriedBy_4]
    rw [q6 h hw, if_neg (n_ngt hk (by omega)), if_pos (inb_t (by omega) (by omega)), if_pos (inb_t (by omega) (by omega)), ncl (by omega), qh h hw hk, qo h hk]
    have := (eH hw hk).2
    by_cases c : eF r k 3 = 1
    · rw [if_pos (by rw [c]; rfl)]
      by_cases d : r (86 + 5 * k + 4) = nI x
      · rw [if_pos d, if_pos (by simp [c, d])]
      · rw [if_neg d, if_neg (by simp [c, d])]
    · rw [if_neg (by rw [L1, neq (by omega) (by omega)]; exact c), if_neg (by simp [c])]
  · dsimp only [BX2_carriedBy_4]
    rw [q6 h hw, if_pos (n_ge (Nat.le_refl _) (by omega))]
theorem c_weightOf (h : Rep u B r) (hw : Wf r) {s : Nat} (hs' : s < 256) : FX2_weightOf B (nI s) u = some (nI (wS r s)) := by
  have hn := ne_eq hw
  refine lp_bind (sum_loop (hs s) (fun e => eF r e 0) (n := ne r) (by omega) (fun k hk a rec => ?_) (fun a rec => ?_)) rfl
  · dsimp only [BX2_weightOf_4]
    rw [q6 h hw, if_neg (n_ngt hk (by omega)), nhas hs' (by omega), b2, if_pos (inb_t (by omega) (by omega)), ncl (by omega), qp h hw hk]
  · dsimp only [BX2_weightOf_4]
    rw [q6 h hw, if_pos (n_ge (Nat.le_refl _) (by omega))]
theorem c_heaviestOf (h : Rep u B r) (hw : Wf r) {s : Nat} (hs' : s < 256) : FX2_heaviestOf B (nI s) u = some (nI (hvS r s)) := by
  have hn := ne_eq hw
  refine lp_bind (max_loop (hs s) (fun e => eF r e 0) (n := ne r) (by omega) (fun k hk _ => by have := (eW hw hk).2; omega) (fun k hk a rec => ?_) (fun a rec => ?_)) rfl
  · dsimp only [BX2_heaviestOf_4]
    rw [q6 h hw, if_neg (n_ngt hk (by omega)), nhas hs' (by omega), b2, if_pos (inb_t (by omega) (by omega)), ncl (by omega), qp h hw hk]
  · dsimp only [BX2_heaviestOf_4]
    rw [q6 h hw, if_pos (n_ge (Nat.le_refl _) (by omega))]
theorem c_soldWares (h : Rep u B r) (hw : Wf r) : FX2_soldWares B u = some (nI (soS r)) := by
  have hn := nw_eq hw
  refine lp_bind (set_loop (fun w => !decide (r (126 + 2 * w + 1) = -1)) (n := nw r) (by omega) (fun k hk a rec => ?_) (fun a rec => ?_)) rfl
  · dsimp only [BX2_soldWares_4]
    rw [q7 h hw, if_neg (n_ngt hk (by omega)), if_pos (inb_t (by omega) (by omega)), ncl (by omega), qt h hk]
    by_cases d : r (126 + 2 * k + 1) = -1
    · rw [if_pos d, if_neg (by simp [d])]
    · rw [if_neg d, if_pos (by simp [d])]
  · dsimp only [BX2_soldWares_4]
    rw [q7 h hw, if_pos (n_ge (Nat.le_refl _) (by omega))]
theorem c_earnedByAll (h : Rep u B r) (hw : Wf r) : FX2_earnedByAll B u = some (aS r 3) := by
  have hn := nc_eq hw
  refine lp_bind (sumI_loop (fun c => r (56 + 5 * c + 3)) (n := nc r) (by omega) (fun k hk a rec => ?_) (fun a rec => ?_)) rfl
  · dsimp only [BX2_earnedByAll_4]
    rw [q5 h hw, if_neg (n_ngt hk (by omega)), if_pos (inb_t (by omega) (by omega)), ncl (by omega), h.2.2.1 k hk 3 (by omega)]
  · dsimp only [BX2_earnedByAll_4]
    rw [q5 h hw, if_pos (n_ge (Nat.le_refl _) (by omega))]
theorem c_walkedByAll (h : Rep u B r) (hw : Wf r) : FX2_walkedByAll B u = some (aS r 4) := by
  have hn := nc_eq hw
  refine lp_bind (sumI_loop (fun c => r (56 + 5 * c + 4)) (n := nc r) (by omega) (fun k hk a rec => ?_) (fun a rec => ?_)) rfl
  · dsimp only [BX2_walkedByAll_4]
    rw [q5 h hw, if_neg (n_ngt hk (by omega)), if_pos (inb_t (by omega) (by omega)), ncl (by omega), h.2.2.1 k hk 4 (by omega)]
  · dsimp only [BX2_walkedByAll_4]
    rw [q5 h hw, if_pos (n_ge (Nat.le_refl _) (by omega))]
theorem c_heldSpots (h : Rep u B r) : FX2_heldSpots B u = some (nI (hS r)) := by
  refine lp_bind (sum_loop (fun s => !decide (r (46 + s) = -1)) (fun _ => 1) (n := 10) (by omega) (fun k hk a rec => ?_) (fun a rec => ?_)) rfl
  · dsimp only [BX2_heldSpots_4]
    rw [L10, if_neg (n_ngt hk (by omega)), if_pos (inb_t (by omega) (by omega)), ncl (by omega), h.2.1 k hk]
    by_cases d : r (46 + k) = -1
    · rw [if_pos d, if_neg (by simp [d])]
    · rw [if_neg d, if_pos (by simp [d])]; rfl
  · dsimp only [BX2_heldSpots_4]
    rw [L10, if_pos (n_ge (Nat.le_refl _) (by omega))]
theorem or0 (a : Int32) : a ||| 0 = a := by
  apply Int32.toBitVec_inj.mp
  show a.toBitVec ||| 0 = a.toBitVec
  simp
theorem add0 (a : Int32) : a + 0 = a := by
  apply Int32.toBitVec_inj.mp
  show a.toBitVec + 0 = a.toBitVec
  simp
theorem m_errandsThat (hm : m 117 = r) (hw : Wf r) {x : Nat} (hx : x < 2147483648) : FX10_errandsThat (nI x) m = some (nI (eS r x)) := by
  have hn := ne_eq hw
  refine lp_bind (set_loop (fun e => decide (eF r e 3 = x)) (n := ne r) (by omega) (fun k hk a rec => ?_) (fun a rec => ?_)) rfl
  · dsimp only [BX10_errandsThat_4]
    rw [hm, hn.1, if_neg (n_ngt hk (by omega)), mh hm hw hk, or0]
    have := (eH hw hk).2
    dsimp only [Option.bind]
    by_cases c : eF r k 3 = x
    · rw [if_pos (by rw [c]), if_pos (by simp [c])]
    · rw [if_neg (by rw [neq (by omega) hx]; exact c), if_neg (by simp [c])]
  · dsimp only [BX10_errandsThat_4]
    rw [hm, hn.1, if_pos (n_ge (Nat.le_refl _) (by omega))]
theorem m_carries (hm : m 117 = r) (hw : Wf r) (x : Nat) : FX10_carries (nI x) m = some (nI (kS r x)) := by
  have hn := ne_eq hw
  refine lp_bind (set_loop (fun e => decide (eF r e 3 = 1) && decide (r (86 + 5 * e + 4) = nI x)) (n := ne r) (by omega) (fun k hk a rec => ?_) (fun a rec => ?_)) rfl
  · dsimp only [BX10_carries_4]
    rw [hm, hn.1, if_neg (n_ngt hk (by omega)), mh hm hw hk, mo hm hw hk, or0]
    have := (eH hw hk).2
    dsimp only [Option.bind]
    by_cases c : eF r k 3 = 1
    · rw [if_pos (by rw [c]; rfl)]
      by_cases d : r (86 + 5 * k + 4) = nI x
      · rw [if_pos d, if_pos (by simp [c, d])]
      · rw [if_neg d, if_neg (by simp [c, d])]
    · rw [if_neg (by rw [L1, neq (by omega) (by omega)]; exact c), if_neg (by simp [c])]
  · dsimp only [BX10_carries_4]
    rw [hm, hn.1, if_pos (n_ge (Nat.le_refl _) (by omega))]
theorem m_weighs (hm : m 117 = r) (hw : Wf r) {s : Nat} (hs' : s < 256) : FX10_weighs (nI s) m = some (nI (wS r s)) := by
  have hn := ne_eq hw
  refine lp_bind (sum_loop (hs s) (fun e => eF r e 0) (n := ne r) (by omega) (fun k hk a rec => ?_) (fun a rec => ?_)) rfl
  · dsimp only [BX10_weighs_4]
    rw [hm, hn.1, if_neg (n_ngt hk (by omega)), nhas2 hs' (by omega), b2, mp hm hw hk, add0]
    rfl
  · dsimp only [BX10_weighs_4]
    rw [hm, hn.1, if_pos (n_ge (Nat.le_refl _) (by omega))]
theorem wfH_neg {n : Nat} {x : Int32} (h : wfH n x) (hn : n ≤ 6) : (x < 0 ↔ x = -1) ∧ (0 ≤ x ↔ ¬ x = -1) := by
  rcases h with rfl | ⟨c, hc, rfl⟩
  · decide
  · have h1 : ¬ nI c = -1 := fun z => by
      have := congrArg Int32.toInt z
      rw [nI_toInt (by omega)] at this
      have e : (-1 : Int32).toInt = -1 := by decide
      omega
    exact ⟨⟨fun z => absurd z (nI_pos (by omega)), fun z => absurd z h1⟩, ⟨fun _ => h1, fun _ => nI_pos' (by omega)⟩⟩
theorem m_sold (hm : m 117 = r) (hw : Wf r) (p1 : Int32) : lp (BX10_now_50 p1 m) FU (0, 0) = some (nI (soS r), nI (nw r)) := by
  have hn := nw_eq hw
  have h6 := nc_eq hw
  refine set_loop (fun w => !decide (r (126 + 2 * w + 1) = -1)) (n := nw r) (by omega) (fun k hk a rec => ?_) (fun a rec => ?_)
  · dsimp only [BX10_now_50]
    rw [hm, hn.1, if_neg (n_ngt hk (by omega)), L1, wAt_eq, if_pos (inb_t (by omega) (by omega)), ncl (by omega), or0, ← L1]
    have hz := (wfH_neg (hw.2.2.2.2.2 k hk).2 h6.2).1
    by_cases d : r (126 + 2 * k + 1) = -1
    · rw [if_pos (hz.mpr d), if_neg (by simp [d])]
    · rw [if_neg (fun z => d (hz.mp z)), if_pos (by simp [d])]
  · dsimp only [BX10_now_50]
    rw [hm, hn.1, if_pos (n_ge (Nat.le_refl _) (by omega))]
theorem m_ofAll (hm : m 117 = r) (hw : Wf r) {f : Nat} (hf : f < 5) : FX10_ofAll (nI f) m = some (aS r f) := by
  have hn := nc_eq hw
  refine lp_bind (sumI_loop (fun c => r (56 + 5 * c + f)) (n := nc r) (by omega) (fun k hk a rec => ?_) (fun a rec => ?_)) rfl
  · dsimp only [BX10_ofAll_4]
    rw [mc (by omega) hf, hm, hn.1, if_neg (n_ngt hk (by omega))]
    rfl
  · dsimp only [BX10_ofAll_4]
    rw [hm, hn.1, if_pos (n_ge (Nat.le_refl _) (by omega))]
theorem m_held (hm : m 117 = r) (hw : Wf r) (p1 : Int32) : lp (BX10_count_99 p1 m) FU (0, 0) = some (nI (hS r), nI 10) := by
  have h6 := nc_eq hw
  refine sum_loop (fun s => !decide (r (46 + s) = -1)) (fun _ => 1) (n := 10) (by omega) (fun k hk a rec => ?_) (fun a rec => ?_)
  · dsimp only [BX10_count_99]
    rw [L10, show (46 : Int32) = nI 46 from rfl, nadd, if_neg (n_ngt hk (by omega)), if_pos (inb_t (by omega) (by omega)), ncl (by omega), hm, add0]
    have hz := (wfH_neg (hw.2.2.1 k hk) h6.2).2
    by_cases d : r (46 + k) = -1
    · rw [if_neg (fun z => hz.mp z d), if_neg (by simp [d])]
    · rw [if_pos (hz.mpr d), if_pos (by simp [d])]; rfl
  · dsimp only [BX10_count_99]
    rw [L10, if_pos (n_ge (Nat.le_refl _) (by omega))]
/-- who and what there is -/
theorem c_has (h : Rep u B r) (hw : Wf r) (p : Int32) : FX2_hasCarrier B p u = FX9_within p 0 (nI (nc r) - 1) := by unfold FX2_hasCarrier; rw [q5 h hw]
theorem c_hasE (h : Rep u B r) (hw : Wf r) (p : Int32) : FX2_hasErrand B p u = FX9_within p 0 (nI (ne r) - 1) := by unfold FX2_hasErrand; rw [q6 h hw]
theorem c_hasW (h : Rep u B r) (hw : Wf r) (p : Int32) : FX2_hasWare B p u = FX9_within p 0 (nI (nw r) - 1) := by unfold FX2_hasWare; rw [q7 h hw]
theorem m_isC (hm : m 117 = r) (hw : Wf r) (p : Int32) : FX10_isCarrier p m = FX9_within p 0 (nI (nc r) - 1) := by unfold FX10_isCarrier; rw [hm, (nc_eq hw).1, within_eq]
theorem m_isE (hm : m 117 = r) (hw : Wf r) (p : Int32) : FX10_isErrand p m = FX9_within p 0 (nI (ne r) - 1) := by unfold FX10_isErrand; rw [hm, (ne_eq hw).1, within_eq]
theorem m_isW (hm : m 117 = r) (hw : Wf r) (p : Int32) : FX10_isWare p m = FX9_within p 0 (nI (nw r) - 1) := by unfold FX10_isWare; rw [hm, (nw_eq hw).1, within_eq]
/-- what one can bear -/
def bK (k s : Nat) : Nat := if k = 1 ∨ k = 3 then s / 2 else if k = 2 ∨ k = 4 then 2 * s else s
theorem bK_le {k s : Nat} (h : s ≤ 99) : bK k s ≤ 198 := by unfold bK; split <;> first | omega | (split <;> omega)
theorem kbear {k s : Nat} (hk : k < 7) (hs' : s < 100) : FX3_canBear (nI k) (nI s) = nI (bK k s) := by
  have key : ∀ k, k < 7 → ∀ s, s < 100 → FX3_canBear (nI k) (nI s) = nI (bK k s) := by decide +kernel
  exact key k hk s hs'
theorem kunder {k o : Nat} (hk : k < 7) : FX10_isUnder (nI k) 1 = some (if k = 1 ∨ k = 3 then 1 else 0) ∧ FX10_isUnder (nI k) 2 = some (if k = 2 ∨ k = 4 then 1 else 0) := by
  have key : ∀ k, k < 7 → FX10_isUnder (nI k) 1 = some (if k = 1 ∨ k = 3 then 1 else 0) ∧ FX10_isUnder (nI k) 2 = some (if k = 2 ∨ k = 4 then 1 else 0) := by decide +kernel
  exact key k hk
def bc (r : Nat → Int32) (c : Nat) : Nat := bK (cF r c 0) (cF r c 2)
theorem bc_le (hw : Wf r) {c : Nat} (hc : c < nc r) : bc r c ≤ 198 := bK_le (cS hw hc).2
theorem c_canBear (h : Rep u B r) (hw : Wf r) {c : Nat} (hc : c < nc r) : FX0_canBear (B + 12 + c) u = nI (bc r c) := by
  unfold FX0_canBear
  rw [qK h hw hc, qS h hw hc]
  exact kbear (cK hw hc).2 (by have := (cS hw hc).2; omega)
theorem m_bears (hm : m 117 = r) (hw : Wf r) {c : Nat} (hc : c < nc r) : FX10_bears (nI c) m = some (nI (bc r c)) := by
  unfold FX10_bears
  have hk := (cK hw hc).2
  have hs' := (cS hw hc).2
  rw [mK hm hw hc, mS hm hw hc]
  dsimp only [Option.bind]
  rw [(kunder (o := 0) hk).1, (kunder (o := 0) hk).2]
  dsimp only [Option.bind]
  unfold bc bK
  by_cases c1 : cF r c 0 = 1 ∨ cF r c 0 = 3
  · rw [if_pos c1, if_pos c1, if_neg (by decide), L2, ndiv (by omega) (by omega) (by omega)]
  · rw [if_neg c1, if_neg c1, if_pos rfl]
    by_cases c2 : cF r c 0 = 2 ∨ cF r c 0 = 4
    · rw [if_pos c2, if_pos c2, if_neg (by decide), L2, nmul]
    · rw [if_neg c2, if_neg c2, if_pos rfl]
end SMALL
