/-! what a walk does to the row -/
section GO
variable {u m : Mem} {r : Nat → Int32} {B : Nat}
theorem cntS_flip {P Q : Nat → Bool} {c : Nat} (h : ∀ k, k ≠ c → P k = Q k) (hp : P c = false) (hq : Q c = true) : ∀ n, c < n → cntS Q n = cntS P n + 1
  | 0, hn => by omega
  | n + 1, hn => by
    by_cases e : n = c
    · subst e
      have : cntS P n = cntS Q n := cntS_congr n (fun k hk => h k (by omega))
      unfold cntS
      rw [if_pos hq, if_neg (by rw [hp]; decide), this]
    · have ih := cntS_flip h hp hq n (by omega)
      unfold cntS
      rw [← h n e, ih]
      split <;> omega
theorem dnc_inc {c : Nat} (hc : c < ne r) (h : eF r c 3 ≠ 2) : dnc (upd r (86 + 5 * c + 3) 2) = dnc r + 1 := by
  have hn : ne (upd r (86 + 5 * c + 3) 2) = ne r := by unfold ne; rw [pk_un (by omega)]
  unfold dnc
  rw [hn]
  refine cntS_flip (c := c) (fun k hk => ?_) (decide_eq_false h) ?_ _ hc
  · have : eF (upd r (86 + 5 * c + 3) 2) k 3 = eF r k 3 := congrArg tn (pk_un (by omega))
    rw [this]
  · have : eF (upd r (86 + 5 * c + 3) 2) c 3 = 2 := (congrArg tn pk_us).trans rfl
    rw [this]; rfl
def gB (r : Nat → Int32) (c t e : Nat) : Bool := decide (eF r e 3 = 1) && decide (r (86 + 5 * e + 4) = nI c) && decide (eF r e 2 = t)
def goR (r : Nat → Int32) (c t : Nat) : Nat → Nat → Int32
  | 0 => r
  | k + 1 => if gB r c t k then upd (goR r c t k) (86 + 5 * k + 3) 2 else goR r c t k
theorem goR_un (c t : Nat) {x : Nat} : ∀ k, (∀ e, e < k → x ≠ 86 + 5 * e + 3) → goR r c t k x = r x
  | 0, _ => rfl
  | k + 1, h => by
    have ih := goR_un c t (x := x) k (fun e he => h e (by omega))
    unfold goR
    split
    · rw [pk_un (h k (by omega))]; exact ih
    · exact ih
theorem goR_nc (c t k : Nat) : nc (goR r c t k) = nc r := congrArg tn (goR_un c t k (fun e he => by omega))
theorem goR_ne (c t k : Nat) : ne (goR r c t k) = ne r := congrArg tn (goR_un c t k (fun e he => by omega))
theorem gB_1 {c t e : Nat} (h : gB r c t e = true) : eF r e 3 = 1 ∧ r (86 + 5 * e + 4) = nI c ∧ eF r e 2 = t := by
  unfold gB at h
  simp only [Bool.and_eq_true, decide_eq_true_eq] at h
  exact ⟨h.1.1, h.1.2, h.2⟩
theorem goR_wf (hw : Wf r) (c t : Nat) : ∀ k, k ≤ ne r → Wf (goR r c t k) ∧ dnc (goR r c t k) = dnc r + cntS (gB r c t) k
  | 0, _ => ⟨hw, rfl⟩
  | k + 1, hk => by
    obtain ⟨i1, i2⟩ := goR_wf hw c t k (by omega)
    have h8 := (ne_eq hw).2
    unfold goR cntS
    by_cases z : gB r c t k = true
    · rw [if_pos z, if_pos z]
      have h3 : eF (goR r c t k) k 3 = 1 := by
        have : eF (goR r c t k) k 3 = eF r k 3 := congrArg tn (goR_un c t k (fun e he => by omega))
        rw [this]; exact (gB_1 z).1
      have hd := dnc_inc (r := goR r c t k) (c := k) (by rw [goR_ne]; omega) (by omega)
      exact ⟨Wf_setE (v := 2) i1 (by omega) (by omega) (by omega) (fun _ => ⟨fun y => by omega, fun y => by omega, fun y => by omega, fun _ => ⟨rfl, by decide⟩⟩), by omega⟩
    · rw [if_neg z, if_neg z]
      exact ⟨i1, i2⟩
theorem goR_E (c t : Nat) {e f k : Nat} (hf : f < 5) (h3 : f ≠ 3) : eF (goR r c t k) e f = eF r e f := congrArg tn (goR_un c t k (fun x hx => by omega))
theorem goR_pay (c t : Nat) {k e j : Nat} : payE (goR r c t k) j e = payE r j e := by
  have hy : ∀ g, eg (goR r c t k) g = eg r g := eg_congr (fun x hx => goR_un c t k (fun e he => by omega))
  have hD : ∀ a, Ds (goR r c t k) a = Ds r a := fun a => by unfold Ds; rw [hy]
  have hwo : wo (goR r c t k) e = wo r e := by unfold wo; rw [hD, goR_E c t (by omega) (by omega), goR_E c t (by omega) (by omega)]
  unfold payE
  rw [hwo, goR_E c t (by omega) (by omega)]
def gS (r : Nat → Int32) (c t : Nat) (n : Nat) : Nat := sumS (gB r c t) (payE r (cF r c 0)) n
theorem gS_le (hw : Wf r) (c t : Nat) : ∀ n, n ≤ ne r → gS r c t n ≤ 78408 * cntS (gB r c t) n ∧ gS r c t n ≤ n * 78408
  | 0, _ => ⟨Nat.le_refl _, Nat.zero_le _⟩
  | n + 1, hn => by
    obtain ⟨i1, i2⟩ := gS_le hw c t n (by omega)
    have hp := payE_le hw (e := n) (k := cF r c 0) (by omega)
    unfold gS at i1 i2 ⊢
    unfold sumS cntS
    split <;> omega
end GO
