theorem cf0 : CF 0 RX0 TX0 5 tyX0 := ⟨rfl, by
  intro w hw
  have h : (u_ws RX0 TX0 5).all (fun w => decide (w ∈ lw_tbl) && goodWord w) = true := by decide +kernel
  have h1 := List.all_eq_true.mp h w hw
  simp only [Bool.and_eq_true, decide_eq_true_eq] at h1
  exact List.mem_filter.mpr h1, tyX0_ok, nmX0⟩
theorem cf1 : CF 1 RX1 TX1 5 tyX1 := ⟨rfl, by
  intro w hw
  have h : (u_ws RX1 TX1 5).all (fun w => decide (w ∈ lw_tbl) && goodWord w) = true := by decide +kernel
  have h1 := List.all_eq_true.mp h w hw
  simp only [Bool.and_eq_true, decide_eq_true_eq] at h1
  exact List.mem_filter.mpr h1, tyX1_ok, nmX1⟩
theorem cf2 : CF 2 RX2 TX2 9 tyX2 := ⟨rfl, by
  intro w hw
  have h : (u_ws RX2 TX2 9).all (fun w => decide (w ∈ lw_tbl) && goodWord w) = true := by decide +kernel
  have h1 := List.all_eq_true.mp h w hw
  simp only [Bool.and_eq_true, decide_eq_true_eq] at h1
  exact List.mem_filter.mpr h1, tyX2_ok, nmX2⟩
theorem cf4 : CF 3 RX4 TX4 6 tyX4 := ⟨rfl, by
  intro w hw
  have h : (u_ws RX4 TX4 6).all (fun w => decide (w ∈ lw_tbl) && goodWord w) = true := by decide +kernel
  have h1 := List.all_eq_true.mp h w hw
  simp only [Bool.and_eq_true, decide_eq_true_eq] at h1
  exact List.mem_filter.mpr h1, tyX4_ok, nmX4⟩
theorem cf5 : CF 4 RX5 TX5 3 tyX5 := ⟨rfl, by
  intro w hw
  have h : (u_ws RX5 TX5 3).all (fun w => decide (w ∈ lw_tbl) && goodWord w) = true := by decide +kernel
  have h1 := List.all_eq_true.mp h w hw
  simp only [Bool.and_eq_true, decide_eq_true_eq] at h1
  exact List.mem_filter.mpr h1, tyX5_ok, nmX5⟩
theorem cf6 : CF 5 RX6 TX6 6 tyX6 := ⟨rfl, by
  intro w hw
  have h : (u_ws RX6 TX6 6).all (fun w => decide (w ∈ lw_tbl) && goodWord w) = true := by decide +kernel
  have h1 := List.all_eq_true.mp h w hw
  simp only [Bool.and_eq_true, decide_eq_true_eq] at h1
  exact List.mem_filter.mpr h1, tyX6_ok, nmX6⟩
theorem cf7 : CF 6 RX7 TX7 2 tyX7 := ⟨rfl, by
  intro w hw
  have h : (u_ws RX7 TX7 2).all (fun w => decide (w ∈ lw_tbl) && goodWord w) = true := by decide +kernel
  have h1 := List.all_eq_true.mp h w hw
  simp only [Bool.and_eq_true, decide_eq_true_eq] at h1
  exact List.mem_filter.mpr h1, tyX7_ok, nmX7⟩
theorem cf8 : CF 7 RX8 TX8 3 tyX8 := ⟨rfl, by
  intro w hw
  have h : (u_ws RX8 TX8 3).all (fun w => decide (w ∈ lw_tbl) && goodWord w) = true := by decide +kernel
  have h1 := List.all_eq_true.mp h w hw
  simp only [Bool.and_eq_true, decide_eq_true_eq] at h1
  exact List.mem_filter.mpr h1, tyX8_ok, nmX8⟩
theorem cf9 : CF 8 RX9 TX9 9 tyX9 := ⟨rfl, by
  intro w hw
  have h : (u_ws RX9 TX9 9).all (fun w => decide (w ∈ lw_tbl) && goodWord w) = true := by decide +kernel
  have h1 := List.all_eq_true.mp h w hw
  simp only [Bool.and_eq_true, decide_eq_true_eq] at h1
  exact List.mem_filter.mpr h1, tyX9_ok, nmX9⟩
theorem cf10 : CF 9 RX10 TX10 30 tyX10 := ⟨rfl, by
  intro w hw
  have h : (u_ws RX10 TX10 30).all (fun w => decide (w ∈ lw_tbl) && goodWord w) = true := by decide +kernel
  have h1 := List.all_eq_true.mp h w hw
  simp only [Bool.and_eq_true, decide_eq_true_eq] at h1
  exact List.mem_filter.mpr h1, tyX10_ok, nmX10⟩
def isF (B : Nat) : Prop := B = 1 ∨ B = 33 ∨ B = 65
abbrev i49 : Shp := .inr ((0, 49), none)
def isW (S : List Shp) (w : Nat) : Prop := S[w]? = some (.inl (7, [some (some (w + 1)), some (some (w + 2)), some (some (w + 3))])) ∧ S[w + 1]? = some i49 ∧ S[w + 2]? = some i49 ∧ S[w + 3]? = some (.inr ((4, 3), some [some (w + 4), some (w + 5), some (w + 6)])) ∧ S[w + 4]? = some i49 ∧ S[w + 5]? = some i49 ∧ S[w + 6]? = some i49
def isS (k : Nat) : Prop := k = 108 ∨ k = 110 ∨ k = 112 ∨ k = 114
theorem isF1 : isF 1 := Or.inl rfl
theorem isF33 : isF 33 := Or.inr (Or.inl rfl)
theorem isF65 : isF 65 := Or.inr (Or.inr rfl)
theorem sF {B : Nat} (h : isF B) : shs[B]? = some (.inl (2, [some (some (B + 1)), some (some (B + 2)), some (some (B + 3)), some (some (B + 4)), some (some (B + 11)), none, none, none, none])) := by rcases h with rfl | rfl | rfl <;> rfl
theorem sFc {B : Nat} (h : isF B) : shs[B + 1]? = some (.inr ((1, 6), some [some (B + 12), some (B + 13), some (B + 14), some (B + 15), some (B + 16), some (B + 17)])) := by rcases h with rfl | rfl | rfl <;> rfl
theorem sFe {B : Nat} (h : isF B) : shs[B + 2]? = some (.inr ((2, 8), some [some (B + 18), some (B + 19), some (B + 20), some (B + 21), some (B + 22), some (B + 23), some (B + 24), some (B + 25)])) := by rcases h with rfl | rfl | rfl <;> rfl
theorem sFw {B : Nat} (h : isF B) : shs[B + 3]? = some (.inr ((3, 6), some [some (B + 26), some (B + 27), some (B + 28), some (B + 29), some (B + 30), some (B + 31)])) := by rcases h with rfl | rfl | rfl <;> rfl
theorem sFs {B : Nat} (h : isF B) : shs[B + 11]? = some (.inr ((0, 10), none)) := by rcases h with rfl | rfl | rfl <;> rfl
theorem wF {B : Nat} (h : isF B) : isW shs (B + 4) := by rcases h with rfl | rfl | rfl <;> exact ⟨rfl, rfl, rfl, rfl, rfl, rfl, rfl⟩
theorem sCa0 {B : Nat} (h : isF B) : ∀ n, n < 6 → shs[B + 12 + n]? = some (.inl (0, [none, none, none, none, none])) := by
  intro n hn
  rcases h with rfl | rfl | rfl <;> (rcases (show n = 0 ∨ n = 1 ∨ n = 2 ∨ n = 3 ∨ n = 4 ∨ n = 5 by omega) with rfl | rfl | rfl | rfl | rfl | rfl <;> rfl)
theorem sCa {B : Nat} (h : isF B) {i : Int32} (hi : vp_in i 6) : shs[B + 12 + i.toNatClampNeg]? = some (.inl (0, [none, none, none, none, none])) := sCa0 h _ (Nat.not_le.mp fun z => hi (Or.inr z))
theorem sCag {B : Nat} {i : Int32} (hi : vp_in i 6) : [some (B + 12), some (B + 13), some (B + 14), some (B + 15), some (B + 16), some (B + 17)].getD i.toNatClampNeg none = some (B + 12 + i.toNatClampNeg) := by
  have h : i.toNatClampNeg < 6 := Nat.not_le.mp fun z => hi (Or.inr z)
  generalize i.toNatClampNeg = n at h ⊢
  rcases (show n = 0 ∨ n = 1 ∨ n = 2 ∨ n = 3 ∨ n = 4 ∨ n = 5 by omega) with rfl | rfl | rfl | rfl | rfl | rfl <;> rfl
theorem sEr0 {B : Nat} (h : isF B) : ∀ n, n < 8 → shs[B + 18 + n]? = some (.inl (1, [none, none, none, none, none])) := by
  intro n hn
  rcases h with rfl | rfl | rfl <;> (rcases (show n = 0 ∨ n = 1 ∨ n = 2 ∨ n = 3 ∨ n = 4 ∨ n = 5 ∨ n = 6 ∨ n = 7 by omega) with rfl | rfl | rfl | rfl | rfl | rfl | rfl | rfl <;> rfl)
theorem sEr {B : Nat} (h : isF B) {i : Int32} (hi : vp_in i 8) : shs[B + 18 + i.toNatClampNeg]? = some (.inl (1, [none, none, none, none, none])) := sEr0 h _ (Nat.not_le.mp fun z => hi (Or.inr z))
theorem sErg {B : Nat} {i : Int32} (hi : vp_in i 8) : [some (B + 18), some (B + 19), some (B + 20), some (B + 21), some (B + 22), some (B + 23), some (B + 24), some (B + 25)].getD i.toNatClampNeg none = some (B + 18 + i.toNatClampNeg) := by
  have h : i.toNatClampNeg < 8 := Nat.not_le.mp fun z => hi (Or.inr z)
  generalize i.toNatClampNeg = n at h ⊢
  rcases (show n = 0 ∨ n = 1 ∨ n = 2 ∨ n = 3 ∨ n = 4 ∨ n = 5 ∨ n = 6 ∨ n = 7 by omega) with rfl | rfl | rfl | rfl | rfl | rfl | rfl | rfl <;> rfl
theorem sWa0 {B : Nat} (h : isF B) : ∀ n, n < 6 → shs[B + 26 + n]? = some (.inl (6, [none, none])) := by
  intro n hn
  rcases h with rfl | rfl | rfl <;> (rcases (show n = 0 ∨ n = 1 ∨ n = 2 ∨ n = 3 ∨ n = 4 ∨ n = 5 by omega) with rfl | rfl | rfl | rfl | rfl | rfl <;> rfl)
theorem sWa {B : Nat} (h : isF B) {i : Int32} (hi : vp_in i 6) : shs[B + 26 + i.toNatClampNeg]? = some (.inl (6, [none, none])) := sWa0 h _ (Nat.not_le.mp fun z => hi (Or.inr z))
theorem sWag {B : Nat} {i : Int32} (hi : vp_in i 6) : [some (B + 26), some (B + 27), some (B + 28), some (B + 29), some (B + 30), some (B + 31)].getD i.toNatClampNeg none = some (B + 26 + i.toNatClampNeg) := by
  have h : i.toNatClampNeg < 6 := Nat.not_le.mp fun z => hi (Or.inr z)
  generalize i.toNatClampNeg = n at h ⊢
  rcases (show n = 0 ∨ n = 1 ∨ n = 2 ∨ n = 3 ∨ n = 4 ∨ n = 5 by omega) with rfl | rfl | rfl | rfl | rfl | rfl <;> rfl
theorem sW {S : List Shp} {w : Nat} (h : isW S w) : S[w]? = some (.inl (7, [some (some (w + 1)), some (some (w + 2)), some (some (w + 3))])) := h.1
theorem sWy {S : List Shp} {w : Nat} (h : isW S w) : S[w + 1]? = some (.inr ((0, 49), none)) := h.2.1
theorem sWr {S : List Shp} {w : Nat} (h : isW S w) : S[w + 2]? = some (.inr ((0, 49), none)) := h.2.2.1
theorem sWt {S : List Shp} {w : Nat} (h : isW S w) : S[w + 3]? = some (.inr ((4, 3), some [some (w + 4), some (w + 5), some (w + 6)])) := h.2.2.2.1
theorem sTa {S : List Shp} {w : Nat} (h : isW S w) {i : Int32} (hi : vp_in i 3) : S[w + 4 + i.toNatClampNeg]? = some (.inr ((0, 49), none)) := by
  have h3 : i.toNatClampNeg < 3 := Nat.not_le.mp fun z => hi (Or.inr z)
  generalize i.toNatClampNeg = n at h3 ⊢
  rcases (show n = 0 ∨ n = 1 ∨ n = 2 by omega) with rfl | rfl | rfl
  · exact h.2.2.2.2.1
  · exact h.2.2.2.2.2.1
  · exact h.2.2.2.2.2.2
theorem sTag {w : Nat} {i : Int32} (hi : vp_in i 3) : [some (w + 4), some (w + 5), some (w + 6)].getD i.toNatClampNeg none = some (w + 4 + i.toNatClampNeg) := by
  have h : i.toNatClampNeg < 3 := Nat.not_le.mp fun z => hi (Or.inr z)
  generalize i.toNatClampNeg = n at h ⊢
  rcases (show n = 0 ∨ n = 1 ∨ n = 2 by omega) with rfl | rfl | rfl <;> rfl
theorem sS {k : Nat} (h : isS k) : shs[k]? = some (.inl (4, [some (some (k + 1)), none, none])) := by rcases h with rfl | rfl | rfl | rfl <;> rfl
theorem sSn {k : Nat} (h : isS k) : shs[k + 1]? = some (.inr ((0, 40), none)) := by rcases h with rfl | rfl | rfl | rfl <;> rfl
theorem sSh {i : Int32} (hi : vp_in i 4) : isS (108 + 2 * i.toNatClampNeg) := by
  have h : i.toNatClampNeg < 4 := Nat.not_le.mp fun z => hi (Or.inr z)
  unfold isS
  omega
theorem sShg {i : Int32} (hi : vp_in i 4) : [some 108, some 110, some 112, some 114].getD i.toNatClampNeg none = some (108 + 2 * i.toNatClampNeg) := by
  have h : i.toNatClampNeg < 4 := Nat.not_le.mp fun z => hi (Or.inr z)
  generalize i.toNatClampNeg = n at h ⊢
  rcases (show n = 0 ∨ n = 1 ∨ n = 2 ∨ n = 3 by omega) with rfl | rfl | rfl | rfl <;> rfl
theorem sKi {i : Int32} (hi : vp_in i 7) : i.toNatClampNeg < 16 := by
  have h : i.toNatClampNeg < 7 := Nat.not_le.mp fun z => hi (Or.inr z)
  omega
theorem sKig {i : Int32} (hi : vp_in i 7) : [some 1000, some 1001, some 1002, some 1003, some 1004, some 1005, some 1006].getD i.toNatClampNeg none = some (1000 + i.toNatClampNeg) := by
  have h : i.toNatClampNeg < 7 := Nat.not_le.mp fun z => hi (Or.inr z)
  generalize i.toNatClampNeg = n at h ⊢
  rcases (show n = 0 ∨ n = 1 ∨ n = 2 ∨ n = 3 ∨ n = 4 ∨ n = 5 ∨ n = 6 by omega) with rfl | rfl | rfl | rfl | rfl | rfl | rfl <;> rfl
abbrev inb (i : Int32) (n : Nat) : Prop := ¬ (i < 0 ∨ n ≤ i.toNatClampNeg)
def jrem (x y : Int32) : Int32 := x - x / y * y
def jshl (x y : Int32) : Int32 := x <<< (y &&& 31)
def jshr (x y : Int32) : Int32 := x >>> (y &&& 31)
def jushr (x y : Int32) : Int32 := (x.toUInt32 >>> (y.toUInt32 &&& Int32.toUInt32 31)).toInt32
def jb (x : Int32) : Int32 := x.toInt8.toInt32
def js (x : Int32) : Int32 := x.toInt16.toInt32
/-- a loop: so many turns at most -/
def lp {σ O : Type} (B : (σ → Option O) → σ → Option O) : Nat → σ → Option O
  | 0, _ => none
  | n + 1, x => B (lp B n) x
def nm {α β : Type} (x : α) (f : α → β) : β := f x
theorem nmd {α β : Type} {x : α} {f : α → β} {o : β} (h : nm x f = o) : ∃ w, w = x ∧ f w = o := ⟨x, rfl, h⟩
def FU : Nat := 4096
theorem lp_V {σ O : Type} (B : (σ → Option O) → σ → Option O) (P : σ → Prop) (o : O) (hB : ∀ rec : σ → Option O, (∀ x, rec x = some o → P x) → ∀ x, B rec x = some o → P x) : ∀ (n : Nat) (x : σ), lp B n x = some o → P x
  | 0, x, h => by cases h
  | n + 1, x, h => hB (lp B n) (lp_V B P o hB n) x h
theorem ipos {α : Type} {c : Prop} [Decidable c] {A B o : α} (hc : c) (h : (if c then A else B) = o) : A = o := by rwa [if_pos hc] at h
theorem ineg {α : Type} {c : Prop} [Decidable c] {A B o : α} (hc : ¬ c) (h : (if c then A else B) = o) : B = o := by rwa [if_neg hc] at h
theorem gd {α : Type} {c : Prop} [Decidable c] {A : Option α} {o : α} (h : (if c then A else none) = some o) : c ∧ A = some o := by
  by_cases hc : c
  · rw [if_pos hc] at h; exact ⟨hc, h⟩
  · rw [if_neg hc] at h; cases h
theorem obd {α β : Type} {x : Option α} {f : α → Option β} {o : β} (h : x.bind f = some o) : ∃ q, x = some q ∧ f q = some o := Option.bind_eq_some_iff.mp h
section RULES3
variable {S : List Shp} {ad : Nat → Nat} {G : Gh} {X : Amb} {cc : ByteArray} {own : String} {fr lo pc pc' : Nat} {L : List (Nat × Value)} {st stk : List Value} {u u' : Mem} {y : MethodName} {bytes : ByteArray} {maxL fr' lo' b idx n : Nat} {ret : Option FieldType} {As : List Value}
theorem V_ildJ (C : Cx ad G X cc own fr lo) {k n j : Nat} (hsh : S[k]? = some (.inr ((0, n), none))) {i : Int32} (hin : inb i n) (hj : i.toNatClampNeg = j) (hd : decode cc pc = .ok (.iaload, 1)) (hp : pc + 1 = pc') (h : V S ad G X pc' L (.int (u k j) :: st) u) : V S ad G X pc L (.int i :: .ref (ad k) :: st) u := by subst hj; exact V_iald C hsh hin hd hp h
theorem V_istJ (C : Cx ad G X cc own fr lo) {k n j : Nat} (hsh : S[k]? = some (.inr ((0, n), none))) {i x : Int32} (hin : inb i n) (hj : i.toNatClampNeg = j) (hd : decode cc pc = .ok (.iastore, 1)) (hp : pc + 1 = pc') (h : V S ad G X pc' L st (mst u k j x)) : V S ad G X pc L (.int x :: .int i :: .ref (ad k) :: st) u := by subst hj; exact V_iast C hsh hin hd hp h
theorem nzb {x : Int32} (h : x = 0 ∨ x = 1) : narrow .boolean (.int x) = .int x := by rcases h with rfl | rfl <;> rfl
abbrev inZ (x : Int32) : Prop := x = 0 ∨ x = 1
theorem V_jrem (C : Cx ad G X cc own fr lo) {x y : Int32} (hd : decode cc pc = .ok (.irem, 1)) (hp : pc + 1 = pc') (hne : ¬ y = 0) (h : V S ad G X pc' L (.int (jrem x y) :: st) u) : V S ad G X pc L (.int y :: .int x :: st) u := V_irem C hd hp hne h
theorem V_jshl (C : Cx ad G X cc own fr lo) {x y : Int32} (hd : decode cc pc = .ok (.ishl, 1)) (hp : pc + 1 = pc') (h : V S ad G X pc' L (.int (jshl x y) :: st) u) : V S ad G X pc L (.int y :: .int x :: st) u := V_ishl C hd hp h
theorem V_jshr (C : Cx ad G X cc own fr lo) {x y : Int32} (hd : decode cc pc = .ok (.ishr, 1)) (hp : pc + 1 = pc') (h : V S ad G X pc' L (.int (jshr x y) :: st) u) : V S ad G X pc L (.int y :: .int x :: st) u := V_ishr C hd hp h
theorem V_jushr (C : Cx ad G X cc own fr lo) {x y : Int32} (hd : decode cc pc = .ok (.iushr, 1)) (hp : pc + 1 = pc') (h : V S ad G X pc' L (.int (jushr x y) :: st) u) : V S ad G X pc L (.int y :: .int x :: st) u := V_iushr C hd hp h
theorem V_jb (C : Cx ad G X cc own fr lo) {x : Int32} (hd : decode cc pc = .ok (.i2b, 1)) (hp : pc + 1 = pc') (h : V S ad G X pc' L (.int (jb x) :: st) u) : V S ad G X pc L (.int x :: st) u := V_i2b C hd hp h
theorem V_js (C : Cx ad G X cc own fr lo) {x : Int32} (hd : decode cc pc = .ok (.i2s, 1)) (hp : pc + 1 = pc') (h : V S ad G X pc' L (.int (js x) :: st) u) : V S ad G X pc L (.int x :: st) u := V_i2s C hd hp h
theorem V_cVi (C : Cx ad G X cc own fr lo) {x : Int32} {ci N : Nat} {T : u_T} {ty : Nat → FieldType} {fs : List (Option (Option Nat))} (F : CF ci y.cls T N ty) (hsh : S[b]? = some (.inl (ci, fs))) (M : MFv y bytes maxL ret n) (hw : Cond.methodLink own idx y ∈ BW) (hR : fr' + 1 ≤ fr ∧ 8 + (maxL + 11) + lo' ≤ lo) (hn : As.length = n) (hst : stk = As.reverse ++ .ref (ad b) :: st) (hcat : (st.map fun v => v.category).sum ≤ 8) (hd : decode cc pc = .ok (.invokevirtual idx, 3)) (hp : pc + 3 = pc') (hc : Ct S ad G y bytes maxL ret fr' lo' (.ref (ad b) :: As) u (some (.int x)) u') (h : V S ad G X pc' L (.int x :: st) u') : V S ad G X pc L stk u := V_callV C F hsh M hw hR hn hst hcat hd hp hc h
theorem V_cTi (C : Cx ad G X cc own fr lo) {x : Int32} (hb16 : b < 16) (hcls : y.cls = "java/lang/String") (M : MFv y bytes maxL ret n) (hw : Cond.methodLink own idx y ∈ BW) (hR : fr' + 1 ≤ fr ∧ 8 + (maxL + 11) + lo' ≤ lo) (hn : As.length = n) (hst : stk = As.reverse ++ .ref (ad (1000 + b)) :: st) (hcat : (st.map fun v => v.category).sum ≤ 8) (hd : decode cc pc = .ok (.invokevirtual idx, 3)) (hp : pc + 3 = pc') (hc : Ct S ad G y bytes maxL ret fr' lo' (.ref (ad (1000 + b)) :: As) u (some (.int x)) u') (h : V S ad G X pc' L (.int x :: st) u') : V S ad G X pc L stk u := V_callT C hb16 hcls M hw hR hn hst hcat hd hp hc h
theorem V_cSi (C : Cx ad G X cc own fr lo) {x : Int32} (M : MFs y bytes maxL ret n) (hw : Cond.methodLink own idx y ∈ BW) (hR : fr' + 1 ≤ fr ∧ 8 + (maxL + 11) + lo' ≤ lo) (hn : As.length = n) (hst : stk = As.reverse ++ st) (hcat : (st.map fun v => v.category).sum ≤ 8) (hd : decode cc pc = .ok (.invokestatic idx, 3)) (hp : pc + 3 = pc') (hc : Ct S ad G y bytes maxL ret fr' lo' As u (some (.int x)) u') (h : V S ad G X pc' L (.int x :: st) u') : V S ad G X pc L stk u := V_callS C M hw hR hn hst hcat hd hp hc h
theorem V_cNi (C : Cx ad G X cc own fr lo) {host : String} {x : Int32} (M : MFs y bytes maxL ret n) (hw : (own, idx, y, host) ∈ nestL) (hR : fr' + 1 ≤ fr ∧ 8 + (maxL + 11) + lo' ≤ lo) (hn : As.length = n) (hst : stk = As.reverse ++ st) (hcat : (st.map fun v => v.category).sum ≤ 8) (hd : decode cc pc = .ok (.invokestatic idx, 3)) (hp : pc + 3 = pc') (hc : Ct S ad G y bytes maxL ret fr' lo' As u (some (.int x)) u') (h : V S ad G X pc' L (.int x :: st) u') : V S ad G X pc L stk u := V_callN C M hw hR hn hst hcat hd hp hc h
theorem V_cVv (C : Cx ad G X cc own fr lo) {ci N : Nat} {T : u_T} {ty : Nat → FieldType} {fs : List (Option (Option Nat))} (F : CF ci y.cls T N ty) (hsh : S[b]? = some (.inl (ci, fs))) (M : MFv y bytes maxL ret n) (hw : Cond.methodLink own idx y ∈ BW) (hR : fr' + 1 ≤ fr ∧ 8 + (maxL + 11) + lo' ≤ lo) (hn : As.length = n) (hst : stk = As.reverse ++ .ref (ad b) :: st) (hcat : (st.map fun v => v.category).sum ≤ 8) (hd : decode cc pc = .ok (.invokevirtual idx, 3)) (hp : pc + 3 = pc') (hc : Ct S ad G y bytes maxL ret fr' lo' (.ref (ad b) :: As) u none u') (h : V S ad G X pc' L (st) u') : V S ad G X pc L stk u := V_callV C F hsh M hw hR hn hst hcat hd hp hc h
theorem V_cTv (C : Cx ad G X cc own fr lo) (hb16 : b < 16) (hcls : y.cls = "java/lang/String") (M : MFv y bytes maxL ret n) (hw : Cond.methodLink own idx y ∈ BW) (hR : fr' + 1 ≤ fr ∧ 8 + (maxL + 11) + lo' ≤ lo) (hn : As.length = n) (hst : stk = As.reverse ++ .ref (ad (1000 + b)) :: st) (hcat : (st.map fun v => v.category).sum ≤ 8) (hd : decode cc pc = .ok (.invokevirtual idx, 3)) (hp : pc + 3 = pc') (hc : Ct S ad G y bytes maxL ret fr' lo' (.ref (ad (1000 + b)) :: As) u none u') (h : V S ad G X pc' L (st) u') : V S ad G X pc L stk u := V_callT C hb16 hcls M hw hR hn hst hcat hd hp hc h
theorem V_cSv (C : Cx ad G X cc own fr lo) (M : MFs y bytes maxL ret n) (hw : Cond.methodLink own idx y ∈ BW) (hR : fr' + 1 ≤ fr ∧ 8 + (maxL + 11) + lo' ≤ lo) (hn : As.length = n) (hst : stk = As.reverse ++ st) (hcat : (st.map fun v => v.category).sum ≤ 8) (hd : decode cc pc = .ok (.invokestatic idx, 3)) (hp : pc + 3 = pc') (hc : Ct S ad G y bytes maxL ret fr' lo' As u none u') (h : V S ad G X pc' L (st) u') : V S ad G X pc L stk u := V_callS C M hw hR hn hst hcat hd hp hc h
theorem V_cNv (C : Cx ad G X cc own fr lo) {host : String} (M : MFs y bytes maxL ret n) (hw : (own, idx, y, host) ∈ nestL) (hR : fr' + 1 ≤ fr ∧ 8 + (maxL + 11) + lo' ≤ lo) (hn : As.length = n) (hst : stk = As.reverse ++ st) (hcat : (st.map fun v => v.category).sum ≤ 8) (hd : decode cc pc = .ok (.invokestatic idx, 3)) (hp : pc + 3 = pc') (hc : Ct S ad G y bytes maxL ret fr' lo' As u none u') (h : V S ad G X pc' L (st) u') : V S ad G X pc L stk u := V_callN C M hw hR hn hst hcat hd hp hc h
theorem V_cVr (C : Cx ad G X cc own fr lo) {x : Nat} {ci N : Nat} {T : u_T} {ty : Nat → FieldType} {fs : List (Option (Option Nat))} (F : CF ci y.cls T N ty) (hsh : S[b]? = some (.inl (ci, fs))) (M : MFv y bytes maxL ret n) (hw : Cond.methodLink own idx y ∈ BW) (hR : fr' + 1 ≤ fr ∧ 8 + (maxL + 11) + lo' ≤ lo) (hn : As.length = n) (hst : stk = As.reverse ++ .ref (ad b) :: st) (hcat : (st.map fun v => v.category).sum ≤ 8) (hd : decode cc pc = .ok (.invokevirtual idx, 3)) (hp : pc + 3 = pc') (hc : Ct S ad G y bytes maxL ret fr' lo' (.ref (ad b) :: As) u (some (.ref x)) u') (h : V S ad G X pc' L (.ref x :: st) u') : V S ad G X pc L stk u := V_callV C F hsh M hw hR hn hst hcat hd hp hc h
theorem V_cTr (C : Cx ad G X cc own fr lo) {x : Nat} (hb16 : b < 16) (hcls : y.cls = "java/lang/String") (M : MFv y bytes maxL ret n) (hw : Cond.methodLink own idx y ∈ BW) (hR : fr' + 1 ≤ fr ∧ 8 + (maxL + 11) + lo' ≤ lo) (hn : As.length = n) (hst : stk = As.reverse ++ .ref (ad (1000 + b)) :: st) (hcat : (st.map fun v => v.category).sum ≤ 8) (hd : decode cc pc = .ok (.invokevirtual idx, 3)) (hp : pc + 3 = pc') (hc : Ct S ad G y bytes maxL ret fr' lo' (.ref (ad (1000 + b)) :: As) u (some (.ref x)) u') (h : V S ad G X pc' L (.ref x :: st) u') : V S ad G X pc L stk u := V_callT C hb16 hcls M hw hR hn hst hcat hd hp hc h
theorem V_cSr (C : Cx ad G X cc own fr lo) {x : Nat} (M : MFs y bytes maxL ret n) (hw : Cond.methodLink own idx y ∈ BW) (hR : fr' + 1 ≤ fr ∧ 8 + (maxL + 11) + lo' ≤ lo) (hn : As.length = n) (hst : stk = As.reverse ++ st) (hcat : (st.map fun v => v.category).sum ≤ 8) (hd : decode cc pc = .ok (.invokestatic idx, 3)) (hp : pc + 3 = pc') (hc : Ct S ad G y bytes maxL ret fr' lo' As u (some (.ref x)) u') (h : V S ad G X pc' L (.ref x :: st) u') : V S ad G X pc L stk u := V_callS C M hw hR hn hst hcat hd hp hc h
theorem V_cNr (C : Cx ad G X cc own fr lo) {host : String} {x : Nat} (M : MFs y bytes maxL ret n) (hw : (own, idx, y, host) ∈ nestL) (hR : fr' + 1 ≤ fr ∧ 8 + (maxL + 11) + lo' ≤ lo) (hn : As.length = n) (hst : stk = As.reverse ++ st) (hcat : (st.map fun v => v.category).sum ≤ 8) (hd : decode cc pc = .ok (.invokestatic idx, 3)) (hp : pc + 3 = pc') (hc : Ct S ad G y bytes maxL ret fr' lo' As u (some (.ref x)) u') (h : V S ad G X pc' L (.ref x :: st) u') : V S ad G X pc L stk u := V_callN C M hw hR hn hst hcat hd hp hc h
end RULES3
theorem M_bitCount : MFs yJ6_bitCount_0f7a4 cJ6_bitCount_0f7a4 1 (some .int) 1 := ⟨bw 617 (by decide +kernel) (by decide +kernel), bw 100 (by decide +kernel) (by decide +kernel), bw 618 (by decide +kernel) (by decide +kernel), by decide +kernel, by decide +kernel, by decide +kernel⟩
def bc1 (i : Int32) : Int32 := i - ((jushr i 1) &&& 1431655765)
def bc2 (i : Int32) : Int32 := (i &&& 858993459) + ((jushr i 2) &&& 858993459)
def bc3 (i : Int32) : Int32 := (i + (jushr i 4)) &&& 252645135
def bc4 (i : Int32) : Int32 := i + (jushr i 8)
def bc5 (i : Int32) : Int32 := i + (jushr i 16)
def bitCount (i : Int32) : Int32 := bc5 (bc4 (bc3 (bc2 (bc1 i)))) &&& 63
set_option maxHeartbeats 1000000 in
set_option maxRecDepth 20000 in
theorem c_bitCount {S : List Shp} {ad : Nat → Nat} {G : Gh} {u : Mem} {x : Int32} : Ct S ad G yJ6_bitCount_0f7a4 cJ6_bitCount_0f7a4 1 (some .int) 0 0 [.int x] u (some (.int (bitCount x))) u := by
  refine Ct_ofI (by decide) (Nat.le_refl 1) (fun X C hnL K => ?_)
  have C : Cx ad G X cJ6_bitCount_0f7a4 "java/lang/Integer" 0 0 := C
  refine V_iload_n C 0 dJ6_bitCount_0f7a4_0 rfl rfl rfl ?_
  refine V_iload_n C 0 dJ6_bitCount_0f7a4_1 rfl rfl rfl ?_
  refine V_iconst C dJ6_bitCount_0f7a4_2 rfl (v := 1) rfl ?_
  refine V_jushr C dJ6_bitCount_0f7a4_3 rfl ?_
  refine V_ldcw C (v := 1431655765) dJ6_bitCount_0f7a4_4 rfl (bw 619 (by decide +kernel) (by decide +kernel)) ?_
  refine V_iand C dJ6_bitCount_0f7a4_7 rfl ?_
  refine V_isub C dJ6_bitCount_0f7a4_8 rfl ?_
  refine V_istore_n C (L' := [(0, .int (bc1 x))]) dJ6_bitCount_0f7a4_9 rfl rfl (by decide) hnL [0] rfl ?_
  refine V_iload_n C 0 dJ6_bitCount_0f7a4_10 rfl rfl rfl ?_
  refine V_ldcw C (v := 858993459) dJ6_bitCount_0f7a4_11 rfl (bw 620 (by decide +kernel) (by decide +kernel)) ?_
  refine V_iand C dJ6_bitCount_0f7a4_14 rfl ?_
  refine V_iload_n C 0 dJ6_bitCount_0f7a4_15 rfl rfl rfl ?_
  refine V_iconst C dJ6_bitCount_0f7a4_16 rfl (v := 2) rfl ?_
  refine V_jushr C dJ6_bitCount_0f7a4_17 rfl ?_
  refine V_ldcw C (v := 858993459) dJ6_bitCount_0f7a4_18 rfl (bw 620 (by decide +kernel) (by decide +kernel)) ?_
  refine V_iand C dJ6_bitCount_0f7a4_21 rfl ?_
  refine V_iadd C dJ6_bitCount_0f7a4_22 rfl ?_
  refine V_istore_n C (L' := [(0, .int (bc2 (bc1 x)))]) dJ6_bitCount_0f7a4_23 rfl rfl (by decide) hnL [0] rfl ?_
  refine V_iload_n C 0 dJ6_bitCount_0f7a4_24 rfl rfl rfl ?_
  refine V_iload_n C 0 dJ6_bitCount_0f7a4_25 rfl rfl rfl ?_
  refine V_iconst C dJ6_bitCount_0f7a4_26 rfl (v := 4) rfl ?_
  refine V_jushr C dJ6_bitCount_0f7a4_27 rfl ?_
  refine V_iadd C dJ6_bitCount_0f7a4_28 rfl ?_
  refine V_ldcw C (v := 252645135) dJ6_bitCount_0f7a4_29 rfl (bw 621 (by decide +kernel) (by decide +kernel)) ?_
  refine V_iand C dJ6_bitCount_0f7a4_32 rfl ?_
  refine V_istore_n C (L' := [(0, .int (bc3 (bc2 (bc1 x))))]) dJ6_bitCount_0f7a4_33 rfl rfl (by decide) hnL [0] rfl ?_
  refine V_iload_n C 0 dJ6_bitCount_0f7a4_34 rfl rfl rfl ?_
  refine V_iload_n C 0 dJ6_bitCount_0f7a4_35 rfl rfl rfl ?_
  refine V_bipush C dJ6_bitCount_0f7a4_36 rfl (v := 8) rfl ?_
  refine V_jushr C dJ6_bitCount_0f7a4_38 rfl ?_
  refine V_iadd C dJ6_bitCount_0f7a4_39 rfl ?_
  refine V_istore_n C (L' := [(0, .int (bc4 (bc3 (bc2 (bc1 x)))))]) dJ6_bitCount_0f7a4_40 rfl rfl (by decide) hnL [0] rfl ?_
  refine V_iload_n C 0 dJ6_bitCount_0f7a4_41 rfl rfl rfl ?_
  refine V_iload_n C 0 dJ6_bitCount_0f7a4_42 rfl rfl rfl ?_
  refine V_bipush C dJ6_bitCount_0f7a4_43 rfl (v := 16) rfl ?_
  refine V_jushr C dJ6_bitCount_0f7a4_45 rfl ?_
  refine V_iadd C dJ6_bitCount_0f7a4_46 rfl ?_
  refine V_istore_n C (L' := [(0, .int (bc5 (bc4 (bc3 (bc2 (bc1 x))))))]) dJ6_bitCount_0f7a4_47 rfl rfl (by decide) hnL [0] rfl ?_
  refine V_iload_n C 0 dJ6_bitCount_0f7a4_48 rfl rfl rfl ?_
  refine V_bipush C dJ6_bitCount_0f7a4_49 rfl (v := 63) rfl ?_
  refine V_iand C dJ6_bitCount_0f7a4_51 rfl ?_
  exact K _ _ _ dJ6_bitCount_0f7a4_52 rfl rfl
