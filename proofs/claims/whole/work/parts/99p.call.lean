/-! constructors: rows of rows in the judgement; contracts, calls -/
theorem hp_sz {S : List Shp} {ad : Nat → Nat} {cy : Nat → ClassId} {D : va_G} {u : Mem} {H : Heap} {n0 c sz : Nat} (hP : va_P D vwCl (wdo S ad cy u) H) (hS1 : sz ≤ H.size) (hSl : S.length = n0 + c) (hlt : n0 + c < 1001) (had : ∀ k, n0 ≤ k → k < 1000 → ad k = sz + (k - n0)) : sz + c ≤ H.size := by
  rcases Nat.eq_zero_or_pos c with z | z
  · omega
  · obtain ⟨sh, hsh⟩ : ∃ sh, S[n0 + (c - 1)]? = some sh := ⟨_, List.getElem?_eq_getElem (by omega)⟩
    have h1 : ad (n0 + (c - 1)) < H.size := (hP _ _ (wdo_get hsh ad cy u)).lt
    have := had (n0 + (c - 1)) (by omega) (by omega)
    omega
section MULTI
variable {S : List Shp} {ad : Nat → Nat} {G : Gh} {X : Amb} {cc : ByteArray} {own : String} {fr lo pc pc' n0 mc ms sz c s0 : Nat} {L : List (Nat × Value)} {st stk : List Value} {u u' : Mem}
theorem V_multi {idx : Nat} (E : En ad X n0 mc ms sz) (C0 : Cx ad G X cc own fr lo) (hSl : S.length = n0 + c) (hlt : n0 + mc < 1000) (hc : c + 4 ≤ mc) (hs : s0 + 150 ≤ ms) (w1 : Cond.classLink own idx "[[I" ∈ BW) (hu : ∀ k, k < 3 → u (S.length + 1 + k) = fun _ => 0) (hd : decode cc pc = .ok (.multianewarray idx 2, 4)) (hp : pc + 4 = pc') (h : V (S ++ [.inr ((4, 3), some [some (S.length + 1), some (S.length + 2), some (S.length + 3)]), i49, i49, i49]) ad G (bmp X (c + 4) (s0 + 150)) pc' L (.ref (ad S.length) :: st) u) : V S ad G (bmp X c s0) pc L (.int 49 :: .int 3 :: st) u := by
  have C := Cx_bmp C0 E (k := c) (n := s0) (by omega) (by omega)
  obtain ⟨l, cy, D⟩ := G
  obtain ⟨p, e, R, s, m, args, below, meth, cd, cells, slots, Q, A, nL⟩ := X
  obtain ⟨hx, hb, hml, hown, hts, hK, hG, hi, hA, hcc, hcs, hfr, hlo⟩ := C
  obtain ⟨e1, e2, e3, e4, e5, e6, e7, e8, e9⟩ := E
  subst hp; subst e1; subst e2
  intro hSn H locs ls hP hS hl T hT Y
  obtain ⟨comp, cA, kA, a1, a2, a3, a4⟩ := e9.2
  obtain ⟨-, kC, hkC, cc0, hkindC⟩ := (hK.2 0 (cy 0, .int) rfl).1 0 (fun _ => .null)
  have n0' : s.vm.findClass "[I" = some (cy 0) := (hK.2 0 (cy 0, .int) rfl).2
  have n4' : s.vm.findClass "[[I" = some (cy 4) := (hK.2 4 (cy 4, .array .int) rfl).2
  obtain rfl := Option.some.inj (a1.symm.trans n0')
  obtain rfl := Option.some.inj (a4.symm.trans n4')
  have hsz : H.size = sz + c := by
    have q1 := Y.heapSize
    rw [hT, e5] at q1
    have q2 := hp_sz hP (by have := hS.1; rw [e5] at this; exact this) hSl (by omega) e7
    omega
  refine W_rows3 hx hb hown (hts _ w1) n4' a2 a3 hkC hkindC (g := F0 m pc ls (.int 49 :: .int 3 :: st)) rfl hd rfl (by omega) (by omega) (fun K hKL => ?_) T hT Y
  have f1 : K.size = H.size + 1 + 3 := by rw [← Array.length_toList, hKL, hgL_len]
  have f2 : K[H.size]? = some (hgO (cy 4) H.size 3) := by rw [hgL_at hKL, hgL_out]
  have f3 : ∀ a, a < H.size → K[a]? = H[a]? := fun a ha => by rw [hgL_at hKL, hgL_old ha]
  have f4 : ∀ j, j < 3 → K[H.size + 1 + j]? = some (hgR (cy 0)) := fun j hj => by rw [hgL_at hKL, hgL_row hj]
  have adS : ∀ j, j < 4 → ad (S.length + j) = H.size + j := fun j hj => by rw [e7 _ (by omega) (by omega)]; omega
  have hP1 : va_P D vwCl (wdo (S ++ [.inr ((4, 3), some [some (S.length + 1), some (S.length + 2), some (S.length + 3)]), i49, i49, i49]) ad cy u) K := by
    intro k q hq
    by_cases hk : k < S.length
    · obtain ⟨sh, hsh⟩ : ∃ sh, S[k]? = some sh := ⟨_, List.getElem?_eq_getElem hk⟩
      have h1 := wdo_get (show (S ++ [.inr ((4, 3), some [some (S.length + 1), some (S.length + 2), some (S.length + 3)]), i49, i49, i49])[k]? = some sh by rw [List.getElem?_append_left hk]; exact hsh) ad cy u
      obtain rfl := Option.some.inj (h1.symm.trans hq)
      have h2 := hP k _ (wdo_get hsh ad cy u)
      exact h2.kept (f3 _ h2.lt)
    · have hkl := (wdo_in hq).1
      rw [List.length_append] at hkl
      have hkl : k < S.length + 4 := hkl
      have row : ∀ j, 1 ≤ j → j < 4 → va_at D vwCl (ad (S.length + j), cel ad cy i49 (u (S.length + j))) K := fun j h1 h4 => by
        show K[ad (S.length + j)]? = some (vp_cell (cy 0) (49, .inl (u (S.length + j))))
        rw [adS j h4, show H.size + j = H.size + 1 + (j - 1) by omega, f4 (j - 1) (by omega), vp_cell_i, show S.length + j = S.length + 1 + (j - 1) by omega, hu (j - 1) (by omega)]
        rfl
      have gt : ∀ j sh, [(.inr ((4, 3), some [some (S.length + 1), some (S.length + 2), some (S.length + 3)]) : Shp), i49, i49, i49][j]? = some sh → k = S.length + j → q = (ad (S.length + j), cel ad cy sh (u (S.length + j))) := fun j sh hj hkj => by
        subst hkj
        have h1 := wdo_get (show (S ++ [.inr ((4, 3), some [some (S.length + 1), some (S.length + 2), some (S.length + 3)]), i49, i49, i49])[S.length + j]? = some sh by rw [List.getElem?_append_right (by omega), Nat.add_sub_cancel_left]; exact hj) ad cy u
        exact Option.some.inj (hq.symm.trans h1)
      rcases (show k = S.length + 0 ∨ k = S.length + 1 ∨ k = S.length + 2 ∨ k = S.length + 3 by omega) with z | z | z | z
      · rw [gt 0 _ rfl z]
        show K[ad (S.length + 0)]? = some (vp_cell (cy 4) (3, .inr (.inr (.inr (.inr (rfs ad [some (S.length + 1), some (S.length + 2), some (S.length + 3)] 3))))))
        rw [adS 0 (by omega), Nat.add_zero, f2, vp_cell_q]
        refine congrArg some (congrArg (arrV (cy 4) 3) (funext fun i => ?_))
        have b1 := adS 1 (by omega)
        have b2 := adS 2 (by omega)
        have b3 := adS 3 (by omega)
        unfold rfs
        rcases (show i = 0 ∨ i = 1 ∨ i = 2 ∨ 3 ≤ i by omega) with rfl | rfl | rfl | hi
        · show Value.ref (H.size + 1 + 0) = .ref (ad (S.length + 1)); rw [b1]
        · show Value.ref (H.size + 1 + 1) = .ref (ad (S.length + 2)); rw [b2]
        · show Value.ref (H.size + 1 + 2) = .ref (ad (S.length + 3)); rw [b3]
        · rw [if_neg (by omega), if_neg (by omega)]; rfl
      · rw [gt 1 _ rfl z]; exact row 1 (by omega) (by omega)
      · rw [gt 2 _ rfl z]; exact row 2 (by omega) (by omega)
      · rw [gt 3 _ rfl z]; exact row 3 (by omega) (by omega)
  have hS1 : va_S A s.heap K locs := ⟨by rw [f1]; have := hS.1; omega, fun q h1 h2 => by rw [f3 q (Nat.lt_of_lt_of_le h1 hS.1)]; exact hS.2.1 q h1 h2, hS.2.2⟩
  have h2 := h (by rw [List.length_append]; show S.length + 4 ≤ 1000; omega) K locs ls hP1 hS1 hl
  rw [show ad S.length = H.size by have := adS 0 (by omega); rwa [Nat.add_zero, Nat.add_zero] at this] at h2
  rw [show 0 + c + 4 = 0 + (c + 4) by omega, show 0 + s0 + 150 = 0 + (s0 + 150) by omega]
  exact h2
end MULTI
