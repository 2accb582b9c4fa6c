/-! the law: the loop -/
theorem sw_cases (v : Int32) : (v.toInt < 0 ∨ 48 < v.toInt) ∨ ∃ n, n < 49 ∧ v = nI n := by
  by_cases h : v.toInt < 0 ∨ 48 < v.toInt
  · exact Or.inl h
  · refine Or.inr ⟨v.toInt.toNat, by omega, ?_⟩
    apply Int32.toInt_inj.mp
    rw [nI_toInt (by omega)]
    omega
section LOOP
variable {ad : Nat → Nat} {G : Gh} {X : Amb} {b L : Nat} {xs : Nat → Int32}
theorem lw_body (C : Cx ad G X cL_law "CarryFairLaw" 13 480) (Z : Scr X b L xs) {i : Int32} {u : Mem} (hin : lwIn i L) (hI : Inv u) (hgo : ∀ u, Inv u → V shs ad G X 1771 (lwL b ad i) [] u) : V shs ad G X 27 (lwL b ad i) [] u := by
  refine V_aload_n C 3 dL_law_27 rfl rfl rfl ?_
  refine V_iload_n C 0 dL_law_28 rfl rfl rfl ?_
  refine V_sld C Z hin.1 dL_law_29 rfl ?_
  refine V_bipush C dL_law_30 rfl (v := 63) rfl ?_
  refine V_iand C dL_law_32 rfl ?_
  rcases sw_cases (xs i.toNatClampNeg &&& 63) with h | ⟨n, hn, h⟩
  · exact V_tout C dL_law_33 h (tgt := 1771) rfl (hgo _ hI)
  · rcases (show n = 0 ∨ n = 1 ∨ n = 2 ∨ n = 3 ∨ n = 4 ∨ n = 5 ∨ n = 6 ∨ n = 7 ∨ n = 8 ∨ n = 9 ∨ n = 10 ∨ n = 11 ∨ n = 12 ∨ n = 13 ∨ n = 14 ∨ n = 15 ∨ n = 16 ∨ n = 17 ∨ n = 18 ∨ n = 19 ∨ n = 20 ∨ n = 21 ∨ n = 22 ∨ n = 23 ∨ n = 24 ∨ n = 25 ∨ n = 26 ∨ n = 27 ∨ n = 28 ∨ n = 29 ∨ n = 30 ∨ n = 31 ∨ n = 32 ∨ n = 33 ∨ n = 34 ∨ n = 35 ∨ n = 36 ∨ n = 37 ∨ n = 38 ∨ n = 39 ∨ n = 40 ∨ n = 41 ∨ n = 42 ∨ n = 43 ∨ n = 44 ∨ n = 45 ∨ n = 46 ∨ n = 47 ∨ n = 48 by omega) with rfl | rfl | rfl | rfl | rfl | rfl | rfl | rfl | rfl | rfl | rfl | rfl | rfl | rfl | rfl | rfl | rfl | rfl | rfl | rfl | rfl | rfl | rfl | rfl | rfl | rfl | rfl | rfl | rfl | rfl | rfl | rfl | rfl | rfl | rfl | rfl | rfl | rfl | rfl | rfl | rfl | rfl | rfl | rfl | rfl | rfl | rfl | rfl | rfl
    · exact V_tin C dL_law_33 (nI 0) h (by decide) (by decide) rfl (tgt := 244) rfl (lw_c0 C Z hin hI hgo)
    · exact V_tin C dL_law_33 (nI 1) h (by decide) (by decide) rfl (tgt := 267) rfl (lw_c1 C Z hin hI hgo)
    · exact V_tin C dL_law_33 (nI 2) h (by decide) (by decide) rfl (tgt := 300) rfl (lw_c2 C Z hin hI hgo)
    · exact V_tin C dL_law_33 (nI 3) h (by decide) (by decide) rfl (tgt := 343) rfl (lw_c3 C Z hin hI hgo)
    · exact V_tin C dL_law_33 (nI 4) h (by decide) (by decide) rfl (tgt := 396) rfl (lw_c4 C Z hin hI hgo)
    · exact V_tin C dL_law_33 (nI 5) h (by decide) (by decide) rfl (tgt := 439) rfl (lw_c5 C Z hin hI hgo)
    · exact V_tin C dL_law_33 (nI 6) h (by decide) (by decide) rfl (tgt := 482) rfl (lw_c6 C Z hin hI hgo)
    · exact V_tin C dL_law_33 (nI 7) h (by decide) (by decide) rfl (tgt := 515) rfl (lw_c7 C Z hin hI hgo)
    · exact V_tin C dL_law_33 (nI 8) h (by decide) (by decide) rfl (tgt := 538) rfl (lw_c8 C Z hin hI hgo)
    · exact V_tin C dL_law_33 (nI 9) h (by decide) (by decide) rfl (tgt := 571) rfl (lw_c9 C Z hin hI hgo)
    · exact V_tin C dL_law_33 (nI 10) h (by decide) (by decide) rfl (tgt := 614) rfl (lw_c10 C Z hin hI hgo)
    · exact V_tin C dL_law_33 (nI 11) h (by decide) (by decide) rfl (tgt := 647) rfl (lw_c11 C Z hin hI hgo)
    · exact V_tin C dL_law_33 (nI 12) h (by decide) (by decide) rfl (tgt := 680) rfl (lw_c12 C Z hin hI hgo)
    · exact V_tin C dL_law_33 (nI 13) h (by decide) (by decide) rfl (tgt := 713) rfl (lw_c13 C Z hin hI hgo)
    · exact V_tin C dL_law_33 (nI 14) h (by decide) (by decide) rfl (tgt := 746) rfl (lw_c14 C Z hin hI hgo)
    · exact V_tin C dL_law_33 (nI 15) h (by decide) (by decide) rfl (tgt := 779) rfl (lw_c15 C Z hin hI hgo)
    · exact V_tin C dL_law_33 (nI 16) h (by decide) (by decide) rfl (tgt := 802) rfl (lw_c16 C Z hin hI hgo)
    · exact V_tin C dL_law_33 (nI 17) h (by decide) (by decide) rfl (tgt := 835) rfl (lw_c17 C Z hin hI hgo)
    · exact V_tin C dL_law_33 (nI 18) h (by decide) (by decide) rfl (tgt := 868) rfl (lw_c18 C Z hin hI hgo)
    · exact V_tin C dL_law_33 (nI 19) h (by decide) (by decide) rfl (tgt := 901) rfl (lw_c19 C Z hin hI hgo)
    · exact V_tin C dL_law_33 (nI 20) h (by decide) (by decide) rfl (tgt := 934) rfl (lw_c20 C Z hin hI hgo)
    · exact V_tin C dL_law_33 (nI 21) h (by decide) (by decide) rfl (tgt := 957) rfl (lw_c21 C Z hin hI hgo)
    · exact V_tin C dL_law_33 (nI 22) h (by decide) (by decide) rfl (tgt := 990) rfl (lw_c22 C Z hin hI hgo)
    · exact V_tin C dL_law_33 (nI 23) h (by decide) (by decide) rfl (tgt := 1033) rfl (lw_c23 C Z hin hI hgo)
    · exact V_tin C dL_law_33 (nI 24) h (by decide) (by decide) rfl (tgt := 1076) rfl (lw_c24 C Z hin hI hgo)
    · exact V_tin C dL_law_33 (nI 25) h (by decide) (by decide) rfl (tgt := 1109) rfl (lw_c25 C Z hin hI hgo)
    · exact V_tin C dL_law_33 (nI 26) h (by decide) (by decide) rfl (tgt := 1142) rfl (lw_c26 C Z hin hI hgo)
    · exact V_tin C dL_law_33 (nI 27) h (by decide) (by decide) rfl (tgt := 1175) rfl (lw_c27 C Z hin hI hgo)
    · exact V_tin C dL_law_33 (nI 28) h (by decide) (by decide) rfl (tgt := 1208) rfl (lw_c28 C Z hin hI hgo)
    · exact V_tin C dL_law_33 (nI 29) h (by decide) (by decide) rfl (tgt := 1231) rfl (lw_c29 C Z hin hI hgo)
    · exact V_tin C dL_law_33 (nI 30) h (by decide) (by decide) rfl (tgt := 1254) rfl (lw_c30 C Z hin hI hgo)
    · exact V_tin C dL_law_33 (nI 31) h (by decide) (by decide) rfl (tgt := 1287) rfl (lw_c31 C Z hin hI hgo)
    · exact V_tin C dL_law_33 (nI 32) h (by decide) (by decide) rfl (tgt := 1310) rfl (lw_c32 C Z hin hI hgo)
    · exact V_tin C dL_law_33 (nI 33) h (by decide) (by decide) rfl (tgt := 1333) rfl (lw_c33 C Z hin hI hgo)
    · exact V_tin C dL_law_33 (nI 34) h (by decide) (by decide) rfl (tgt := 1356) rfl (lw_c34 C Z hin hI hgo)
    · exact V_tin C dL_law_33 (nI 35) h (by decide) (by decide) rfl (tgt := 1389) rfl (lw_c35 C Z hin hI hgo)
    · exact V_tin C dL_law_33 (nI 36) h (by decide) (by decide) rfl (tgt := 1402) rfl (lw_c36 C Z hin hI hgo)
    · exact V_tin C dL_law_33 (nI 37) h (by decide) (by decide) rfl (tgt := 1415) rfl (lw_c37 C Z hin hI hgo)
    · exact V_tin C dL_law_33 (nI 38) h (by decide) (by decide) rfl (tgt := 1448) rfl (lw_c38 C Z hin hI hgo)
    · exact V_tin C dL_law_33 (nI 39) h (by decide) (by decide) rfl (tgt := 1481) rfl (lw_c39 C Z hin hI hgo)
    · exact V_tin C dL_law_33 (nI 40) h (by decide) (by decide) rfl (tgt := 1524) rfl (lw_c40 C Z hin hI hgo)
    · exact V_tin C dL_law_33 (nI 41) h (by decide) (by decide) rfl (tgt := 1567) rfl (lw_c41 C Z hin hI hgo)
    · exact V_tin C dL_law_33 (nI 42) h (by decide) (by decide) rfl (tgt := 1630) rfl (lw_c42 C Z hin hI hgo)
    · exact V_tin C dL_law_33 (nI 43) h (by decide) (by decide) rfl (tgt := 1653) rfl (lw_c43 C Z hin hI hgo)
    · exact V_tin C dL_law_33 (nI 44) h (by decide) (by decide) rfl (tgt := 1686) rfl (lw_c44 C Z hin hI hgo)
    · exact V_tin C dL_law_33 (nI 45) h (by decide) (by decide) rfl (tgt := 1699) rfl (lw_c45 C Z hin hI hgo)
    · exact V_tin C dL_law_33 (nI 46) h (by decide) (by decide) rfl (tgt := 1712) rfl (lw_c46 C Z hin hI hgo)
    · exact V_tin C dL_law_33 (nI 47) h (by decide) (by decide) rfl (tgt := 1725) rfl (lw_c47 C Z hin hI hgo)
    · exact V_tin C dL_law_33 (nI 48) h (by decide) (by decide) rfl (tgt := 1748) rfl (lw_c48 C Z hin hI hgo)
theorem lw_loop (C : Cx ad G X cL_law "CarryFairLaw" 13 480) (Z : Scr X b L xs) (hL : L ≤ 3072) (hret : ∀ Lc u, V shs ad G X 1778 Lc [.int 1] u) : ∀ (n i : Nat), i ≤ L → L + 1 ≤ i + n → ∀ u, Inv u → V shs ad G X 18 (lwL b ad (nI i)) [] u := by
  have hnL : X.2.2.2.2.2.2.2.2.2.2.2.2.2 = 4 := by
    obtain ⟨p, e, R, s, m, args, below, meth, c, cells, slots, Q, A, nL⟩ := X
    exact Z.2.2.2
  intro n
  induction n with
  | zero => intro i h1 h2; exact absurd h2 (by omega)
  | succ n ih =>
    intro i hi hin u hI
    refine V_iload_n C 0 dL_law_18 rfl rfl rfl ?_
    refine V_aload_n C 3 dL_law_19 rfl rfl rfl ?_
    refine V_slnL C Z dL_law_20 rfl ?_
    refine V_bipush C dL_law_21 rfl (v := 6) rfl ?_
    refine V_isub C dL_law_23 rfl ?_
    refine V_icmp_gt C dL_law_24 (tgt := 1777) rfl rfl (fun c => ?_) (fun c => ?_)
    · exact V_iconst C dL_law_1777 rfl (v := 1) rfl (hret _ _)
    · have e6 : (nI L - 6).toInt = (L : Int) - 6 := by
        rw [Int32.toInt_sub, nI_toInt (by omega)]
        show Int.bmod ((L : Int) - 6) (2 ^ 32) = _
        rw [Int.bmod_eq_of_le] <;> omega
      have hle : i + 6 ≤ L := by
        rw [Int32.lt_iff_toInt_lt, e6, nI_toInt (by omega)] at c
        omega
      have ad1 : ∀ k : Nat, k < 6 → nI i + nI k = nI (i + k) := fun k hk => nadd i k
      have hin6 : lwIn (nI i) L := ⟨vp_in_nI (by omega) (by omega), by rw [show (1 : Int32) = nI 1 from rfl, ad1 1 (by omega)]; exact vp_in_nI (by omega) (by omega), by rw [show (2 : Int32) = nI 2 from rfl, ad1 2 (by omega)]; exact vp_in_nI (by omega) (by omega), by rw [show (3 : Int32) = nI 3 from rfl, ad1 3 (by omega)]; exact vp_in_nI (by omega) (by omega), by rw [show (4 : Int32) = nI 4 from rfl, ad1 4 (by omega)]; exact vp_in_nI (by omega) (by omega), by rw [show (5 : Int32) = nI 5 from rfl, ad1 5 (by omega)]; exact vp_in_nI (by omega) (by omega)⟩
      refine lw_body C Z hin6 hI (fun u' hI' => ?_)
      refine V_iinc C 0 dL_law_1771 rfl rfl (show nI i + Int32.ofInt 6 = nI (i + 6) from by rw [show Int32.ofInt 6 = nI 6 from rfl]; exact nadd i 6) (by decide) hnL [0, 1, 2, 3] rfl ?_
      exact V_goto C dL_law_1774 (tgt := 18) rfl (ih (i + 6) hle (by omega) u' hI')
end LOOP
