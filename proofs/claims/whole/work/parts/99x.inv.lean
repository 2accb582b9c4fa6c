/-! what holds behind the two constructors -/
def uC0 : Mem := uF (0 + 65) (uF (0 + 33) (uF (0 + 1) (fun _ _ => 0)))
def uL0 : Mem := spt (mst (pwr uC0 (116 + 8)) (116 + 1) 45 1) (116 + 1) 46 10
theorem uC0_k {k : Nat} (h : k = 0 ∨ 97 ≤ k) : uC0 k = fun _ => 0 := by
  unfold uC0
  rw [uF_k (by omega), uF_k (by omega), uF_k (by omega)]
theorem uL0_k {k : Nat} (h1 : k ≠ 117) (h2 : k ≠ 124) : uL0 k = uC0 k := by
  unfold uL0
  rw [spt_k (by omega), mst_k (by omega), pwr_k (by omega)]
theorem uL0_z {k : Nat} (h : k = 0 ∨ 97 ≤ k) (h1 : k ≠ 117) (h2 : k ≠ 124) : uL0 k = fun _ => 0 := by rw [uL0_k h1 h2, uC0_k h]
theorem uL0_117 : uL0 117 = r0 := by
  funext i
  unfold uL0 spt
  show (if 46 ≤ i ∧ i < 46 + 10 then (-1 : Int32) else mst (pwr uC0 (116 + 8)) (116 + 1) 45 1 (116 + 1) i) = r0 i
  unfold r0
  by_cases h : 46 ≤ i ∧ i < 56
  · rw [if_pos h, if_neg (by omega), if_pos h]
  · rw [if_neg h]
    by_cases q : i = 45
    · subst q; rw [if_pos rfl, mst_s]
    · rw [if_neg q, if_neg h, mst_j q, pwr_k (by omega), uC0_k (by omega)]
theorem uL0_124 : ∀ i, i < 6 → uL0 124 i = nI (3 ^ i) := by
  intro i hi
  unfold uL0
  rw [spt_k (by omega), mst_k (by omega)]
  unfold pwr
  rcases (show i = 0 ∨ i = 1 ∨ i = 2 ∨ i = 3 ∨ i = 4 ∨ i = 5 by omega) with rfl | rfl | rfl | rfl | rfl | rfl
  · rw [mst_j (by omega), mst_j (by omega), mst_j (by omega), mst_j (by omega), mst_j (by omega), mst_s]; rfl
  · rw [mst_j (by omega), mst_j (by omega), mst_j (by omega), mst_j (by omega), mst_s]; rfl
  · rw [mst_j (by omega), mst_j (by omega), mst_j (by omega), mst_s]; rfl
  · rw [mst_j (by omega), mst_j (by omega), mst_s]; rfl
  · rw [mst_j (by omega), mst_s]; rfl
  · rw [mst_s]; rfl
theorem uF_Rep : Rep (uF 1 (fun _ _ => 0)) 1 r0 := by
  have b0 : nc r0 = 0 := by decide
  have b1 : ne r0 = 0 := by decide
  have b2 : nw r0 = 0 := by decide
  have hv : Rep0 (spt (mst (fun _ _ => 0) 1 8 1) 12 0 10) 1 r0 := by
    refine ⟨⟨?_, ?_, ?_, ?_⟩, fun s hs => ?_, fun c h => absurd h (by omega), fun c h => absurd h (by omega), fun c h => absurd h (by omega), fun i j hi hj => ⟨?_, fun h => ?_⟩⟩
    · rw [spt_k (by omega), mst_j (by omega), r0_low (by omega)]
    · rw [spt_k (by omega), mst_j (by omega), r0_low (by omega)]
    · rw [spt_k (by omega), mst_j (by omega), r0_low (by omega)]
    · rw [spt_k (by omega), mst_s]; rfl
    · have e2 : r0 (46 + s) = -1 := by unfold r0; rw [if_neg (by omega), if_pos (by omega)]
      rw [e2]
      unfold spt
      rw [if_pos rfl]
      exact if_pos (by omega)
    · rw [spt_k (by omega), mst_k (by omega)]
      split
      · rfl
      · rename_i h
        rw [r0_low (by have := wy_lt hi hj h; omega)]
    · rw [spt_k (by omega), mst_k (by omega), r0_low (by have := wy_lt hi hj h; omega)]
  have h := msr_Rep hv r0_Wf
  refine Rep_congr (fun a h1 h2 => ?_) r0_Wf h
  unfold uF
  by_cases q : 1 + 4 + 4 ≤ a ∧ a < 1 + 4 + 4 + 3
  · rw [spt_k (by omega), mst_k (by omega)]
    unfold msr
    rw [if_pos q, if_pos q, spt_k (by omega), mst_k (by omega)]
  · by_cases z : a = 12
    · subst z
      unfold msr
      rw [if_neg q]
      unfold spt
      rw [if_pos rfl, if_pos rfl, mst_k (by omega), mst_k (by omega), if_neg q]
    · rw [spt_k (by omega)]
      by_cases y : a = 1
      · subst y
        unfold msr
        rw [if_neg q, spt_k (by omega)]
        unfold mst
        rw [if_pos rfl, if_pos rfl]
        exact congrArg (fun v => upd v 8 1) (if_neg q)
      · rw [mst_k y, msr_ne (by omega), msr_ne (by omega), spt_k z, mst_k y]
theorem sumI_z : sumI (fun _ => (0 : Int32)) 7 = 0 := by decide
theorem Inv_start : Inv uL0 := by
  have hR : Rep uL0 1 r0 := by
    refine Rep_congr (fun a h1 h2 => ?_) r0_Wf uF_Rep
    rw [uL0_k (by omega) (by omega)]
    unfold uC0
    rw [uF_k (by omega), uF_k (by omega)]
  have z : ∀ k j, (k = 0 ∨ 97 ≤ k) → k ≠ 117 → k ≠ 124 → uL0 k j = 0 := fun k j h h1 h2 => by rw [uL0_z h h1 h2]
  have z116 : uL0 116 14 = 0 := z 116 14 (by omega) (by omega) (by omega)
  refine ⟨⟨by rw [uL0_117]; exact hR, by rw [z 0 8 (by omega) (by omega) (by omega), z 116 3 (by omega) (by omega) (by omega)], fun h => absurd (z 116 3 (by omega) (by omega) (by omega)) h, ⟨by rw [z 104 1 (by omega) (by omega) (by omega), z116], fun i hi => ?_⟩, fun s hs => ⟨?_, ?_, fun i hi => ?_⟩, fun i hi => ?_, ?_⟩, by rw [uL0_117]; exact r0_Wf, Or.inl (z 116 3 (by omega) (by omega) (by omega)), ⟨by rw [z116]; exact In_0 (by omega), fun i hi => by rw [z 125 i (by omega) (by omega) (by omega)]; exact In_0 (by omega)⟩, fun s hs => ⟨Or.inl (z 128 s (by omega) (by omega) (by omega)), by rw [z 129 s (by omega) (by omega) (by omega)]; exact In_0 (by omega)⟩, uL0_124⟩
  · rw [z116] at hi; exact absurd hi (by decide +revert)
  · rw [z _ _ (by omega) (by omega) (by omega), z _ _ (by omega) (by omega) (by omega)]
  · rw [z _ _ (by omega) (by omega) (by omega), z _ _ (by omega) (by omega) (by omega)]
  · rw [z _ _ (by omega) (by omega) (by omega), z _ _ (by omega) (by omega) (by omega)]
  · rw [z _ _ (by omega) (by omega) (by omega), z _ _ (by omega) (by omega) (by omega)]
  · rw [z _ _ (by omega) (by omega) (by omega)]
    rw [show (fun i => uL0 120 (i + 1)) = fun _ => (0 : Int32) from funext fun i => z 120 (i + 1) (by omega) (by omega) (by omega)]
    exact sumI_z.symm
