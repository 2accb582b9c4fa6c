/-! draws -/
section DAY
variable {u m : Mem} {r : Nat → Int32} {B : Nat}
theorem ush8 (z : Int32) : ∃ a, a < 16777216 ∧ jushr z 8 = nI a := by
  refine ⟨z.toBitVec.toNat / 2 ^ 8, ?_, ?_⟩
  · have := z.toBitVec.isLt
    omega
  · have hlt := z.toBitVec.isLt
    refine Int32.toBitVec_inj.mp (BitVec.eq_of_toNat_eq ?_)
    rw [pk_tn (by omega)]
    exact pk_ushr z 8 8 (by decide)
def zN (r : Nat → Int32) : Nat → Int32 := upd r 45 (r 45 * 1103515245 + 12345)
theorem c_draw (h : Rep u B r) (hw : Wf r) : FX2_draw B u = (jushr (zN r 45) 8, mst u B 8 (zN r 45)) ∧ Rep (mst u B 8 (zN r 45)) B (zN r) := by
  have e8 : u B 8 = r 45 := h.1.2.2.2
  have ez : zN r 45 = r 45 * 1103515245 + 12345 := pk_us
  constructor
  · unfold FX2_draw
    rw [mst_s, e8, ez]
  · rw [ez]
    exact Rep_setN (v := r 45 * 1103515245 + 12345) h hw (f := 8) (by omega) (fun z => by omega) (fun z => by omega) (fun z => by omega)
theorem m_drawn (hm : m 117 = r) {n : Nat} (h0 : 0 < n) (hn : n < 1000) : FX10_drawn (nI n) m = some (jrem (jushr (zN r 45) 8) (nI n), mrow m 117 (zN r)) := by
  have ez : zN r 45 = r 45 * 1103515245 + 12345 := pk_us
  unfold FX10_drawn
  rw [if_pos (nI_ne0 h0 (by omega)), mst_s, hm, ez, mst_as_mrow m, hm]
  rfl
end DAY
