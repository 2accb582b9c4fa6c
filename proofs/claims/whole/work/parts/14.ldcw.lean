/-! ldc_w of a text: the library's own row, in the judgement -/
theorem V_ldcwS {S : List Shp} {ad : Nat → Nat} {G : Gh} {X : Amb} {cc : ByteArray} {own : String} {fr lo pc pc' : Nat} {L : List (Nat × Value)} {st : List Value} {u : Mem} (C : Cx ad G X cc own fr lo) {k i : Nat} {tx : String} (hd : decode cc pc = .ok (.ldc_w k, 3)) (hp : pc + 3 = pc') (hw : (own, k, tx, i) ∈ strR) (h : V S ad G X pc' L (.ref (ad (1000 + i)) :: st) u) : V S ad G X pc L (st) u := by
  obtain ⟨l, cy, D⟩ := G
  obtain ⟨p, e, R, s, m, args, below, meth, c, cells, slots, Q, A, nL⟩ := X
  obtain ⟨hx, hb, hml, hown, hts, hK, hG, hi, hA, hc, hs, hfr, hlo⟩ := C
  subst hp
  intro hn H locs ls hP hS hl T hT Y
  obtain ⟨t, a1, b1⟩ := h hn H locs ls hP hS hl T hT Y
  have hZ := hG.2.2.2.2.2.2.1 _ hw
  exact ⟨t, Y.ldcStringW hx hown (text := tx) (a := ad (1000 + i)) hZ.1 hZ.2 (g := F0 m pc ls st) rfl (by rw [hb]; exact hd) t a1, b1⟩
