theorem bX9_within {p0 : Int32} {p1 : Int32} {p2 : Int32} : FX9_within p0 p1 p2 = 0 ∨ FX9_within p0 p1 p2 = 1 := by
  unfold FX9_within
  (repeat' split) <;> first | exact Or.inl rfl | exact Or.inr rfl
theorem bX2_hasCarrier {p0 : Nat} {p1 : Int32} {u : Mem} : FX2_hasCarrier p0 p1 u = 0 ∨ FX2_hasCarrier p0 p1 u = 1 := by
  unfold FX2_hasCarrier
  (repeat' split) <;> first | exact Or.inl rfl | exact Or.inr rfl | exact bX9_within
theorem bX2_hasErrand {p0 : Nat} {p1 : Int32} {u : Mem} : FX2_hasErrand p0 p1 u = 0 ∨ FX2_hasErrand p0 p1 u = 1 := by
  unfold FX2_hasErrand
  (repeat' split) <;> first | exact Or.inl rfl | exact Or.inr rfl | exact bX9_within
theorem bX2_hasWare {p0 : Nat} {p1 : Int32} {u : Mem} : FX2_hasWare p0 p1 u = 0 ∨ FX2_hasWare p0 p1 u = 1 := by
  unfold FX2_hasWare
  (repeat' split) <;> first | exact Or.inl rfl | exact Or.inr rfl | exact bX9_within
theorem bX9_has {p0 : Int32} {p1 : Int32} : FX9_has p0 p1 = 0 ∨ FX9_has p0 p1 = 1 := by
  unfold FX9_has
  (repeat' split) <;> first | exact Or.inl rfl | exact Or.inr rfl
theorem bX5_isMissing {p0 : Nat} {u : Mem} : FX5_isMissing p0 u = 0 ∨ FX5_isMissing p0 u = 1 := by
  unfold FX5_isMissing
  (repeat' split) <;> first | exact Or.inl rfl | exact Or.inr rfl
theorem bX5_hasFrom {p0 : Nat} {p1 : Int32} {p2 : Int32} {u : Mem} : FX5_hasFrom p0 p1 p2 u = 0 ∨ FX5_hasFrom p0 p1 p2 u = 1 := by
  unfold FX5_hasFrom
  (repeat' split) <;> first | exact Or.inl rfl | exact Or.inr rfl | exact bX9_within
theorem bX9_isPlace {p0 : Int32} : FX9_isPlace p0 = 0 ∨ FX9_isPlace p0 = 1 := by
  unfold FX9_isPlace
  (repeat' split) <;> first | exact Or.inl rfl | exact Or.inr rfl | exact bX9_within
theorem bX9_isChange {p0 : Int32} {p1 : Int32} : FX9_isChange p0 p1 = 0 ∨ FX9_isChange p0 p1 = 1 := by
  unfold FX9_isChange
  (repeat' split) <;> first | exact Or.inl rfl | exact Or.inr rfl | exact bX9_isPlace | exact bX9_within
theorem bX9_areUnlikePlaces {p0 : Int32} {p1 : Int32} : FX9_areUnlikePlaces p0 p1 = 0 ∨ FX9_areUnlikePlaces p0 p1 = 1 := by
  unfold FX9_areUnlikePlaces
  (repeat' split) <;> first | exact Or.inl rfl | exact Or.inr rfl | exact bX9_isPlace
theorem bX9_areErrands {p1 : Int32} {u : Mem} : FX9_areErrands p1 u = 0 ∨ FX9_areErrands p1 u = 1 := by
  unfold FX9_areErrands
  (repeat' split) <;> first | exact Or.inl rfl | exact Or.inr rfl | exact bX9_within
theorem bX9_isFewErrands {p1 : Int32} {u : Mem} : FX9_isFewErrands p1 u = 0 ∨ FX9_isFewErrands p1 u = 1 := by
  unfold FX9_isFewErrands
  (repeat' split) <;> first | exact Or.inl rfl | exact Or.inr rfl | exact bX9_areErrands
theorem bX9_isSheet {p0 : Int32} : FX9_isSheet p0 = 0 ∨ FX9_isSheet p0 = 1 := by
  unfold FX9_isSheet
  (repeat' split) <;> first | exact Or.inl rfl | exact Or.inr rfl | exact bX9_within
theorem bX10_within {p0 : Int32} {p1 : Int32} {p2 : Int32} : FX10_within p0 p1 p2 = 0 ∨ FX10_within p0 p1 p2 = 1 := by
  unfold FX10_within
  (repeat' split) <;> first | exact Or.inl rfl | exact Or.inr rfl
theorem bX10_has {p0 : Int32} {p1 : Int32} : FX10_has p0 p1 = 0 ∨ FX10_has p0 p1 = 1 := by
  unfold FX10_has
  (repeat' split) <;> first | exact Or.inl rfl | exact Or.inr rfl
theorem bX10_isPlace {p0 : Int32} : FX10_isPlace p0 = 0 ∨ FX10_isPlace p0 = 1 := by
  unfold FX10_isPlace
  (repeat' split) <;> first | exact Or.inl rfl | exact Or.inr rfl | exact bX10_within
theorem bX10_isCarrier {p1 : Int32} {u : Mem} : FX10_isCarrier p1 u = 0 ∨ FX10_isCarrier p1 u = 1 := by
  unfold FX10_isCarrier
  (repeat' split) <;> first | exact Or.inl rfl | exact Or.inr rfl | exact bX10_within
theorem bX10_isErrand {p1 : Int32} {u : Mem} : FX10_isErrand p1 u = 0 ∨ FX10_isErrand p1 u = 1 := by
  unfold FX10_isErrand
  (repeat' split) <;> first | exact Or.inl rfl | exact Or.inr rfl | exact bX10_within
theorem bX10_isWare {p1 : Int32} {u : Mem} : FX10_isWare p1 u = 0 ∨ FX10_isWare p1 u = 1 := by
  unfold FX10_isWare
  (repeat' split) <;> first | exact Or.inl rfl | exact Or.inr rfl | exact bX10_within
theorem bX10_isKind {p0 : Int32} : FX10_isKind p0 = 0 ∨ FX10_isKind p0 = 1 := by
  unfold FX10_isKind
  (repeat' split) <;> first | exact Or.inl rfl | exact Or.inr rfl | exact bX10_within
theorem bX10_isSpot {p0 : Int32} : FX10_isSpot p0 = 0 ∨ FX10_isSpot p0 = 1 := by
  unfold FX10_isSpot
  (repeat' split) <;> first | exact Or.inl rfl | exact Or.inr rfl | exact bX10_within
theorem bX10_isSheet {p0 : Int32} : FX10_isSheet p0 = 0 ∨ FX10_isSheet p0 = 1 := by
  unfold FX10_isSheet
  (repeat' split) <;> first | exact Or.inl rfl | exact Or.inr rfl | exact bX10_within
theorem sX8_tableFor {S : List Shp} {w : Nat} (h : isW S w) {p1 : Int32} {u : Mem} {q : Nat} (hq : FX8_tableFor w p1 u = some q) : S[q]? = some (.inr ((0, 49), none)) := by
  unfold FX8_tableFor at hq
  obtain ⟨g1, hq⟩ := gd hq
  obtain ⟨g2, hq⟩ := gd hq
  obtain rfl := Option.some.inj hq
  exact sTa h g2
