def FX3_canBear (p0 : Int32) (p1 : Int32) : Int32 :=
  (if p0 = 1 then (p1 / 2) else (if p0 = 2 then (2 * p1) else (if p0 = 3 then (p1 / 2) else (if p0 = 4 then (2 * p1) else p1))))
def FX0_canBear (p0 : Nat) (u : Mem) : Int32 :=
  (FX3_canBear (u p0 0) (u p0 2))
def FX0_become (p0 : Nat) (p1 : Nat) (u : Mem) : Mem :=
  nm (mst (mst (mst u p0 0 (u p1 0)) p0 1 ((mst u p0 0 (u p1 0)) p1 1)) p0 2 ((mst (mst u p0 0 (u p1 0)) p0 1 ((mst u p0 0 (u p1 0)) p1 1)) p1 2)) (fun w1 => (mst (mst w1 p0 3 (w1 p1 3)) p0 4 ((mst w1 p0 3 (w1 p1 3)) p1 4)))
def FX1_become (p0 : Nat) (p1 : Nat) (u : Mem) : Mem :=
  nm (mst (mst (mst u p0 0 (u p1 0)) p0 1 ((mst u p0 0 (u p1 0)) p1 1)) p0 2 ((mst (mst u p0 0 (u p1 0)) p0 1 ((mst u p0 0 (u p1 0)) p1 1)) p1 2)) (fun w1 => (mst (mst w1 p0 3 (w1 p1 3)) p0 4 ((mst w1 p0 3 (w1 p1 3)) p1 4)))
def BX8_become_32 (p0 : Nat) (p1 : Nat) (rec32 : (Int32 × Mem) → Option (Int32 × Mem)) (x32 : (Int32 × Mem)) : Option (Int32 × Mem) :=
  (if 3 ≤ x32.1 then some (x32.1, x32.2) else (if inb x32.1 3 then (if inb x32.1 3 then rec32 ((x32.1 + 1), (mcp x32.2 (p1 + 4 + (x32.1).toNatClampNeg) (p0 + 4 + (x32.1).toNatClampNeg) 0 0 49)) else none) else none))
def FX8_become (p0 : Nat) (p1 : Nat) (u : Mem) : Option (Mem) :=
  Option.bind (lp (BX8_become_32 p0 p1) FU (0, (mcp (mcp u (p1 + 1) (p0 + 1) 0 0 49) (p1 + 2) (p0 + 2) 0 0 49))) (fun q32_4 => some q32_4.2)
def BX2_become_34 (p0 : Nat) (p1 : Nat) (rec34 : (Int32 × Mem) → Option (Int32 × Mem)) (x34 : (Int32 × Mem)) : Option (Int32 × Mem) :=
  (if (x34.2 p0 5) ≤ x34.1 then some (x34.1, x34.2) else (if inb x34.1 6 then (if inb x34.1 6 then rec34 ((x34.1 + 1), (FX0_become (p0 + 12 + (x34.1).toNatClampNeg) (p1 + 12 + (x34.1).toNatClampNeg) x34.2)) else none) else none))
def BX2_become_65 (p0 : Nat) (p1 : Nat) (rec65 : (Int32 × Mem) → Option (Int32 × Mem)) (x65 : (Int32 × Mem)) : Option (Int32 × Mem) :=
  (if (x65.2 p0 6) ≤ x65.1 then some (x65.1, x65.2) else (if inb x65.1 8 then (if inb x65.1 8 then rec65 ((x65.1 + 1), (FX1_become (p0 + 18 + (x65.1).toNatClampNeg) (p1 + 18 + (x65.1).toNatClampNeg) x65.2)) else none) else none))
def BX2_become_96 (p0 : Nat) (p1 : Nat) (rec96 : (Int32 × Mem) → Option (Int32 × Mem)) (x96 : (Int32 × Mem)) : Option (Int32 × Mem) :=
  (if (x96.2 p0 7) ≤ x96.1 then some (x96.1, x96.2) else (if inb x96.1 6 then (if inb x96.1 6 then (if inb x96.1 6 then (if inb x96.1 6 then nm (mst (mst x96.2 (p0 + 26 + (x96.1).toNatClampNeg) 0 (x96.2 (p1 + 26 + (x96.1).toNatClampNeg) 0)) (p0 + 26 + (x96.1).toNatClampNeg) 1 ((mst x96.2 (p0 + 26 + (x96.1).toNatClampNeg) 0 (x96.2 (p1 + 26 + (x96.1).toNatClampNeg) 0)) (p1 + 26 + (x96.1).toNatClampNeg) 1)) (fun w14 => rec96 ((x96.1 + 1), w14)) else none) else none) else none) else none))
def FX2_become (p0 : Nat) (p1 : Nat) (u : Mem) : Option (Mem) :=
  nm (mst (mst (mst u p0 5 (u p1 5)) p0 6 ((mst u p0 5 (u p1 5)) p1 6)) p0 7 ((mst (mst u p0 5 (u p1 5)) p0 6 ((mst u p0 5 (u p1 5)) p1 6)) p1 7)) (fun w1 => Option.bind (lp (BX2_become_34 p0 p1) FU (0, (mst w1 p0 8 (w1 p1 8)))) (fun q34_5 => Option.bind (lp (BX2_become_65 p0 p1) FU (0, q34_5.2)) (fun q65_9 => Option.bind (lp (BX2_become_96 p0 p1) FU (0, q65_9.2)) (fun q96_16 => Option.bind (FX8_become (p0 + 4) (p1 + 4) q96_16.2) (fun q17 => some (mcp q17 (p1 + 11) (p0 + 11) 0 0 10))))))
def FX9_within (p0 : Int32) (p1 : Int32) (p2 : Int32) : Int32 :=
  (if p0 < p1 then 0 else (if p2 < p0 then 0 else 1))
def FX2_hasCarrier (p0 : Nat) (p1 : Int32) (u : Mem) : Int32 :=
  (FX9_within p1 0 ((u p0 5) - 1))
def FX2_hasErrand (p0 : Nat) (p1 : Int32) (u : Mem) : Int32 :=
  (FX9_within p1 0 ((u p0 6) - 1))
def FX2_hasWare (p0 : Nat) (p1 : Int32) (u : Mem) : Int32 :=
  (FX9_within p1 0 ((u p0 7) - 1))
def FX2_addCarrier (p0 : Nat) (p1 : Int32) (p2 : Int32) (p3 : Int32) (u : Mem) : Option (Int32 × Mem) :=
  (if inb (u p0 5) 6 then nm (mst (mst (mst u (p0 + 12 + (u p0 5).toNatClampNeg) 0 p1) (p0 + 12 + (u p0 5).toNatClampNeg) 1 p2) (p0 + 12 + (u p0 5).toNatClampNeg) 2 p3) (fun w2 => nm (mst (mst (mst w2 (p0 + 12 + (u p0 5).toNatClampNeg) 3 0) (p0 + 12 + (u p0 5).toNatClampNeg) 4 0) p0 5 (((mst (mst w2 (p0 + 12 + (u p0 5).toNatClampNeg) 3 0) (p0 + 12 + (u p0 5).toNatClampNeg) 4 0) p0 5) + 1)) (fun w3 => some (((mst (mst w2 (p0 + 12 + (u p0 5).toNatClampNeg) 3 0) (p0 + 12 + (u p0 5).toNatClampNeg) 4 0) p0 5), w3))) else none)
def FX2_addErrand (p0 : Nat) (p1 : Int32) (p2 : Int32) (p3 : Int32) (u : Mem) : Option (Int32 × Mem) :=
  (if inb (u p0 6) 8 then nm (mst (mst (mst u (p0 + 18 + (u p0 6).toNatClampNeg) 0 p1) (p0 + 18 + (u p0 6).toNatClampNeg) 1 p2) (p0 + 18 + (u p0 6).toNatClampNeg) 2 p3) (fun w2 => nm (mst (mst (mst w2 (p0 + 18 + (u p0 6).toNatClampNeg) 3 0) (p0 + 18 + (u p0 6).toNatClampNeg) 4 (-1)) p0 6 (((mst (mst w2 (p0 + 18 + (u p0 6).toNatClampNeg) 3 0) (p0 + 18 + (u p0 6).toNatClampNeg) 4 (-1)) p0 6) + 1)) (fun w3 => some (((mst (mst w2 (p0 + 18 + (u p0 6).toNatClampNeg) 3 0) (p0 + 18 + (u p0 6).toNatClampNeg) 4 (-1)) p0 6), w3))) else none)
def FX2_addWare (p0 : Nat) (p1 : Int32) (u : Mem) : Option (Int32 × Mem) :=
  (if inb (u p0 7) 6 then (if inb ((mst u (p0 + 26 + (u p0 7).toNatClampNeg) 0 p1) p0 7) 6 then nm (mst (mst u (p0 + 26 + (u p0 7).toNatClampNeg) 0 p1) (p0 + 26 + ((mst u (p0 + 26 + (u p0 7).toNatClampNeg) 0 p1) p0 7).toNatClampNeg) 1 (-1)) (fun w3 => some ((w3 p0 7), (mst w3 p0 7 ((w3 p0 7) + 1)))) else none) else none)
def BX2_errandsThat_4 (p0 : Nat) (p1 : Int32) (u : Mem) (rec4 : (Int32 × Int32) → Option (Int32 × Int32)) (x4 : (Int32 × Int32)) : Option (Int32 × Int32) :=
  (if (u p0 6) ≤ x4.2 then some (x4.1, x4.2) else (if inb x4.2 8 then (if (u (p0 + 18 + (x4.2).toNatClampNeg) 3) = p1 then rec4 ((x4.1 ||| (jshl 1 x4.2)), (x4.2 + 1)) else rec4 (x4.1, (x4.2 + 1))) else none))
def FX2_errandsThat (p0 : Nat) (p1 : Int32) (u : Mem) : Option (Int32) :=
  Option.bind (lp (BX2_errandsThat_4 p0 p1 u) FU (0, 0)) (fun q4_4 => some q4_4.1)
def FX2_allLie (p0 : Nat) (p1 : Int32) (u : Mem) : Option (Int32) :=
  Option.bind (FX2_errandsThat p0 0 u) (fun q1 => (if (p1 &&& (q1 ^^^ (-1))) = 0 then some 1 else some 0))
def BX2_carriedBy_4 (p0 : Nat) (p1 : Int32) (u : Mem) (rec4 : (Int32 × Int32) → Option (Int32 × Int32)) (x4 : (Int32 × Int32)) : Option (Int32 × Int32) :=
  (if (u p0 6) ≤ x4.2 then some (x4.1, x4.2) else (if inb x4.2 8 then (if (u (p0 + 18 + (x4.2).toNatClampNeg) 3) = 1 then (if inb x4.2 8 then (if (u (p0 + 18 + (x4.2).toNatClampNeg) 4) = p1 then rec4 ((x4.1 ||| (jshl 1 x4.2)), (x4.2 + 1)) else rec4 (x4.1, (x4.2 + 1))) else none) else rec4 (x4.1, (x4.2 + 1))) else none))
def FX2_carriedBy (p0 : Nat) (p1 : Int32) (u : Mem) : Option (Int32) :=
  Option.bind (lp (BX2_carriedBy_4 p0 p1 u) FU (0, 0)) (fun q4_6 => some q4_6.1)
def FX9_has (p0 : Int32) (p1 : Int32) : Int32 :=
  (if ((jshr p0 p1) &&& 1) = 0 then 0 else 1)
def BX2_weightOf_4 (p0 : Nat) (p1 : Int32) (u : Mem) (rec4 : (Int32 × Int32) → Option (Int32 × Int32)) (x4 : (Int32 × Int32)) : Option (Int32 × Int32) :=
  (if (u p0 6) ≤ x4.2 then some (x4.1, x4.2) else (if (FX9_has p1 x4.2) = 0 then rec4 (x4.1, (x4.2 + 1)) else (if inb x4.2 8 then rec4 ((x4.1 + (u (p0 + 18 + (x4.2).toNatClampNeg) 0)), (x4.2 + 1)) else none)))
def FX2_weightOf (p0 : Nat) (p1 : Int32) (u : Mem) : Option (Int32) :=
  Option.bind (lp (BX2_weightOf_4 p0 p1 u) FU (0, 0)) (fun q4_4 => some q4_4.1)
def BX2_heaviestOf_4 (p0 : Nat) (p1 : Int32) (u : Mem) (rec4 : (Int32 × Int32) → Option (Int32 × Int32)) (x4 : (Int32 × Int32)) : Option (Int32 × Int32) :=
  (if (u p0 6) ≤ x4.2 then some (x4.1, x4.2) else (if (FX9_has p1 x4.2) = 0 then rec4 (x4.1, (x4.2 + 1)) else (if inb x4.2 8 then rec4 ((jmax x4.1 (u (p0 + 18 + (x4.2).toNatClampNeg) 0)), (x4.2 + 1)) else none)))
def FX2_heaviestOf (p0 : Nat) (p1 : Int32) (u : Mem) : Option (Int32) :=
  Option.bind (lp (BX2_heaviestOf_4 p0 p1 u) FU (0, 0)) (fun q4_4 => some q4_4.1)
def BX2_soldWares_4 (p0 : Nat) (u : Mem) (rec4 : (Int32 × Int32) → Option (Int32 × Int32)) (x4 : (Int32 × Int32)) : Option (Int32 × Int32) :=
  (if (u p0 7) ≤ x4.2 then some (x4.1, x4.2) else (if inb x4.2 6 then (if (u (p0 + 26 + (x4.2).toNatClampNeg) 1) = (-1) then rec4 (x4.1, (x4.2 + 1)) else rec4 ((x4.1 ||| (jshl 1 x4.2)), (x4.2 + 1))) else none))
def FX2_soldWares (p0 : Nat) (u : Mem) : Option (Int32) :=
  Option.bind (lp (BX2_soldWares_4 p0 u) FU (0, 0)) (fun q4_4 => some q4_4.1)
def BX2_earnedByAll_4 (p0 : Nat) (u : Mem) (rec4 : (Int32 × Int32) → Option (Int32 × Int32)) (x4 : (Int32 × Int32)) : Option (Int32 × Int32) :=
  (if (u p0 5) ≤ x4.2 then some (x4.1, x4.2) else (if inb x4.2 6 then rec4 ((x4.1 + (u (p0 + 12 + (x4.2).toNatClampNeg) 3)), (x4.2 + 1)) else none))
def FX2_earnedByAll (p0 : Nat) (u : Mem) : Option (Int32) :=
  Option.bind (lp (BX2_earnedByAll_4 p0 u) FU (0, 0)) (fun q4_3 => some q4_3.1)
def BX2_walkedByAll_4 (p0 : Nat) (u : Mem) (rec4 : (Int32 × Int32) → Option (Int32 × Int32)) (x4 : (Int32 × Int32)) : Option (Int32 × Int32) :=
  (if (u p0 5) ≤ x4.2 then some (x4.1, x4.2) else (if inb x4.2 6 then rec4 ((x4.1 + (u (p0 + 12 + (x4.2).toNatClampNeg) 4)), (x4.2 + 1)) else none))
def FX2_walkedByAll (p0 : Nat) (u : Mem) : Option (Int32) :=
  Option.bind (lp (BX2_walkedByAll_4 p0 u) FU (0, 0)) (fun q4_3 => some q4_3.1)
def BX2_heldSpots_4 (p0 : Nat) (u : Mem) (rec4 : (Int32 × Int32) → Option (Int32 × Int32)) (x4 : (Int32 × Int32)) : Option (Int32 × Int32) :=
  (if 10 ≤ x4.2 then some (x4.1, x4.2) else (if inb x4.2 10 then (if (u (p0 + 11) (x4.2).toNatClampNeg) = (-1) then rec4 (x4.1, (x4.2 + 1)) else rec4 ((x4.1 + 1), (x4.2 + 1))) else none))
def FX2_heldSpots (p0 : Nat) (u : Mem) : Option (Int32) :=
  Option.bind (lp (BX2_heldSpots_4 p0 u) FU (0, 0)) (fun q4_4 => some q4_4.1)
def FX8_yardsFor (p0 : Nat) (p1 : Int32) (p2 : Int32) (p3 : Int32) (u : Mem) : Option (Int32) :=
  (if inb p1 7 then (if inb (tGait (p1).toNatClampNeg) 3 then (if inb ((p2 * 7) + p3) 49 then some (u (p0 + 4 + (tGait (p1).toNatClampNeg).toNatClampNeg) ((p2 * 7) + p3).toNatClampNeg) else none) else none) else none)
def FX2_worthOf (p0 : Nat) (p1 : Int32) (u : Mem) : Option (Int32) :=
  (if inb p1 8 then Option.bind (FX8_yardsFor (p0 + 4) 0 (u (p0 + 18 + (p1).toNatClampNeg) 1) (u (p0 + 18 + (p1).toNatClampNeg) 2) u) (fun q2 => (if q2 < 1000000 then some ((u (p0 + 18 + (p1).toNatClampNeg) 0) * q2) else some 1000000)) else none)
def FX3_payFor (p0 : Int32) (p1 : Int32) : Int32 :=
  (if p0 = 2 then (p1 / 2) else (if p0 = 3 then (p1 + (p1 / 10)) else (if p0 = 4 then ((p1 / 2) + 1) else p1)))
def FX2_payFor (p0 : Nat) (p1 : Int32) (p2 : Int32) (u : Mem) : Option (Int32) :=
  Option.bind (FX2_worthOf p0 p2 u) (fun q1 => (if q1 < 1000000 then (if inb p1 6 then some (FX3_payFor (u (p0 + 12 + (p1).toNatClampNeg) 0) q1) else none) else some 0))
def BX2_payOf_5 (p0 : Nat) (p1 : Int32) (p2 : Int32) (u : Mem) (rec5 : (Int32 × Int32) → Option (Int32 × Int32)) (x5 : (Int32 × Int32)) : Option (Int32 × Int32) :=
  (if (u p0 6) ≤ x5.2 then some (x5.1, x5.2) else (if (FX9_has p2 x5.2) = 0 then rec5 (x5.1, (x5.2 + 1)) else Option.bind (FX2_payFor p0 p1 x5.2 u) (fun q1 => rec5 ((x5.1 + q1), (x5.2 + 1)))))
def FX2_payOf (p0 : Nat) (p1 : Int32) (p2 : Int32) (u : Mem) : Option (Int32) :=
  Option.bind (lp (BX2_payOf_5 p0 p1 p2 u) FU (0, 0)) (fun q5_4 => some q5_4.1)
def BX2_paysJust_24 (p0 : Nat) (p1 : Int32) (p2 : Int32) (p3 : Int32) (u : Mem) (rec24 : (Int32 × Int32 × Int32) → Option (Int32 × Int32 × Int32)) (x24 : (Int32 × Int32 × Int32)) : Option (Int32 × Int32 × Int32) :=
  (if (u p0 6) ≤ x24.2.2 then some (x24.1, x24.2.1, x24.2.2) else (if (FX9_has p2 x24.2.2) = 0 then rec24 (x24.1, x24.2.1, (x24.2.2 + 1)) else Option.bind (FX2_payFor p0 p1 x24.2.2 u) (fun q1 => rec24 ((x24.1 + q1), (jmin x24.2.1 q1), (x24.2.2 + 1)))))
def FX2_paysJust (p0 : Nat) (p1 : Int32) (p2 : Int32) (p3 : Int32) (u : Mem) : Option (Int32) :=
  (if 0 < p3 then Option.bind (lp (BX2_paysJust_24 p0 p1 p2 p3 u) FU (0, 1000000, 0)) (fun q24_4 => (if q24_4.1 < p3 then some 0 else (if p3 ≤ (q24_4.1 - q24_4.2.1) then some 0 else some 1))) else (if p2 = 0 then some 1 else some 0))
def FX2_yardsTo (p0 : Nat) (p1 : Int32) (p2 : Int32) (u : Mem) : Option (Int32) :=
  (if inb p1 6 then (if inb p1 6 then Option.bind (FX8_yardsFor (p0 + 4) (u (p0 + 12 + (p1).toNatClampNeg) 0) (u (p0 + 12 + (p1).toNatClampNeg) 1) p2 u) (fun q3 => some q3) else none) else none)
def FX2_canComeToBoth (p0 : Nat) (p1 : Int32) (p2 : Int32) (u : Mem) : Option (Int32) :=
  (if inb p2 8 then Option.bind (FX2_yardsTo p0 p1 (u (p0 + 18 + (p2).toNatClampNeg) 1) u) (fun q2 => (if 1000000 ≤ q2 then some 0 else (if inb p2 8 then Option.bind (FX2_yardsTo p0 p1 (u (p0 + 18 + (p2).toNatClampNeg) 2) u) (fun q4 => (if 1000000 ≤ q4 then some 0 else some 1)) else none))) else none)
def BX2_canComeToAll_2 (p0 : Nat) (p1 : Int32) (p2 : Int32) (u : Mem) (rec2 : (Int32) → Option (Nat × Int32)) (x2 : (Int32)) : Option (Nat × Int32) :=
  (if (u p0 6) ≤ x2 then some (1, x2) else (if (FX9_has p2 x2) = 0 then rec2 (x2 + 1) else Option.bind (FX2_canComeToBoth p0 p1 x2 u) (fun q1 => (if q1 = 0 then some (0, x2) else rec2 (x2 + 1)))))
def FX2_canComeToAll (p0 : Nat) (p1 : Int32) (p2 : Int32) (u : Mem) : Option (Int32) :=
  Option.bind (lp (BX2_canComeToAll_2 p0 p1 p2 u) FU 0) (fun q2_5 => (if q2_5.1 = 0 then some 0 else (some 1)))
def BX2_ableSet_4 (p0 : Nat) (p1 : Int32) (u : Mem) (rec4 : (Int32 × Int32) → Option (Int32 × Int32)) (x4 : (Int32 × Int32)) : Option (Int32 × Int32) :=
  (if (u p0 6) ≤ x4.2 then some (x4.1, x4.2) else (if inb x4.2 8 then (if (u (p0 + 18 + (x4.2).toNatClampNeg) 3) = 0 then (if inb p1 6 then (if (FX0_canBear (p0 + 12 + (p1).toNatClampNeg) u) < (u (p0 + 18 + (x4.2).toNatClampNeg) 0) then rec4 (x4.1, (x4.2 + 1)) else Option.bind (FX2_canComeToBoth p0 p1 x4.2 u) (fun q3 => (if q3 = 0 then rec4 (x4.1, (x4.2 + 1)) else rec4 ((x4.1 ||| (jshl 1 x4.2)), (x4.2 + 1))))) else none) else rec4 (x4.1, (x4.2 + 1))) else none))
def FX2_ableSet (p0 : Nat) (p1 : Int32) (u : Mem) : Option (Int32) :=
  Option.bind (lp (BX2_ableSet_4 p0 p1 u) FU (0, 0)) (fun q4_8 => some q4_8.1)
def FX2_liesBy (p0 : Nat) (p1 : Int32) (p2 : Int32) (u : Mem) : Option (Int32) :=
  (if inb p1 8 then (if (u (p0 + 18 + (p1).toNatClampNeg) 3) = 0 then (if inb p1 8 then (if inb p2 6 then (if (u (p0 + 18 + (p1).toNatClampNeg) 1) = (u (p0 + 12 + (p2).toNatClampNeg) 1) then some 1 else some 0) else none) else none) else some 0) else none)
def FX2_couldAdd (p0 : Nat) (p1 : Int32) (p2 : Int32) (u : Mem) : Option (Int32) :=
  Option.bind (FX2_carriedBy p0 p1 u) (fun q1 => Option.bind (FX2_weightOf p0 q1 u) (fun q2 => (if inb p2 8 then (if inb p1 6 then (if (FX0_canBear (p0 + 12 + (p1).toNatClampNeg) u) < (q2 + (u (p0 + 18 + (p2).toNatClampNeg) 0)) then some 0 else some 1) else none) else none)))
def FX2_pickUp (p0 : Nat) (p1 : Int32) (p2 : Int32) (u : Mem) : Option (Mem) :=
  (if inb p2 8 then (if inb p2 8 then some (mst (mst u (p0 + 18 + (p2).toNatClampNeg) 3 1) (p0 + 18 + (p2).toNatClampNeg) 4 p1) else none) else none)
def BX2_takeUpAll_2 (p0 : Nat) (p1 : Int32) (rec2 : (Int32 × Mem) → Option (Int32 × Mem)) (x2 : (Int32 × Mem)) : Option (Int32 × Mem) :=
  (if (x2.2 p0 6) ≤ x2.1 then some (x2.1, x2.2) else Option.bind (FX2_liesBy p0 x2.1 p1 x2.2) (fun q1 => (if q1 = 0 then rec2 ((x2.1 + 1), x2.2) else Option.bind (FX2_couldAdd p0 p1 x2.1 x2.2) (fun q2 => (if q2 = 0 then rec2 ((x2.1 + 1), x2.2) else Option.bind (FX2_pickUp p0 p1 x2.1 x2.2) (fun q3 => rec2 ((x2.1 + 1), q3)))))))
def FX2_takeUpAll (p0 : Nat) (p1 : Int32) (u : Mem) : Option (Mem) :=
  Option.bind (lp (BX2_takeUpAll_2 p0 p1) FU (0, u)) (fun q2_7 => some q2_7.2)
def BX2_go_40 (p0 : Nat) (p1 : Int32) (p2 : Int32) (v3 : Nat) (v5 : Int32) (rec40 : (Int32 × Int32 × Mem) → Option (Int32 × Int32 × Mem)) (x40 : (Int32 × Int32 × Mem)) : Option (Int32 × Int32 × Mem) :=
  (if (x40.2.2 p0 6) ≤ x40.2.1 then some (x40.1, x40.2.1, x40.2.2) else (if (FX9_has v5 x40.2.1) = 0 then rec40 (x40.1, (x40.2.1 + 1), x40.2.2) else (if inb x40.2.1 8 then (if (x40.2.2 (p0 + 18 + (x40.2.1).toNatClampNeg) 2) = p2 then (if inb x40.2.1 8 then Option.bind (FX2_payFor p0 p1 x40.2.1 (mst x40.2.2 (p0 + 18 + (x40.2.1).toNatClampNeg) 3 2)) (fun q7 => rec40 ((x40.1 + q7), (x40.2.1 + 1), (mst x40.2.2 (p0 + 18 + (x40.2.1).toNatClampNeg) 3 2))) else none) else rec40 (x40.1, (x40.2.1 + 1), x40.2.2)) else none)))
def FX2_go (p0 : Nat) (p1 : Int32) (p2 : Int32) (u : Mem) : Option (Int32 × Mem) :=
  (if inb p1 6 then Option.bind (FX2_yardsTo p0 p1 p2 u) (fun q2 => nm (mst (mst u (p0 + 12 + (p1).toNatClampNeg) 4 ((u (p0 + 12 + (p1).toNatClampNeg) 4) + q2)) (p0 + 12 + (p1).toNatClampNeg) 1 p2) (fun w3 => Option.bind (FX2_carriedBy p0 p1 w3) (fun q4 => Option.bind (lp (BX2_go_40 p0 p1 p2 (p0 + 12 + (p1).toNatClampNeg) q4) FU (0, 0, w3)) (fun q40_11 => some (q40_11.1, (mst q40_11.2.2 (p0 + 12 + (p1).toNatClampNeg) 3 ((q40_11.2.2 (p0 + 12 + (p1).toNatClampNeg) 3) + q40_11.1))))))) else none)
def FX2_draw (p0 : Nat) (u : Mem) : Int32 × Mem :=
  ((jushr ((mst u p0 8 (((u p0 8) * 1103515245) + 12345)) p0 8) 8), (mst u p0 8 (((u p0 8) * 1103515245) + 12345)))
def FX2_turn (p0 : Nat) (u : Mem) : Option (Mem) :=
  (if (u p0 5) = 0 then some u else (if ¬ ((FX2_draw p0 u).2 p0 5) = 0 then Option.bind (FX2_takeUpAll p0 (jrem (FX2_draw p0 u).1 ((FX2_draw p0 u).2 p0 5)) (FX2_draw p0 u).2) (fun q2 => Option.bind (FX2_yardsTo p0 (jrem (FX2_draw p0 u).1 ((FX2_draw p0 u).2 p0 5)) (jrem (FX2_draw p0 q2).1 7) (FX2_draw p0 q2).2) (fun q3 => (if 1000000 ≤ q3 then some (FX2_draw p0 q2).2 else Option.bind (FX2_go p0 (jrem (FX2_draw p0 u).1 ((FX2_draw p0 u).2 p0 5)) (jrem (FX2_draw p0 q2).1 7) (FX2_draw p0 q2).2) (fun q4 => some q4.2)))) else none))
def BX2_turns_11 (p0 : Nat) (p1 : Int32) (v2 : Int32) (rec11 : (Int32 × Mem) → Option (Int32 × Mem)) (x11 : (Int32 × Mem)) : Option (Int32 × Mem) :=
  (if p1 ≤ x11.1 then some (x11.1, x11.2) else Option.bind (FX2_turn p0 x11.2) (fun q2 => rec11 ((x11.1 + 1), q2)))
def FX2_turns (p0 : Nat) (p1 : Int32) (u : Mem) : Option (Int32 × Mem) :=
  Option.bind (FX2_errandsThat p0 2 u) (fun q1 => Option.bind (lp (BX2_turns_11 p0 p1 (bitCount q1)) FU (0, u)) (fun q11_4 => Option.bind (FX2_errandsThat p0 2 q11_4.2) (fun q5 => some (((bitCount q5) - (bitCount q1)), q11_4.2))))
def BX3_isUnder_4 (p0 : Int32) (p1 : Int32) (u : Mem) (rec4 : (Int32 × Int32) → Option (Nat × Int32 × Int32)) (x4 : (Int32 × Int32)) : Option (Nat × Int32 × Int32) :=
  (if 6 < x4.2 then some (1, x4.1, x4.2) else (if x4.1 < 0 then some (1, x4.1, x4.2) else (if 6 < x4.1 then some (1, x4.1, x4.2) else (if x4.1 = p1 then some (0, x4.1, x4.2) else (if inb x4.1 7 then rec4 ((tAbove (x4.1).toNatClampNeg), (x4.2 + 1)) else none)))))
def FX3_isUnder (p0 : Int32) (p1 : Int32) (u : Mem) : Option (Int32) :=
  Option.bind (lp (BX3_isUnder_4 p0 p1 u) FU (p0, 0)) (fun q4_6 => (if q4_6.1 = 0 then some 1 else (some 0)))
def FX3_yardsAt (p0 : Int32) (p1 : Int32) (p2 : Int32) : Int32 :=
  (if p2 = 0 then p1 else (if p0 = 1 then p1 else (if p0 = 2 then (jmax 1 (p1 / 2)) else (2 * p1))))
def BX4_gather_7 (p1 : Nat) (p2 : Int32) (rec7 : (Int32 × Mem) → Option (Int32 × Mem)) (x7 : (Int32 × Mem)) : Option (Int32 × Mem) :=
  (if (x7.2 p1 6) ≤ x7.1 then some (x7.1, x7.2) else (if (FX9_has p2 x7.1) = 0 then rec7 ((x7.1 + 1), x7.2) else (if 5 ≤ (x7.2 97 5) then rec7 ((x7.1 + 1), x7.2) else (if inb (x7.2 97 5) 5 then (if inb x7.1 8 then (if inb ((mst x7.2 98 ((x7.2 97 5).toNatClampNeg) x7.1) 97 5) 5 then nm (mst (mst x7.2 98 ((x7.2 97 5).toNatClampNeg) x7.1) 99 (((mst x7.2 98 ((x7.2 97 5).toNatClampNeg) x7.1) 97 5).toNatClampNeg) ((mst x7.2 98 ((x7.2 97 5).toNatClampNeg) x7.1) (p1 + 18 + (x7.1).toNatClampNeg) 0)) (fun w4 => (if inb x7.1 8 then (if inb (w4 97 5) 5 then (if inb x7.1 8 then (if inb ((mst w4 100 ((w4 97 5).toNatClampNeg) (w4 (p1 + 18 + (x7.1).toNatClampNeg) 1)) 97 5) 5 then nm (mst (mst w4 100 ((w4 97 5).toNatClampNeg) (w4 (p1 + 18 + (x7.1).toNatClampNeg) 1)) 101 (((mst w4 100 ((w4 97 5).toNatClampNeg) (w4 (p1 + 18 + (x7.1).toNatClampNeg) 1)) 97 5).toNatClampNeg) ((mst w4 100 ((w4 97 5).toNatClampNeg) (w4 (p1 + 18 + (x7.1).toNatClampNeg) 1)) (p1 + 18 + (x7.1).toNatClampNeg) 2)) (fun w9 => rec7 ((x7.1 + 1), (mst w9 97 5 ((w9 97 5) + 1)))) else none) else none) else none) else none)) else none) else none) else none))))
def FX4_gather (p1 : Nat) (p2 : Int32) (u : Mem) : Option (Mem) :=
  Option.bind (lp (BX4_gather_7 p1 p2) FU (0, (mst u 97 5 0))) (fun q7_13 => some q7_13.2)
def FX8_tableFor (p0 : Nat) (p1 : Int32) (u : Mem) : Option (Nat) :=
  (if inb p1 7 then (if inb (tGait (p1).toNatClampNeg) 3 then some (p0 + 4 + (tGait (p1).toNatClampNeg).toNatClampNeg) else none) else none)
def FX4_howAt (p1 : Int32) (p2 : Int32) (u : Mem) : Option (Int32) :=
  (if inb p2 6 then (if ¬ (tPowers (p2).toNatClampNeg) = 0 then some (jrem (p1 / (tPowers (p2).toNatClampNeg)) 3) else none) else none)
def BX4_step_16 (p1 : Int32) (p2 : Int32) (p3 : Int32) (p4 : Nat) (w : Mem) (rec16 : (Int32 × Int32) → Option (Int32 × Int32)) (x16 : (Int32 × Int32)) : Option (Int32 × Int32) :=
  (if 7 ≤ x16.2 then some (x16.1, x16.2) else (if inb ((p1 * 7) + x16.2) 1701 then (if x16.1 ≤ (w 102 ((p1 * 7) + x16.2).toNatClampNeg) then rec16 (x16.1, (x16.2 + 1)) else (if inb ((x16.2 * 7) + p3) 49 then rec16 ((jmin x16.1 ((w 102 ((p1 * 7) + x16.2).toNatClampNeg) + (w p4 ((x16.2 * 7) + p3).toNatClampNeg))), (x16.2 + 1)) else none)) else none))
def FX4_step (p1 : Int32) (p2 : Int32) (p3 : Int32) (p4 : Nat) (u : Mem) : Option (Mem) :=
  (if inb ((p2 * 7) + p3) 1701 then Option.bind (lp (BX4_step_16 p1 p2 p3 p4 u) FU ((u 102 ((p2 * 7) + p3).toNatClampNeg), 0)) (fun q16_6 => (if inb ((p2 * 7) + p3) 1701 then some (mst u 102 (((p2 * 7) + p3).toNatClampNeg) q16_6.1) else none)) else none)
def BX4_goOnFrom_6 (p1 : Int32) (p2 : Int32) (p3 : Nat) (w : Mem) (rec6 : (Int32 × Int32) → Option (Int32 × Int32)) (x6 : (Int32 × Int32)) : Option (Int32 × Int32) :=
  (if (w 97 5) ≤ x6.2 then some (x6.1, x6.2) else Option.bind (FX4_howAt p1 x6.2 w) (fun q1 => (if q1 = 1 then (if inb x6.2 5 then rec6 ((x6.1 - (w 99 (x6.2).toNatClampNeg)), (x6.2 + 1)) else none) else rec6 (x6.1, (x6.2 + 1)))))
def JX4_goOnFrom_106_47 (p1 : Int32) (p2 : Int32) (p3 : Nat) (v4 : Int32) (v5 : Int32) (v6 : Int32) (w : Mem) (rec47 : (Int32 × Mem) → Option (Int32 × Mem)) : Option (Int32 × Mem) :=
  (if v6 = 1 then (if inb v5 6 then (if inb v5 5 then Option.bind (FX4_step p1 (p1 + (tPowers (v5).toNatClampNeg)) (w 101 (v5).toNatClampNeg) p3 w) (fun q9 => rec47 ((v5 + 1), q9)) else none) else none) else rec47 ((v5 + 1), w))
def BX4_goOnFrom_47 (p1 : Int32) (p2 : Int32) (p3 : Nat) (v4 : Int32) (rec47 : (Int32 × Mem) → Option (Int32 × Mem)) (x47 : (Int32 × Mem)) : Option (Int32 × Mem) :=
  (if (x47.2 97 5) ≤ x47.1 then some (x47.1, x47.2) else Option.bind (FX4_howAt p1 x47.1 x47.2) (fun q6 => (if q6 = 0 then (if inb x47.1 5 then (if v4 < (x47.2 99 (x47.1).toNatClampNeg) then JX4_goOnFrom_106_47 p1 p2 p3 v4 x47.1 q6 x47.2 rec47 else (if inb x47.1 6 then (if inb x47.1 5 then Option.bind (FX4_step p1 (p1 + (tPowers (x47.1).toNatClampNeg)) (x47.2 100 (x47.1).toNatClampNeg) p3 x47.2) (fun q14 => rec47 ((x47.1 + 1), q14)) else none) else none)) else none) else JX4_goOnFrom_106_47 p1 p2 p3 v4 x47.1 q6 x47.2 rec47)))
def FX4_goOnFrom (p1 : Int32) (p2 : Int32) (p3 : Nat) (u : Mem) : Option (Mem) :=
  Option.bind (lp (BX4_goOnFrom_6 p1 p2 p3 u) FU (p2, 0)) (fun q6_5 => Option.bind (lp (BX4_goOnFrom_47 p1 p2 p3 q6_5.1) FU (0, u)) (fun q47_18 => some q47_18.2))
def BX4_find_20 (p1 : Nat) (p2 : Int32) (p3 : Int32) (p4 : Int32) (v5 : Int32) (rec20 : (Int32 × Mem) → Option (Int32 × Mem)) (x20 : (Int32 × Mem)) : Option (Int32 × Mem) :=
  (if (v5 * 7) ≤ x20.1 then some (x20.1, x20.2) else (if inb x20.1 1701 then rec20 ((x20.1 + 1), (mst x20.2 102 (x20.1).toNatClampNeg 1000000)) else none))
def BX4_find_88 (p1 : Nat) (p2 : Int32) (p3 : Int32) (p4 : Int32) (v5 : Int32) (v6 : Nat) (v7 : Int32) (v8 : Nat) (rec88 : (Int32 × Mem) → Option (Int32 × Mem)) (x88 : (Int32 × Mem)) : Option (Int32 × Mem) :=
  (if v5 ≤ x88.1 then some (x88.1, x88.2) else Option.bind (FX4_goOnFrom x88.1 v7 v8 x88.2) (fun q9 => rec88 ((x88.1 + 1), q9)))
def FX4_find (p1 : Nat) (p2 : Int32) (p3 : Int32) (p4 : Int32) (u : Mem) : Option (Mem) :=
  Option.bind (FX4_gather p1 p4 u) (fun q1 => (if inb (q1 97 5) 6 then Option.bind (lp (BX4_find_20 p1 p2 p3 p4 (tPowers (q1 97 5).toNatClampNeg)) FU (0, q1)) (fun q20_5 => (if inb p2 6 then (if inb (q20_5.2 (p1 + 12 + (p2).toNatClampNeg) 1) 1701 then Option.bind (FX8_tableFor (p1 + 4) p3 (mst q20_5.2 102 ((q20_5.2 (p1 + 12 + (p2).toNatClampNeg) 1).toNatClampNeg) 0)) (fun q8 => Option.bind (lp (BX4_find_88 p1 p2 p3 p4 (tPowers (q1 97 5).toNatClampNeg) (p1 + 12 + (p2).toNatClampNeg) (FX3_canBear p3 ((mst q20_5.2 102 ((q20_5.2 (p1 + 12 + (p2).toNatClampNeg) 1).toNatClampNeg) 0) (p1 + 12 + (p2).toNatClampNeg) 2)) q8) FU (0, (mst q20_5.2 102 ((q20_5.2 (p1 + 12 + (p2).toNatClampNeg) 1).toNatClampNeg) 0))) (fun q88_11 => some q88_11.2)) else none) else none)) else none))
def BX4_yardsOfPart_4 (p1 : Int32) (u : Mem) (rec4 : (Int32 × Int32) → Option (Int32 × Int32)) (x4 : (Int32 × Int32)) : Option (Int32 × Int32) :=
  (if (u 97 5) ≤ x4.2 then some (x4.1, x4.2) else (if inb x4.2 5 then (if (FX9_has p1 (u 98 (x4.2).toNatClampNeg)) = 0 then rec4 (x4.1, (x4.2 + 1)) else (if inb x4.2 6 then rec4 ((x4.1 + (2 * (tPowers (x4.2).toNatClampNeg))), (x4.2 + 1)) else none)) else none))
def BX4_yardsOfPart_47 (p1 : Int32) (u : Mem) (v2 : Int32) (rec47 : (Int32 × Int32) → Option (Int32 × Int32)) (x47 : (Int32 × Int32)) : Option (Int32 × Int32) :=
  (if 7 ≤ x47.2 then some (x47.1, x47.2) else (if inb ((v2 * 7) + x47.2) 1701 then rec47 ((jmin x47.1 (u 102 ((v2 * 7) + x47.2).toNatClampNeg)), (x47.2 + 1)) else none))
def FX4_yardsOfPart (p1 : Int32) (u : Mem) : Option (Int32) :=
  Option.bind (lp (BX4_yardsOfPart_4 p1 u) FU (0, 0)) (fun q4_5 => Option.bind (lp (BX4_yardsOfPart_47 p1 u q4_5.1) FU (1000000, 0)) (fun q47_8 => some q47_8.1))
def FX5_isMissing (p0 : Nat) (u : Mem) : Int32 :=
  (if (u p0 1) = 0 then 1 else 0)
def BX5_begin_20 (p0 : Nat) (p1 : Int32) (p2 : Int32) (rec20 : (Int32 × Mem) → Option (Int32 × Mem)) (x20 : (Int32 × Mem)) : Option (Int32 × Mem) :=
  (if 40 ≤ x20.1 then some (x20.1, x20.2) else (if inb x20.1 40 then rec20 ((x20.1 + 1), (mst x20.2 (p0 + 1) (x20.1).toNatClampNeg 0)) else none))
def JX5_begin_15 (p0 : Nat) (p1 : Int32) (p2 : Int32) (s0 : Nat) (s1 : Int32) (w : Mem) : Option (Mem) :=
  Option.bind (lp (BX5_begin_20 p0 p1 p2) FU (0, (mst w s0 2 s1))) (fun q20_3 => some q20_3.2)
def FX5_begin (p0 : Nat) (p1 : Int32) (p2 : Int32) (u : Mem) : Option (Mem) :=
  (if p1 = 0 then JX5_begin_15 p0 p1 p2 p0 0 (mst u p0 1 p1) else JX5_begin_15 p0 p1 p2 p0 p2 (mst u p0 1 p1))
def FX5_put (p0 : Nat) (p1 : Int32) (p2 : Int32) (u : Mem) : Option (Mem) :=
  (if (u p0 1) = 8 then (if inb p1 40 then some (mst u (p0 + 1) (p1).toNatClampNeg (jb p2)) else none) else (if (u p0 1) = 16 then (if inb p1 40 then some (mst u (p0 + 1) (p1).toNatClampNeg (js p2)) else none) else (if inb p1 40 then some (mst u (p0 + 1) (p1).toNatClampNeg p2) else none)))
def FX5_hasFrom (p0 : Nat) (p1 : Int32) (p2 : Int32) (u : Mem) : Int32 :=
  (if (FX9_within p2 0 (u p0 2)) = 0 then 0 else (if (FX9_within p1 0 ((u p0 2) - p2)) = 0 then 0 else 1))
def FX6_add (p1 : Int32) (u : Mem) : Option (Mem) :=
  (if inb (u 104 1) 120 then some (mst (mst u 105 ((u 104 1).toNatClampNeg) p1) 104 1 (((mst u 105 ((u 104 1).toNatClampNeg) p1) 104 1) + 1)) else none)
def FX6_sortOf (p0 : Int32) : Int32 :=
  (if p0 < 97 then (if p0 < 48 then (if p0 = 59 then 3 else 4) else (if 57 < p0 then (if p0 = 59 then 3 else 4) else 2)) else (if 122 < p0 then (if p0 < 48 then (if p0 = 59 then 3 else 4) else (if 57 < p0 then (if p0 = 59 then 3 else 4) else 2)) else 1))
def BX6_goOn_8  (rec8 : (Mem) → Option (Mem)) (x8 : (Mem)) : Option (Mem) :=
  (if (x8 104 1) ≤ (x8 104 3) then some x8 else (if inb (x8 104 3) 120 then (if (x8 105 (x8 104 3).toNatClampNeg) = 32 then rec8 (mst x8 104 3 ((x8 104 3) + 1)) else some x8) else none))
def BX6_goOn_90  (rec90 : (Mem) → Option (Nat × Mem)) (x90 : (Mem)) : Option (Nat × Mem) :=
  (if (x90 104 1) ≤ (x90 104 4) then some (1, x90) else (if inb (x90 104 4) 120 then (if (FX6_sortOf (x90 105 (x90 104 4).toNatClampNeg)) = (x90 104 2) then (if inb (x90 104 4) 120 then nm (mst (mst x90 104 5 (jmin ((((x90 104 5) * 10) + (x90 105 (x90 104 4).toNatClampNeg)) - 48) 10000)) 104 4 (((mst x90 104 5 (jmin ((((x90 104 5) * 10) + (x90 105 (x90 104 4).toNatClampNeg)) - 48) 10000)) 104 4) + 1)) (fun w7 => (if (w7 104 2) = 3 then some (0, w7) else (if (w7 104 2) = 4 then some (0, w7) else rec90 w7))) else none) else some (1, x90)) else none))
def JX6_goOn_87 (s1 : Int32) (w : Mem) : Option (Mem) :=
  Option.bind (lp (BX6_goOn_90) FU (mst w 104 2 s1)) (fun q90_12 => (if q90_12.1 = 0 then some q90_12.2 else (some q90_12.2)))
def JX6_goOn_46 (w : Mem) : Option (Mem) :=
  (if ((mst (mst w 104 4 (w 104 3)) 104 5 0) 104 1) ≤ ((mst (mst w 104 4 (w 104 3)) 104 5 0) 104 3) then JX6_goOn_87 0 (mst (mst w 104 4 (w 104 3)) 104 5 0) else (if inb ((mst (mst w 104 4 (w 104 3)) 104 5 0) 104 3) 120 then JX6_goOn_87 (FX6_sortOf ((mst (mst w 104 4 (w 104 3)) 104 5 0) 105 ((mst (mst w 104 4 (w 104 3)) 104 5 0) 104 3).toNatClampNeg)) (mst (mst w 104 4 (w 104 3)) 104 5 0) else none))
def FX6_goOn (u : Mem) : Option (Mem) :=
  Option.bind (lp (BX6_goOn_8) FU (mst u 104 3 (u 104 4))) (fun q8_4 => JX6_goOn_46 q8_4)
def BX6_isWord_28 (p1 : Nat) (u : Mem) (rec28 : (Int32) → Option (Nat × Int32)) (x28 : (Int32)) : Option (Nat × Int32) :=
  (if (slen p1) ≤ x28 then some (1, x28) else (if inb ((u 104 3) + x28) 120 then (if inb x28 (strL.getD p1 []).length then (if (u 105 ((u 104 3) + x28).toNatClampNeg) = (sch p1 x28) then rec28 (x28 + 1) else some (0, x28)) else none) else none))
def FX6_isWord (p1 : Nat) (u : Mem) : Option (Int32) :=
  (if (u 104 2) = 1 then (if ((u 104 4) - (u 104 3)) = (slen p1) then Option.bind (lp (BX6_isWord_28 p1 u) FU 0) (fun q28_5 => (if q28_5.1 = 0 then some 0 else (some 1))) else some 0) else some 0)
def FX6_kindTold (u : Mem) : Option (Int32) :=
  Option.bind (FX6_isWord 0 u) (fun q1 => (if q1 = 0 then Option.bind (FX6_isWord 1 u) (fun q2 => (if q2 = 0 then Option.bind (FX6_isWord 2 u) (fun q3 => (if q3 = 0 then Option.bind (FX6_isWord 3 u) (fun q4 => (if q4 = 0 then Option.bind (FX6_isWord 4 u) (fun q5 => (if q5 = 0 then Option.bind (FX6_isWord 5 u) (fun q6 => (if q6 = 0 then Option.bind (FX6_isWord 6 u) (fun q7 => (if q7 = 0 then some (-1) else some 6)) else some 5)) else some 4)) else some 3)) else some 2)) else some 1)) else some 0))
def FX6_pass (p1 : Nat) (u : Mem) : Option (Int32 × Mem) :=
  Option.bind (FX6_isWord p1 u) (fun q1 => (if q1 = 0 then (if inZ q1 then some (q1, u) else none) else Option.bind (FX6_goOn u) (fun q3 => (if inZ q1 then some (q1, q3) else none))))
def FX6_passNumber (p1 : Int32) (p2 : Int32) (u : Mem) : Option (Int32 × Mem) :=
  (if (u 104 2) = 2 then (if (FX9_within (u 104 5) p1 p2) = 0 then some ((-1), u) else Option.bind (FX6_goOn u) (fun q1 => some ((u 104 5), q1))) else some ((-1), u))
def JX6_readCarrier_34 (p1 : Nat) (p2 : Int32) (v3 : Int32) (w : Mem) : Option (Int32 × Mem) :=
  (if 0 ≤ v3 then Option.bind (FX6_pass 8 w) (fun q3 => (if q3.1 = 0 then Option.bind (FX2_addCarrier p1 p2 v3 20 q3.2) (fun q4 => some (1, q4.2)) else Option.bind (FX6_passNumber 1 99 q3.2) (fun q5 => (if 0 ≤ q5.1 then Option.bind (FX2_addCarrier p1 p2 v3 q5.1 q5.2) (fun q6 => some (1, q6.2)) else some (0, q5.2))))) else some (0, w))
def FX6_readCarrier (p1 : Nat) (p2 : Int32) (u : Mem) : Option (Int32 × Mem) :=
  (if (u p1 5) < 6 then Option.bind (FX6_goOn u) (fun q1 => Option.bind (FX6_pass 7 q1) (fun q2 => (if q2.1 = 0 then JX6_readCarrier_34 p1 p2 0 q2.2 else Option.bind (FX6_passNumber 0 6 q2.2) (fun q10 => JX6_readCarrier_34 p1 p2 q10.1 q10.2)))) else some (0, u))
def FX6_passOtherPlace (p1 : Int32) (u : Mem) : Option (Int32 × Mem) :=
  (if (u 104 2) = 2 then (if (u 104 5) = p1 then some ((-1), u) else (if (u 104 5) < 7 then Option.bind (FX6_goOn u) (fun q1 => some ((u 104 5), q1)) else some ((-1), u))) else some ((-1), u))
def FX8_lay (p0 : Nat) (p1 : Int32) (p2 : Int32) (p3 : Int32) (p4 : Int32) (u : Mem) : Option (Mem) :=
  (if inb ((p1 * 7) + p2) 49 then (if inb ((p2 * 7) + p1) 49 then (if inb ((p1 * 7) + p2) 49 then nm (mst (mst (mst u (p0 + 1) (((p1 * 7) + p2).toNatClampNeg) p3) (p0 + 1) (((p2 * 7) + p1).toNatClampNeg) p3) (p0 + 2) (((p1 * 7) + p2).toNatClampNeg) p4) (fun w4 => (if inb ((p2 * 7) + p1) 49 then some (mst w4 (p0 + 2) (((p2 * 7) + p1).toNatClampNeg) p4) else none)) else none) else none) else none)
def FX6_readWay (p1 : Nat) (u : Mem) : Option (Int32 × Mem) :=
  Option.bind (FX6_goOn u) (fun q1 => Option.bind (FX6_passNumber 0 6 q1) (fun q2 => (if 0 ≤ q2.1 then Option.bind (FX6_passOtherPlace q2.1 q2.2) (fun q3 => (if q3.1 < 0 then some (0, q3.2) else Option.bind (FX6_pass 10 q3.2) (fun q4 => (if q4.1 = 0 then some (0, q4.2) else Option.bind (FX6_passNumber 0 99 q4.2) (fun q5 => (if 0 ≤ q5.1 then Option.bind (FX6_pass 11 q5.2) (fun q6 => (if q6.1 = 0 then Option.bind (FX8_lay (p1 + 4) q2.1 q3.1 q5.1 0 q6.2) (fun q7 => some (1, q7)) else Option.bind (FX8_lay (p1 + 4) q2.1 q3.1 q5.1 1 q6.2) (fun q8 => some (1, q8)))) else some (0, q5.2))))))) else some (0, q2.2))))
def FX6_readErrand (p1 : Nat) (u : Mem) : Option (Int32 × Mem) :=
  (if (u p1 6) < 8 then Option.bind (FX6_goOn u) (fun q1 => Option.bind (FX6_passNumber 1 60 q1) (fun q2 => (if q2.1 < 0 then some (0, q2.2) else Option.bind (FX6_pass 13 q2.2) (fun q3 => (if q3.1 = 0 then some (0, q3.2) else Option.bind (FX6_passNumber 0 6 q3.2) (fun q4 => (if q4.1 < 0 then some (0, q4.2) else Option.bind (FX6_pass 14 q4.2) (fun q5 => (if q5.1 = 0 then some (0, q5.2) else Option.bind (FX6_passOtherPlace q4.1 q5.2) (fun q6 => (if 0 ≤ q6.1 then Option.bind (FX2_addErrand p1 q2.1 q4.1 q6.1 q6.2) (fun q7 => some (1, q7.2)) else some (0, q6.2)))))))))))) else some (0, u))
def FX6_readWare (p1 : Nat) (u : Mem) : Option (Int32 × Mem) :=
  (if (u p1 7) < 6 then Option.bind (FX6_goOn u) (fun q1 => Option.bind (FX6_passNumber 1 9999 q1) (fun q2 => (if 0 ≤ q2.1 then Option.bind (FX2_addWare p1 q2.1 q2.2) (fun q3 => some (1, q3.2)) else some (0, q2.2)))) else some (0, u))
def FX6_readItem (p1 : Nat) (u : Mem) : Option (Int32 × Mem) :=
  Option.bind (FX6_kindTold u) (fun q1 => (if q1 < 0 then Option.bind (FX6_isWord 9 u) (fun q2 => (if q2 = 0 then Option.bind (FX6_isWord 12 u) (fun q3 => (if q3 = 0 then Option.bind (FX6_isWord 15 u) (fun q4 => (if q4 = 0 then some (0, u) else Option.bind (FX6_readWare p1 u) (fun q5 => (if q5.1 = 0 then some (0, q5.2) else some (1, q5.2))))) else Option.bind (FX6_readErrand p1 u) (fun q8 => (if inZ q8.1 then some (q8.1, q8.2) else none)))) else Option.bind (FX6_readWay p1 u) (fun q11 => (if inZ q11.1 then some (q11.1, q11.2) else none)))) else Option.bind (FX6_readCarrier p1 q1 u) (fun q14 => (if inZ q14.1 then some (q14.1, q14.2) else none))))
def FX8_stepAt (p0 : Nat) (p1 : Int32) (p2 : Int32) (u : Mem) : Option (Int32) :=
  (if inb p2 49 then (if (u (p0 + 1) (p2).toNatClampNeg) = 0 then some 1000000 else (if inb p2 49 then (if inb p2 49 then some (FX3_yardsAt p1 (u (p0 + 1) (p2).toNatClampNeg) (u (p0 + 2) (p2).toNatClampNeg)) else none) else none)) else none)
def BX8_measureFor_9 (p0 : Nat) (p1 : Int32) (v2 : Nat) (rec9 : (Int32 × Mem) → Option (Int32 × Mem)) (x9 : (Int32 × Mem)) : Option (Int32 × Mem) :=
  (if 49 ≤ x9.1 then some (x9.1, x9.2) else (if (x9.1 / 7) = (jrem x9.1 7) then (if inb x9.1 49 then rec9 ((x9.1 + 1), (mst x9.2 v2 (x9.1).toNatClampNeg 0)) else none) else Option.bind (FX8_stepAt p0 p1 x9.1 x9.2) (fun q2 => (if inb x9.1 49 then rec9 ((x9.1 + 1), (mst x9.2 v2 (x9.1).toNatClampNeg q2)) else none))))
def BX8_measureFor_77 (p0 : Nat) (p1 : Int32) (v2 : Nat) (v3 : Int32) (v4 : Int32) (v5 : Int32) (rec77 : (Int32 × Mem) → Option (Int32 × Mem)) (x77 : (Int32 × Mem)) : Option (Int32 × Mem) :=
  (if 7 ≤ x77.1 then some (x77.1, x77.2) else (if 1000000 ≤ v5 then some (x77.1, x77.2) else (if inb ((v3 * 7) + x77.1) 49 then (if inb ((v4 * 7) + x77.1) 49 then (if (x77.2 v2 ((v4 * 7) + x77.1).toNatClampNeg) ≤ (v5 + (x77.2 v2 ((v3 * 7) + x77.1).toNatClampNeg)) then rec77 ((x77.1 + 1), x77.2) else (if inb ((v4 * 7) + x77.1) 49 then rec77 ((x77.1 + 1), (mst x77.2 v2 (((v4 * 7) + x77.1).toNatClampNeg) (v5 + (x77.2 v2 ((v3 * 7) + x77.1).toNatClampNeg)))) else none)) else none) else none)))
def BX8_measureFor_56 (p0 : Nat) (p1 : Int32) (v2 : Nat) (v3 : Int32) (rec56 : (Int32 × Mem) → Option (Int32 × Mem)) (x56 : (Int32 × Mem)) : Option (Int32 × Mem) :=
  (if 7 ≤ x56.1 then some (x56.1, x56.2) else (if inb ((x56.1 * 7) + v3) 49 then Option.bind (lp (BX8_measureFor_77 p0 p1 v2 v3 x56.1 (x56.2 v2 ((x56.1 * 7) + v3).toNatClampNeg)) FU (0, x56.2)) (fun q77_15 => rec56 ((x56.1 + 1), q77_15.2)) else none))
def BX8_measureFor_47 (p0 : Nat) (p1 : Int32) (v2 : Nat) (rec47 : (Int32 × Mem) → Option (Int32 × Mem)) (x47 : (Int32 × Mem)) : Option (Int32 × Mem) :=
  (if 7 ≤ x47.1 then some (x47.1, x47.2) else Option.bind (lp (BX8_measureFor_56 p0 p1 v2 x47.1) FU (0, x47.2)) (fun q56_17 => rec47 ((x47.1 + 1), q56_17.2)))
def FX8_measureFor (p0 : Nat) (p1 : Int32) (u : Mem) : Option (Mem) :=
  (if inb p1 3 then Option.bind (lp (BX8_measureFor_9 p0 p1 (p0 + 4 + (p1).toNatClampNeg)) FU (0, u)) (fun q9_7 => Option.bind (lp (BX8_measureFor_47 p0 p1 (p0 + 4 + (p1).toNatClampNeg)) FU (0, q9_7.2)) (fun q47_19 => some q47_19.2)) else none)
def BX8_measure_2 (p0 : Nat) (rec2 : (Int32 × Mem) → Option (Int32 × Mem)) (x2 : (Int32 × Mem)) : Option (Int32 × Mem) :=
  (if 3 ≤ x2.1 then some (x2.1, x2.2) else Option.bind (FX8_measureFor p0 x2.1 x2.2) (fun q1 => rec2 ((x2.1 + 1), q1)))
def FX8_measure (p0 : Nat) (u : Mem) : Option (Mem) :=
  Option.bind (lp (BX8_measure_2 p0) FU (0, u)) (fun q2_3 => some q2_3.2)
def BX6_tellTo_11 (p1 : Nat) (rec11 : (Int32 × Mem) → Option (Nat × Int32 × Mem)) (x11 : (Int32 × Mem)) : Option (Nat × Int32 × Mem) :=
  (if 120 < x11.1 then some (2, x11.1, x11.2) else Option.bind (FX6_readItem p1 x11.2) (fun q2 => (if q2.1 = 0 then some (2, x11.1, q2.2) else (if (q2.2 104 2) = 0 then some (0, (x11.1 + 1), q2.2) else (if (q2.2 104 2) = 3 then Option.bind (FX6_goOn q2.2) (fun q3 => rec11 ((x11.1 + 1), q3)) else some (1, (x11.1 + 1), q2.2))))))
def FX6_tellTo (p1 : Nat) (u : Mem) : Option (Int32 × Mem) :=
  Option.bind (FX6_goOn (mst u 104 4 0)) (fun q1 => Option.bind (lp (BX6_tellTo_11 p1) FU (0, q1)) (fun q11_8 => (if q11_8.1 = 0 then Option.bind (FX8_measure (p1 + 4) q11_8.2.2) (fun q9 => some (q11_8.2.1, q9)) else (if q11_8.1 = 1 then some (((-1) - (q11_8.2.2 104 3)), q11_8.2.2) else (some (((-1) - (q11_8.2.2 104 3)), q11_8.2.2))))))
def FX8_yardsOf (p0 : Nat) (p1 : Int32) (p2 : Int32) (u : Mem) : Option (Int32) :=
  (if inb ((p1 * 7) + p2) 49 then some (u (p0 + 1) ((p1 * 7) + p2).toNatClampNeg) else none)
def FX8_riverOf (p0 : Nat) (p1 : Int32) (p2 : Int32) (u : Mem) : Option (Int32) :=
  (if inb ((p1 * 7) + p2) 49 then some (u (p0 + 2) ((p1 * 7) + p2).toNatClampNeg) else none)
def BX8_hasAny_2 (p0 : Nat) (p1 : Int32) (u : Mem) (rec2 : (Int32) → Option (Nat × Int32)) (x2 : (Int32)) : Option (Nat × Int32) :=
  (if 7 ≤ x2 then some (1, x2) else Option.bind (FX8_yardsOf p0 p1 x2 u) (fun q1 => (if q1 ≤ 0 then rec2 (x2 + 1) else some (0, x2))))
def FX8_hasAny (p0 : Nat) (p1 : Int32) (u : Mem) : Option (Int32) :=
  Option.bind (lp (BX8_hasAny_2 p0 p1 u) FU 0) (fun q2_4 => (if q2_4.1 = 0 then some 1 else (some 0)))
def BX8_farthest_5 (p0 : Nat) (p1 : Int32) (p2 : Int32) (u : Mem) (rec5 : (Int32 × Int32) → Option (Int32 × Int32)) (x5 : (Int32 × Int32)) : Option (Int32 × Int32) :=
  (if 7 ≤ x5.2 then some (x5.1, x5.2) else Option.bind (FX8_hasAny p0 x5.2 u) (fun q1 => (if q1 = 0 then rec5 (x5.1, (x5.2 + 1)) else Option.bind (FX8_yardsFor p0 p1 p2 x5.2 u) (fun q2 => rec5 ((jmax x5.1 q2), (x5.2 + 1))))))
def FX8_farthest (p0 : Nat) (p1 : Int32) (p2 : Int32) (u : Mem) : Option (Int32) :=
  Option.bind (lp (BX8_farthest_5 p0 p1 p2 u) FU (0, 0)) (fun q5_5 => some q5_5.1)
def BX8_nextPlace_12 (p0 : Nat) (p1 : Int32) (p2 : Int32) (p3 : Int32) (u : Mem) (v4 : Int32) (rec12 : (Int32) → Option (Nat × Int32)) (x12 : (Int32)) : Option (Nat × Int32) :=
  (if 7 ≤ x12 then some (1, x12) else (if p2 = p3 then some (1, x12) else (if inb p1 7 then Option.bind (FX8_stepAt p0 (tGait (p1).toNatClampNeg) ((p2 * 7) + x12) u) (fun q3 => (if 1000000 ≤ q3 then rec12 (x12 + 1) else Option.bind (FX8_yardsFor p0 p1 x12 p3 u) (fun q4 => (if (q3 + q4) = v4 then some (0, x12) else rec12 (x12 + 1))))) else none)))
def FX8_nextPlace (p0 : Nat) (p1 : Int32) (p2 : Int32) (p3 : Int32) (u : Mem) : Option (Int32) :=
  Option.bind (FX8_yardsFor p0 p1 p2 p3 u) (fun q1 => Option.bind (lp (BX8_nextPlace_12 p0 p1 p2 p3 u q1) FU 0) (fun q12_9 => (if q12_9.1 = 0 then some q12_9.2 else (some p2))))
def FX9_finding (p1 : Int32) (u : Mem) : Option (Int32 × Mem) :=
  (if (FX9_within ((-1000001) - p1) 0 6) = 0 then some (p1, u) else (if inb ((-1000001) - p1) 7 then (if inb ((-1000001) - p1) 7 then some (p1, (mst u 107 (((-1000001) - p1).toNatClampNeg) ((u 107 ((-1000001) - p1).toNatClampNeg) + 1))) else none) else none))
def FX9_carrier (p1 : Int32) (u : Mem) : Option (Int32 × Mem) :=
  (if (FX9_within p1 0 6) = 0 then Option.bind (FX9_finding (-1000001) u) (fun q4 => some (q4.1, q4.2)) else (if (u 1 5) < 6 then Option.bind (FX2_addCarrier 1 p1 0 20 u) (fun q1 => some (q1.1, q1.2)) else Option.bind (FX9_finding (-1000002) u) (fun q2 => some (q2.1, q2.2))))
def FX9_of (p1 : Int32) (p2 : Int32) (u : Mem) : Option (Int32 × Mem) :=
  (if (FX2_hasCarrier 1 p1 u) = 0 then Option.bind (FX9_finding (-1000001) u) (fun q14 => some (q14.1, q14.2)) else (if inb p1 6 then (if p2 = 0 then some ((u (1 + 12 + (p1).toNatClampNeg) 0), u) else (if p2 = 1 then some ((u (1 + 12 + (p1).toNatClampNeg) 1), u) else (if p2 = 2 then some ((u (1 + 12 + (p1).toNatClampNeg) 2), u) else (if p2 = 3 then some ((u (1 + 12 + (p1).toNatClampNeg) 3), u) else (if p2 = 4 then some ((u (1 + 12 + (p1).toNatClampNeg) 4), u) else (if p2 = 5 then some ((FX0_canBear (1 + 12 + (p1).toNatClampNeg) u), u) else (if p2 = 6 then Option.bind (FX2_carriedBy 1 p1 u) (fun q9 => some (q9, u)) else (if p2 = 7 then Option.bind (FX2_carriedBy 1 p1 u) (fun q11 => Option.bind (FX2_weightOf 1 q11 u) (fun q12 => some (q12, u))) else Option.bind (FX9_finding (-1000001) u) (fun q13 => some (q13.1, q13.2)))))))))) else none))
def FX9_isPlace (p0 : Int32) : Int32 :=
  (FX9_within p0 0 6)
def FX9_isChange (p0 : Int32) (p1 : Int32) : Int32 :=
  (if p0 = 0 then (FX9_within p1 0 6) else (if p0 = 1 then (FX9_isPlace p1) else (if p0 = 2 then (FX9_within p1 1 99) else (if p0 = 3 then (FX9_within p1 0 999999) else 0))))
def FX9_change (p1 : Int32) (p2 : Int32) (p3 : Int32) (u : Mem) : Option (Int32 × Mem) :=
  (if (FX2_hasCarrier 1 p1 u) = 0 then Option.bind (FX9_finding (-1000001) u) (fun q1 => some (q1.1, q1.2)) else (if (FX9_isChange p2 p3) = 0 then Option.bind (FX9_finding (-1000001) u) (fun q6 => some (q6.1, q6.2)) else (if inb p1 6 then (if p2 = 0 then some ((u (1 + 12 + (p1).toNatClampNeg) 0), (mst u (1 + 12 + (p1).toNatClampNeg) 0 p3)) else (if p2 = 1 then some ((u (1 + 12 + (p1).toNatClampNeg) 1), (mst u (1 + 12 + (p1).toNatClampNeg) 1 p3)) else (if p2 = 2 then some ((u (1 + 12 + (p1).toNatClampNeg) 2), (mst u (1 + 12 + (p1).toNatClampNeg) 2 p3)) else some ((u (1 + 12 + (p1).toNatClampNeg) 3), (mst u (1 + 12 + (p1).toNatClampNeg) 3 p3))))) else none)))
def FX9_areUnlikePlaces (p0 : Int32) (p1 : Int32) : Int32 :=
  (if (FX9_isPlace p0) = 0 then 0 else (if (FX9_isPlace p1) = 0 then 0 else (if p0 = p1 then 0 else 1)))
def FX9_way (p1 : Int32) (p2 : Int32) (p3 : Int32) (p4 : Int32) (u : Mem) : Option (Int32 × Mem) :=
  (if (FX9_areUnlikePlaces p1 p2) = 0 then Option.bind (FX9_finding (-1000001) u) (fun q1 => some (q1.1, q1.2)) else (if (FX9_within p3 0 99) = 0 then Option.bind (FX9_finding (-1000001) u) (fun q2 => some (q2.1, q2.2)) else (if (FX9_within p4 0 1) = 0 then Option.bind (FX9_finding (-1000001) u) (fun q6 => some (q6.1, q6.2)) else Option.bind (FX8_yardsOf (1 + 4) p1 p2 u) (fun q3 => Option.bind (FX8_lay (1 + 4) p1 p2 p3 p4 u) (fun q4 => Option.bind (FX8_measure (1 + 4) q4) (fun q5 => some (q3, q5)))))))
def FX9_wayOf (p1 : Int32) (p2 : Int32) (p3 : Int32) (u : Mem) : Option (Int32 × Mem) :=
  (if (FX9_areUnlikePlaces p1 p2) = 0 then Option.bind (FX9_finding (-1000001) u) (fun q1 => some (q1.1, q1.2)) else (if (FX9_within p3 0 1) = 0 then Option.bind (FX9_finding (-1000001) u) (fun q5 => some (q5.1, q5.2)) else (if p3 = 0 then Option.bind (FX8_yardsOf (1 + 4) p1 p2 u) (fun q3 => some (q3, u)) else Option.bind (FX8_riverOf (1 + 4) p1 p2 u) (fun q2 => some (q2, u)))))
def FX9_errand (p1 : Int32) (p2 : Int32) (p3 : Int32) (u : Mem) : Option (Int32 × Mem) :=
  (if (FX9_within p1 1 60) = 0 then Option.bind (FX9_finding (-1000001) u) (fun q1 => some (q1.1, q1.2)) else (if (FX9_areUnlikePlaces p2 p3) = 0 then Option.bind (FX9_finding (-1000001) u) (fun q5 => some (q5.1, q5.2)) else (if (u 1 6) < 8 then Option.bind (FX2_addErrand 1 p1 p2 p3 u) (fun q2 => some (q2.1, q2.2)) else Option.bind (FX9_finding (-1000002) u) (fun q3 => some (q3.1, q3.2)))))
def FX9_orNone (p1 : Int32) (u : Mem) : Option (Int32 × Mem) :=
  (if p1 < 1000000 then some (p1, u) else Option.bind (FX9_finding (-1000004) u) (fun q1 => some (q1.1, q1.2)))
def FX9_errandOf (p1 : Int32) (p2 : Int32) (u : Mem) : Option (Int32 × Mem) :=
  (if (FX2_hasErrand 1 p1 u) = 0 then Option.bind (FX9_finding (-1000001) u) (fun q11 => some (q11.1, q11.2)) else (if inb p1 8 then (if p2 = 0 then some ((u (1 + 18 + (p1).toNatClampNeg) 0), u) else (if p2 = 1 then some ((u (1 + 18 + (p1).toNatClampNeg) 1), u) else (if p2 = 2 then some ((u (1 + 18 + (p1).toNatClampNeg) 2), u) else (if p2 = 3 then some ((u (1 + 18 + (p1).toNatClampNeg) 3), u) else (if p2 = 4 then some ((u (1 + 18 + (p1).toNatClampNeg) 4), u) else (if p2 = 5 then Option.bind (FX2_worthOf 1 p1 u) (fun q8 => Option.bind (FX9_orNone q8 u) (fun q9 => some (q9.1, q9.2))) else Option.bind (FX9_finding (-1000001) u) (fun q10 => some (q10.1, q10.2)))))))) else none))
def FX9_ware (p1 : Int32) (u : Mem) : Option (Int32 × Mem) :=
  (if (FX9_within p1 1 9999) = 0 then Option.bind (FX9_finding (-1000001) u) (fun q4 => some (q4.1, q4.2)) else (if (u 1 7) < 6 then Option.bind (FX2_addWare 1 p1 u) (fun q1 => some (q1.1, q1.2)) else Option.bind (FX9_finding (-1000002) u) (fun q2 => some (q2.1, q2.2))))
def FX9_wareOf (p1 : Int32) (p2 : Int32) (u : Mem) : Option (Int32 × Mem) :=
  (if (FX2_hasWare 1 p1 u) = 0 then Option.bind (FX9_finding (-1000001) u) (fun q1 => some (q1.1, q1.2)) else (if (FX9_within p2 0 1) = 0 then Option.bind (FX9_finding (-1000001) u) (fun q5 => some (q5.1, q5.2)) else (if p2 = 0 then (if inb p1 6 then some ((u (1 + 26 + (p1).toNatClampNeg) 0), u) else none) else (if inb p1 6 then some ((u (1 + 26 + (p1).toNatClampNeg) 1), u) else none))))
def FX9_far (p1 : Int32) (p2 : Int32) (p3 : Int32) (u : Mem) : Option (Int32 × Mem) :=
  (if (FX2_hasCarrier 1 p1 u) = 0 then Option.bind (FX9_finding (-1000001) u) (fun q1 => some (q1.1, q1.2)) else (if (FX9_isPlace p2) = 0 then Option.bind (FX9_finding (-1000001) u) (fun q2 => some (q2.1, q2.2)) else (if (FX9_isPlace p3) = 0 then Option.bind (FX9_finding (-1000001) u) (fun q6 => some (q6.1, q6.2)) else (if inb p1 6 then Option.bind (FX8_yardsFor (1 + 4) (u (1 + 12 + (p1).toNatClampNeg) 0) p2 p3 u) (fun q4 => Option.bind (FX9_orNone q4 u) (fun q5 => some (q5.1, q5.2))) else none))))
def FX9_first (p1 : Int32) (p2 : Int32) (u : Mem) : Option (Int32 × Mem) :=
  (if (FX2_hasCarrier 1 p1 u) = 0 then Option.bind (FX9_finding (-1000001) u) (fun q1 => some (q1.1, q1.2)) else (if (FX9_isPlace p2) = 0 then Option.bind (FX9_finding (-1000001) u) (fun q7 => some (q7.1, q7.2)) else (if inb p1 6 then Option.bind (FX8_yardsFor (1 + 4) (u (1 + 12 + (p1).toNatClampNeg) 0) (u (1 + 12 + (p1).toNatClampNeg) 1) p2 u) (fun q3 => (if q3 < 1000000 then Option.bind (FX8_nextPlace (1 + 4) (u (1 + 12 + (p1).toNatClampNeg) 0) (u (1 + 12 + (p1).toNatClampNeg) 1) p2 u) (fun q4 => some (q4, u)) else Option.bind (FX9_finding (-1000004) u) (fun q5 => some (q5.1, q5.2)))) else none)))
def FX9_take (p1 : Int32) (p2 : Int32) (u : Mem) : Option (Int32 × Mem) :=
  (if (FX2_hasCarrier 1 p1 u) = 0 then Option.bind (FX9_finding (-1000001) u) (fun q1 => some (q1.1, q1.2)) else (if (FX2_hasErrand 1 p2 u) = 0 then Option.bind (FX9_finding (-1000001) u) (fun q11 => some (q11.1, q11.2)) else Option.bind (FX2_liesBy 1 p2 p1 u) (fun q2 => (if q2 = 0 then Option.bind (FX9_finding (-1000005) u) (fun q9 => some (q9.1, q9.2)) else Option.bind (FX2_couldAdd 1 p1 p2 u) (fun q3 => (if q3 = 0 then Option.bind (FX9_finding (-1000002) u) (fun q7 => some (q7.1, q7.2)) else Option.bind (FX2_pickUp 1 p1 p2 u) (fun q4 => Option.bind (FX2_carriedBy 1 p1 q4) (fun q5 => Option.bind (FX2_weightOf 1 q5 q4) (fun q6 => some (q6, q4))))))))))
def FX9_drop (p1 : Int32) (p2 : Int32) (u : Mem) : Option (Int32 × Mem) :=
  (if (FX2_hasCarrier 1 p1 u) = 0 then Option.bind (FX9_finding (-1000001) u) (fun q1 => some (q1.1, q1.2)) else (if (FX2_hasErrand 1 p2 u) = 0 then Option.bind (FX9_finding (-1000001) u) (fun q13 => some (q13.1, q13.2)) else (if inb p2 8 then (if inb p1 6 then (if (u (1 + 18 + (p2).toNatClampNeg) 3) = 1 then (if (u (1 + 18 + (p2).toNatClampNeg) 4) = p1 then (if (u (1 + 18 + (p2).toNatClampNeg) 2) = (u (1 + 12 + (p1).toNatClampNeg) 1) then Option.bind (FX9_finding (-1000005) u) (fun q9 => some (q9.1, q9.2)) else nm (mst (mst (mst u (1 + 18 + (p2).toNatClampNeg) 3 0) (1 + 18 + (p2).toNatClampNeg) 4 (-1)) (1 + 18 + (p2).toNatClampNeg) 1 (u (1 + 12 + (p1).toNatClampNeg) 1)) (fun w6 => Option.bind (FX2_carriedBy 1 p1 w6) (fun q7 => Option.bind (FX2_weightOf 1 q7 w6) (fun q8 => some (q8, w6))))) else Option.bind (FX9_finding (-1000005) u) (fun q5 => some (q5.1, q5.2))) else Option.bind (FX9_finding (-1000005) u) (fun q4 => some (q4.1, q4.2))) else none) else none)))
def FX9_walk (p1 : Int32) (p2 : Int32) (u : Mem) : Option (Int32 × Mem) :=
  (if (FX2_hasCarrier 1 p1 u) = 0 then Option.bind (FX9_finding (-1000001) u) (fun q1 => some (q1.1, q1.2)) else (if (FX9_isPlace p2) = 0 then Option.bind (FX9_finding (-1000001) u) (fun q6 => some (q6.1, q6.2)) else Option.bind (FX2_yardsTo 1 p1 p2 u) (fun q2 => (if q2 < 1000000 then Option.bind (FX2_go 1 p1 p2 u) (fun q3 => some (q3.1, q3.2)) else Option.bind (FX9_finding (-1000004) u) (fun q4 => some (q4.1, q4.2))))))
def FX9_buy (p1 : Int32) (p2 : Int32) (u : Mem) : Option (Int32 × Mem) :=
  (if (FX2_hasCarrier 1 p1 u) = 0 then Option.bind (FX9_finding (-1000001) u) (fun q1 => some (q1.1, q1.2)) else (if (FX2_hasWare 1 p2 u) = 0 then Option.bind (FX9_finding (-1000001) u) (fun q9 => some (q9.1, q9.2)) else (if inb p1 6 then (if inb p2 6 then (if (u (1 + 26 + (p2).toNatClampNeg) 1) = (-1) then (if (u (1 + 26 + (p2).toNatClampNeg) 0) ≤ (u (1 + 12 + (p1).toNatClampNeg) 3) then nm (mst (mst u (1 + 26 + (p2).toNatClampNeg) 1 p1) (1 + 12 + (p1).toNatClampNeg) 3 (((mst u (1 + 26 + (p2).toNatClampNeg) 1 p1) (1 + 12 + (p1).toNatClampNeg) 3) - ((mst u (1 + 26 + (p2).toNatClampNeg) 1 p1) (1 + 26 + (p2).toNatClampNeg) 0))) (fun w5 => some ((w5 (1 + 12 + (p1).toNatClampNeg) 3), w5)) else Option.bind (FX9_finding (-1000005) u) (fun q6 => some (q6.1, q6.2))) else Option.bind (FX9_finding (-1000005) u) (fun q4 => some (q4.1, q4.2))) else none) else none)))
def FX9_now (p1 : Int32) (u : Mem) : Option (Int32 × Mem) :=
  (if p1 = 0 then Option.bind (FX2_errandsThat 1 0 u) (fun q2 => some (q2, u)) else (if p1 = 1 then Option.bind (FX2_errandsThat 1 2 u) (fun q4 => some (q4, u)) else (if p1 = 2 then Option.bind (FX2_soldWares 1 u) (fun q6 => some (q6, u)) else (if p1 = 3 then Option.bind (FX2_earnedByAll 1 u) (fun q8 => some (q8, u)) else (if p1 = 4 then Option.bind (FX2_walkedByAll 1 u) (fun q10 => some (q10, u)) else Option.bind (FX9_finding (-1000001) u) (fun q11 => some (q11.1, q11.2)))))))
def FX9_areErrands (p1 : Int32) (u : Mem) : Int32 :=
  (FX9_within p1 0 ((jshl 1 (u 1 6)) - 1))
def FX9_isFewErrands (p1 : Int32) (u : Mem) : Int32 :=
  (if (FX9_areErrands p1 u) = 0 then 0 else (if 5 < (bitCount p1) then 0 else 1))
def FX9_roundLack (p1 : Int32) (p2 : Int32) (u : Mem) : Option (Int32) :=
  (if (FX2_hasCarrier 1 p1 u) = 0 then some (-1000001) else (if (FX9_isFewErrands p2 u) = 0 then some (-1000001) else Option.bind (FX2_allLie 1 p2 u) (fun q1 => (if q1 = 0 then some (-1000005) else Option.bind (FX2_carriedBy 1 p1 u) (fun q2 => (if q2 = 0 then some 0 else some (-1000005)))))))
def FX9_yardsOfRound (p1 : Nat) (p2 : Int32) (p3 : Int32) (u : Mem) : Option (Int32 × Mem) :=
  (if inb p2 6 then Option.bind (FX4_find p1 p2 (u (p1 + 12 + (p2).toNatClampNeg) 0) p3 u) (fun q2 => Option.bind (FX4_yardsOfPart p3 q2) (fun q3 => some (q3, q2))) else none)
def FX9_round (p1 : Int32) (p2 : Int32) (u : Mem) : Option (Int32 × Mem) :=
  Option.bind (FX9_roundLack p1 p2 u) (fun q1 => (if q1 = 0 then Option.bind (FX9_yardsOfRound 1 p1 p2 u) (fun q2 => Option.bind (FX9_orNone q2.1 q2.2) (fun q3 => some (q3.1, q3.2))) else Option.bind (FX9_finding q1 u) (fun q4 => some (q4.1, q4.2))))
def BX9_gets_28 (p1 : Int32) (p2 : Int32) (w : Mem) (rec28 : (Int32) → Option (Nat × Int32)) (x28 : (Int32)) : Option (Nat × Int32) :=
  (if (w 1 6) ≤ x28 then some (1, x28) else (if (FX9_has p2 x28) = 0 then rec28 (x28 + 1) else Option.bind (FX2_worthOf 1 x28 w) (fun q2 => (if q2 < 1000000 then rec28 (x28 + 1) else some (0, x28)))))
def FX9_gets (p1 : Int32) (p2 : Int32) (u : Mem) : Option (Int32 × Mem) :=
  (if (FX2_hasCarrier 1 p1 u) = 0 then Option.bind (FX9_finding (-1000001) u) (fun q1 => some (q1.1, q1.2)) else (if (FX9_isFewErrands p2 u) = 0 then Option.bind (FX9_finding (-1000001) u) (fun q9 => some (q9.1, q9.2)) else Option.bind (lp (BX9_gets_28 p1 p2 u) FU 0) (fun q28_6 => (if q28_6.1 = 0 then Option.bind (FX9_finding (-1000004) u) (fun q7 => some (q7.1, q7.2)) else (Option.bind (FX2_payOf 1 p1 p2 u) (fun q8 => some (q8, u)))))))
def FX9_buyingLack (p1 : Int32) (p2 : Int32) (u : Mem) : Option (Int32) :=
  (if (FX2_hasCarrier 1 p1 u) = 0 then some (-1000001) else (if (FX2_hasWare 1 p2 u) = 0 then some (-1000001) else (if inb p2 6 then (if (u (1 + 26 + (p2).toNatClampNeg) 1) = (-1) then Option.bind (FX2_carriedBy 1 p1 u) (fun q2 => (if q2 = 0 then some 0 else some (-1000005))) else some (-1000005)) else none)))
def BX9_shortestEarning_44 (p1 : Int32) (p2 : Int32) (v3 : Int32) (v4 : Int32) (rec44 : (Int32 × Int32 × Mem) → Option (Int32 × Int32 × Mem)) (x44 : (Int32 × Int32 × Mem)) : Option (Int32 × Int32 × Mem) :=
  (if v4 < x44.2.1 then some (x44.1, x44.2.1, x44.2.2) else (if (x44.2.1 &&& (v4 ^^^ (-1))) = 0 then (if 5 < (bitCount x44.2.1) then rec44 (x44.1, (x44.2.1 + 1), x44.2.2) else Option.bind (FX2_paysJust 1 p1 x44.2.1 v3 x44.2.2) (fun q4 => (if q4 = 0 then rec44 (x44.1, (x44.2.1 + 1), x44.2.2) else Option.bind (FX9_yardsOfRound 1 p1 x44.2.1 x44.2.2) (fun q5 => rec44 ((jmin x44.1 ((q5.1 * 256) + x44.2.1)), (x44.2.1 + 1), q5.2))))) else rec44 (x44.1, (x44.2.1 + 1), x44.2.2)))
def FX9_shortestEarning (p1 : Int32) (p2 : Int32) (u : Mem) : Option (Int32 × Mem) :=
  (if inb p2 6 then (if inb p1 6 then Option.bind (FX2_ableSet 1 p1 u) (fun q3 => Option.bind (lp (BX9_shortestEarning_44 p1 p2 ((u (1 + 26 + (p2).toNatClampNeg) 0) - (u (1 + 12 + (p1).toNatClampNeg) 3)) q3) FU (256000000, 0, u)) (fun q44_10 => some (q44_10.1, q44_10.2.2))) else none) else none)
def FX9_cheapest (p1 : Int32) (p2 : Int32) (u : Mem) : Option (Int32 × Mem) :=
  Option.bind (FX9_buyingLack p1 p2 u) (fun q1 => (if q1 = 0 then Option.bind (FX9_shortestEarning p1 p2 u) (fun q2 => Option.bind (FX9_orNone (q2.1 / 256) q2.2) (fun q3 => some (q3.1, q3.2))) else Option.bind (FX9_finding q1 u) (fun q4 => some (q4.1, q4.2))))
def FX9_secondOrNone (p1 : Int32) (u : Mem) : Option (Int32 × Mem) :=
  (if (p1 / 256) < 1000000 then some ((jrem p1 256), u) else Option.bind (FX9_finding (-1000004) u) (fun q1 => some (q1.1, q1.2)))
def FX9_which (p1 : Int32) (p2 : Int32) (u : Mem) : Option (Int32 × Mem) :=
  Option.bind (FX9_buyingLack p1 p2 u) (fun q1 => (if q1 = 0 then Option.bind (FX9_shortestEarning p1 p2 u) (fun q2 => Option.bind (FX9_secondOrNone q2.1 q2.2) (fun q3 => some (q3.1, q3.2))) else Option.bind (FX9_finding q1 u) (fun q4 => some (q4.1, q4.2))))
def BX9_who_39 (p1 : Int32) (rec39 : (Int32 × Int32 × Mem) → Option (Int32 × Int32 × Mem)) (x39 : (Int32 × Int32 × Mem)) : Option (Int32 × Int32 × Mem) :=
  (if (x39.2.2 1 5) ≤ x39.2.1 then some (x39.1, x39.2.1, x39.2.2) else Option.bind (FX2_carriedBy 1 x39.2.1 x39.2.2) (fun q2 => (if q2 = 0 then Option.bind (FX9_yardsOfRound 1 x39.2.1 p1 x39.2.2) (fun q3 => rec39 ((jmin x39.1 ((q3.1 * 256) + x39.2.1)), (x39.2.1 + 1), q3.2)) else rec39 (x39.1, (x39.2.1 + 1), x39.2.2))))
def FX9_who (p1 : Int32) (u : Mem) : Option (Int32 × Mem) :=
  (if (FX9_isFewErrands p1 u) = 0 then Option.bind (FX9_finding (-1000001) u) (fun q10 => some (q10.1, q10.2)) else Option.bind (FX2_allLie 1 p1 u) (fun q1 => (if q1 = 0 then Option.bind (FX9_finding (-1000005) u) (fun q8 => some (q8.1, q8.2)) else Option.bind (lp (BX9_who_39 p1) FU (256000000, 0, u)) (fun q39_6 => Option.bind (FX9_secondOrNone q39_6.1 q39_6.2.2) (fun q7 => some (q7.1, q7.2))))))
def BX9_joined_49 (p1 : Int32) (p2 : Int32) (v3 : Int32) (v4 : Int32) (w : Mem) (rec49 : (Int32 × Int32) → Option (Int32 × Int32)) (x49 : (Int32 × Int32)) : Option (Int32 × Int32) :=
  (if (w 1 6) ≤ x49.2 then some (x49.1, x49.2) else (if (FX9_has p2 x49.2) = 0 then rec49 (x49.1, (x49.2 + 1)) else Option.bind (FX4_yardsOfPart (jshl 1 x49.2) w) (fun q3 => (if inb x49.2 8 then Option.bind (FX2_yardsTo 1 p1 (w (1 + 18 + (x49.2).toNatClampNeg) 2) w) (fun q5 => rec49 ((x49.1 + (q3 + q5)), (x49.2 + 1))) else none))))
def FX9_joined (p1 : Int32) (p2 : Int32) (u : Mem) : Option (Int32 × Mem) :=
  Option.bind (FX9_roundLack p1 p2 u) (fun q1 => (if q1 = 0 then Option.bind (FX9_yardsOfRound 1 p1 p2 u) (fun q2 => (if q2.1 < 1000000 then Option.bind (lp (BX9_joined_49 p1 p2 q1 q2.1 q2.2) FU (0, 0)) (fun q49_8 => some ((q49_8.1 - q2.1), q2.2)) else Option.bind (FX9_finding (-1000004) q2.2) (fun q9 => some (q9.1, q9.2)))) else Option.bind (FX9_finding q1 u) (fun q11 => some (q11.1, q11.2))))
def FX9_sharingLack (p1 : Int32) (p2 : Int32) (p3 : Int32) (u : Mem) : Option (Int32) :=
  (if p1 = p2 then some (-1000001) else (if (FX2_hasCarrier 1 p2 u) = 0 then some (-1000001) else Option.bind (FX9_roundLack p1 p3 u) (fun q1 => (if q1 = 0 then Option.bind (FX2_carriedBy 1 p2 u) (fun q2 => (if q2 = 0 then some 0 else some (-1000005))) else some q1))))
def BX9_shortestShare_28 (p1 : Int32) (p2 : Int32) (p3 : Int32) (rec28 : (Int32 × Mem) → Option (Int32 × Mem)) (x28 : (Int32 × Mem)) : Option (Int32 × Mem) :=
  (if p3 < x28.1 then some (x28.1, x28.2) else (if (x28.1 &&& (p3 ^^^ (-1))) = 0 then Option.bind (FX4_yardsOfPart x28.1 x28.2) (fun q3 => (if inb x28.1 256 then rec28 ((x28.1 + 1), (mst x28.2 103 (x28.1).toNatClampNeg q3)) else none)) else rec28 ((x28.1 + 1), x28.2)))
def BX9_shortestShare_98 (p1 : Int32) (p2 : Int32) (p3 : Int32) (w : Mem) (rec98 : (Int32 × Int32) → Option (Int32 × Int32)) (x98 : (Int32 × Int32)) : Option (Int32 × Int32) :=
  (if p3 < x98.2 then some (x98.1, x98.2) else (if (x98.2 &&& (p3 ^^^ (-1))) = 0 then (if inb x98.2 256 then Option.bind (FX4_yardsOfPart (p3 &&& (x98.2 ^^^ (-1))) w) (fun q11 => rec98 ((jmin x98.1 ((((w 103 (x98.2).toNatClampNeg) + q11) * 256) + x98.2)), (x98.2 + 1))) else none) else rec98 (x98.1, (x98.2 + 1))))
def FX9_shortestShare (p1 : Int32) (p2 : Int32) (p3 : Int32) (u : Mem) : Option (Int32 × Mem) :=
  (if inb p1 6 then Option.bind (FX4_find 1 p1 (u (1 + 12 + (p1).toNatClampNeg) 0) p3 u) (fun q2 => Option.bind (lp (BX9_shortestShare_28 p1 p2 p3) FU (0, q2)) (fun q28_7 => (if inb p2 6 then Option.bind (FX4_find 1 p2 (q28_7.2 (1 + 12 + (p2).toNatClampNeg) 0) p3 q28_7.2) (fun q9 => Option.bind (lp (BX9_shortestShare_98 p1 p2 p3 q9) FU (256000000, 0)) (fun q98_14 => some (q98_14.1, q9))) else none))) else none)
def FX9_shared (p1 : Int32) (p2 : Int32) (p3 : Int32) (u : Mem) : Option (Int32 × Mem) :=
  Option.bind (FX9_sharingLack p1 p2 p3 u) (fun q1 => (if q1 = 0 then Option.bind (FX9_shortestShare p1 p2 p3 u) (fun q2 => Option.bind (FX9_orNone (q2.1 / 256) q2.2) (fun q3 => some (q3.1, q3.2))) else Option.bind (FX9_finding q1 u) (fun q4 => some (q4.1, q4.2))))
def FX9_part (p1 : Int32) (p2 : Int32) (p3 : Int32) (u : Mem) : Option (Int32 × Mem) :=
  Option.bind (FX9_sharingLack p1 p2 p3 u) (fun q1 => (if q1 = 0 then Option.bind (FX9_shortestShare p1 p2 p3 u) (fun q2 => Option.bind (FX9_secondOrNone q2.1 q2.2) (fun q3 => some (q3.1, q3.2))) else Option.bind (FX9_finding q1 u) (fun q4 => some (q4.1, q4.2))))
def BX9_strength_49 (p1 : Int32) (p2 : Int32) (v3 : Int32) (v4 : Int32) (w : Mem) (rec49 : (Int32) → Option (Nat × Int32)) (x49 : (Int32)) : Option (Nat × Int32) :=
  (if 99 < x49 then some (1, x49) else (if inb p1 6 then (if (FX3_canBear (w (1 + 12 + (p1).toNatClampNeg) 0) x49) < v4 then rec49 (x49 + 1) else some (0, x49)) else none))
def FX9_strength (p1 : Int32) (p2 : Int32) (u : Mem) : Option (Int32 × Mem) :=
  Option.bind (FX9_roundLack p1 p2 u) (fun q1 => (if q1 = 0 then Option.bind (FX2_canComeToAll 1 p1 p2 u) (fun q2 => (if q2 = 0 then Option.bind (FX9_finding (-1000004) u) (fun q9 => some (q9.1, q9.2)) else Option.bind (FX2_heaviestOf 1 p2 u) (fun q3 => Option.bind (lp (BX9_strength_49 p1 p2 q1 q3 u) FU 1) (fun q49_7 => (if q49_7.1 = 0 then some (q49_7.2, u) else (Option.bind (FX9_finding (-1000004) u) (fun q8 => some (q8.1, q8.2)))))))) else Option.bind (FX9_finding q1 u) (fun q11 => some (q11.1, q11.2))))
def BX9_kindFor_25 (p1 : Int32) (p2 : Int32) (v3 : Int32) (rec25 : (Int32 × Int32 × Mem) → Option (Int32 × Int32 × Mem)) (x25 : (Int32 × Int32 × Mem)) : Option (Int32 × Int32 × Mem) :=
  (if 6 < x25.2.1 then some (x25.1, x25.2.1, x25.2.2) else Option.bind (FX4_find 1 p1 x25.2.1 p2 x25.2.2) (fun q2 => Option.bind (FX4_yardsOfPart p2 q2) (fun q3 => rec25 ((jmin x25.1 ((q3 * 256) + x25.2.1)), (x25.2.1 + 1), q2))))
def FX9_kindFor (p1 : Int32) (p2 : Int32) (u : Mem) : Option (Int32 × Mem) :=
  Option.bind (FX9_roundLack p1 p2 u) (fun q1 => (if q1 = 0 then Option.bind (lp (BX9_kindFor_25 p1 p2 q1) FU (256000000, 0, u)) (fun q25_5 => Option.bind (FX9_secondOrNone q25_5.1 q25_5.2.2) (fun q6 => some (q6.1, q6.2))) else Option.bind (FX9_finding q1 u) (fun q7 => some (q7.1, q7.2))))
def BX9_shortestByBridge_31 (p1 : Int32) (p2 : Int32) (v4 : Int32) (rec31 : (Int32 × Int32 × Mem) → Option (Int32 × Int32 × Mem)) (x31 : (Int32 × Int32 × Mem)) : Option (Int32 × Int32 × Mem) :=
  (if 7 ≤ x31.2.1 then some (x31.1, x31.2.1, x31.2.2) else Option.bind (FX8_yardsOf (1 + 4) v4 x31.2.1 x31.2.2) (fun q2 => (if q2 ≤ 0 then rec31 (x31.1, (x31.2.1 + 1), x31.2.2) else Option.bind (FX8_riverOf (1 + 4) v4 x31.2.1 x31.2.2) (fun q3 => (if q3 = 1 then Option.bind (FX8_lay (65 + 4) v4 x31.2.1 q2 0 x31.2.2) (fun q4 => Option.bind (FX8_measure (65 + 4) q4) (fun q5 => Option.bind (FX9_yardsOfRound 65 p1 p2 q5) (fun q6 => Option.bind (FX8_lay (65 + 4) v4 x31.2.1 q2 1 q6.2) (fun q7 => rec31 ((jmin x31.1 (((q6.1 * 256) + (10 * v4)) + x31.2.1)), (x31.2.1 + 1), q7))))) else rec31 (x31.1, (x31.2.1 + 1), x31.2.2))))))
def BX9_shortestByBridge_18 (p1 : Int32) (p2 : Int32) (rec18 : (Int32 × Int32 × Mem) → Option (Int32 × Int32 × Mem)) (x18 : (Int32 × Int32 × Mem)) : Option (Int32 × Int32 × Mem) :=
  (if 7 ≤ x18.2.1 then some (x18.1, x18.2.1, x18.2.2) else Option.bind (lp (BX9_shortestByBridge_31 p1 p2 x18.2.1) FU (x18.1, (x18.2.1 + 1), x18.2.2)) (fun q31_11 => rec18 (q31_11.1, (x18.2.1 + 1), q31_11.2.2)))
def FX9_shortestByBridge (p1 : Int32) (p2 : Int32) (u : Mem) : Option (Int32 × Mem) :=
  Option.bind (FX2_become 65 1 u) (fun q1 => Option.bind (lp (BX9_shortestByBridge_18 p1 p2) FU (256000000, 0, q1)) (fun q18_13 => some (q18_13.1, q18_13.2.2)))
def FX9_bridge (p1 : Int32) (p2 : Int32) (u : Mem) : Option (Int32 × Mem) :=
  Option.bind (FX9_roundLack p1 p2 u) (fun q1 => (if q1 = 0 then Option.bind (FX9_shortestByBridge p1 p2 u) (fun q2 => Option.bind (FX9_secondOrNone q2.1 q2.2) (fun q3 => some (q3.1, q3.2))) else Option.bind (FX9_finding q1 u) (fun q4 => some (q4.1, q4.2))))
def FX9_worth (p1 : Int32) (p2 : Int32) (u : Mem) : Option (Int32 × Mem) :=
  Option.bind (FX9_roundLack p1 p2 u) (fun q1 => (if q1 = 0 then Option.bind (FX9_shortestByBridge p1 p2 u) (fun q2 => Option.bind (FX9_yardsOfRound 1 p1 p2 q2.2) (fun q3 => (if 1000000 ≤ (q2.1 / 256) then Option.bind (FX9_finding (-1000004) q3.2) (fun q4 => some (q4.1, q4.2)) else (if q3.1 < 1000000 then some ((q3.1 - (q2.1 / 256)), q3.2) else Option.bind (FX9_finding (-1000004) q3.2) (fun q5 => some (q5.1, q5.2)))))) else Option.bind (FX9_finding q1 u) (fun q8 => some (q8.1, q8.2))))
def BX9_reach_22 (p1 : Int32) (w : Mem) (rec22 : (Int32 × Int32) → Option (Int32 × Int32)) (x22 : (Int32 × Int32)) : Option (Int32 × Int32) :=
  (if 7 ≤ x22.2 then some (x22.1, x22.2) else Option.bind (FX2_yardsTo 1 p1 x22.2 w) (fun q1 => (if 1000000 ≤ q1 then rec22 (x22.1, (x22.2 + 1)) else rec22 ((x22.1 ||| (jshl 1 x22.2)), (x22.2 + 1)))))
def FX9_reach (p1 : Int32) (u : Mem) : Option (Int32 × Mem) :=
  (if (FX2_hasCarrier 1 p1 u) = 0 then Option.bind (FX9_finding (-1000001) u) (fun q5 => some (q5.1, q5.2)) else Option.bind (lp (BX9_reach_22 p1 u) FU (0, 0)) (fun q22_4 => some (q22_4.1, u)))
def BX9_middle_24 (p1 : Int32) (w : Mem) (rec24 : (Int32 × Int32) → Option (Int32 × Int32)) (x24 : (Int32 × Int32)) : Option (Int32 × Int32) :=
  (if 7 ≤ x24.2 then some (x24.1, x24.2) else Option.bind (FX8_hasAny (1 + 4) x24.2 w) (fun q1 => (if q1 = 0 then rec24 (x24.1, (x24.2 + 1)) else (if inb p1 6 then Option.bind (FX8_farthest (1 + 4) (w (1 + 12 + (p1).toNatClampNeg) 0) x24.2 w) (fun q3 => rec24 ((jmin x24.1 ((q3 * 256) + x24.2)), (x24.2 + 1))) else none))))
def FX9_middle (p1 : Int32) (u : Mem) : Option (Int32 × Mem) :=
  (if (FX2_hasCarrier 1 p1 u) = 0 then Option.bind (FX9_finding (-1000001) u) (fun q8 => some (q8.1, q8.2)) else Option.bind (lp (BX9_middle_24 p1 u) FU (256000000, 0)) (fun q24_6 => Option.bind (FX9_secondOrNone q24_6.1 u) (fun q7 => some (q7.1, q7.2))))
def BX9_heavy_65 (p1 : Int32) (p2 : Int32) (v3 : Int32) (w : Mem) (rec65 : (Int32 × Int32) → Option (Int32 × Int32)) (x65 : (Int32 × Int32)) : Option (Int32 × Int32) :=
  (if (w 1 6) ≤ x65.2 then some (x65.1, x65.2) else (if (FX9_has p2 x65.2) = 0 then rec65 (x65.1, (x65.2 + 1)) else (if inb x65.2 8 then (if ((w (1 + 18 + (x65.2).toNatClampNeg) 0) / 2) ≤ v3 then rec65 (x65.1, (x65.2 + 1)) else rec65 ((x65.1 ||| (jshl 1 x65.2)), (x65.2 + 1))) else none)))
def FX9_heavy (p1 : Int32) (p2 : Int32) (u : Mem) : Option (Int32 × Mem) :=
  (if (FX2_hasCarrier 1 p1 u) = 0 then Option.bind (FX9_finding (-1000001) u) (fun q1 => some (q1.1, q1.2)) else (if (FX9_areErrands p2 u) = 0 then Option.bind (FX9_finding (-1000001) u) (fun q11 => some (q11.1, q11.2)) else (if inb p1 6 then Option.bind (FX2_weightOf 1 p2 u) (fun q3 => (if 0 ≤ ((FX0_canBear (1 + 12 + (p1).toNatClampNeg) u) - q3) then Option.bind (lp (BX9_heavy_65 p1 p2 ((FX0_canBear (1 + 12 + (p1).toNatClampNeg) u) - q3) u) FU (0, 0)) (fun q65_8 => some (q65_8.1, u)) else Option.bind (FX9_finding (-1000005) u) (fun q9 => some (q9.1, q9.2)))) else none)))
def FX9_dayLack (p1 : Int32) (u : Mem) : Int32 :=
  (if (FX9_within p1 1 12) = 0 then (-1000001) else (if (u 1 5) ≤ 0 then (-1000005) else 0))
def FX9_day (p1 : Int32) (u : Mem) : Option (Int32 × Mem) :=
  (if (FX9_dayLack p1 u) = 0 then Option.bind (FX2_turns 1 p1 u) (fun q1 => some (q1.1, q1.2)) else Option.bind (FX9_finding (FX9_dayLack p1 u) u) (fun q2 => some (q2.1, q2.2)))
def FX9_ahead (p1 : Int32) (u : Mem) : Option (Int32 × Mem) :=
  (if (FX9_dayLack p1 u) = 0 then Option.bind (FX2_become 65 1 u) (fun q1 => Option.bind (FX2_turns 65 p1 q1) (fun q2 => some (q2.1, q2.2))) else Option.bind (FX9_finding (FX9_dayLack p1 u) u) (fun q3 => some (q3.1, q3.2)))
def FX9_seed (p1 : Int32) (u : Mem) : Int32 × Mem :=
  ((u 1 8), (mst u 1 8 p1))
def BX9_feed_41 (p1 : Int32) (p2 : Int32) (rec41 : (Int32 × Mem) → Option (Int32 × Mem)) (x41 : (Int32 × Mem)) : Option (Int32 × Mem) :=
  (if x41.1 < 0 then some (x41.1, x41.2) else Option.bind (FX6_add ((jushr p1 (8 * x41.1)) &&& 255) x41.2) (fun q1 => rec41 ((x41.1 + (-1)), q1)))
def FX9_feed (p1 : Int32) (p2 : Int32) (u : Mem) : Option (Int32 × Mem) :=
  (if (FX9_within p2 1 4) = 0 then Option.bind (FX9_finding (-1000001) u) (fun q6 => some (q6.1, q6.2)) else (if ((u 104 1) + p2) ≤ 120 then Option.bind (lp (BX9_feed_41 p1 p2) FU ((p2 - 1), u)) (fun q41_3 => some ((q41_3.2 104 1), q41_3.2)) else Option.bind (FX9_finding (-1000002) u) (fun q4 => some (q4.1, q4.2))))
def FX9_wipe (u : Mem) : Int32 × Mem :=
  ((u 104 1), (mst u 104 1 0))
def FX9_text (u : Mem) : Option (Int32 × Mem) :=
  Option.bind (FX2_become 65 1 u) (fun q1 => Option.bind (FX6_tellTo 65 q1) (fun q2 => (if q2.1 ≤ 0 then some (q2.1, (mst q2.2 104 1 0)) else Option.bind (FX2_become 1 65 (mst q2.2 104 1 0)) (fun q3 => some (q2.1, q3)))))
def FX9_hold (p1 : Int32) (p2 : Int32) (u : Mem) : Option (Int32 × Mem) :=
  (if (FX9_within p1 0 9) = 0 then Option.bind (FX9_finding (-1000001) u) (fun q1 => some (q1.1, q1.2)) else (if p2 = (-1) then (if inb p1 10 then some (1, (mst u (1 + 11) (p1).toNatClampNeg p2)) else none) else (if (FX2_hasCarrier 1 p2 u) = 0 then Option.bind (FX9_finding (-1000001) u) (fun q4 => some (q4.1, q4.2)) else (if inb p1 10 then some (1, (mst u (1 + 11) (p1).toNatClampNeg p2)) else none))))
def FX9_as (p1 : Int32) (p2 : Int32) (u : Mem) : Option (Int32 × Mem) :=
  (if (FX9_within p1 0 9) = 0 then Option.bind (FX9_finding (-1000001) u) (fun q1 => some (q1.1, q1.2)) else (if (FX9_within p2 0 6) = 0 then Option.bind (FX9_finding (-1000001) u) (fun q9 => some (q9.1, q9.2)) else (if inb p1 10 then (if (FX2_hasCarrier 1 (u (1 + 11) (p1).toNatClampNeg) u) = 0 then Option.bind (FX9_finding (-1000006) u) (fun q7 => some (q7.1, q7.2)) else (if inb (u (1 + 11) (p1).toNatClampNeg) 6 then Option.bind (FX3_isUnder (u (1 + 12 + (u (1 + 11) (p1).toNatClampNeg).toNatClampNeg) 0) p2 u) (fun q4 => (if q4 = 0 then Option.bind (FX9_finding (-1000003) u) (fun q5 => some (q5.1, q5.2)) else some ((u (1 + 11) (p1).toNatClampNeg), u))) else none)) else none)))
def FX9_isSheet (p0 : Int32) : Int32 :=
  (FX9_within p0 0 3)
def JX9_sheet_36 (p1 : Int32) (p2 : Int32) (p3 : Int32) (w : Mem) : Option (Int32 × Mem) :=
  (if 0 ≤ p3 then (if p3 ≤ 40 then (if inb p1 4 then Option.bind (FX5_begin (108 + 2 * (p1).toNatClampNeg) p2 p3 w) (fun q3 => (if inb p1 4 then some ((q3 (108 + 2 * (p1).toNatClampNeg) 2), q3) else none)) else none) else Option.bind (FX9_finding (-1000001) w) (fun q5 => some (q5.1, q5.2))) else Option.bind (FX9_finding (-1000007) w) (fun q7 => some (q7.1, q7.2)))
def FX9_sheet (p1 : Int32) (p2 : Int32) (p3 : Int32) (u : Mem) : Option (Int32 × Mem) :=
  (if (FX9_isSheet p1) = 0 then Option.bind (FX9_finding (-1000001) u) (fun q1 => some (q1.1, q1.2)) else (if p2 = 0 then JX9_sheet_36 p1 p2 p3 u else (if p2 = 8 then JX9_sheet_36 p1 p2 p3 u else (if p2 = 16 then JX9_sheet_36 p1 p2 p3 u else (if p2 = 32 then JX9_sheet_36 p1 p2 p3 u else Option.bind (FX9_finding (-1000001) u) (fun q9 => some (q9.1, q9.2)))))))
def FX9_write (p1 : Int32) (p2 : Int32) (p3 : Int32) (u : Mem) : Option (Int32 × Mem) :=
  (if (FX9_isSheet p1) = 0 then Option.bind (FX9_finding (-1000001) u) (fun q9 => some (q9.1, q9.2)) else (if inb p1 4 then (if (FX5_isMissing (108 + 2 * (p1).toNatClampNeg) u) = 0 then (if inb p1 4 then (if (FX9_within p2 0 ((u (108 + 2 * (p1).toNatClampNeg) 2) - 1)) = 0 then Option.bind (FX9_finding (-1000001) u) (fun q5 => some (q5.1, q5.2)) else (if inb p1 4 then Option.bind (FX5_put (108 + 2 * (p1).toNatClampNeg) p2 p3 u) (fun q4 => some (1, q4)) else none)) else none) else Option.bind (FX9_finding (-1000006) u) (fun q7 => some (q7.1, q7.2))) else none))
def FX9_copy (p1 : Int32) (p2 : Int32) (p3 : Int32) (p4 : Int32) (p5 : Int32) (u : Mem) : Option (Int32 × Mem) :=
  (if (FX9_isSheet p1) = 0 then Option.bind (FX9_finding (-1000001) u) (fun q1 => some (q1.1, q1.2)) else (if (FX9_isSheet p3) = 0 then Option.bind (FX9_finding (-1000001) u) (fun q22 => some (q22.1, q22.2)) else (if inb p1 4 then (if (FX5_isMissing (108 + 2 * (p1).toNatClampNeg) u) = 0 then (if inb p3 4 then (if (FX5_isMissing (108 + 2 * (p3).toNatClampNeg) u) = 0 then (if inb p1 4 then (if inb p3 4 then (if (u (108 + 2 * (p1).toNatClampNeg) 1) = (u (108 + 2 * (p3).toNatClampNeg) 1) then (if inb p1 4 then (if (FX5_hasFrom (108 + 2 * (p1).toNatClampNeg) p2 p5 u) = 0 then Option.bind (FX9_finding (-1000001) u) (fun q8 => some (q8.1, q8.2)) else (if inb p3 4 then (if (FX5_hasFrom (108 + 2 * (p3).toNatClampNeg) p4 p5 u) = 0 then Option.bind (FX9_finding (-1000001) u) (fun q14 => some (q14.1, q14.2)) else (if inb p1 4 then (if inb p3 4 then (if ¬ p2 < 0 ∧ ¬ p4 < 0 ∧ ¬ p5 < 0 ∧ (p2).toNatClampNeg + (p5).toNatClampNeg ≤ 40 ∧ (p4).toNatClampNeg + (p5).toNatClampNeg ≤ 40 then nm (mcp u ((108 + 2 * (p1).toNatClampNeg) + 1) ((108 + 2 * (p3).toNatClampNeg) + 1) (p2).toNatClampNeg (p4).toNatClampNeg (p5).toNatClampNeg) (fun w13 => some (p5, w13)) else none) else none) else none)) else none)) else none) else Option.bind (FX9_finding (-1000003) u) (fun q17 => some (q17.1, q17.2))) else none) else none) else Option.bind (FX9_finding (-1000006) u) (fun q19 => some (q19.1, q19.2))) else none) else Option.bind (FX9_finding (-1000006) u) (fun q3 => some (q3.1, q3.2))) else none)))
def BX9_load_56 (p1 : Int32) (v3 : Int32) (rec56 : (Int32 × Mem) → Option (Int32 × Mem)) (x56 : (Int32 × Mem)) : Option (Int32 × Mem) :=
  (if v3 ≤ x56.1 then some (x56.1, x56.2) else (if inb p1 4 then (if inb x56.1 40 then (if (FX9_within (x56.2 ((108 + 2 * (p1).toNatClampNeg) + 1) (x56.1).toNatClampNeg) 1 9999) = 0 then some (x56.1, x56.2) else (if inb x56.1 6 then (if inb p1 4 then (if inb x56.1 40 then nm (mst x56.2 (1 + 26 + (x56.1).toNatClampNeg) 0 (x56.2 ((108 + 2 * (p1).toNatClampNeg) + 1) (x56.1).toNatClampNeg)) (fun w8 => rec56 ((x56.1 + 1), w8)) else none) else none) else none)) else none) else none))
def FX9_load (p1 : Int32) (u : Mem) : Option (Int32 × Mem) :=
  (if (FX9_isSheet p1) = 0 then Option.bind (FX9_finding (-1000001) u) (fun q14 => some (q14.1, q14.2)) else (if inb p1 4 then (if (FX5_isMissing (108 + 2 * (p1).toNatClampNeg) u) = 0 then (if inb p1 4 then Option.bind (lp (BX9_load_56 p1 (jmin (u (108 + 2 * (p1).toNatClampNeg) 2) (u 1 7))) FU (0, u)) (fun q56_11 => some (q56_11.1, q56_11.2)) else none) else Option.bind (FX9_finding (-1000006) u) (fun q12 => some (q12.1, q12.2))) else none))
def BX9_judge_76 (p1 : Int32) (p2 : Int32) (rec76 : (Int32 × Int32 × Mem) → Option (Nat × Int32 × Int32 × Mem)) (x76 : (Int32 × Int32 × Mem)) : Option (Nat × Int32 × Int32 × Mem) :=
  (if inb p1 4 then (if (x76.2.2 (108 + 2 * (p1).toNatClampNeg) 2) ≤ x76.2.1 then some (1, x76.1, x76.2.1, x76.2.2) else (if inb p1 4 then (if inb x76.2.1 40 then (if (FX9_isPlace (x76.2.2 ((108 + 2 * (p1).toNatClampNeg) + 1) (x76.2.1).toNatClampNeg)) = 0 then some (0, x76.1, x76.2.1, x76.2.2) else Option.bind (FX2_yardsTo 65 p2 (x76.2.2 ((108 + 2 * (p1).toNatClampNeg) + 1) (x76.2.1).toNatClampNeg) x76.2.2) (fun q7 => (if q7 < 1000000 then Option.bind (FX2_go 65 p2 (x76.2.2 ((108 + 2 * (p1).toNatClampNeg) + 1) (x76.2.1).toNatClampNeg) x76.2.2) (fun q8 => Option.bind (FX2_takeUpAll 65 p2 q8.2) (fun q9 => rec76 ((x76.1 + q8.1), (x76.2.1 + 1), q9))) else some (0, x76.1, x76.2.1, x76.2.2)))) else none) else none)) else none)
def FX9_judge (p1 : Int32) (p2 : Int32) (u : Mem) : Option (Int32 × Mem) :=
  (if (FX9_isSheet p1) = 0 then Option.bind (FX9_finding (-1000001) u) (fun q19 => some (q19.1, q19.2)) else (if inb p1 4 then (if (FX5_isMissing (108 + 2 * (p1).toNatClampNeg) u) = 0 then (if (FX2_hasCarrier 1 p2 u) = 0 then Option.bind (FX9_finding (-1000001) u) (fun q15 => some (q15.1, q15.2)) else Option.bind (FX2_become 65 1 u) (fun q2 => Option.bind (FX2_takeUpAll 65 p2 q2) (fun q3 => Option.bind (lp (BX9_judge_76 p1 p2) FU (0, 0, q3)) (fun q76_13 => (if q76_13.1 = 0 then Option.bind (FX9_finding (-1000004) q76_13.2.2.2) (fun q14 => some (q14.1, q14.2)) else (some (q76_13.2.1, q76_13.2.2.2))))))) else Option.bind (FX9_finding (-1000006) u) (fun q17 => some (q17.1, q17.2))) else none))
def FX9_image (u : Mem) : Option (Int32 × Mem) :=
  Option.bind (FX2_become 33 1 u) (fun q1 => some (1, (mst q1 0 8 1)))
def FX9_undo (u : Mem) : Option (Int32 × Mem) :=
  (if (u 0 8) = 0 then Option.bind (FX9_finding (-1000004) u) (fun q2 => some (q2.1, q2.2)) else Option.bind (FX2_become 1 33 u) (fun q1 => some ((q1 1 6), q1)))
def FX9_tear (u : Mem) : Int32 × Mem :=
  (if (u 0 8) = 0 then (0, (mst u 0 8 0)) else (1, (mst u 0 8 0)))
def FX9_count (p1 : Int32) (u : Mem) : Option (Int32 × Mem) :=
  (if p1 = 0 then some ((u 1 5), u) else (if p1 = 1 then some ((u 1 6), u) else (if p1 = 2 then some ((u 1 7), u) else (if p1 = 3 then Option.bind (FX2_earnedByAll 1 u) (fun q5 => some (q5, u)) else (if p1 = 4 then Option.bind (FX2_walkedByAll 1 u) (fun q7 => some (q7, u)) else (if p1 = 5 then some ((u 104 1), u) else (if p1 = 6 then some ((u 1 8), u) else (if p1 = 7 then Option.bind (FX2_heldSpots 1 u) (fun q11 => some (q11, u)) else Option.bind (FX9_finding (-1000001) u) (fun q12 => some (q12.1, q12.2))))))))))
def BX9_status_32 (p1 : Int32) (w : Mem) (rec32 : (Int32 × Int32) → Option (Int32 × Int32)) (x32 : (Int32 × Int32)) : Option (Int32 × Int32) :=
  (if 7 ≤ x32.2 then some (x32.1, x32.2) else (if inb x32.2 7 then rec32 ((x32.1 + (w 107 (x32.2).toNatClampNeg)), (x32.2 + 1)) else none))
def FX9_status (p1 : Int32) (u : Mem) : Option (Int32 × Mem) :=
  (if (FX9_within p1 (-1) 6) = 0 then Option.bind (FX9_finding (-1000001) u) (fun q6 => some (q6.1, q6.2)) else (if p1 < 0 then Option.bind (lp (BX9_status_32 p1 u) FU (0, 0)) (fun q32_3 => some (q32_3.1, u)) else (if inb p1 7 then some ((u 107 (p1).toNatClampNeg), u) else none)))
def FX10_finding (p1 : Int32) (u : Mem) : Option (Int32 × Mem) :=
  (if inb (((-1000001) - p1) + 1) 8 then (if inb (((-1000001) - p1) + 1) 8 then nm (mst (mst u 120 ((((-1000001) - p1) + 1).toNatClampNeg) ((u 120 (((-1000001) - p1) + 1).toNatClampNeg) + 1)) 120 0 (((mst u 120 ((((-1000001) - p1) + 1).toNatClampNeg) ((u 120 (((-1000001) - p1) + 1).toNatClampNeg) + 1)) 120 0) + 1)) (fun w3 => some (p1, w3)) else none) else none)
def FX10_within (p0 : Int32) (p1 : Int32) (p2 : Int32) : Int32 :=
  (if p0 < p1 then 0 else (if p2 < p0 then 0 else 1))
def FX10_become (p1 : Int32) (p2 : Int32) (u : Mem) : Option (Int32 × Mem) :=
  (if inb p1 138 then (if inb p1 138 then some ((u 117 (p1).toNatClampNeg), (mst u 117 (p1).toNatClampNeg p2)) else none) else none)
def BX10_copyRow_2 (p0 : Nat) (p1 : Nat) (rec2 : (Int32 × Mem) → Option (Int32 × Mem)) (x2 : (Int32 × Mem)) : Option (Int32 × Mem) :=
  (if 138 ≤ x2.1 then some (x2.1, x2.2) else (if inb x2.1 138 then (if inb x2.1 138 then rec2 ((x2.1 + 1), (mst x2.2 p1 (x2.1).toNatClampNeg (x2.2 p0 (x2.1).toNatClampNeg))) else none) else none))
def FX10_copyRow (p0 : Nat) (p1 : Nat) (u : Mem) : Option (Mem) :=
  Option.bind (lp (BX10_copyRow_2 p0 p1) FU (0, u)) (fun q2_4 => some q2_4.2)
def FX10_putBack (p1 : Int32) (u : Mem) : Option (Int32 × Mem) :=
  Option.bind (FX10_copyRow 119 117 u) (fun q1 => some (p1, q1))
def FX10_has (p0 : Int32) (p1 : Int32) : Int32 :=
  (if ((jshr p0 p1) &&& 1) = 1 then 1 else 0)
def BX10_bits_4 (p0 : Int32) (rec4 : (Int32 × Int32) → Option (Int32 × Int32)) (x4 : (Int32 × Int32)) : Option (Int32 × Int32) :=
  (if x4.2 = 0 then some (x4.1, x4.2) else rec4 ((x4.1 + 1), (x4.2 &&& (x4.2 - 1))))
def FX10_bits (p0 : Int32) : Option (Int32) :=
  Option.bind (lp (BX10_bits_4 p0) FU (0, p0)) (fun q4_2 => some q4_2.1)
def FX10_isPlace (p0 : Int32) : Int32 :=
  (FX10_within p0 0 6)
def FX10_isCarrier (p1 : Int32) (u : Mem) : Int32 :=
  (FX10_within p1 0 ((u 117 42) - 1))
def FX10_isErrand (p1 : Int32) (u : Mem) : Int32 :=
  (FX10_within p1 0 ((u 117 43) - 1))
def FX10_isWare (p1 : Int32) (u : Mem) : Int32 :=
  (FX10_within p1 0 ((u 117 44) - 1))
def FX10_isKind (p0 : Int32) : Int32 :=
  (FX10_within p0 0 6)
def FX10_cAt (p0 : Int32) (p1 : Int32) : Int32 :=
  ((56 + (5 * p0)) + p1)
def FX10_cIs (p1 : Int32) (p2 : Int32) (u : Mem) : Option (Int32) :=
  (if inb (FX10_cAt p1 p2) 138 then some (u 117 (FX10_cAt p1 p2).toNatClampNeg) else none)
def FX10_eAt (p0 : Int32) (p1 : Int32) : Int32 :=
  ((86 + (5 * p0)) + p1)
def FX10_eIs (p1 : Int32) (p2 : Int32) (u : Mem) : Option (Int32) :=
  (if inb (FX10_eAt p1 p2) 138 then some (u 117 (FX10_eAt p1 p2).toNatClampNeg) else none)
def FX10_wAt (p0 : Int32) (p1 : Int32) : Int32 :=
  ((126 + (2 * p0)) + p1)
def FX10_newCarrier (p1 : Int32) (p2 : Int32) (p3 : Int32) (u : Mem) : Option (Int32 × Mem) :=
  (if inb (FX10_cAt (u 117 42) 0) 138 then (if inb (FX10_cAt (u 117 42) 1) 138 then (if inb (FX10_cAt (u 117 42) 2) 138 then nm (mst (mst (mst u 117 ((FX10_cAt (u 117 42) 0).toNatClampNeg) p1) 117 ((FX10_cAt (u 117 42) 1).toNatClampNeg) p2) 117 ((FX10_cAt (u 117 42) 2).toNatClampNeg) p3) (fun w4 => (if inb (FX10_cAt (u 117 42) 3) 138 then (if inb (FX10_cAt (u 117 42) 4) 138 then nm (mst (mst (mst w4 117 ((FX10_cAt (u 117 42) 3).toNatClampNeg) 0) 117 ((FX10_cAt (u 117 42) 4).toNatClampNeg) 0) 117 42 (((mst (mst w4 117 ((FX10_cAt (u 117 42) 3).toNatClampNeg) 0) 117 ((FX10_cAt (u 117 42) 4).toNatClampNeg) 0) 117 42) + 1)) (fun w7 => some ((u 117 42), w7)) else none) else none)) else none) else none) else none)
def FX10_carrier (p1 : Int32) (u : Mem) : Option (Int32 × Mem) :=
  (if (FX10_isKind p1) = 0 then Option.bind (FX10_finding (-1000001) u) (fun q4 => some (q4.1, q4.2)) else (if (u 117 42) = 6 then Option.bind (FX10_finding (-1000002) u) (fun q2 => some (q2.1, q2.2)) else Option.bind (FX10_newCarrier p1 0 20 u) (fun q1 => some (q1.1, q1.2))))
def FX10_above (p0 : Int32) : Int32 :=
  (if p0 = 0 then (-1) else (if p0 = 3 then 1 else (if p0 = 4 then 2 else (if p0 = 6 then 5 else 0))))
def BX10_isUnder_2 (p0 : Int32) (p1 : Int32) (rec2 : (Int32) → Option (Int32)) (x2 : (Int32)) : Option (Int32) :=
  (if x2 < 0 then some x2 else (if x2 = p1 then some x2 else rec2 (FX10_above x2)))
def FX10_isUnder (p0 : Int32) (p1 : Int32) : Option (Int32) :=
  Option.bind (lp (BX10_isUnder_2 p0 p1) FU p0) (fun q2_3 => (if q2_3 < 0 then some 0 else some 1))
def FX10_bears (p1 : Int32) (u : Mem) : Option (Int32) :=
  Option.bind (FX10_cIs p1 0 u) (fun q1 => Option.bind (FX10_cIs p1 2 u) (fun q2 => Option.bind (FX10_isUnder q1 1) (fun q3 => (if q3 = 0 then Option.bind (FX10_isUnder q1 2) (fun q4 => (if q4 = 0 then some q2 else some (2 * q2))) else some (q2 / 2)))))
def FX10_getsFor (p1 : Int32) (p2 : Int32) (u : Mem) : Option (Int32) :=
  Option.bind (FX10_cIs p1 0 u) (fun q1 => (if q1 = 2 then some (p2 / 2) else (if q1 = 3 then some (p2 + (p2 / 10)) else (if q1 = 4 then some ((p2 / 2) + 1) else some p2))))
def BX10_carries_4 (p1 : Int32) (u : Mem) (rec4 : (Int32 × Int32) → Option (Int32 × Int32)) (x4 : (Int32 × Int32)) : Option (Int32 × Int32) :=
  (if (u 117 43) ≤ x4.2 then some (x4.1, x4.2) else Option.bind (FX10_eIs x4.2 3 u) (fun q1 => (if q1 = 1 then Option.bind (FX10_eIs x4.2 4 u) (fun q2 => (if q2 = p1 then rec4 ((x4.1 ||| (jshl 1 x4.2)), (x4.2 + 1)) else rec4 ((x4.1 ||| 0), (x4.2 + 1)))) else rec4 ((x4.1 ||| 0), (x4.2 + 1)))))
def FX10_carries (p1 : Int32) (u : Mem) : Option (Int32) :=
  Option.bind (lp (BX10_carries_4 p1 u) FU (0, 0)) (fun q4_6 => some q4_6.1)
def BX10_weighs_4 (p1 : Int32) (u : Mem) (rec4 : (Int32 × Int32) → Option (Int32 × Int32)) (x4 : (Int32 × Int32)) : Option (Int32 × Int32) :=
  (if (u 117 43) ≤ x4.2 then some (x4.1, x4.2) else (if (FX10_has p1 x4.2) = 0 then rec4 ((x4.1 + 0), (x4.2 + 1)) else Option.bind (FX10_eIs x4.2 0 u) (fun q1 => rec4 ((x4.1 + q1), (x4.2 + 1)))))
def FX10_weighs (p1 : Int32) (u : Mem) : Option (Int32) :=
  Option.bind (lp (BX10_weighs_4 p1 u) FU (0, 0)) (fun q4_4 => some q4_4.1)
def FX10_of (p1 : Int32) (p2 : Int32) (u : Mem) : Option (Int32 × Mem) :=
  (if (FX10_isCarrier p1 u) = 0 then Option.bind (FX10_finding (-1000001) u) (fun q1 => some (q1.1, q1.2)) else (if (FX10_within p2 0 7) = 0 then Option.bind (FX10_finding (-1000001) u) (fun q10 => some (q10.1, q10.2)) else (if p2 = 5 then Option.bind (FX10_bears p1 u) (fun q3 => some (q3, u)) else (if p2 = 6 then Option.bind (FX10_carries p1 u) (fun q5 => some (q5, u)) else (if p2 = 7 then Option.bind (FX10_carries p1 u) (fun q7 => Option.bind (FX10_weighs q7 u) (fun q8 => some (q8, u))) else Option.bind (FX10_cIs p1 p2 u) (fun q9 => some (q9, u)))))))
def JX10_change_38 (p1 : Int32) (p2 : Int32) (p3 : Int32) (w : Mem) : Option (Int32 × Mem) :=
  (if p2 = 3 then (if (FX10_within p3 0 999999) = 0 then (if (FX10_isCarrier p1 w) = 0 then Option.bind (FX10_finding (-1000001) w) (fun q4 => some (q4.1, q4.2)) else Option.bind (FX10_finding (-1000001) w) (fun q5 => some (q5.1, q5.2))) else (if (FX10_isCarrier p1 w) = 0 then Option.bind (FX10_finding (-1000001) w) (fun q7 => some (q7.1, q7.2)) else Option.bind (FX10_become (FX10_cAt p1 p2) p3 w) (fun q8 => some (q8.1, q8.2)))) else (if (FX10_isCarrier p1 w) = 0 then Option.bind (FX10_finding (-1000001) w) (fun q1 => some (q1.1, q1.2)) else Option.bind (FX10_finding (-1000001) w) (fun q2 => some (q2.1, q2.2))))
def JX10_change_23 (p1 : Int32) (p2 : Int32) (p3 : Int32) (w : Mem) : Option (Int32 × Mem) :=
  (if p2 = 2 then (if (FX10_within p3 1 99) = 0 then JX10_change_38 p1 p2 p3 w else (if (FX10_isCarrier p1 w) = 0 then Option.bind (FX10_finding (-1000001) w) (fun q12 => some (q12.1, q12.2)) else Option.bind (FX10_become (FX10_cAt p1 p2) p3 w) (fun q13 => some (q13.1, q13.2)))) else JX10_change_38 p1 p2 p3 w)
def JX10_change_11 (p1 : Int32) (p2 : Int32) (p3 : Int32) (w : Mem) : Option (Int32 × Mem) :=
  (if p2 = 1 then (if (FX10_isPlace p3) = 0 then JX10_change_23 p1 p2 p3 w else (if (FX10_isCarrier p1 w) = 0 then Option.bind (FX10_finding (-1000001) w) (fun q17 => some (q17.1, q17.2)) else Option.bind (FX10_become (FX10_cAt p1 p2) p3 w) (fun q18 => some (q18.1, q18.2)))) else JX10_change_23 p1 p2 p3 w)
def FX10_change (p1 : Int32) (p2 : Int32) (p3 : Int32) (u : Mem) : Option (Int32 × Mem) :=
  (if p2 = 0 then (if (FX10_isKind p3) = 0 then JX10_change_11 p1 p2 p3 u else (if (FX10_isCarrier p1 u) = 0 then Option.bind (FX10_finding (-1000001) u) (fun q22 => some (q22.1, q22.2)) else Option.bind (FX10_become (FX10_cAt p1 p2) p3 u) (fun q23 => some (q23.1, q23.2)))) else JX10_change_11 p1 p2 p3 u)
def FX10_wayAt (p0 : Int32) (p1 : Int32) : Int32 :=
  (0 + (2 * ((((((jmin p0 p1) * (13 - (jmin p0 p1))) / 2) + (jmax p0 p1)) - (jmin p0 p1)) - 1)))
def FX10_wayIs (p1 : Int32) (p2 : Int32) (p3 : Int32) (p4 : Int32) (u : Mem) : Option (Int32 × Mem) :=
  (if inb ((FX10_wayAt p1 p2) + 1) 138 then Option.bind (FX10_become (FX10_wayAt p1 p2) p3 (mst u 117 (((FX10_wayAt p1 p2) + 1).toNatClampNeg) p4)) (fun q2 => some (q2.1, q2.2)) else none)
def FX10_way (p1 : Int32) (p2 : Int32) (p3 : Int32) (p4 : Int32) (u : Mem) : Option (Int32 × Mem) :=
  (if (FX10_isPlace p1) = 0 then Option.bind (FX10_finding (-1000001) u) (fun q1 => some (q1.1, q1.2)) else (if (FX10_isPlace p2) = 0 then Option.bind (FX10_finding (-1000001) u) (fun q2 => some (q2.1, q2.2)) else (if p1 = p2 then Option.bind (FX10_finding (-1000001) u) (fun q3 => some (q3.1, q3.2)) else (if (FX10_within p3 0 99) = 0 then Option.bind (FX10_finding (-1000001) u) (fun q4 => some (q4.1, q4.2)) else (if (FX10_within p4 0 1) = 0 then Option.bind (FX10_finding (-1000001) u) (fun q5 => some (q5.1, q5.2)) else Option.bind (FX10_wayIs p1 p2 p3 p4 u) (fun q6 => some (q6.1, q6.2)))))))
def FX10_wayOf (p1 : Int32) (p2 : Int32) (p3 : Int32) (u : Mem) : Option (Int32 × Mem) :=
  (if (FX10_isPlace p1) = 0 then Option.bind (FX10_finding (-1000001) u) (fun q1 => some (q1.1, q1.2)) else (if (FX10_isPlace p2) = 0 then Option.bind (FX10_finding (-1000001) u) (fun q2 => some (q2.1, q2.2)) else (if p1 = p2 then Option.bind (FX10_finding (-1000001) u) (fun q3 => some (q3.1, q3.2)) else (if (FX10_within p3 0 1) = 0 then Option.bind (FX10_finding (-1000001) u) (fun q4 => some (q4.1, q4.2)) else (if inb ((FX10_wayAt p1 p2) + p3) 138 then some ((u 117 ((FX10_wayAt p1 p2) + p3).toNatClampNeg), u) else none)))))
def FX10_newErrand (p1 : Int32) (p2 : Int32) (p3 : Int32) (u : Mem) : Option (Int32 × Mem) :=
  (if inb (FX10_eAt (u 117 43) 0) 138 then (if inb (FX10_eAt (u 117 43) 1) 138 then (if inb (FX10_eAt (u 117 43) 2) 138 then nm (mst (mst (mst u 117 ((FX10_eAt (u 117 43) 0).toNatClampNeg) p1) 117 ((FX10_eAt (u 117 43) 1).toNatClampNeg) p2) 117 ((FX10_eAt (u 117 43) 2).toNatClampNeg) p3) (fun w4 => (if inb (FX10_eAt (u 117 43) 3) 138 then (if inb (FX10_eAt (u 117 43) 4) 138 then nm (mst (mst (mst w4 117 ((FX10_eAt (u 117 43) 3).toNatClampNeg) 0) 117 ((FX10_eAt (u 117 43) 4).toNatClampNeg) (-1)) 117 43 (((mst (mst w4 117 ((FX10_eAt (u 117 43) 3).toNatClampNeg) 0) 117 ((FX10_eAt (u 117 43) 4).toNatClampNeg) (-1)) 117 43) + 1)) (fun w7 => some ((u 117 43), w7)) else none) else none)) else none) else none) else none)
def FX10_errand (p1 : Int32) (p2 : Int32) (p3 : Int32) (u : Mem) : Option (Int32 × Mem) :=
  (if (FX10_within p1 1 60) = 0 then Option.bind (FX10_finding (-1000001) u) (fun q1 => some (q1.1, q1.2)) else (if (FX10_isPlace p2) = 0 then Option.bind (FX10_finding (-1000001) u) (fun q2 => some (q2.1, q2.2)) else (if (FX10_isPlace p3) = 0 then Option.bind (FX10_finding (-1000001) u) (fun q3 => some (q3.1, q3.2)) else (if p2 = p3 then Option.bind (FX10_finding (-1000001) u) (fun q7 => some (q7.1, q7.2)) else (if (u 117 43) = 8 then Option.bind (FX10_finding (-1000002) u) (fun q5 => some (q5.1, q5.2)) else Option.bind (FX10_newErrand p1 p2 p3 u) (fun q4 => some (q4.1, q4.2)))))))
def FX10_counts (p1 : Int32) (p2 : Int32) (p3 : Int32) (u : Mem) : Option (Int32) :=
  (if inb (FX10_wayAt p2 p3) 138 then (if inb ((FX10_wayAt p2 p3) + 1) 138 then (if (u 117 ((FX10_wayAt p2 p3) + 1).toNatClampNeg) = 1 then (if p1 = 5 then some (u 117 (FX10_wayAt p2 p3).toNatClampNeg) else (if p1 = 6 then some (jmax 1 ((u 117 (FX10_wayAt p2 p3).toNatClampNeg) / 2)) else some (2 * (u 117 (FX10_wayAt p2 p3).toNatClampNeg)))) else some (u 117 (FX10_wayAt p2 p3).toNatClampNeg)) else none) else none)
def BX10_findFar_10 (p1 : Int32) (v2 : Int32) (rec10 : (Int32 × Mem) → Option (Int32 × Mem)) (x10 : (Int32 × Mem)) : Option (Int32 × Mem) :=
  (if 7 ≤ x10.1 then some (x10.1, x10.2) else (if v2 = x10.1 then (if inb ((7 * v2) + x10.1) 49 then rec10 ((x10.1 + 1), (mst x10.2 121 (((7 * v2) + x10.1).toNatClampNeg) 0)) else none) else (if inb (FX10_wayAt v2 x10.1) 138 then (if (x10.2 117 (FX10_wayAt v2 x10.1).toNatClampNeg) = 0 then (if inb ((7 * v2) + x10.1) 49 then rec10 ((x10.1 + 1), (mst x10.2 121 (((7 * v2) + x10.1).toNatClampNeg) 1000000)) else none) else Option.bind (FX10_counts p1 v2 x10.1 x10.2) (fun q2 => (if inb ((7 * v2) + x10.1) 49 then rec10 ((x10.1 + 1), (mst x10.2 121 (((7 * v2) + x10.1).toNatClampNeg) q2)) else none))) else none)))
def BX10_findFar_2 (p1 : Int32) (rec2 : (Int32 × Mem) → Option (Int32 × Mem)) (x2 : (Int32 × Mem)) : Option (Int32 × Mem) :=
  (if 7 ≤ x2.1 then some (x2.1, x2.2) else Option.bind (lp (BX10_findFar_10 p1 x2.1) FU (0, x2.2)) (fun q10_9 => rec2 ((x2.1 + 1), q10_9.2)))
def BX10_findFar_92 (p1 : Int32) (v2 : Int32) (v3 : Int32) (rec92 : (Int32 × Mem) → Option (Int32 × Mem)) (x92 : (Int32 × Mem)) : Option (Int32 × Mem) :=
  (if 7 ≤ x92.1 then some (x92.1, x92.2) else (if inb ((7 * v3) + x92.1) 49 then (if inb ((7 * v3) + v2) 49 then (if inb ((7 * v2) + x92.1) 49 then (if inb ((7 * v3) + x92.1) 49 then nm (mst x92.2 121 (((7 * v3) + x92.1).toNatClampNeg) (jmin (x92.2 121 ((7 * v3) + x92.1).toNatClampNeg) ((x92.2 121 ((7 * v3) + v2).toNatClampNeg) + (x92.2 121 ((7 * v2) + x92.1).toNatClampNeg)))) (fun w16 => rec92 ((x92.1 + 1), w16)) else none) else none) else none) else none))
def BX10_findFar_83 (p1 : Int32) (v2 : Int32) (rec83 : (Int32 × Mem) → Option (Int32 × Mem)) (x83 : (Int32 × Mem)) : Option (Int32 × Mem) :=
  (if 7 ≤ x83.1 then some (x83.1, x83.2) else Option.bind (lp (BX10_findFar_92 p1 v2 x83.1) FU (0, x83.2)) (fun q92_18 => rec83 ((x83.1 + 1), q92_18.2)))
def BX10_findFar_75 (p1 : Int32) (rec75 : (Int32 × Mem) → Option (Int32 × Mem)) (x75 : (Int32 × Mem)) : Option (Int32 × Mem) :=
  (if 7 ≤ x75.1 then some (x75.1, x75.2) else Option.bind (lp (BX10_findFar_83 p1 x75.1) FU (0, x75.2)) (fun q83_20 => rec75 ((x75.1 + 1), q83_20.2)))
def FX10_findFar (p1 : Int32) (u : Mem) : Option (Mem) :=
  Option.bind (lp (BX10_findFar_2 p1) FU (0, u)) (fun q2_11 => Option.bind (lp (BX10_findFar_75 p1) FU (0, q2_11.2)) (fun q75_22 => some q75_22.2))
def FX10_farFor (p1 : Int32) (p2 : Int32) (p3 : Int32) (u : Mem) : Option (Int32 × Mem) :=
  Option.bind (FX10_findFar p1 u) (fun q1 => (if inb ((7 * p2) + p3) 49 then some ((q1 121 ((7 * p2) + p3).toNatClampNeg), q1) else none))
def FX10_worthOf (p1 : Int32) (u : Mem) : Option (Int32 × Mem) :=
  Option.bind (FX10_eIs p1 1 u) (fun q1 => Option.bind (FX10_eIs p1 2 u) (fun q2 => Option.bind (FX10_farFor 0 q1 q2 u) (fun q3 => (if q3.1 < 1000000 then Option.bind (FX10_eIs p1 0 q3.2) (fun q4 => some ((q4 * q3.1), q3.2)) else some ((-1), q3.2)))))
def FX10_errandOf (p1 : Int32) (p2 : Int32) (u : Mem) : Option (Int32 × Mem) :=
  (if (FX10_isErrand p1 u) = 0 then Option.bind (FX10_finding (-1000001) u) (fun q1 => some (q1.1, q1.2)) else (if (FX10_within p2 0 5) = 0 then Option.bind (FX10_finding (-1000001) u) (fun q7 => some (q7.1, q7.2)) else (if 5 ≤ p2 then Option.bind (FX10_worthOf p1 u) (fun q2 => (if 0 ≤ q2.1 then some (q2.1, q2.2) else Option.bind (FX10_finding (-1000004) q2.2) (fun q3 => some (q3.1, q3.2)))) else Option.bind (FX10_eIs p1 p2 u) (fun q5 => some (q5, u)))))
def FX10_newWare (p1 : Int32) (u : Mem) : Option (Int32 × Mem) :=
  (if inb (FX10_wAt (u 117 44) 0) 138 then (if inb (FX10_wAt (u 117 44) 1) 138 then nm (mst (mst (mst u 117 ((FX10_wAt (u 117 44) 0).toNatClampNeg) p1) 117 ((FX10_wAt (u 117 44) 1).toNatClampNeg) (-1)) 117 44 (((mst (mst u 117 ((FX10_wAt (u 117 44) 0).toNatClampNeg) p1) 117 ((FX10_wAt (u 117 44) 1).toNatClampNeg) (-1)) 117 44) + 1)) (fun w3 => some ((u 117 44), w3)) else none) else none)
def FX10_ware (p1 : Int32) (u : Mem) : Option (Int32 × Mem) :=
  (if (FX10_within p1 1 9999) = 0 then Option.bind (FX10_finding (-1000001) u) (fun q4 => some (q4.1, q4.2)) else (if (u 117 44) = 6 then Option.bind (FX10_finding (-1000002) u) (fun q2 => some (q2.1, q2.2)) else Option.bind (FX10_newWare p1 u) (fun q1 => some (q1.1, q1.2))))
def FX10_wareOf (p1 : Int32) (p2 : Int32) (u : Mem) : Option (Int32 × Mem) :=
  (if (FX10_isWare p1 u) = 0 then Option.bind (FX10_finding (-1000001) u) (fun q1 => some (q1.1, q1.2)) else (if (FX10_within p2 0 1) = 0 then Option.bind (FX10_finding (-1000001) u) (fun q2 => some (q2.1, q2.2)) else (if inb (FX10_wAt p1 p2) 138 then some ((u 117 (FX10_wAt p1 p2).toNatClampNeg), u) else none)))
def FX10_far (p1 : Int32) (p2 : Int32) (p3 : Int32) (u : Mem) : Option (Int32 × Mem) :=
  (if (FX10_isCarrier p1 u) = 0 then Option.bind (FX10_finding (-1000001) u) (fun q1 => some (q1.1, q1.2)) else (if (FX10_isPlace p2) = 0 then Option.bind (FX10_finding (-1000001) u) (fun q2 => some (q2.1, q2.2)) else (if (FX10_isPlace p3) = 0 then Option.bind (FX10_finding (-1000001) u) (fun q7 => some (q7.1, q7.2)) else Option.bind (FX10_cIs p1 0 u) (fun q3 => Option.bind (FX10_farFor q3 p2 p3 u) (fun q4 => (if q4.1 < 1000000 then some (q4.1, q4.2) else Option.bind (FX10_finding (-1000004) q4.2) (fun q5 => some (q5.1, q5.2))))))))
def JX10_first_113_76 (p1 : Int32) (p2 : Int32) (v3 : Int32) (v4 : Int32) (v5 : Int32) (v6 : Int32) (v7 : Int32) (s0 : Int32) (w : Mem) (rec76 : (Int32 × Int32) → Option (Int32 × Int32)) : Option (Int32 × Int32) :=
  (if s0 = 0 then rec76 (v6, (v7 + 1)) else Option.bind (FX10_counts v4 v3 v7 w) (fun q5 => (if inb ((7 * v7) + p2) 49 then (if (q5 + (w 121 ((7 * v7) + p2).toNatClampNeg)) = v5 then rec76 (v7, (v7 + 1)) else rec76 (v6, (v7 + 1))) else none)))
def JX10_first_112_76 (p1 : Int32) (p2 : Int32) (v3 : Int32) (v4 : Int32) (v5 : Int32) (v6 : Int32) (v7 : Int32) (w : Mem) (rec76 : (Int32 × Int32) → Option (Int32 × Int32)) : Option (Int32 × Int32) :=
  JX10_first_113_76 p1 p2 v3 v4 v5 v6 v7 0 w rec76
def BX10_first_76 (p1 : Int32) (p2 : Int32) (v3 : Int32) (v4 : Int32) (v5 : Int32) (w : Mem) (rec76 : (Int32 × Int32) → Option (Int32 × Int32)) (x76 : (Int32 × Int32)) : Option (Int32 × Int32) :=
  (if 7 ≤ x76.2 then some (x76.1, x76.2) else (if 0 ≤ x76.1 then some (x76.1, x76.2) else (if x76.2 = v3 then JX10_first_112_76 p1 p2 v3 v4 v5 x76.1 x76.2 w rec76 else (if inb (FX10_wayAt x76.2 v3) 138 then (if (w 117 (FX10_wayAt x76.2 v3).toNatClampNeg) ≤ 0 then JX10_first_112_76 p1 p2 v3 v4 v5 x76.1 x76.2 w rec76 else JX10_first_113_76 p1 p2 v3 v4 v5 x76.1 x76.2 1 w rec76) else none))))
def JX10_first_71 (p1 : Int32) (p2 : Int32) (v3 : Int32) (v4 : Int32) (v5 : Int32) (s0 : Int32) (w : Mem) : Option (Int32 × Mem) :=
  Option.bind (lp (BX10_first_76 p1 p2 v3 v4 v5 w) FU (s0, 0)) (fun q76_14 => some (q76_14.1, w))
def FX10_first (p1 : Int32) (p2 : Int32) (u : Mem) : Option (Int32 × Mem) :=
  (if (FX10_isCarrier p1 u) = 0 then Option.bind (FX10_finding (-1000001) u) (fun q1 => some (q1.1, q1.2)) else (if (FX10_isPlace p2) = 0 then Option.bind (FX10_finding (-1000001) u) (fun q18 => some (q18.1, q18.2)) else Option.bind (FX10_cIs p1 1 u) (fun q2 => Option.bind (FX10_cIs p1 0 u) (fun q3 => Option.bind (FX10_farFor q3 q2 p2 u) (fun q4 => (if q4.1 < 1000000 then (if q2 = p2 then JX10_first_71 p1 p2 q2 q3 q4.1 p2 q4.2 else JX10_first_71 p1 p2 q2 q3 q4.1 (-1) q4.2) else Option.bind (FX10_finding (-1000004) q4.2) (fun q16 => some (q16.1, q16.2))))))))
def FX10_liesAt (p1 : Int32) (p2 : Int32) (u : Mem) : Option (Int32) :=
  Option.bind (FX10_eIs p1 3 u) (fun q1 => (if q1 = 0 then Option.bind (FX10_eIs p1 1 u) (fun q2 => (if q2 = p2 then some 1 else some 0)) else some 0))
def FX10_fitsTo (p1 : Int32) (p2 : Int32) (u : Mem) : Option (Int32) :=
  Option.bind (FX10_carries p1 u) (fun q1 => Option.bind (FX10_weighs q1 u) (fun q2 => Option.bind (FX10_eIs p2 0 u) (fun q3 => Option.bind (FX10_bears p1 u) (fun q4 => (if q4 < (q2 + q3) then some 0 else some 1)))))
def FX10_taken (p1 : Int32) (p2 : Int32) (u : Mem) : Option (Mem) :=
  (if inb (FX10_eAt p2 3) 138 then (if inb (FX10_eAt p2 4) 138 then some (mst (mst u 117 ((FX10_eAt p2 3).toNatClampNeg) 1) 117 ((FX10_eAt p2 4).toNatClampNeg) p1) else none) else none)
def FX10_take (p1 : Int32) (p2 : Int32) (u : Mem) : Option (Int32 × Mem) :=
  (if (FX10_isCarrier p1 u) = 0 then Option.bind (FX10_finding (-1000001) u) (fun q1 => some (q1.1, q1.2)) else (if (FX10_isErrand p2 u) = 0 then Option.bind (FX10_finding (-1000001) u) (fun q12 => some (q12.1, q12.2)) else Option.bind (FX10_cIs p1 1 u) (fun q2 => Option.bind (FX10_liesAt p2 q2 u) (fun q3 => (if q3 = 0 then Option.bind (FX10_finding (-1000005) u) (fun q10 => some (q10.1, q10.2)) else Option.bind (FX10_fitsTo p1 p2 u) (fun q4 => (if q4 = 0 then Option.bind (FX10_finding (-1000002) u) (fun q8 => some (q8.1, q8.2)) else Option.bind (FX10_taken p1 p2 u) (fun q5 => Option.bind (FX10_carries p1 q5) (fun q6 => Option.bind (FX10_weighs q6 q5) (fun q7 => some (q7, q5)))))))))))
def FX10_drop (p1 : Int32) (p2 : Int32) (u : Mem) : Option (Int32 × Mem) :=
  (if (FX10_isCarrier p1 u) = 0 then Option.bind (FX10_finding (-1000001) u) (fun q1 => some (q1.1, q1.2)) else (if (FX10_isErrand p2 u) = 0 then Option.bind (FX10_finding (-1000001) u) (fun q16 => some (q16.1, q16.2)) else Option.bind (FX10_carries p1 u) (fun q2 => (if (FX10_has q2 p2) = 0 then Option.bind (FX10_finding (-1000005) u) (fun q3 => some (q3.1, q3.2)) else Option.bind (FX10_eIs p2 2 u) (fun q4 => Option.bind (FX10_cIs p1 1 u) (fun q5 => (if q4 = q5 then Option.bind (FX10_finding (-1000005) u) (fun q13 => some (q13.1, q13.2)) else Option.bind (FX10_cIs p1 1 u) (fun q6 => (if inb (FX10_eAt p2 1) 138 then (if inb (FX10_eAt p2 3) 138 then (if inb (FX10_eAt p2 4) 138 then nm (mst (mst (mst u 117 ((FX10_eAt p2 1).toNatClampNeg) q6) 117 ((FX10_eAt p2 3).toNatClampNeg) 0) 117 ((FX10_eAt p2 4).toNatClampNeg) (-1)) (fun w10 => Option.bind (FX10_carries p1 w10) (fun q11 => Option.bind (FX10_weighs q11 w10) (fun q12 => some (q12, w10)))) else none) else none) else none)))))))))
def BX10_walked_57 (p1 : Int32) (p2 : Int32) (v3 : Int32) (rec57 : (Int32 × Int32 × Mem) → Option (Int32 × Int32 × Mem)) (x57 : (Int32 × Int32 × Mem)) : Option (Int32 × Int32 × Mem) :=
  (if (x57.2.2 117 43) ≤ x57.2.1 then some (x57.1, x57.2.1, x57.2.2) else Option.bind (FX10_eIs x57.2.1 3 x57.2.2) (fun q8 => (if q8 = 1 then Option.bind (FX10_eIs x57.2.1 4 x57.2.2) (fun q9 => (if q9 = p1 then Option.bind (FX10_eIs x57.2.1 2 x57.2.2) (fun q10 => (if q10 = p2 then (if inb (FX10_eAt x57.2.1 3) 138 then nm (mst (mst x57.2.2 117 ((FX10_eAt x57.2.1 3).toNatClampNeg) 2) 116 6 (((mst x57.2.2 117 ((FX10_eAt x57.2.1 3).toNatClampNeg) 2) 116 6) + 1)) (fun w12 => Option.bind (FX10_worthOf x57.2.1 w12) (fun q13 => (if 0 ≤ q13.1 then Option.bind (FX10_getsFor p1 q13.1 q13.2) (fun q14 => rec57 ((x57.1 + q14), (x57.2.1 + 1), q13.2)) else rec57 ((x57.1 + 0), (x57.2.1 + 1), q13.2)))) else none) else rec57 (x57.1, (x57.2.1 + 1), x57.2.2))) else rec57 (x57.1, (x57.2.1 + 1), x57.2.2))) else rec57 (x57.1, (x57.2.1 + 1), x57.2.2))))
def FX10_walked (p1 : Int32) (p2 : Int32) (u : Mem) : Option (Int32 × Mem) :=
  Option.bind (FX10_cIs p1 0 u) (fun q1 => Option.bind (FX10_cIs p1 1 u) (fun q2 => Option.bind (FX10_farFor q1 q2 p2 u) (fun q3 => (if q3.1 < 1000000 then (if inb (FX10_cAt p1 4) 138 then (if inb (FX10_cAt p1 4) 138 then (if inb (FX10_cAt p1 1) 138 then nm (mst (mst q3.2 117 ((FX10_cAt p1 4).toNatClampNeg) ((q3.2 117 (FX10_cAt p1 4).toNatClampNeg) + q3.1)) 117 ((FX10_cAt p1 1).toNatClampNeg) p2) (fun w7 => Option.bind (lp (BX10_walked_57 p1 p2 q3.1) FU (0, 0, w7)) (fun q57_20 => (if inb (FX10_cAt p1 3) 138 then (if inb (FX10_cAt p1 3) 138 then nm (mst q57_20.2.2 117 ((FX10_cAt p1 3).toNatClampNeg) ((q57_20.2.2 117 (FX10_cAt p1 3).toNatClampNeg) + q57_20.1)) (fun w23 => some (q57_20.1, w23)) else none) else none))) else none) else none) else none) else some ((-1), q3.2)))))
def FX10_walk (p1 : Int32) (p2 : Int32) (u : Mem) : Option (Int32 × Mem) :=
  (if (FX10_isCarrier p1 u) = 0 then Option.bind (FX10_finding (-1000001) u) (fun q1 => some (q1.1, q1.2)) else (if (FX10_isPlace p2) = 0 then Option.bind (FX10_finding (-1000001) u) (fun q5 => some (q5.1, q5.2)) else Option.bind (FX10_walked p1 p2 u) (fun q2 => (if 0 ≤ q2.1 then some (q2.1, q2.2) else Option.bind (FX10_finding (-1000004) q2.2) (fun q3 => some (q3.1, q3.2))))))
def FX10_buy (p1 : Int32) (p2 : Int32) (u : Mem) : Option (Int32 × Mem) :=
  (if (FX10_isCarrier p1 u) = 0 then Option.bind (FX10_finding (-1000001) u) (fun q1 => some (q1.1, q1.2)) else (if (FX10_isWare p2 u) = 0 then Option.bind (FX10_finding (-1000001) u) (fun q15 => some (q15.1, q15.2)) else (if inb (FX10_wAt p2 1) 138 then (if 0 ≤ (u 117 (FX10_wAt p2 1).toNatClampNeg) then Option.bind (FX10_finding (-1000005) u) (fun q3 => some (q3.1, q3.2)) else Option.bind (FX10_cIs p1 3 u) (fun q4 => (if inb (FX10_wAt p2 0) 138 then (if (u 117 (FX10_wAt p2 0).toNatClampNeg) ≤ q4 then (if inb (FX10_wAt p2 1) 138 then (if inb (FX10_cAt p1 3) 138 then (if inb (FX10_wAt p2 0) 138 then (if inb (FX10_cAt p1 3) 138 then nm (mst (mst u 117 ((FX10_wAt p2 1).toNatClampNeg) p1) 117 ((FX10_cAt p1 3).toNatClampNeg) (((mst u 117 ((FX10_wAt p2 1).toNatClampNeg) p1) 117 (FX10_cAt p1 3).toNatClampNeg) - ((mst u 117 ((FX10_wAt p2 1).toNatClampNeg) p1) 117 (FX10_wAt p2 0).toNatClampNeg))) (fun w10 => Option.bind (FX10_cIs p1 3 w10) (fun q11 => some (q11, w10))) else none) else none) else none) else none) else Option.bind (FX10_finding (-1000005) u) (fun q12 => some (q12.1, q12.2))) else none))) else none)))
def BX10_errandsThat_4 (p1 : Int32) (u : Mem) (rec4 : (Int32 × Int32) → Option (Int32 × Int32)) (x4 : (Int32 × Int32)) : Option (Int32 × Int32) :=
  (if (u 117 43) ≤ x4.2 then some (x4.1, x4.2) else Option.bind (FX10_eIs x4.2 3 u) (fun q1 => (if q1 = p1 then rec4 ((x4.1 ||| (jshl 1 x4.2)), (x4.2 + 1)) else rec4 ((x4.1 ||| 0), (x4.2 + 1)))))
def FX10_errandsThat (p1 : Int32) (u : Mem) : Option (Int32) :=
  Option.bind (lp (BX10_errandsThat_4 p1 u) FU (0, 0)) (fun q4_4 => some q4_4.1)
def BX10_ofAll_4 (p1 : Int32) (u : Mem) (rec4 : (Int32 × Int32) → Option (Int32 × Int32)) (x4 : (Int32 × Int32)) : Option (Int32 × Int32) :=
  (if (u 117 42) ≤ x4.2 then some (x4.1, x4.2) else Option.bind (FX10_cIs x4.2 p1 u) (fun q1 => rec4 ((x4.1 + q1), (x4.2 + 1))))
def FX10_ofAll (p1 : Int32) (u : Mem) : Option (Int32) :=
  Option.bind (lp (BX10_ofAll_4 p1 u) FU (0, 0)) (fun q4_3 => some q4_3.1)
def BX10_now_50 (p1 : Int32) (w : Mem) (rec50 : (Int32 × Int32) → Option (Int32 × Int32)) (x50 : (Int32 × Int32)) : Option (Int32 × Int32) :=
  (if (w 117 44) ≤ x50.2 then some (x50.1, x50.2) else (if inb (FX10_wAt x50.2 1) 138 then (if (w 117 (FX10_wAt x50.2 1).toNatClampNeg) < 0 then rec50 ((x50.1 ||| 0), (x50.2 + 1)) else rec50 ((x50.1 ||| (jshl 1 x50.2)), (x50.2 + 1))) else none))
def FX10_now (p1 : Int32) (u : Mem) : Option (Int32 × Mem) :=
  (if p1 = 0 then Option.bind (FX10_errandsThat 0 u) (fun q2 => some (q2, u)) else (if p1 = 1 then Option.bind (FX10_errandsThat 2 u) (fun q4 => some (q4, u)) else (if p1 = 2 then Option.bind (lp (BX10_now_50 p1 u) FU (0, 0)) (fun q50_9 => some (q50_9.1, u)) else (if p1 = 3 then Option.bind (FX10_ofAll 3 u) (fun q11 => some (q11, u)) else (if p1 = 4 then Option.bind (FX10_ofAll 4 u) (fun q13 => some (q13, u)) else Option.bind (FX10_finding (-1000001) u) (fun q14 => some (q14.1, q14.2)))))))
def FX10_digit (p1 : Int32) (p2 : Int32) (u : Mem) : Option (Int32) :=
  (if inb p2 6 then (if ¬ (u 124 (p2).toNatClampNeg) = 0 then some (jrem (p1 / (u 124 (p2).toNatClampNeg)) 3) else none) else none)
def FX10_shorter (p1 : Int32) (p2 : Int32) (p3 : Int32) (u : Mem) : Option (Mem) :=
  (if inb ((7 * p1) + p2) 1701 then (if inb ((7 * p1) + p2) 1701 then some (mst u 122 (((7 * p1) + p2).toNatClampNeg) (jmin (u 122 ((7 * p1) + p2).toNatClampNeg) p3)) else none) else none)
def BX10_walkOn_44 (p1 : Int32) (p2 : Int32) (v3 : Int32) (v4 : Int32) (v5 : Int32) (w : Mem) (rec44 : (Int32 × Int32) → Option (Int32 × Int32)) (x44 : (Int32 × Int32)) : Option (Int32 × Int32) :=
  (if p2 ≤ x44.2 then some (x44.1, x44.2) else Option.bind (FX10_digit p1 x44.2 w) (fun q2 => (if q2 = 1 then (if inb x44.2 5 then Option.bind (FX10_eIs (w 123 (x44.2).toNatClampNeg) 2 w) (fun q4 => (if q4 = v5 then (if inb x44.2 6 then rec44 ((x44.1 + (w 124 (x44.2).toNatClampNeg)), (x44.2 + 1)) else none) else rec44 ((x44.1 + 0), (x44.2 + 1)))) else none) else rec44 ((x44.1 + 0), (x44.2 + 1)))))
def BX10_walkOn_24 (p1 : Int32) (p2 : Int32) (v3 : Int32) (v4 : Int32) (rec24 : (Int32 × Mem) → Option (Int32 × Mem)) (x24 : (Int32 × Mem)) : Option (Int32 × Mem) :=
  (if 7 ≤ x24.1 then some (x24.1, x24.2) else (if 1000000 ≤ v4 then some (x24.1, x24.2) else Option.bind (lp (BX10_walkOn_44 p1 p2 v3 v4 x24.1 x24.2) FU (p1, 0)) (fun q44_9 => (if inb ((7 * v3) + x24.1) 49 then (if 1000000 ≤ (x24.2 121 ((7 * v3) + x24.1).toNatClampNeg) then rec24 ((x24.1 + 1), x24.2) else (if inb ((7 * v3) + x24.1) 49 then Option.bind (FX10_shorter q44_9.1 x24.1 (v4 + (x24.2 121 ((7 * v3) + x24.1).toNatClampNeg)) x24.2) (fun q12 => rec24 ((x24.1 + 1), q12)) else none)) else none))))
def BX10_walkOn_2 (p1 : Int32) (p2 : Int32) (rec2 : (Int32 × Mem) → Option (Int32 × Mem)) (x2 : (Int32 × Mem)) : Option (Int32 × Mem) :=
  (if 7 ≤ x2.1 then some (x2.1, x2.2) else (if inb ((7 * p1) + x2.1) 1701 then Option.bind (lp (BX10_walkOn_24 p1 p2 x2.1 (x2.2 122 ((7 * p1) + x2.1).toNatClampNeg)) FU (0, x2.2)) (fun q24_16 => rec2 ((x2.1 + 1), q24_16.2)) else none))
def FX10_walkOn (p1 : Int32) (p2 : Int32) (u : Mem) : Option (Mem) :=
  Option.bind (lp (BX10_walkOn_2 p1 p2) FU (0, u)) (fun q2_18 => some q2_18.2)
def BX10_takeOn_6 (p1 : Int32) (p2 : Int32) (p3 : Int32) (w : Mem) (rec6 : (Int32 × Int32) → Option (Int32 × Int32)) (x6 : (Int32 × Int32)) : Option (Int32 × Int32) :=
  (if p2 ≤ x6.2 then some (x6.1, x6.2) else Option.bind (FX10_digit p1 x6.2 w) (fun q1 => (if q1 = 1 then (if inb x6.2 5 then Option.bind (FX10_eIs (w 123 (x6.2).toNatClampNeg) 0 w) (fun q3 => rec6 ((x6.1 + q3), (x6.2 + 1))) else none) else rec6 ((x6.1 + 0), (x6.2 + 1)))))
def BX10_takeOn_53 (p1 : Int32) (p2 : Int32) (p3 : Int32) (v4 : Int32) (rec53 : (Int32 × Mem) → Option (Int32 × Mem)) (x53 : (Int32 × Mem)) : Option (Int32 × Mem) :=
  (if p2 ≤ x53.1 then some (x53.1, x53.2) else (if inb x53.1 5 then Option.bind (FX10_eIs (x53.2 123 (x53.1).toNatClampNeg) 1 x53.2) (fun q8 => Option.bind (FX10_digit p1 x53.1 x53.2) (fun q9 => (if q9 = 0 then (if inb x53.1 5 then Option.bind (FX10_eIs (x53.2 123 (x53.1).toNatClampNeg) 0 x53.2) (fun q11 => (if p3 < (v4 + q11) then rec53 ((x53.1 + 1), x53.2) else (if inb x53.1 6 then (if inb ((7 * p1) + q8) 1701 then Option.bind (FX10_shorter (p1 + (x53.2 124 (x53.1).toNatClampNeg)) q8 (x53.2 122 ((7 * p1) + q8).toNatClampNeg) x53.2) (fun q14 => rec53 ((x53.1 + 1), q14)) else none) else none))) else none) else rec53 ((x53.1 + 1), x53.2)))) else none))
def FX10_takeOn (p1 : Int32) (p2 : Int32) (p3 : Int32) (u : Mem) : Option (Mem) :=
  Option.bind (lp (BX10_takeOn_6 p1 p2 p3 u) FU (0, 0)) (fun q6_6 => Option.bind (lp (BX10_takeOn_53 p1 p2 p3 q6_6.1) FU (0, u)) (fun q53_18 => some q53_18.2))
def BX10_roundOf_22 (p1 : Int32) (p2 : Int32) (v3 : Int32) (rec22 : (Int32 × Int32 × Mem) → Option (Int32 × Int32 × Mem)) (x22 : (Int32 × Int32 × Mem)) : Option (Int32 × Int32 × Mem) :=
  (if (x22.2.2 117 43) ≤ x22.2.1 then some (x22.1, x22.2.1, x22.2.2) else (if (FX10_has p2 x22.2.1) = 0 then rec22 (x22.1, (x22.2.1 + 1), x22.2.2) else (if inb x22.1 5 then rec22 ((x22.1 + 1), (x22.2.1 + 1), (mst x22.2.2 123 (x22.1).toNatClampNeg x22.2.1)) else none)))
def BX10_roundOf_75 (p1 : Int32) (p2 : Int32) (v3 : Int32) (v4 : Int32) (v5 : Int32) (rec75 : (Int32 × Mem) → Option (Int32 × Mem)) (x75 : (Int32 × Mem)) : Option (Int32 × Mem) :=
  (if inb v4 6 then (if (7 * (x75.2 124 (v4).toNatClampNeg)) ≤ x75.1 then some (x75.1, x75.2) else (if inb x75.1 1701 then rec75 ((x75.1 + 1), (mst x75.2 122 (x75.1).toNatClampNeg 1000000)) else none)) else none)
def BX10_roundOf_120 (p1 : Int32) (p2 : Int32) (v3 : Int32) (v4 : Int32) (v5 : Int32) (rec120 : (Int32 × Mem) → Option (Int32 × Mem)) (x120 : (Int32 × Mem)) : Option (Int32 × Mem) :=
  (if v5 ≤ x120.1 then some (x120.1, x120.2) else Option.bind (FX10_walkOn x120.1 v4 x120.2) (fun q15 => Option.bind (FX10_takeOn x120.1 v4 v3 q15) (fun q16 => rec120 ((x120.1 + 1), q16))))
def BX10_roundOf_157 (p1 : Int32) (p2 : Int32) (v3 : Int32) (v4 : Int32) (v5 : Int32) (w : Mem) (rec157 : (Int32 × Int32) → Option (Int32 × Int32)) (x157 : (Int32 × Int32)) : Option (Int32 × Int32) :=
  (if 7 ≤ x157.2 then some (x157.1, x157.2) else (if inb ((7 * v5) + x157.2) 1701 then rec157 ((jmin x157.1 (w 122 ((7 * v5) + x157.2).toNatClampNeg)), (x157.2 + 1)) else none))
def FX10_roundOf (p1 : Int32) (p2 : Int32) (u : Mem) : Option (Int32 × Mem) :=
  Option.bind (FX10_cIs p1 0 u) (fun q1 => Option.bind (FX10_findFar q1 u) (fun q2 => Option.bind (FX10_bears p1 q2) (fun q3 => Option.bind (lp (BX10_roundOf_22 p1 p2 q3) FU (0, 0, q2)) (fun q22_7 => (if inb q22_7.1 6 then Option.bind (lp (BX10_roundOf_75 p1 p2 q3 q22_7.1 ((q22_7.2.2 124 (q22_7.1).toNatClampNeg) - 1)) FU (0, q22_7.2.2)) (fun q75_12 => Option.bind (FX10_cIs p1 1 q75_12.2) (fun q13 => (if inb q13 1701 then Option.bind (lp (BX10_roundOf_120 p1 p2 q3 q22_7.1 ((q22_7.2.2 124 (q22_7.1).toNatClampNeg) - 1)) FU (0, (mst q75_12.2 122 (q13).toNatClampNeg 0))) (fun q120_18 => Option.bind (lp (BX10_roundOf_157 p1 p2 q3 q22_7.1 ((q22_7.2.2 124 (q22_7.1).toNatClampNeg) - 1) q120_18.2) FU (1000000, 0)) (fun q157_21 => some (q157_21.1, q120_18.2))) else none))) else none)))))
def FX10_isSet (p1 : Int32) (p2 : Int32) (u : Mem) : Option (Int32) :=
  (if (FX10_within p1 0 ((jshl 1 (u 117 43)) - 1)) = 0 then some 0 else Option.bind (FX10_bits p1) (fun q1 => (if p2 < q1 then some 0 else some 1)))
def FX10_allLie (p1 : Int32) (u : Mem) : Option (Int32) :=
  Option.bind (FX10_errandsThat 0 u) (fun q1 => (if (p1 &&& (q1 ^^^ (-1))) = 0 then some 1 else some 0))
def FX10_refuses (p1 : Int32) (p2 : Int32) (u : Mem) : Option (Int32) :=
  (if (FX10_isCarrier p1 u) = 0 then some (-1000001) else Option.bind (FX10_isSet p2 5 u) (fun q1 => (if q1 = 0 then some (-1000001) else Option.bind (FX10_allLie p2 u) (fun q2 => (if q2 = 0 then some (-1000005) else Option.bind (FX10_carries p1 u) (fun q3 => (if q3 = 0 then some 0 else some (-1000005))))))))
def FX10_told (p1 : Int32) (u : Mem) : Option (Int32 × Mem) :=
  (if p1 < 1000000 then some (p1, u) else Option.bind (FX10_finding (-1000004) u) (fun q1 => some (q1.1, q1.2)))
def FX10_round (p1 : Int32) (p2 : Int32) (u : Mem) : Option (Int32 × Mem) :=
  Option.bind (FX10_refuses p1 p2 u) (fun q1 => (if q1 = 0 then Option.bind (FX10_roundOf p1 p2 u) (fun q2 => Option.bind (FX10_told q2.1 q2.2) (fun q3 => some (q3.1, q3.2))) else Option.bind (FX10_finding q1 u) (fun q4 => some (q4.1, q4.2))))
def BX10_getsOf_5 (p1 : Int32) (p2 : Int32) (rec5 : (Int32 × Int32 × Mem) → Option (Nat × Int32 × Int32 × Mem)) (x5 : (Int32 × Int32 × Mem)) : Option (Nat × Int32 × Int32 × Mem) :=
  (if (x5.2.2 117 43) ≤ x5.2.1 then some (1, x5.1, x5.2.1, x5.2.2) else (if (FX10_has p2 x5.2.1) = 0 then rec5 (x5.1, (x5.2.1 + 1), x5.2.2) else Option.bind (FX10_worthOf x5.2.1 x5.2.2) (fun q1 => (if 0 ≤ q1.1 then Option.bind (FX10_getsFor p1 q1.1 q1.2) (fun q2 => rec5 ((x5.1 + q2), (x5.2.1 + 1), q1.2)) else some (0, x5.1, x5.2.1, q1.2)))))
def FX10_getsOf (p1 : Int32) (p2 : Int32) (u : Mem) : Option (Int32 × Mem) :=
  Option.bind (lp (BX10_getsOf_5 p1 p2) FU (0, 0, u)) (fun q5_6 => (if q5_6.1 = 0 then some ((-1), q5_6.2.2.2) else (some (q5_6.2.1, q5_6.2.2.2))))
def FX10_gets (p1 : Int32) (p2 : Int32) (u : Mem) : Option (Int32 × Mem) :=
  (if (FX10_isCarrier p1 u) = 0 then Option.bind (FX10_finding (-1000001) u) (fun q1 => some (q1.1, q1.2)) else Option.bind (FX10_isSet p2 5 u) (fun q2 => (if q2 = 0 then Option.bind (FX10_finding (-1000001) u) (fun q6 => some (q6.1, q6.2)) else Option.bind (FX10_getsOf p1 p2 u) (fun q3 => (if 0 ≤ q3.1 then some (q3.1, q3.2) else Option.bind (FX10_finding (-1000004) q3.2) (fun q4 => some (q4.1, q4.2)))))))
def JX10_refusesWare_131_58 (p1 : Int32) (p2 : Int32) (v3 : Int32) (v4 : Int32) (v5 : Int32) (s0 : Int32) (w : Mem) (rec58 : (Int32 × Mem) → Option (Int32 × Mem)) : Option (Int32 × Mem) :=
  (if s0 = 0 then (if (w 116 11) ≤ 1000000 then rec58 ((v4 + 1), w) else rec58 ((v4 + 1), (mst (mst w 116 11 1000000) 116 10 v4))) else Option.bind (FX10_roundOf p1 v4 w) (fun q7 => (if (q7.2 116 11) ≤ q7.1 then rec58 ((v4 + 1), q7.2) else rec58 ((v4 + 1), (mst (mst q7.2 116 11 q7.1) 116 10 v4)))))
def JX10_refusesWare_130_58 (p1 : Int32) (p2 : Int32) (v3 : Int32) (v4 : Int32) (v5 : Int32) (w : Mem) (rec58 : (Int32 × Mem) → Option (Int32 × Mem)) : Option (Int32 × Mem) :=
  JX10_refusesWare_131_58 p1 p2 v3 v4 v5 0 w rec58
def BX10_refusesWare_58 (p1 : Int32) (p2 : Int32) (v3 : Int32) (rec58 : (Int32 × Mem) → Option (Int32 × Mem)) (x58 : (Int32 × Mem)) : Option (Int32 × Mem) :=
  (if (jshl 1 (x58.2 117 43)) ≤ x58.1 then some (x58.1, x58.2) else (if (x58.1 &&& (v3 ^^^ (-1))) = 0 then Option.bind (FX10_bits x58.1) (fun q4 => (if 5 < q4 then rec58 ((x58.1 + 1), x58.2) else Option.bind (FX10_getsOf p1 x58.1 x58.2) (fun q5 => (if q5.1 < 0 then JX10_refusesWare_130_58 p1 p2 v3 x58.1 q5.1 q5.2 rec58 else Option.bind (FX10_cIs p1 3 q5.2) (fun q10 => (if inb (FX10_wAt p2 0) 138 then (if (q10 + q5.1) < (q5.2 117 (FX10_wAt p2 0).toNatClampNeg) then JX10_refusesWare_130_58 p1 p2 v3 x58.1 q5.1 q5.2 rec58 else JX10_refusesWare_131_58 p1 p2 v3 x58.1 q5.1 1 q5.2 rec58) else none)))))) else rec58 ((x58.1 + 1), x58.2)))
def FX10_refusesWare (p1 : Int32) (p2 : Int32) (u : Mem) : Option (Int32 × Mem) :=
  (if (FX10_isCarrier p1 u) = 0 then some ((-1000001), u) else (if (FX10_isWare p2 u) = 0 then some ((-1000001), u) else (if inb (FX10_wAt p2 1) 138 then (if 0 ≤ (u 117 (FX10_wAt p2 1).toNatClampNeg) then some ((-1000005), u) else Option.bind (FX10_carries p1 u) (fun q2 => (if q2 = 0 then Option.bind (FX10_errandsThat 0 (mst u 116 11 1000000)) (fun q3 => Option.bind (lp (BX10_refusesWare_58 p1 p2 q3) FU (0, (mst u 116 11 1000000))) (fun q58_17 => (if (q58_17.2 116 11) < 1000000 then some (0, q58_17.2) else some ((-1000004), q58_17.2)))) else some ((-1000005), u)))) else none)))
def FX10_cheapest (p1 : Int32) (p2 : Int32) (u : Mem) : Option (Int32 × Mem) :=
  Option.bind (FX10_refusesWare p1 p2 u) (fun q1 => (if q1.1 = 0 then some ((q1.2 116 11), q1.2) else Option.bind (FX10_finding q1.1 q1.2) (fun q2 => some (q2.1, q2.2))))
def FX10_which (p1 : Int32) (p2 : Int32) (u : Mem) : Option (Int32 × Mem) :=
  Option.bind (FX10_refusesWare p1 p2 u) (fun q1 => (if q1.1 = 0 then some ((q1.2 116 10), q1.2) else Option.bind (FX10_finding q1.1 q1.2) (fun q2 => some (q2.1, q2.2))))
def JX10_who_72_39 (p1 : Int32) (v2 : Int32) (v3 : Int32) (v4 : Int32) (s0 : Int32) (w : Mem) (rec39 : (Int32 × Int32 × Int32 × Mem) → Option (Int32 × Int32 × Int32 × Mem)) : Option (Int32 × Int32 × Int32 × Mem) :=
  (if v3 ≤ s0 then rec39 (v2, (jmin v3 s0), (v4 + 1), w) else rec39 (v4, (jmin v3 s0), (v4 + 1), w))
def BX10_who_39 (p1 : Int32) (rec39 : (Int32 × Int32 × Int32 × Mem) → Option (Int32 × Int32 × Int32 × Mem)) (x39 : (Int32 × Int32 × Int32 × Mem)) : Option (Int32 × Int32 × Int32 × Mem) :=
  (if (x39.2.2.2 117 42) ≤ x39.2.2.1 then some (x39.1, x39.2.1, x39.2.2.1, x39.2.2.2) else Option.bind (FX10_carries x39.2.2.1 x39.2.2.2) (fun q3 => (if q3 = 0 then Option.bind (FX10_roundOf x39.2.2.1 p1 x39.2.2.2) (fun q5 => JX10_who_72_39 p1 x39.1 x39.2.1 x39.2.2.1 q5.1 q5.2 rec39) else JX10_who_72_39 p1 x39.1 x39.2.1 x39.2.2.1 1000000 x39.2.2.2 rec39)))
def FX10_who (p1 : Int32) (u : Mem) : Option (Int32 × Mem) :=
  Option.bind (FX10_isSet p1 5 u) (fun q1 => (if q1 = 0 then Option.bind (FX10_finding (-1000001) u) (fun q13 => some (q13.1, q13.2)) else Option.bind (FX10_allLie p1 u) (fun q2 => (if q2 = 0 then Option.bind (FX10_finding (-1000005) u) (fun q11 => some (q11.1, q11.2)) else Option.bind (lp (BX10_who_39 p1) FU ((-1), 1000000, 0, u)) (fun q39_8 => (if 0 ≤ q39_8.1 then some (q39_8.1, q39_8.2.2.2) else Option.bind (FX10_finding (-1000004) q39_8.2.2.2) (fun q9 => some (q9.1, q9.2))))))))
def BX10_joined_31 (p1 : Int32) (p2 : Int32) (v3 : Int32) (v4 : Int32) (rec31 : (Int32 × Int32 × Mem) → Option (Int32 × Int32 × Mem)) (x31 : (Int32 × Int32 × Mem)) : Option (Int32 × Int32 × Mem) :=
  (if (x31.2.2 117 43) ≤ x31.2.1 then some (x31.1, x31.2.1, x31.2.2) else (if 1000000 ≤ v4 then some (x31.1, x31.2.1, x31.2.2) else (if (FX10_has p2 x31.2.1) = 0 then rec31 (x31.1, (x31.2.1 + 1), x31.2.2) else Option.bind (FX10_roundOf p1 (jshl 1 x31.2.1) x31.2.2) (fun q3 => Option.bind (FX10_eIs x31.2.1 2 q3.2) (fun q4 => Option.bind (FX10_cIs p1 1 q3.2) (fun q5 => (if inb ((7 * q4) + q5) 49 then rec31 (((x31.1 + q3.1) + (q3.2 121 ((7 * q4) + q5).toNatClampNeg)), (x31.2.1 + 1), q3.2) else none)))))))
def FX10_joined (p1 : Int32) (p2 : Int32) (u : Mem) : Option (Int32 × Mem) :=
  Option.bind (FX10_refuses p1 p2 u) (fun q1 => (if q1 = 0 then Option.bind (FX10_roundOf p1 p2 u) (fun q2 => Option.bind (lp (BX10_joined_31 p1 p2 q1 q2.1) FU (0, 0, q2.2)) (fun q31_10 => (if q2.1 < 1000000 then some ((q31_10.1 - q2.1), q31_10.2.2) else Option.bind (FX10_finding (-1000004) q31_10.2.2) (fun q11 => some (q11.1, q11.2))))) else Option.bind (FX10_finding q1 u) (fun q13 => some (q13.1, q13.2))))
def BX10_refusesShared_69 (p1 : Int32) (p2 : Int32) (p3 : Int32) (rec69 : (Int32 × Mem) → Option (Int32 × Mem)) (x69 : (Int32 × Mem)) : Option (Int32 × Mem) :=
  (if p3 < x69.1 then some (x69.1, x69.2) else (if (x69.1 &&& (p3 ^^^ (-1))) = 0 then Option.bind (FX10_roundOf p1 x69.1 x69.2) (fun q5 => Option.bind (FX10_roundOf p2 (p3 &&& (x69.1 ^^^ (-1))) q5.2) (fun q6 => (if (q6.2 116 11) ≤ (q5.1 + q6.1) then rec69 ((x69.1 + 1), q6.2) else rec69 ((x69.1 + 1), (mst (mst q6.2 116 11 (q5.1 + q6.1)) 116 10 x69.1))))) else rec69 ((x69.1 + 1), x69.2)))
def FX10_refusesShared (p1 : Int32) (p2 : Int32) (p3 : Int32) (u : Mem) : Option (Int32 × Mem) :=
  (if (FX10_isCarrier p1 u) = 0 then some ((-1000001), u) else (if (FX10_isCarrier p2 u) = 0 then some ((-1000001), u) else (if p1 = p2 then some ((-1000001), u) else Option.bind (FX10_isSet p3 5 u) (fun q1 => (if q1 = 0 then some ((-1000001), u) else Option.bind (FX10_allLie p3 u) (fun q2 => (if q2 = 0 then some ((-1000005), u) else Option.bind (FX10_carries p1 u) (fun q3 => (if q3 = 0 then Option.bind (FX10_carries p2 u) (fun q4 => (if q4 = 0 then Option.bind (lp (BX10_refusesShared_69 p1 p2 p3) FU (0, (mst u 116 11 1000000))) (fun q69_10 => (if (q69_10.2 116 11) < 1000000 then some (0, q69_10.2) else some ((-1000004), q69_10.2))) else some ((-1000005), u))) else some ((-1000005), u))))))))))
def FX10_shared (p1 : Int32) (p2 : Int32) (p3 : Int32) (u : Mem) : Option (Int32 × Mem) :=
  Option.bind (FX10_refusesShared p1 p2 p3 u) (fun q1 => (if q1.1 = 0 then some ((q1.2 116 11), q1.2) else Option.bind (FX10_finding q1.1 q1.2) (fun q2 => some (q2.1, q2.2))))
def FX10_part (p1 : Int32) (p2 : Int32) (p3 : Int32) (u : Mem) : Option (Int32 × Mem) :=
  Option.bind (FX10_refusesShared p1 p2 p3 u) (fun q1 => (if q1.1 = 0 then some ((q1.2 116 10), q1.2) else Option.bind (FX10_finding q1.1 q1.2) (fun q2 => some (q2.1, q2.2))))
def BX10_strength_32 (p1 : Int32) (p2 : Int32) (v3 : Int32) (v4 : Int32) (rec32 : (Int32 × Int32 × Mem) → Option (Int32 × Int32 × Mem)) (x32 : (Int32 × Int32 × Mem)) : Option (Int32 × Int32 × Mem) :=
  (if 99 ≤ x32.1 then some (x32.1, x32.2.1, x32.2.2) else (if x32.2.1 < 1000000 then some (x32.1, x32.2.1, x32.2.2) else (if inb (FX10_cAt p1 2) 138 then Option.bind (FX10_roundOf p1 p2 (mst x32.2.2 117 ((FX10_cAt p1 2).toNatClampNeg) (x32.1 + 1))) (fun q4 => rec32 ((x32.1 + 1), q4.1, q4.2)) else none)))
def FX10_strength (p1 : Int32) (p2 : Int32) (u : Mem) : Option (Int32 × Mem) :=
  Option.bind (FX10_refuses p1 p2 u) (fun q1 => (if q1 = 0 then Option.bind (FX10_cIs p1 2 u) (fun q2 => Option.bind (lp (BX10_strength_32 p1 p2 q1 q2) FU (0, 1000000, u)) (fun q32_7 => (if inb (FX10_cAt p1 2) 138 then (if q32_7.2.1 < 1000000 then some (q32_7.1, (mst q32_7.2.2 117 ((FX10_cAt p1 2).toNatClampNeg) q2)) else Option.bind (FX10_finding (-1000004) (mst q32_7.2.2 117 ((FX10_cAt p1 2).toNatClampNeg) q2)) (fun q9 => some (q9.1, q9.2))) else none))) else Option.bind (FX10_finding q1 u) (fun q11 => some (q11.1, q11.2))))
def BX10_kindFor_35 (p1 : Int32) (p2 : Int32) (v3 : Int32) (v4 : Int32) (rec35 : (Int32 × Int32 × Int32 × Mem) → Option (Int32 × Int32 × Int32 × Mem)) (x35 : (Int32 × Int32 × Int32 × Mem)) : Option (Int32 × Int32 × Int32 × Mem) :=
  (if 6 < x35.2.2.1 then some (x35.1, x35.2.1, x35.2.2.1, x35.2.2.2) else (if inb (FX10_cAt p1 0) 138 then Option.bind (FX10_roundOf p1 p2 (mst x35.2.2.2 117 ((FX10_cAt p1 0).toNatClampNeg) x35.2.2.1)) (fun q4 => (if x35.2.1 ≤ q4.1 then rec35 (x35.1, (jmin x35.2.1 q4.1), (x35.2.2.1 + 1), q4.2) else rec35 (x35.2.2.1, (jmin x35.2.1 q4.1), (x35.2.2.1 + 1), q4.2))) else none))
def FX10_kindFor (p1 : Int32) (p2 : Int32) (u : Mem) : Option (Int32 × Mem) :=
  Option.bind (FX10_refuses p1 p2 u) (fun q1 => (if q1 = 0 then Option.bind (FX10_cIs p1 0 u) (fun q2 => Option.bind (lp (BX10_kindFor_35 p1 p2 q1 q2) FU ((-1), 1000000, 0, u)) (fun q35_7 => (if inb (FX10_cAt p1 0) 138 then (if 0 ≤ q35_7.1 then some (q35_7.1, (mst q35_7.2.2.2 117 ((FX10_cAt p1 0).toNatClampNeg) q2)) else Option.bind (FX10_finding (-1000004) (mst q35_7.2.2.2 117 ((FX10_cAt p1 0).toNatClampNeg) q2)) (fun q9 => some (q9.1, q9.2))) else none))) else Option.bind (FX10_finding q1 u) (fun q11 => some (q11.1, q11.2))))
def BX10_refusesBridge_35 (p1 : Int32) (p2 : Int32) (v3 : Int32) (v4 : Int32) (rec35 : (Int32 × Mem) → Option (Int32 × Mem)) (x35 : (Int32 × Mem)) : Option (Int32 × Mem) :=
  (if 7 ≤ x35.1 then some (x35.1, x35.2) else (if inb (FX10_wayAt v4 x35.1) 138 then (if (x35.2 117 (FX10_wayAt v4 x35.1).toNatClampNeg) ≤ 0 then rec35 ((x35.1 + 1), x35.2) else (if inb ((FX10_wayAt v4 x35.1) + 1) 138 then (if (x35.2 117 ((FX10_wayAt v4 x35.1) + 1).toNatClampNeg) = 1 then (if inb ((FX10_wayAt v4 x35.1) + 1) 138 then Option.bind (FX10_roundOf p1 p2 (mst x35.2 117 (((FX10_wayAt v4 x35.1) + 1).toNatClampNeg) 0)) (fun q5 => (if inb ((FX10_wayAt v4 x35.1) + 1) 138 then (if ((mst q5.2 117 (((FX10_wayAt v4 x35.1) + 1).toNatClampNeg) 1) 116 11) ≤ q5.1 then nm (mst (mst q5.2 117 (((FX10_wayAt v4 x35.1) + 1).toNatClampNeg) 1) 116 12 ((mst q5.2 117 (((FX10_wayAt v4 x35.1) + 1).toNatClampNeg) 1) 116 12)) (fun w7 => rec35 ((x35.1 + 1), (mst w7 116 11 (jmin (w7 116 11) q5.1)))) else nm (mst (mst (mst q5.2 117 (((FX10_wayAt v4 x35.1) + 1).toNatClampNeg) 1) 116 12 ((10 * v4) + x35.1)) 116 11 (jmin ((mst (mst q5.2 117 (((FX10_wayAt v4 x35.1) + 1).toNatClampNeg) 1) 116 12 ((10 * v4) + x35.1)) 116 11) q5.1)) (fun w8 => rec35 ((x35.1 + 1), w8))) else none)) else none) else rec35 ((x35.1 + 1), x35.2)) else none)) else none))
def BX10_refusesBridge_22 (p1 : Int32) (p2 : Int32) (v3 : Int32) (rec22 : (Int32 × Mem) → Option (Int32 × Mem)) (x22 : (Int32 × Mem)) : Option (Int32 × Mem) :=
  (if 7 ≤ x22.1 then some (x22.1, x22.2) else Option.bind (lp (BX10_refusesBridge_35 p1 p2 v3 x22.1) FU ((x22.1 + 1), x22.2)) (fun q35_13 => rec22 ((x22.1 + 1), q35_13.2)))
def FX10_refusesBridge (p1 : Int32) (p2 : Int32) (u : Mem) : Option (Int32 × Mem) :=
  Option.bind (FX10_refuses p1 p2 u) (fun q1 => (if q1 = 0 then Option.bind (lp (BX10_refusesBridge_22 p1 p2 q1) FU (0, (mst u 116 11 1000000))) (fun q22_15 => (if (q22_15.2 116 11) < 1000000 then some (0, q22_15.2) else some ((-1000004), q22_15.2))) else some (q1, u)))
def FX10_bridge (p1 : Int32) (p2 : Int32) (u : Mem) : Option (Int32 × Mem) :=
  Option.bind (FX10_refusesBridge p1 p2 u) (fun q1 => (if q1.1 = 0 then some ((q1.2 116 12), q1.2) else Option.bind (FX10_finding q1.1 q1.2) (fun q2 => some (q2.1, q2.2))))
def FX10_worth (p1 : Int32) (p2 : Int32) (u : Mem) : Option (Int32 × Mem) :=
  Option.bind (FX10_refusesBridge p1 p2 u) (fun q1 => (if q1.1 = 0 then Option.bind (FX10_roundOf p1 p2 q1.2) (fun q2 => (if q2.1 < 1000000 then some ((q2.1 - (q2.2 116 11)), q2.2) else Option.bind (FX10_finding (-1000004) q2.2) (fun q3 => some (q3.1, q3.2)))) else Option.bind (FX10_finding q1.1 q1.2) (fun q5 => some (q5.1, q5.2))))
def BX10_reach_29 (p1 : Int32) (w : Mem) (rec29 : (Int32 × Int32) → Option (Int32 × Int32)) (x29 : (Int32 × Int32)) : Option (Int32 × Int32) :=
  (if 7 ≤ x29.2 then some (x29.1, x29.2) else Option.bind (FX10_cIs p1 1 w) (fun q3 => (if inb ((7 * q3) + x29.2) 49 then (if 1000000 ≤ (w 121 ((7 * q3) + x29.2).toNatClampNeg) then rec29 ((x29.1 ||| 0), (x29.2 + 1)) else rec29 ((x29.1 ||| (jshl 1 x29.2)), (x29.2 + 1))) else none)))
def FX10_reach (p1 : Int32) (u : Mem) : Option (Int32 × Mem) :=
  (if (FX10_isCarrier p1 u) = 0 then Option.bind (FX10_finding (-1000001) u) (fun q8 => some (q8.1, q8.2)) else Option.bind (FX10_cIs p1 0 u) (fun q1 => Option.bind (FX10_findFar q1 u) (fun q2 => Option.bind (lp (BX10_reach_29 p1 q2) FU (0, 0)) (fun q29_7 => some (q29_7.1, q2)))))
def BX10_middle_38 (p1 : Int32) (v3 : Int32) (w : Mem) (rec38 : (Int32 × Int32) → Option (Int32 × Int32)) (x38 : (Int32 × Int32)) : Option (Int32 × Int32) :=
  (if 7 ≤ x38.2 then some (x38.1, x38.2) else (if v3 = x38.2 then rec38 ((x38.1 ||| 0), (x38.2 + 1)) else (if inb (FX10_wayAt v3 x38.2) 138 then (if (w 117 (FX10_wayAt v3 x38.2).toNatClampNeg) ≤ 0 then rec38 ((x38.1 ||| 0), (x38.2 + 1)) else rec38 ((x38.1 ||| (jshl 1 v3)), (x38.2 + 1))) else none)))
def BX10_middle_29 (p1 : Int32) (w : Mem) (rec29 : (Int32 × Int32) → Option (Int32 × Int32)) (x29 : (Int32 × Int32)) : Option (Int32 × Int32) :=
  (if 7 ≤ x29.2 then some (x29.1, x29.2) else Option.bind (lp (BX10_middle_38 p1 x29.2 w) FU (x29.1, 0)) (fun q38_7 => rec29 (q38_7.1, (x29.2 + 1))))
def BX10_middle_123 (p1 : Int32) (v2 : Int32) (v3 : Int32) (v4 : Int32) (v5 : Int32) (w : Mem) (rec123 : (Int32 × Int32) → Option (Int32 × Int32)) (x123 : (Int32 × Int32)) : Option (Int32 × Int32) :=
  (if 7 ≤ x123.2 then some (x123.1, x123.2) else (if (FX10_has v2 x123.2) = 0 then rec123 (x123.1, (x123.2 + 1)) else (if inb ((7 * v5) + x123.2) 49 then rec123 ((jmax x123.1 (w 121 ((7 * v5) + x123.2).toNatClampNeg)), (x123.2 + 1)) else none)))
def JX10_middle_118_96 (p1 : Int32) (v2 : Int32) (v3 : Int32) (v4 : Int32) (v5 : Int32) (s0 : Int32) (w : Mem) (rec96 : (Int32 × Int32 × Int32) → Option (Int32 × Int32 × Int32)) : Option (Int32 × Int32 × Int32) :=
  Option.bind (lp (BX10_middle_123 p1 v2 v3 v4 v5 w) FU (s0, 0)) (fun q123_13 => (if v4 ≤ q123_13.1 then rec96 (v3, (jmin v4 q123_13.1), (v5 + 1)) else rec96 (v5, (jmin v4 q123_13.1), (v5 + 1))))
def BX10_middle_96 (p1 : Int32) (v2 : Int32) (w : Mem) (rec96 : (Int32 × Int32 × Int32) → Option (Int32 × Int32 × Int32)) (x96 : (Int32 × Int32 × Int32)) : Option (Int32 × Int32 × Int32) :=
  (if 7 ≤ x96.2.2 then some (x96.1, x96.2.1, x96.2.2) else (if (FX10_has v2 x96.2.2) = 0 then JX10_middle_118_96 p1 v2 x96.1 x96.2.1 x96.2.2 1000000 w rec96 else JX10_middle_118_96 p1 v2 x96.1 x96.2.1 x96.2.2 0 w rec96))
def FX10_middle (p1 : Int32) (u : Mem) : Option (Int32 × Mem) :=
  (if (FX10_isCarrier p1 u) = 0 then Option.bind (FX10_finding (-1000001) u) (fun q20 => some (q20.1, q20.2)) else Option.bind (FX10_cIs p1 0 u) (fun q1 => Option.bind (FX10_findFar q1 u) (fun q2 => Option.bind (lp (BX10_middle_29 p1 q2) FU (0, 0)) (fun q29_9 => Option.bind (lp (BX10_middle_96 p1 q29_9.1 q2) FU ((-1), 1000000, 0)) (fun q96_17 => (if 0 ≤ q96_17.1 then some (q96_17.1, q2) else Option.bind (FX10_finding (-1000004) q2) (fun q18 => some (q18.1, q18.2))))))))
def BX10_heavy_53 (p1 : Int32) (p2 : Int32) (v3 : Int32) (w : Mem) (rec53 : (Int32 × Int32) → Option (Int32 × Int32)) (x53 : (Int32 × Int32)) : Option (Int32 × Int32) :=
  (if (w 117 43) ≤ x53.2 then some (x53.1, x53.2) else (if (FX10_has p2 x53.2) = 0 then rec53 ((x53.1 ||| 0), (x53.2 + 1)) else Option.bind (FX10_eIs x53.2 0 w) (fun q5 => Option.bind (FX10_bears p1 w) (fun q6 => (if (v3 + (q5 / 2)) ≤ q6 then rec53 ((x53.1 ||| 0), (x53.2 + 1)) else rec53 ((x53.1 ||| (jshl 1 x53.2)), (x53.2 + 1)))))))
def FX10_heavy (p1 : Int32) (p2 : Int32) (u : Mem) : Option (Int32 × Mem) :=
  (if (FX10_isCarrier p1 u) = 0 then Option.bind (FX10_finding (-1000001) u) (fun q1 => some (q1.1, q1.2)) else Option.bind (FX10_isSet p2 8 u) (fun q2 => (if q2 = 0 then Option.bind (FX10_finding (-1000001) u) (fun q13 => some (q13.1, q13.2)) else Option.bind (FX10_weighs p2 u) (fun q3 => Option.bind (FX10_bears p1 u) (fun q4 => (if q3 ≤ q4 then Option.bind (lp (BX10_heavy_53 p1 p2 q3 u) FU (0, 0)) (fun q53_10 => some (q53_10.1, u)) else Option.bind (FX10_finding (-1000005) u) (fun q11 => some (q11.1, q11.2))))))))
def FX10_drawn (p1 : Int32) (u : Mem) : Option (Int32 × Mem) :=
  (if ¬ p1 = 0 then some ((jrem (jushr ((mst u 117 45 (((u 117 45) * 1103515245) + 12345)) 117 45) 8) p1), (mst u 117 45 (((u 117 45) * 1103515245) + 12345))) else none)
def BX10_takesAll_2 (p1 : Int32) (rec2 : (Int32 × Mem) → Option (Int32 × Mem)) (x2 : (Int32 × Mem)) : Option (Int32 × Mem) :=
  (if (x2.2 117 43) ≤ x2.1 then some (x2.1, x2.2) else Option.bind (FX10_cIs p1 1 x2.2) (fun q1 => Option.bind (FX10_liesAt x2.1 q1 x2.2) (fun q2 => (if q2 = 0 then rec2 ((x2.1 + 1), x2.2) else Option.bind (FX10_fitsTo p1 x2.1 x2.2) (fun q3 => (if q3 = 0 then rec2 ((x2.1 + 1), x2.2) else Option.bind (FX10_taken p1 x2.1 x2.2) (fun q4 => rec2 ((x2.1 + 1), q4))))))))
def FX10_takesAll (p1 : Int32) (u : Mem) : Option (Mem) :=
  Option.bind (lp (BX10_takesAll_2 p1) FU (0, u)) (fun q2_8 => some q2_8.2)
def FX10_refusesDays (p1 : Int32) (u : Mem) : Int32 :=
  (if (FX10_within p1 1 12) = 0 then (-1000001) else (if (u 117 42) = 0 then (-1000005) else 0))
def BX10_days_9 (p1 : Int32) (rec9 : (Int32 × Int32 × Mem) → Option (Int32 × Int32 × Mem)) (x9 : (Int32 × Int32 × Mem)) : Option (Int32 × Int32 × Mem) :=
  (if p1 ≤ x9.2.1 then some (x9.1, x9.2.1, x9.2.2) else Option.bind (FX10_drawn (x9.2.2 117 42) x9.2.2) (fun q1 => Option.bind (FX10_takesAll q1.1 q1.2) (fun q2 => Option.bind (FX10_drawn 7 q2) (fun q3 => Option.bind (FX10_walked q1.1 q3.1 q3.2) (fun q4 => rec9 ((jmax x9.1 q4.1), (x9.2.1 + 1), q4.2))))))
def FX10_days (p1 : Int32) (u : Mem) : Option (Int32 × Mem) :=
  Option.bind (lp (BX10_days_9 p1) FU (0, 0, (mst u 116 6 0))) (fun q9_6 => (if 0 ≤ q9_6.1 then some ((q9_6.2.2 116 6), q9_6.2.2) else some (q9_6.1, q9_6.2.2)))
def FX10_day (p1 : Int32) (u : Mem) : Option (Int32 × Mem) :=
  (if (FX10_refusesDays p1 u) = 0 then Option.bind (FX10_days p1 u) (fun q1 => some (q1.1, q1.2)) else Option.bind (FX10_finding (FX10_refusesDays p1 u) u) (fun q2 => some (q2.1, q2.2)))
def FX10_ahead (p1 : Int32) (u : Mem) : Option (Int32 × Mem) :=
  (if (FX10_refusesDays p1 u) = 0 then Option.bind (FX10_copyRow 117 119 u) (fun q1 => Option.bind (FX10_days p1 q1) (fun q2 => Option.bind (FX10_putBack q2.1 q2.2) (fun q3 => some (q3.1, q3.2)))) else Option.bind (FX10_finding (FX10_refusesDays p1 u) u) (fun q4 => some (q4.1, q4.2)))
def FX10_seed (p1 : Int32) (u : Mem) : Option (Int32 × Mem) :=
  Option.bind (FX10_become 45 p1 u) (fun q1 => some (q1.1, q1.2))
def BX10_feed_38 (p1 : Int32) (p2 : Int32) (rec38 : (Int32 × Mem) → Option (Int32 × Mem)) (x38 : (Int32 × Mem)) : Option (Int32 × Mem) :=
  (if x38.1 < 0 then some (x38.1, x38.2) else (if inb (x38.2 116 14) 120 then nm (mst (mst x38.2 125 ((x38.2 116 14).toNatClampNeg) ((jshr p1 (8 * x38.1)) &&& 255)) 116 14 (((mst x38.2 125 ((x38.2 116 14).toNatClampNeg) ((jshr p1 (8 * x38.1)) &&& 255)) 116 14) + 1)) (fun w2 => rec38 ((x38.1 + (-1)), w2)) else none))
def FX10_feed (p1 : Int32) (p2 : Int32) (u : Mem) : Option (Int32 × Mem) :=
  (if (FX10_within p2 1 4) = 0 then Option.bind (FX10_finding (-1000001) u) (fun q7 => some (q7.1, q7.2)) else (if ((u 116 14) + p2) ≤ 120 then Option.bind (lp (BX10_feed_38 p1 p2) FU ((p2 - 1), u)) (fun q38_4 => some ((q38_4.2 116 14), q38_4.2)) else Option.bind (FX10_finding (-1000002) u) (fun q5 => some (q5.1, q5.2))))
def FX10_wipe (u : Mem) : Int32 × Mem :=
  ((u 116 14), (mst u 116 14 0))
def FX10_byteAt (p1 : Int32) (u : Mem) : Option (Int32) :=
  (if (u 116 14) ≤ p1 then some (-1) else (if inb p1 120 then some (u 125 (p1).toNatClampNeg) else none))
def BX10_next_8  (rec8 : (Mem) → Option (Mem)) (x8 : (Mem)) : Option (Mem) :=
  Option.bind (FX10_byteAt (x8 116 15) x8) (fun q1 => (if q1 = 32 then rec8 (mst x8 116 15 ((x8 116 15) + 1)) else some x8))
def BX10_next_131 (v1 : Int32) (rec131 : (Mem) → Option (Mem)) (x131 : (Mem)) : Option (Mem) :=
  Option.bind (FX10_byteAt (x131 116 16) x131) (fun q6 => (if (FX10_within q6 48 57) = 0 then some x131 else Option.bind (FX10_byteAt (x131 116 16) x131) (fun q7 => nm (mst (mst x131 116 18 (jmin 10000 (((10 * (x131 116 18)) + q7) - 48))) 116 16 (((mst x131 116 18 (jmin 10000 (((10 * (x131 116 18)) + q7) - 48))) 116 16) + 1)) (fun w8 => rec131 w8))))
def BX10_next_84 (v1 : Int32) (rec84 : (Mem) → Option (Mem)) (x84 : (Mem)) : Option (Mem) :=
  Option.bind (FX10_byteAt (x84 116 16) x84) (fun q12 => (if (FX10_within q12 97 122) = 0 then some x84 else rec84 (mst x84 116 16 ((x84 116 16) + 1))))
def FX10_next (u : Mem) : Option (Mem) :=
  Option.bind (lp (BX10_next_8) FU (mst u 116 15 (u 116 16))) (fun q8_3 => Option.bind (FX10_byteAt (q8_3 116 15) q8_3) (fun q4 => (if 0 ≤ q4 then (if (FX10_within q4 97 122) = 0 then (if (FX10_within q4 48 57) = 0 then nm (mst (mst (mst (mst q8_3 116 16 (q8_3 116 15)) 116 18 0) 116 17 3) 116 16 (((mst (mst (mst q8_3 116 16 (q8_3 116 15)) 116 18 0) 116 17 3) 116 16) + 1)) (fun w5 => some w5) else Option.bind (lp (BX10_next_131 q4) FU (mst (mst (mst q8_3 116 16 (q8_3 116 15)) 116 18 0) 116 17 2)) (fun q131_10 => some q131_10)) else Option.bind (lp (BX10_next_84 q4) FU (mst (mst (mst q8_3 116 16 (q8_3 116 15)) 116 18 0) 116 17 1)) (fun q84_14 => some q84_14)) else some (mst (mst (mst q8_3 116 16 (q8_3 116 15)) 116 18 0) 116 17 0))))
def BX10_isWord_32 (p1 : Nat) (u : Mem) (rec32 : (Int32 × Int32) → Option (Int32 × Int32)) (x32 : (Int32 × Int32)) : Option (Int32 × Int32) :=
  (if (slen p1) ≤ x32.2 then some (x32.1, x32.2) else (if x32.1 = 0 then some (x32.1, x32.2) else (if inb ((u 116 15) + x32.2) 120 then (if inb x32.2 (strL.getD p1 []).length then (if (u 125 ((u 116 15) + x32.2).toNatClampNeg) = (sch p1 x32.2) then rec32 (1, (x32.2 + 1)) else rec32 (0, (x32.2 + 1))) else none) else none)))
def JX10_isWord_29 (p1 : Nat) (u : Mem) (s0 : Int32) : Option (Int32) :=
  Option.bind (lp (BX10_isWord_32 p1 u) FU (s0, 0)) (fun q32_6 => (if inZ q32_6.1 then some q32_6.1 else none))
def JX10_isWord_28 (p1 : Nat) (u : Mem) : Option (Int32) :=
  JX10_isWord_29 p1 u 0
def FX10_isWord (p1 : Nat) (u : Mem) : Option (Int32) :=
  (if (u 116 17) = 1 then (if ((u 116 16) - (u 116 15)) = (slen p1) then JX10_isWord_29 p1 u 1 else JX10_isWord_28 p1 u) else JX10_isWord_28 p1 u)
def FX10_must (p1 : Int32) (u : Mem) : Option (Mem) :=
  (if (u 116 19) = 0 then (if p1 = 0 then (if ((mst u 116 19 1) 116 19) = 0 then Option.bind (FX10_next (mst u 116 19 1)) (fun q5 => some q5) else some (mst u 116 19 1)) else (if ((mst u 116 19 0) 116 19) = 0 then Option.bind (FX10_next (mst u 116 19 0)) (fun q3 => some q3) else some (mst u 116 19 0))) else (if ((mst u 116 19 1) 116 19) = 0 then Option.bind (FX10_next (mst u 116 19 1)) (fun q1 => some q1) else some (mst u 116 19 1)))
def FX10_number (p1 : Int32) (p2 : Int32) (u : Mem) : Option (Int32 × Mem) :=
  (if (u 116 17) = 2 then (if (FX10_within (u 116 18) p1 p2) = 0 then Option.bind (FX10_must 0 u) (fun q2 => some ((u 116 18), q2)) else Option.bind (FX10_must 1 u) (fun q3 => some ((u 116 18), q3))) else Option.bind (FX10_must 0 u) (fun q1 => some ((u 116 18), q1)))
def FX10_item (p1 : Int32) (p2 : Int32) (p3 : Int32) (p4 : Int32) (p5 : Int32) (u : Mem) : Option (Mem) :=
  (if inb (5 * (u 116 22)) 600 then (if inb ((5 * (u 116 22)) + 1) 600 then (if inb ((5 * (u 116 22)) + 2) 600 then nm (mst (mst (mst u 127 ((5 * (u 116 22)).toNatClampNeg) p1) 127 (((5 * (u 116 22)) + 1).toNatClampNeg) p2) 127 (((5 * (u 116 22)) + 2).toNatClampNeg) p3) (fun w4 => (if inb ((5 * (u 116 22)) + 3) 600 then (if inb ((5 * (u 116 22)) + 4) 600 then nm (mst (mst (mst w4 127 (((5 * (u 116 22)) + 3).toNatClampNeg) p4) 127 (((5 * (u 116 22)) + 4).toNatClampNeg) p5) 116 22 (((mst (mst w4 127 (((5 * (u 116 22)) + 3).toNatClampNeg) p4) 127 (((5 * (u 116 22)) + 4).toNatClampNeg) p5) 116 22) + 1)) (fun w7 => some w7) else none) else none)) else none) else none) else none)
def BX10_kindTold_4 (u : Mem) (rec4 : (Int32 × Int32) → Option (Int32 × Int32)) (x4 : (Int32 × Int32)) : Option (Int32 × Int32) :=
  (if 7 ≤ x4.2 then some (x4.1, x4.2) else (if inb x4.2 7 then Option.bind (FX10_isWord (x4.2).toNatClampNeg u) (fun q2 => (if q2 = 0 then rec4 (x4.1, (x4.2 + 1)) else rec4 (x4.2, (x4.2 + 1)))) else none))
def FX10_kindTold (u : Mem) : Option (Int32) :=
  Option.bind (lp (BX10_kindTold_4 u) FU ((-1), 0)) (fun q4_5 => some q4_5.1)
def FX10_isNext (p1 : Nat) (u : Mem) : Option (Int32 × Mem) :=
  (if (u 116 19) = 0 then Option.bind (FX10_isWord p1 u) (fun q1 => (if q1 = 0 then some (0, u) else Option.bind (FX10_must 1 u) (fun q2 => some (1, q2)))) else some (0, u))
def FX10_unlike (p1 : Int32) (u : Mem) : Option (Int32 × Mem) :=
  (if (u 116 19) = 0 then (if (u 116 17) = 2 then (if (FX10_isPlace (u 116 18)) = 0 then Option.bind (FX10_must 0 u) (fun q3 => some ((u 116 18), q3)) else (if (u 116 18) = p1 then Option.bind (FX10_must 0 u) (fun q4 => some ((u 116 18), q4)) else Option.bind (FX10_must 1 u) (fun q5 => some ((u 116 18), q5)))) else Option.bind (FX10_must 0 u) (fun q2 => some ((u 116 18), q2))) else Option.bind (FX10_must 0 u) (fun q1 => some ((u 116 18), q1)))
def JX10_readItem_264 (v1 : Int32) (w : Mem) : Option (Mem) :=
  Option.bind (FX10_isWord 15 w) (fun q3 => (if q3 = 0 then Option.bind (FX10_must 0 w) (fun q4 => Option.bind (FX10_number 1 9999 (mst q4 116 25 ((q4 116 25) + 1))) (fun q5 => Option.bind (FX10_item 12 q5.1 0 0 0 q5.2) (fun q6 => some q6))) else (if 6 ≤ (w 116 25) then Option.bind (FX10_must 0 w) (fun q7 => Option.bind (FX10_number 1 9999 (mst q7 116 25 ((q7 116 25) + 1))) (fun q8 => Option.bind (FX10_item 12 q8.1 0 0 0 q8.2) (fun q9 => some q9))) else Option.bind (FX10_must 1 w) (fun q10 => Option.bind (FX10_number 1 9999 (mst q10 116 25 ((q10 116 25) + 1))) (fun q11 => Option.bind (FX10_item 12 q11.1 0 0 0 q11.2) (fun q12 => some q12))))))
def JX10_readItem_196 (v1 : Int32) (s1 : Int32) (w : Mem) : Option (Mem) :=
  Option.bind (FX10_must s1 w) (fun q16 => Option.bind (FX10_number 1 60 (mst q16 116 24 ((q16 116 24) + 1))) (fun q17 => Option.bind (FX10_isWord 13 q17.2) (fun q18 => Option.bind (FX10_must q18 q17.2) (fun q19 => Option.bind (FX10_number 0 6 q19) (fun q20 => Option.bind (FX10_isWord 14 q20.2) (fun q21 => Option.bind (FX10_must q21 q20.2) (fun q22 => Option.bind (FX10_unlike q20.1 q22) (fun q23 => Option.bind (FX10_item 11 q17.1 q20.1 q23.1 0 q23.2) (fun q24 => some q24)))))))))
def JX10_readItem_24 (v1 : Int32) (s1 : Int32) (w : Mem) : Option (Mem) :=
  Option.bind (FX10_must s1 w) (fun q38 => Option.bind (FX10_isNext 7 (mst q38 116 23 ((q38 116 23) + 1))) (fun q39 => (if q39.1 = 0 then Option.bind (FX10_isNext 8 q39.2) (fun q40 => (if q40.1 = 0 then Option.bind (FX10_item v1 0 20 0 0 q40.2) (fun q41 => some q41) else Option.bind (FX10_number 1 99 q40.2) (fun q42 => Option.bind (FX10_item v1 0 q42.1 0 0 q42.2) (fun q43 => some q43)))) else Option.bind (FX10_number 0 6 q39.2) (fun q45 => Option.bind (FX10_isNext 8 q45.2) (fun q46 => (if q46.1 = 0 then Option.bind (FX10_item v1 q45.1 20 0 0 q46.2) (fun q47 => some q47) else Option.bind (FX10_number 1 99 q46.2) (fun q48 => Option.bind (FX10_item v1 q45.1 q48.1 0 0 q48.2) (fun q49 => some q49))))))))
def FX10_readItem (u : Mem) : Option (Mem) :=
  Option.bind (FX10_kindTold u) (fun q1 => (if q1 < 0 then Option.bind (FX10_isNext 9 u) (fun q2 => (if q2.1 = 0 then (if (q2.2 116 19) = 0 then Option.bind (FX10_isWord 12 q2.2) (fun q15 => (if q15 = 0 then JX10_readItem_264 q1 q2.2 else (if 8 ≤ (q2.2 116 24) then JX10_readItem_196 q1 0 q2.2 else JX10_readItem_196 q1 1 q2.2))) else JX10_readItem_264 q1 q2.2) else Option.bind (FX10_number 0 6 q2.2) (fun q28 => Option.bind (FX10_unlike q28.1 q28.2) (fun q29 => Option.bind (FX10_isWord 10 q29.2) (fun q30 => Option.bind (FX10_must q30 q29.2) (fun q31 => Option.bind (FX10_number 0 99 q31) (fun q32 => Option.bind (FX10_isNext 11 q32.2) (fun q33 => (if q33.1 = 0 then Option.bind (FX10_item 10 q28.1 q29.1 q32.1 0 q33.2) (fun q34 => some q34) else Option.bind (FX10_item 10 q28.1 q29.1 q32.1 1 q33.2) (fun q35 => some q35)))))))))) else (if 6 ≤ (u 116 23) then JX10_readItem_24 q1 0 u else JX10_readItem_24 q1 1 u)))
def FX10_isSo (p1 : Int32) (u : Mem) : Option (Int32 × Mem) :=
  (if inb (p1 + 1) 600 then (if inb (p1 + 2) 600 then (if inb (p1 + 3) 600 then (if inb p1 600 then (if (u 127 (p1).toNatClampNeg) = 10 then (if inb (p1 + 4) 600 then Option.bind (FX10_wayIs (u 127 (p1 + 1).toNatClampNeg) (u 127 (p1 + 2).toNatClampNeg) (u 127 (p1 + 3).toNatClampNeg) (u 127 (p1 + 4).toNatClampNeg) u) (fun q7 => some (q7.1, q7.2)) else none) else (if (u 127 (p1).toNatClampNeg) = 11 then Option.bind (FX10_newErrand (u 127 (p1 + 1).toNatClampNeg) (u 127 (p1 + 2).toNatClampNeg) (u 127 (p1 + 3).toNatClampNeg) u) (fun q9 => some (q9.1, q9.2)) else (if (u 127 (p1).toNatClampNeg) = 12 then Option.bind (FX10_newWare (u 127 (p1 + 1).toNatClampNeg) u) (fun q11 => some (q11.1, q11.2)) else (if inb p1 600 then Option.bind (FX10_newCarrier (u 127 (p1).toNatClampNeg) (u 127 (p1 + 1).toNatClampNeg) (u 127 (p1 + 2).toNatClampNeg) u) (fun q13 => some (q13.1, q13.2)) else none)))) else none) else none) else none) else none)
def BX10_text_56  (rec56 : (Mem) → Option (Mem)) (x56 : (Mem)) : Option (Mem) :=
  (if (x56 116 19) = 0 then (if (x56 116 17) = 3 then (if inb (x56 116 15) 120 then (if (x56 125 (x56 116 15).toNatClampNeg) = 59 then Option.bind (FX10_must 1 x56) (fun q5 => Option.bind (FX10_readItem q5) (fun q6 => rec56 q6)) else some x56) else none) else some x56) else some x56)
def BX10_text_136  (rec136 : (Int32 × Int32 × Mem) → Option (Int32 × Int32 × Mem)) (x136 : (Int32 × Int32 × Mem)) : Option (Int32 × Int32 × Mem) :=
  (if (x136.2.2 116 22) ≤ x136.2.1 then some (x136.1, x136.2.1, x136.2.2) else Option.bind (FX10_isSo (5 * x136.2.1) x136.2.2) (fun q12 => (if 0 ≤ q12.1 then rec136 ((x136.1 + 1), (x136.2.1 + 1), q12.2) else rec136 ((x136.1 + 0), (x136.2.1 + 1), q12.2))))
def JX10_text_110 (s1 : Int32) (w : Mem) : Option (Int32 × Mem) :=
  Option.bind (FX10_must s1 w) (fun q11 => (if ((mst q11 116 14 0) 116 19) = 0 then Option.bind (lp (BX10_text_136) FU (0, 0, (mst q11 116 14 0))) (fun q136_15 => some (q136_15.1, q136_15.2.2)) else some (((-1) - ((mst q11 116 14 0) 116 15)), (mst q11 116 14 0))))
def JX10_text_97 (w : Mem) : Option (Int32 × Mem) :=
  (if (w 116 17) = 0 then JX10_text_110 1 w else JX10_text_110 0 w)
def FX10_text (u : Mem) : Option (Int32 × Mem) :=
  nm (mst (mst (mst (mst u 116 16 0) 116 19 0) 116 22 0) 116 23 ((mst (mst (mst u 116 16 0) 116 19 0) 116 22 0) 117 42)) (fun w1 => Option.bind (FX10_next (mst (mst w1 116 24 (w1 117 43)) 116 25 ((mst w1 116 24 (w1 117 43)) 117 44))) (fun q2 => Option.bind (FX10_readItem q2) (fun q3 => Option.bind (lp (BX10_text_56) FU q3) (fun q56_10 => JX10_text_97 q56_10))))
def FX10_isSpot (p0 : Int32) : Int32 :=
  (FX10_within p0 0 9)
def FX10_hold (p1 : Int32) (p2 : Int32) (u : Mem) : Option (Int32 × Mem) :=
  (if (FX10_isSpot p1) = 0 then Option.bind (FX10_finding (-1000001) u) (fun q1 => some (q1.1, q1.2)) else (if p2 = (-1) then (if inb (46 + p1) 138 then some (1, (mst u 117 ((46 + p1).toNatClampNeg) p2)) else none) else (if (FX10_isCarrier p2 u) = 0 then Option.bind (FX10_finding (-1000001) u) (fun q4 => some (q4.1, q4.2)) else (if inb (46 + p1) 138 then some (1, (mst u 117 ((46 + p1).toNatClampNeg) p2)) else none))))
def FX10_as (p1 : Int32) (p2 : Int32) (u : Mem) : Option (Int32 × Mem) :=
  (if (FX10_isSpot p1) = 0 then Option.bind (FX10_finding (-1000001) u) (fun q1 => some (q1.1, q1.2)) else (if (FX10_isKind p2) = 0 then Option.bind (FX10_finding (-1000001) u) (fun q9 => some (q9.1, q9.2)) else (if inb (46 + p1) 138 then (if 0 ≤ (u 117 (46 + p1).toNatClampNeg) then Option.bind (FX10_cIs (u 117 (46 + p1).toNatClampNeg) 0 u) (fun q3 => Option.bind (FX10_isUnder q3 p2) (fun q4 => (if q4 = 0 then Option.bind (FX10_finding (-1000003) u) (fun q5 => some (q5.1, q5.2)) else some ((u 117 (46 + p1).toNatClampNeg), u)))) else Option.bind (FX10_finding (-1000006) u) (fun q7 => some (q7.1, q7.2))) else none)))
def FX10_isSheet (p0 : Int32) : Int32 :=
  (FX10_within p0 0 3)
def FX10_cutTo (p0 : Int32) (p1 : Int32) : Int32 :=
  (if p1 = 8 then (jb p0) else (if p1 = 16 then (js p0) else p0))
def BX10_sheet_86 (p1 : Int32) (p2 : Int32) (p3 : Int32) (rec86 : (Int32 × Mem) → Option (Int32 × Mem)) (x86 : (Int32 × Mem)) : Option (Int32 × Mem) :=
  (if 40 ≤ x86.1 then some (x86.1, x86.2) else (if inb ((40 * p1) + x86.1) 160 then rec86 ((x86.1 + 1), (mst x86.2 130 (((40 * p1) + x86.1).toNatClampNeg) 0)) else none))
def JX10_sheet_82 (p1 : Int32) (p2 : Int32) (p3 : Int32) (s0 : Nat) (s1 : Int32) (s2 : Int32) (w : Mem) : Option (Int32 × Mem) :=
  (if inb s1 4 then Option.bind (lp (BX10_sheet_86 p1 p2 p3) FU (0, (mst w s0 (s1).toNatClampNeg s2))) (fun q86_6 => (if inb p1 4 then some ((q86_6.2 129 (p1).toNatClampNeg), q86_6.2) else none)) else none)
def JX10_sheet_36 (p1 : Int32) (p2 : Int32) (p3 : Int32) (w : Mem) : Option (Int32 × Mem) :=
  (if 0 ≤ p3 then (if p3 ≤ 40 then (if inb p1 4 then (if p2 = 0 then JX10_sheet_82 p1 p2 p3 129 p1 0 (mst w 128 (p1).toNatClampNeg p2) else JX10_sheet_82 p1 p2 p3 129 p1 p3 (mst w 128 (p1).toNatClampNeg p2)) else none) else Option.bind (FX10_finding (-1000001) w) (fun q9 => some (q9.1, q9.2))) else Option.bind (FX10_finding (-1000007) w) (fun q11 => some (q11.1, q11.2)))
def FX10_sheet (p1 : Int32) (p2 : Int32) (p3 : Int32) (u : Mem) : Option (Int32 × Mem) :=
  (if (FX10_isSheet p1) = 0 then Option.bind (FX10_finding (-1000001) u) (fun q1 => some (q1.1, q1.2)) else (if p2 = 0 then JX10_sheet_36 p1 p2 p3 u else (if p2 = 8 then JX10_sheet_36 p1 p2 p3 u else (if p2 = 16 then JX10_sheet_36 p1 p2 p3 u else (if p2 = 32 then JX10_sheet_36 p1 p2 p3 u else Option.bind (FX10_finding (-1000001) u) (fun q13 => some (q13.1, q13.2)))))))
def FX10_write (p1 : Int32) (p2 : Int32) (p3 : Int32) (u : Mem) : Option (Int32 × Mem) :=
  (if (FX10_isSheet p1) = 0 then Option.bind (FX10_finding (-1000001) u) (fun q9 => some (q9.1, q9.2)) else (if inb p1 4 then (if (u 128 (p1).toNatClampNeg) = 0 then Option.bind (FX10_finding (-1000006) u) (fun q7 => some (q7.1, q7.2)) else (if inb p1 4 then (if (FX10_within p2 0 ((u 129 (p1).toNatClampNeg) - 1)) = 0 then Option.bind (FX10_finding (-1000001) u) (fun q5 => some (q5.1, q5.2)) else (if inb p1 4 then (if inb ((40 * p1) + p2) 160 then some (1, (mst u 130 (((40 * p1) + p2).toNatClampNeg) (FX10_cutTo p3 (u 128 (p1).toNatClampNeg)))) else none) else none)) else none)) else none))
def BX10_copy_129 (p1 : Int32) (p2 : Int32) (p3 : Int32) (p4 : Int32) (p5 : Int32) (rec129 : (Int32 × Mem) → Option (Int32 × Mem)) (x129 : (Int32 × Mem)) : Option (Int32 × Mem) :=
  (if p5 ≤ x129.1 then some (x129.1, x129.2) else (if inb (((40 * p1) + p2) + x129.1) 160 then (if inb x129.1 40 then rec129 ((x129.1 + 1), (mst x129.2 131 (x129.1).toNatClampNeg (x129.2 130 (((40 * p1) + p2) + x129.1).toNatClampNeg))) else none) else none))
def BX10_copy_166 (p1 : Int32) (p2 : Int32) (p3 : Int32) (p4 : Int32) (p5 : Int32) (rec166 : (Int32 × Mem) → Option (Int32 × Mem)) (x166 : (Int32 × Mem)) : Option (Int32 × Mem) :=
  (if p5 ≤ x166.1 then some (x166.1, x166.2) else (if inb x166.1 40 then (if inb (((40 * p3) + p4) + x166.1) 160 then rec166 ((x166.1 + 1), (mst x166.2 130 ((((40 * p3) + p4) + x166.1).toNatClampNeg) (x166.2 131 (x166.1).toNatClampNeg))) else none) else none))
def FX10_copy (p1 : Int32) (p2 : Int32) (p3 : Int32) (p4 : Int32) (p5 : Int32) (u : Mem) : Option (Int32 × Mem) :=
  (if (FX10_isSheet p1) = 0 then Option.bind (FX10_finding (-1000001) u) (fun q1 => some (q1.1, q1.2)) else (if (FX10_isSheet p3) = 0 then Option.bind (FX10_finding (-1000001) u) (fun q32 => some (q32.1, q32.2)) else (if inb p1 4 then (if (u 128 (p1).toNatClampNeg) = 0 then Option.bind (FX10_finding (-1000006) u) (fun q3 => some (q3.1, q3.2)) else (if inb p3 4 then (if (u 128 (p3).toNatClampNeg) = 0 then Option.bind (FX10_finding (-1000006) u) (fun q29 => some (q29.1, q29.2)) else (if inb p1 4 then (if inb p3 4 then (if (u 128 (p1).toNatClampNeg) = (u 128 (p3).toNatClampNeg) then (if p2 < 0 then Option.bind (FX10_finding (-1000001) u) (fun q7 => some (q7.1, q7.2)) else (if p4 < 0 then Option.bind (FX10_finding (-1000001) u) (fun q8 => some (q8.1, q8.2)) else (if p5 < 0 then Option.bind (FX10_finding (-1000001) u) (fun q9 => some (q9.1, q9.2)) else (if inb p1 4 then (if 0 < (lg_cmp ((p2).toInt64 + (p5).toInt64) ((u 129 (p1).toNatClampNeg)).toInt64) then Option.bind (FX10_finding (-1000001) u) (fun q11 => some (q11.1, q11.2)) else (if inb p3 4 then (if (lg_cmp ((p4).toInt64 + (p5).toInt64) ((u 129 (p3).toNatClampNeg)).toInt64) ≤ 0 then Option.bind (lp (BX10_copy_129 p1 p2 p3 p4 p5) FU (0, u)) (fun q129_16 => Option.bind (lp (BX10_copy_166 p1 p2 p3 p4 p5) FU (0, q129_16.2)) (fun q166_20 => some (p5, q166_20.2))) else Option.bind (FX10_finding (-1000001) u) (fun q21 => some (q21.1, q21.2))) else none)) else none)))) else Option.bind (FX10_finding (-1000003) u) (fun q27 => some (q27.1, q27.2))) else none) else none)) else none)) else none)))
def BX10_load_33 (p1 : Int32) (rec33 : (Int32 × Mem) → Option (Int32 × Mem)) (x33 : (Int32 × Mem)) : Option (Int32 × Mem) :=
  (if inb p1 4 then (if (x33.2 129 (p1).toNatClampNeg) ≤ x33.1 then some (x33.1, x33.2) else (if (FX10_isWare x33.1 x33.2) = 0 then some (x33.1, x33.2) else (if inb ((40 * p1) + x33.1) 160 then (if (FX10_within (x33.2 130 ((40 * p1) + x33.1).toNatClampNeg) 1 9999) = 0 then some (x33.1, x33.2) else (if inb ((40 * p1) + x33.1) 160 then (if inb (FX10_wAt x33.1 0) 138 then rec33 ((x33.1 + 1), (mst x33.2 117 ((FX10_wAt x33.1 0).toNatClampNeg) (x33.2 130 ((40 * p1) + x33.1).toNatClampNeg))) else none) else none)) else none))) else none)
def FX10_load (p1 : Int32) (u : Mem) : Option (Int32 × Mem) :=
  (if (FX10_isSheet p1) = 0 then Option.bind (FX10_finding (-1000001) u) (fun q12 => some (q12.1, q12.2)) else (if inb p1 4 then (if (u 128 (p1).toNatClampNeg) = 0 then Option.bind (FX10_finding (-1000006) u) (fun q10 => some (q10.1, q10.2)) else Option.bind (lp (BX10_load_33 p1) FU (0, u)) (fun q33_9 => some (q33_9.1, q33_9.2))) else none))
def BX10_judge_65 (p1 : Int32) (p2 : Int32) (rec65 : (Int32 × Int32 × Int32 × Mem) → Option (Int32 × Int32 × Int32 × Mem)) (x65 : (Int32 × Int32 × Int32 × Mem)) : Option (Int32 × Int32 × Int32 × Mem) :=
  (if inb p1 4 then (if (x65.2.2.2 129 (p1).toNatClampNeg) ≤ x65.2.2.1 then some (x65.1, x65.2.1, x65.2.2.1, x65.2.2.2) else (if x65.2.1 < 0 then some (x65.1, x65.2.1, x65.2.2.1, x65.2.2.2) else (if inb ((40 * p1) + x65.2.2.1) 160 then Option.bind (FX10_takesAll p2 x65.2.2.2) (fun q5 => (if (FX10_isPlace (x65.2.2.2 130 ((40 * p1) + x65.2.2.1).toNatClampNeg)) = 0 then rec65 ((x65.1 + (-1)), (-1), (x65.2.2.1 + 1), q5) else Option.bind (FX10_walked p2 (x65.2.2.2 130 ((40 * p1) + x65.2.2.1).toNatClampNeg) q5) (fun q6 => rec65 ((x65.1 + q6.1), q6.1, (x65.2.2.1 + 1), q6.2)))) else none))) else none)
def FX10_judge (p1 : Int32) (p2 : Int32) (u : Mem) : Option (Int32 × Mem) :=
  (if (FX10_isSheet p1) = 0 then Option.bind (FX10_finding (-1000001) u) (fun q18 => some (q18.1, q18.2)) else (if inb p1 4 then (if (u 128 (p1).toNatClampNeg) = 0 then Option.bind (FX10_finding (-1000006) u) (fun q16 => some (q16.1, q16.2)) else (if (FX10_isCarrier p2 u) = 0 then Option.bind (FX10_finding (-1000001) u) (fun q14 => some (q14.1, q14.2)) else Option.bind (FX10_copyRow 117 119 u) (fun q2 => Option.bind (lp (BX10_judge_65 p1 p2) FU (0, 0, 0, q2)) (fun q65_10 => Option.bind (FX10_putBack q65_10.2.1 q65_10.2.2.2) (fun q11 => (if 0 ≤ q11.1 then some (q65_10.1, q11.2) else Option.bind (FX10_finding (-1000004) q11.2) (fun q12 => some (q12.1, q12.2)))))))) else none))
def FX10_image (u : Mem) : Option (Int32 × Mem) :=
  Option.bind (FX10_copyRow 117 118 u) (fun q1 => some (1, (mst q1 116 3 1)))
def FX10_undo (u : Mem) : Option (Int32 × Mem) :=
  (if (u 116 3) = 0 then Option.bind (FX10_finding (-1000004) u) (fun q2 => some (q2.1, q2.2)) else Option.bind (FX10_copyRow 118 117 u) (fun q1 => some ((q1 117 43), q1)))
def FX10_tear (u : Mem) : Int32 × Mem :=
  (if (u 116 3) = 0 then (0, (mst u 116 3 0)) else (1, (mst u 116 3 0)))
def BX10_count_99 (p1 : Int32) (w : Mem) (rec99 : (Int32 × Int32) → Option (Int32 × Int32)) (x99 : (Int32 × Int32)) : Option (Int32 × Int32) :=
  (if 10 ≤ x99.2 then some (x99.1, x99.2) else (if inb (46 + x99.2) 138 then (if 0 ≤ (w 117 (46 + x99.2).toNatClampNeg) then rec99 ((x99.1 + 1), (x99.2 + 1)) else rec99 ((x99.1 + 0), (x99.2 + 1))) else none))
def FX10_count (p1 : Int32) (u : Mem) : Option (Int32 × Mem) :=
  (if p1 = 0 then some ((u 117 42), u) else (if p1 = 1 then some ((u 117 43), u) else (if p1 = 2 then some ((u 117 44), u) else (if p1 = 3 then Option.bind (FX10_ofAll 3 u) (fun q5 => some (q5, u)) else (if p1 = 4 then Option.bind (FX10_ofAll 4 u) (fun q7 => some (q7, u)) else (if p1 = 5 then some ((u 116 14), u) else (if p1 = 6 then some ((u 117 45), u) else (if p1 = 7 then Option.bind (lp (BX10_count_99 p1 u) FU (0, 0)) (fun q99_14 => some (q99_14.1, u)) else Option.bind (FX10_finding (-1000001) u) (fun q15 => some (q15.1, q15.2))))))))))
def FX10_status (p1 : Int32) (u : Mem) : Option (Int32 × Mem) :=
  (if (FX10_within p1 (-1) 6) = 0 then Option.bind (FX10_finding (-1000001) u) (fun q1 => some (q1.1, q1.2)) else (if inb (p1 + 1) 8 then some ((u 120 (p1 + 1).toNatClampNeg), u) else none))
