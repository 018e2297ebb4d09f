def fJ0_bitCount  (v0 : Int32) : Option Int32 :=
  some ((((((((v0 - ((((v0).toUInt32 >>> (((nI 1)).toUInt32 &&& Int32.toUInt32 31)).toInt32) &&& (1431655765 : Int32))) &&& (858993459 : Int32)) + (((((v0 - ((((v0).toUInt32 >>> (((nI 1)).toUInt32 &&& Int32.toUInt32 31)).toInt32) &&& (1431655765 : Int32)))).toUInt32 >>> (((nI 2)).toUInt32 &&& Int32.toUInt32 31)).toInt32) &&& (858993459 : Int32))) + ((((((v0 - ((((v0).toUInt32 >>> (((nI 1)).toUInt32 &&& Int32.toUInt32 31)).toInt32) &&& (1431655765 : Int32))) &&& (858993459 : Int32)) + (((((v0 - ((((v0).toUInt32 >>> (((nI 1)).toUInt32 &&& Int32.toUInt32 31)).toInt32) &&& (1431655765 : Int32)))).toUInt32 >>> (((nI 2)).toUInt32 &&& Int32.toUInt32 31)).toInt32) &&& (858993459 : Int32)))).toUInt32 >>> (((nI 4)).toUInt32 &&& Int32.toUInt32 31)).toInt32)) &&& (252645135 : Int32)) + ((((((((v0 - ((((v0).toUInt32 >>> (((nI 1)).toUInt32 &&& Int32.toUInt32 31)).toInt32) &&& (1431655765 : Int32))) &&& (858993459 : Int32)) + (((((v0 - ((((v0).toUInt32 >>> (((nI 1)).toUInt32 &&& Int32.toUInt32 31)).toInt32) &&& (1431655765 : Int32)))).toUInt32 >>> (((nI 2)).toUInt32 &&& Int32.toUInt32 31)).toInt32) &&& (858993459 : Int32))) + ((((((v0 - ((((v0).toUInt32 >>> (((nI 1)).toUInt32 &&& Int32.toUInt32 31)).toInt32) &&& (1431655765 : Int32))) &&& (858993459 : Int32)) + (((((v0 - ((((v0).toUInt32 >>> (((nI 1)).toUInt32 &&& Int32.toUInt32 31)).toInt32) &&& (1431655765 : Int32)))).toUInt32 >>> (((nI 2)).toUInt32 &&& Int32.toUInt32 31)).toInt32) &&& (858993459 : Int32)))).toUInt32 >>> (((nI 4)).toUInt32 &&& Int32.toUInt32 31)).toInt32)) &&& (252645135 : Int32))).toUInt32 >>> (((nI 8)).toUInt32 &&& Int32.toUInt32 31)).toInt32)) + (((((((((v0 - ((((v0).toUInt32 >>> (((nI 1)).toUInt32 &&& Int32.toUInt32 31)).toInt32) &&& (1431655765 : Int32))) &&& (858993459 : Int32)) + (((((v0 - ((((v0).toUInt32 >>> (((nI 1)).toUInt32 &&& Int32.toUInt32 31)).toInt32) &&& (1431655765 : Int32)))).toUInt32 >>> (((nI 2)).toUInt32 &&& Int32.toUInt32 31)).toInt32) &&& (858993459 : Int32))) + ((((((v0 - ((((v0).toUInt32 >>> (((nI 1)).toUInt32 &&& Int32.toUInt32 31)).toInt32) &&& (1431655765 : Int32))) &&& (858993459 : Int32)) + (((((v0 - ((((v0).toUInt32 >>> (((nI 1)).toUInt32 &&& Int32.toUInt32 31)).toInt32) &&& (1431655765 : Int32)))).toUInt32 >>> (((nI 2)).toUInt32 &&& Int32.toUInt32 31)).toInt32) &&& (858993459 : Int32)))).toUInt32 >>> (((nI 4)).toUInt32 &&& Int32.toUInt32 31)).toInt32)) &&& (252645135 : Int32)) + ((((((((v0 - ((((v0).toUInt32 >>> (((nI 1)).toUInt32 &&& Int32.toUInt32 31)).toInt32) &&& (1431655765 : Int32))) &&& (858993459 : Int32)) + (((((v0 - ((((v0).toUInt32 >>> (((nI 1)).toUInt32 &&& Int32.toUInt32 31)).toInt32) &&& (1431655765 : Int32)))).toUInt32 >>> (((nI 2)).toUInt32 &&& Int32.toUInt32 31)).toInt32) &&& (858993459 : Int32))) + ((((((v0 - ((((v0).toUInt32 >>> (((nI 1)).toUInt32 &&& Int32.toUInt32 31)).toInt32) &&& (1431655765 : Int32))) &&& (858993459 : Int32)) + (((((v0 - ((((v0).toUInt32 >>> (((nI 1)).toUInt32 &&& Int32.toUInt32 31)).toInt32) &&& (1431655765 : Int32)))).toUInt32 >>> (((nI 2)).toUInt32 &&& Int32.toUInt32 31)).toInt32) &&& (858993459 : Int32)))).toUInt32 >>> (((nI 4)).toUInt32 &&& Int32.toUInt32 31)).toInt32)) &&& (252645135 : Int32))).toUInt32 >>> (((nI 8)).toUInt32 &&& Int32.toUInt32 31)).toInt32))).toUInt32 >>> (((nI 16)).toUInt32 &&& Int32.toUInt32 31)).toInt32)) &&& (nI 63))
def fX0_isSize  (v0 : Int32) : Option Int32 :=
  if v0 < (nI 1) then
    some (nI 0)
  else
    if (nI 7) < v0 then
      some (nI 0)
    else
      some (nI 1)
def fX0_sizeOf (a_sizes : Nat → Int32) (v1 : Int32) : Option Int32 :=
  if v1 < nI 0 then
    some (nI 0)
  else
    if (nI 626) ≤ v1 then
      some (nI 0)
    else
      (rd 626 a_sizes v1).bind fun t1 =>
      some t1
def fX0_firstOf  (v1 : Int32) : Option Int32 :=
  (fX0_isSize v1).bind fun r1 =>
  if r1 = nI 0 then
    some (nI 0)
  else
    (rd 9 fiF v1).bind fun t2 =>
    some t2
def fX0_lastOf  (v1 : Int32) : Option Int32 :=
  (fX0_isSize v1).bind fun r1 =>
  if r1 = nI 0 then
    some (nI 0)
  else
    (rd 9 fiF (v1 + (nI 1))).bind fun t2 =>
    some (t2 - (nI 1))
def fX0_codeOf (a_codes : Nat → Int32) (v1 : Int32) : Option Int32 :=
  if v1 < nI 0 then
    some (nI 0)
  else
    if (nI 626) ≤ v1 then
      some (nI 0)
    else
      (rd 626 a_codes v1).bind fun t1 =>
      some t1
def fX0_find_J52 (a_codes : Nat → Int32) (v2 : Int32) (v3 : Int32) (v4 : Int32) (v5 : Int32)  : Option ((Int32 × Int32) ⊕ Int32) :=
  some (.inl (v4, (v5 >>> ((nI 1) &&& 31))))
def fX0_find_B18 (a_codes : Nat → Int32) (v2 : Int32) (v3 : Int32) (x : (Int32 × Int32)) : Option ((Int32 × Int32) ⊕ Int32) :=
  if x.2 ≤ nI 0 then
    some (.inr x.1)
  else
    if v3 < (x.1 + x.2) then
      fX0_find_J52 a_codes v2 v3 x.1 x.2
    else
      (fX0_codeOf a_codes (x.1 + x.2)).bind fun r1 =>
      if v2 < r1 then
        fX0_find_J52 a_codes v2 v3 x.1 x.2
      else
        fX0_find_J52 a_codes v2 v3 (x.1 + x.2) x.2
def fX0_find (a_codes : Nat → Int32) (v1 : Int32) (v2 : Int32) : Option Int32 :=
  (fX0_lastOf v1).bind fun r1 =>
  (fX0_firstOf v1).bind fun r2 =>
  (it (fX0_find_B18 a_codes v2 r1) FU (r2, (nI 256))).bind fun y3 =>
  (fX0_codeOf a_codes y3).bind fun r4 =>
  if r4 = v2 then
    some y3
  else
    some (nI 0)
def fX0_findDigits_B14  (v1 : Int32) (x : (Int32 × Int32 × Int32)) : Option ((Int32 × Int32 × Int32) ⊕ (Int32 × Int32)) :=
  if v1 ≤ x.2.2 then
    some (.inr (x.1, x.2.1))
  else
    (rmo x.2.1 (nI 10)).bind fun t1 =>
    (dvo x.2.1 (nI 10)).bind fun t2 =>
    some (.inl ((x.1 ||| (t1 <<< (((nI 4) * x.2.2) &&& 31))), t2, (x.2.2 + nI 1)))
def fX0_findDigits (a_codes : Nat → Int32) (v1 : Int32) (v2 : Int32) : Option Int32 :=
  if nI 0 ≤ v2 then
    (it (fX0_findDigits_B14 v1) FU ((nI 0), v2, (nI 0))).bind fun y1 =>
    if y1.2 = nI 0 then
      (fX0_find a_codes v1 y1.1).bind fun r2 =>
      some r2
    else
      some (nI 0)
  else
    some (nI 0)
def fX0_numberOf (a_sizes : Nat → Int32) (v1 : Int32) : Option Int32 :=
  (fX0_sizeOf a_sizes v1).bind fun r1 =>
  (fX0_firstOf r1).bind fun r2 =>
  some (v1 - r2)
def fX0_rightSize (a_codes : Nat → Int32) (a_sizes : Nat → Int32) (v1 : Int32) (v2 : Int32) : Option Int32 :=
  if v1 < nI 0 then
    some (nI 0)
  else
    if v1 < (nI 626) then
      (rd 626 a_codes v1).bind fun t1 =>
      (rd 626 a_sizes v1).bind fun t2 =>
      some ((t1 >>> (((nI 4) * ((t2 - (nI 1)) - v2)) &&& 31)) &&& (nI 15))
    else
      some (nI 0)
def fX0_end (a_codes : Nat → Int32) (a_sizes : Nat → Int32) (v1 : Int32) (v2 : Int32) : Option Int32 :=
  (fX0_rightSize a_codes a_sizes v1 v2).bind fun r1 =>
  some (v2 + r1)
def fX0_leftSize_B7 (a_codes : Nat → Int32) (a_sizes : Nat → Int32) (v1 : Int32) (v2 : Int32) (x : (Int32 × Int32)) : Option ((Int32 × Int32) ⊕ Int32) :=
  if x.2 < nI 0 then
    some (.inr x.1)
  else
    (fX0_end a_codes a_sizes v1 x.2).bind fun r1 =>
    if v2 ≤ r1 then
      some (.inr x.1)
    else
      some (.inl ((x.1 + nI 1), (x.2 + (-1))))
def fX0_leftSize (a_codes : Nat → Int32) (a_sizes : Nat → Int32) (v1 : Int32) (v2 : Int32) : Option Int32 :=
  (it (fX0_leftSize_B7 a_codes a_sizes v1 v2) FU ((nI 0), (v2 - (nI 1)))).bind fun y1 =>
  some y1
def fX0_depth_J49 (a_codes : Nat → Int32) (a_sizes : Nat → Int32) (v1 : Int32) (v2 : Int32) (v3 : Int32) (v4 : Int32)  : Option ((Int32 × Int32) ⊕ Int32) :=
  some (.inl (v3, (v4 + nI 1)))
def fX0_depth_B5 (a_codes : Nat → Int32) (a_sizes : Nat → Int32) (v1 : Int32) (v2 : Int32) (x : (Int32 × Int32)) : Option ((Int32 × Int32) ⊕ Int32) :=
  (fX0_sizeOf a_sizes v1).bind fun r1 =>
  if r1 ≤ x.2 then
    some (.inr x.1)
  else
    if x.2 = v2 then
      fX0_depth_J49 a_codes a_sizes v1 v2 x.1 x.2
    else
      (fX0_leftSize a_codes a_sizes v1 x.2).bind fun r2 =>
      if v2 < (x.2 - r2) then
        fX0_depth_J49 a_codes a_sizes v1 v2 x.1 x.2
      else
        (fX0_end a_codes a_sizes v1 x.2).bind fun r3 =>
        if r3 < v2 then
          fX0_depth_J49 a_codes a_sizes v1 v2 x.1 x.2
        else
          fX0_depth_J49 a_codes a_sizes v1 v2 (x.1 + nI 1) x.2
def fX0_depth (a_codes : Nat → Int32) (a_sizes : Nat → Int32) (v1 : Int32) (v2 : Int32) : Option Int32 :=
  (it (fX0_depth_B5 a_codes a_sizes v1 v2) FU ((nI 0), (nI 0))).bind fun y1 =>
  some y1
def fX0_top_B3 (a_codes : Nat → Int32) (a_sizes : Nat → Int32) (v1 : Int32) (v3 : Int32) (x : Int32) : Option (Int32 ⊕ (Unit ⊕ Int32)) :=
  if v3 < x then
    some (.inr (.inl ()))
  else
    (fX0_end a_codes a_sizes v1 x).bind fun r1 =>
    if r1 = v3 then
      some (.inr (.inr x))
    else
      some (.inl (x + nI 1))
def fX0_top (a_codes : Nat → Int32) (a_sizes : Nat → Int32) (v1 : Int32) (v2 : Int32) (v3 : Int32) : Option Int32 :=
  (it (fX0_top_B3 a_codes a_sizes v1 v3) FU v2).bind (Sum.elim (fun y1 =>
    some (-5 : Int32)) some)
def fX0_rightChild (a_codes : Nat → Int32) (a_sizes : Nat → Int32) (v1 : Int32) (v2 : Int32) : Option Int32 :=
  (fX0_end a_codes a_sizes v1 v2).bind fun r1 =>
  (fX0_top a_codes a_sizes v1 (v2 + (nI 1)) r1).bind fun r2 =>
  some r2
def fX0_leftChild (a_codes : Nat → Int32) (a_sizes : Nat → Int32) (v1 : Int32) (v2 : Int32) : Option Int32 :=
  (fX0_leftSize a_codes a_sizes v1 v2).bind fun r1 =>
  (fX0_top a_codes a_sizes v1 (v2 - r1) (v2 - (nI 1))).bind fun r2 =>
  some r2
def fX0_parent_J38 (a_codes : Nat → Int32) (a_sizes : Nat → Int32) (v1 : Int32) (v3 : Int32)  : Option Int32 :=
  (fX0_sizeOf a_sizes v1).bind fun r1 =>
  if r1 ≤ (v3 + (nI 1)) then
    some (-5 : Int32)
  else
    some (v3 + (nI 1))
def fX0_parent (a_codes : Nat → Int32) (a_sizes : Nat → Int32) (v1 : Int32) (v2 : Int32) : Option Int32 :=
  (fX0_end a_codes a_sizes v1 v2).bind fun r1 =>
  (fX0_leftSize a_codes a_sizes v1 v2).bind fun r2 =>
  if ((v2 - r2) - (nI 1)) < nI 0 then
    fX0_parent_J38 a_codes a_sizes v1 r1
  else
    (fX0_end a_codes a_sizes v1 ((v2 - r2) - (nI 1))).bind fun r3 =>
    if r3 = r1 then
      some ((v2 - r2) - (nI 1))
    else
      fX0_parent_J38 a_codes a_sizes v1 r1
def fX0_howMany  (v1 : Int32) : Option Int32 :=
  (fX0_lastOf v1).bind fun r1 =>
  (fX0_firstOf v1).bind fun r2 =>
  some ((r1 - r2) + (nI 1))
def fX0_asDigits_B4 (a_codes : Nat → Int32) (a_sizes : Nat → Int32) (v1 : Int32) (x : (Int32 × Int32)) : Option ((Int32 × Int32) ⊕ Int32) :=
  (fX0_sizeOf a_sizes v1).bind fun r1 =>
  if r1 ≤ x.2 then
    some (.inr x.1)
  else
    (fX0_rightSize a_codes a_sizes v1 x.2).bind fun r2 =>
    some (.inl (((x.1 * (nI 10)) + r2), (x.2 + nI 1)))
def fX0_asDigits (a_codes : Nat → Int32) (a_sizes : Nat → Int32) (v1 : Int32) : Option Int32 :=
  (it (fX0_asDigits_B4 a_codes a_sizes v1) FU ((nI 0), (nI 0))).bind fun y1 =>
  some y1
def fX0_isLeftChild_B23 (a_codes : Nat → Int32) (a_sizes : Nat → Int32) (v1 : Int32) (v2 : Int32) (v3 : Int32) (x : Int32) : Option (Int32 ⊕ (Unit ⊕ Int32)) :=
  if v2 ≤ x then
    some (.inr (.inl ()))
  else
    (fX0_end a_codes a_sizes v1 x).bind fun r1 =>
    if r1 = v3 then
      some (.inr (.inr (nI 0)))
    else
      some (.inl (x + nI 1))
def fX0_isLeftChild (a_codes : Nat → Int32) (a_sizes : Nat → Int32) (v1 : Int32) (v2 : Int32) : Option Int32 :=
  (fX0_end a_codes a_sizes v1 v2).bind fun r1 =>
  (fX0_sizeOf a_sizes v1).bind fun r2 =>
  if (r1 + (nI 1)) < r2 then
    (it (fX0_isLeftChild_B23 a_codes a_sizes v1 v2 r1) FU (nI 0)).bind (Sum.elim (fun y3 =>
      some (nI 1)) some)
  else
    some (nI 0)
def fX0_digitAt  (v0 : Int32) (v1 : Int32) (v2 : Int32) : Option Int32 :=
  some (v0 <<< (((nI 4) * ((v1 - (nI 1)) - v2)) &&& 31))
def fX0_turnedUp (a_codes : Nat → Int32) (a_sizes : Nat → Int32) (v1 : Int32) (v2 : Int32) : Option Int32 :=
  (fX0_isLeftChild a_codes a_sizes v1 v2).bind fun r1 =>
  if r1 = nI 0 then
    some (nI 0)
  else
    (fX0_sizeOf a_sizes v1).bind fun r2 =>
    (fX0_end a_codes a_sizes v1 v2).bind fun r3 =>
    (fX0_codeOf a_codes v1).bind fun r4 =>
    (fX0_rightSize a_codes a_sizes v1 (r3 + (nI 1))).bind fun r5 =>
    (fX0_digitAt ((nI 1) + r5) r2 v2).bind fun r6 =>
    (fX0_find a_codes r2 (r4 + r6)).bind fun r7 =>
    some r7
def fX0_turnedBack (a_codes : Nat → Int32) (a_sizes : Nat → Int32) (v1 : Int32) (v2 : Int32) : Option Int32 :=
  (fX0_end a_codes a_sizes v1 v2).bind fun r1 =>
  (fX0_top a_codes a_sizes v1 (v2 + (nI 1)) r1).bind fun r2 =>
  if r2 = (-5 : Int32) then
    some (nI 0)
  else
    (fX0_sizeOf a_sizes v1).bind fun r3 =>
    (fX0_codeOf a_codes v1).bind fun r4 =>
    (fX0_rightSize a_codes a_sizes v1 r2).bind fun r5 =>
    (fX0_digitAt ((nI 1) + r5) r3 v2).bind fun r6 =>
    (fX0_find a_codes r3 (r4 - r6)).bind fun r7 =>
    some r7
def fX0_withRightChild_J35  (v3 : Int32) (v4 : Int32) (k0 : Int32) (k1 : Int32) : Option ((Int32 × Int32 × Int32) ⊕ Int32) :=
  some (.inl ((k1 ||| k0), (v3 >>> ((nI 4) &&& 31)), (v4 + (-1))))
def fX0_withRightChild_B15   (x : (Int32 × Int32 × Int32)) : Option ((Int32 × Int32 × Int32) ⊕ Int32) :=
  if x.2.2 ≤ nI 0 then
    some (.inr x.1)
  else
    if (x.2.1 &&& (nI 15)) ≤ nI 0 then
      fX0_withRightChild_J35 x.2.1 x.2.2 (nI 0) (x.1 <<< ((nI 1) &&& 31))
    else
      fX0_withRightChild_J35 x.2.1 x.2.2 (nI 1) (x.1 <<< ((nI 1) &&& 31))
def fX0_withRightChild (a_codes : Nat → Int32) (a_sizes : Nat → Int32) (v1 : Int32) : Option Int32 :=
  (fX0_codeOf a_codes v1).bind fun r1 =>
  (fX0_sizeOf a_sizes v1).bind fun r2 =>
  (it (fX0_withRightChild_B15) FU ((nI 0), r1, r2)).bind fun y3 =>
  some y3
def fX0_leftChildren_J28 (a_codes : Nat → Int32) (a_sizes : Nat → Int32) (v1 : Int32) (v2 : Int32) (v3 : Int32)  : Option ((Int32 × Int32) ⊕ Int32) :=
  some (.inl (v2, (v3 + nI 1)))
def fX0_leftChildren_B4 (a_codes : Nat → Int32) (a_sizes : Nat → Int32) (v1 : Int32) (x : (Int32 × Int32)) : Option ((Int32 × Int32) ⊕ Int32) :=
  (fX0_sizeOf a_sizes v1).bind fun r1 =>
  if r1 ≤ x.2 then
    some (.inr x.1)
  else
    (fX0_isLeftChild a_codes a_sizes v1 x.2).bind fun r2 =>
    if r2 = nI 0 then
      fX0_leftChildren_J28 a_codes a_sizes v1 x.1 x.2
    else
      fX0_leftChildren_J28 a_codes a_sizes v1 (x.1 ||| ((nI 1) <<< (x.2 &&& 31))) x.2
def fX0_leftChildren (a_codes : Nat → Int32) (a_sizes : Nat → Int32) (v1 : Int32) : Option Int32 :=
  (it (fX0_leftChildren_B4 a_codes a_sizes v1) FU ((nI 0), (nI 0))).bind fun y1 =>
  some y1
def fX0_mirrored_B11 (a_codes : Nat → Int32) (a_sizes : Nat → Int32) (v1 : Int32) (v2 : Int32) (x : (Int32 × Int32)) : Option ((Int32 × Int32) ⊕ Int32) :=
  if v2 ≤ x.2 then
    some (.inr x.1)
  else
    (fX0_leftSize a_codes a_sizes v1 x.2).bind fun r1 =>
    (fX0_digitAt r1 v2 ((v2 - (nI 1)) - x.2)).bind fun r2 =>
    some (.inl ((x.1 ||| r2), (x.2 + nI 1)))
def fX0_mirrored (a_codes : Nat → Int32) (a_sizes : Nat → Int32) (v1 : Int32) : Option Int32 :=
  (fX0_sizeOf a_sizes v1).bind fun r1 =>
  (it (fX0_mirrored_B11 a_codes a_sizes v1 r1) FU ((nI 0), (nI 0))).bind fun y2 =>
  (fX0_find a_codes r1 y2).bind fun r3 =>
  some r3
def fX0_digitOf  (v0 : Int32) (v1 : Int32) (v2 : Int32) : Option Int32 :=
  some ((v0 >>> (((nI 4) * ((v1 - (nI 1)) - v2)) &&& 31)) &&& (nI 15))
def fX0_greatestWith_B6 (a_codes : Nat → Int32) (a_sizes : Nat → Int32) (v1 : Int32) (v2 : Int32) (x : Int32) : Option (Int32 ⊕ (Unit ⊕ Int32)) :=
  (fX0_firstOf v1).bind fun r1 =>
  if x < r1 then
    some (.inr (.inl ()))
  else
    (fX0_withRightChild a_codes a_sizes x).bind fun r2 =>
    if r2 = v2 then
      some (.inr (.inr x))
    else
      some (.inl (x + (-1)))
def fX0_greatestWith (a_codes : Nat → Int32) (a_sizes : Nat → Int32) (v1 : Int32) (v2 : Int32) : Option Int32 :=
  (fX0_lastOf v1).bind fun r1 =>
  (it (fX0_greatestWith_B6 a_codes a_sizes v1 v2) FU r1).bind (Sum.elim (fun y2 =>
    some (nI 0)) some)
def fX0_leastWith_B6 (a_codes : Nat → Int32) (a_sizes : Nat → Int32) (v1 : Int32) (v2 : Int32) (x : Int32) : Option (Int32 ⊕ (Unit ⊕ Int32)) :=
  (fX0_lastOf v1).bind fun r1 =>
  if r1 < x then
    some (.inr (.inl ()))
  else
    (fX0_withRightChild a_codes a_sizes x).bind fun r2 =>
    if r2 = v2 then
      some (.inr (.inr x))
    else
      some (.inl (x + nI 1))
def fX0_leastWith (a_codes : Nat → Int32) (a_sizes : Nat → Int32) (v1 : Int32) (v2 : Int32) : Option Int32 :=
  (fX0_firstOf v1).bind fun r1 =>
  (it (fX0_leastWith_B6 a_codes a_sizes v1 v2) FU r1).bind (Sum.elim (fun y2 =>
    some (nI 0)) some)
def fX0_howManyWith_J32 (a_codes : Nat → Int32) (a_sizes : Nat → Int32) (v1 : Int32) (v2 : Int32) (v3 : Int32) (v4 : Int32)  : Option ((Int32 × Int32) ⊕ Int32) :=
  some (.inl (v3, (v4 + nI 1)))
def fX0_howManyWith_B9 (a_codes : Nat → Int32) (a_sizes : Nat → Int32) (v1 : Int32) (v2 : Int32) (x : (Int32 × Int32)) : Option ((Int32 × Int32) ⊕ Int32) :=
  (fX0_lastOf v1).bind fun r1 =>
  if r1 < x.2 then
    some (.inr x.1)
  else
    (fX0_withRightChild a_codes a_sizes x.2).bind fun r2 =>
    if r2 = v2 then
      fX0_howManyWith_J32 a_codes a_sizes v1 v2 (x.1 + nI 1) x.2
    else
      fX0_howManyWith_J32 a_codes a_sizes v1 v2 x.1 x.2
def fX0_howManyWith (a_codes : Nat → Int32) (a_sizes : Nat → Int32) (v1 : Int32) (v2 : Int32) : Option Int32 :=
  (fX0_firstOf v1).bind fun r1 =>
  (it (fX0_howManyWith_B9 a_codes a_sizes v1 v2) FU ((nI 0), r1)).bind fun y2 =>
  some y2
def fX0_sideBySide (a_codes : Nat → Int32) (a_sizes : Nat → Int32) (v1 : Int32) (v2 : Int32) (v3 : Int32) : Option Int32 :=
  (fX0_sizeOf a_sizes v2).bind fun r1 =>
  (fX0_sizeOf a_sizes v3).bind fun r2 =>
  (fX0_sizeOf a_sizes v3).bind fun r3 =>
  (fX0_codeOf a_codes v3).bind fun r4 =>
  (fX0_find a_codes (r1 + r2) ((v1 <<< (((nI 4) * r3) &&& 31)) ||| r4)).bind fun r5 =>
  some r5
def fX0_setOver (a_codes : Nat → Int32) (a_sizes : Nat → Int32) (v1 : Int32) (v2 : Int32) : Option Int32 :=
  (fX0_codeOf a_codes v1).bind fun r1 =>
  (fX0_sideBySide a_codes a_sizes r1 v1 v2).bind fun r2 =>
  some r2
def fX0_setUnder_J51 (a_codes : Nat → Int32) (a_sizes : Nat → Int32) (v1 : Int32) (v2 : Int32) (v3 : Int32) (v4 : Int32) (v5 : Int32)  : Option ((Int32 × Int32) ⊕ Int32) :=
  some (.inl (v4, (v5 + nI 1)))
def fX0_setUnder_B16 (a_codes : Nat → Int32) (a_sizes : Nat → Int32) (v1 : Int32) (v2 : Int32) (v3 : Int32) (x : (Int32 × Int32)) : Option ((Int32 × Int32) ⊕ Int32) :=
  if v3 ≤ x.2 then
    some (.inr x.1)
  else
    (fX0_end a_codes a_sizes v1 x.2).bind fun r1 =>
    if r1 = (v3 - (nI 1)) then
      (fX0_sizeOf a_sizes v2).bind fun r2 =>
      (fX0_digitAt r2 v3 x.2).bind fun r3 =>
      fX0_setUnder_J51 a_codes a_sizes v1 v2 v3 (x.1 + r3) x.2
    else
      fX0_setUnder_J51 a_codes a_sizes v1 v2 v3 x.1 x.2
def fX0_setUnder (a_codes : Nat → Int32) (a_sizes : Nat → Int32) (v1 : Int32) (v2 : Int32) : Option Int32 :=
  (fX0_sizeOf a_sizes v1).bind fun r1 =>
  (fX0_codeOf a_codes v1).bind fun r2 =>
  (it (fX0_setUnder_B16 a_codes a_sizes v1 v2 r1) FU (r2, (nI 0))).bind fun y3 =>
  (fX0_sideBySide a_codes a_sizes y3 v1 v2).bind fun r4 =>
  some r4
def fX0_turnedAsTold (a_codes : Nat → Int32) (a_sizes : Nat → Int32) (v1 : Int32) (v2 : Int64) : Option Int32 :=
  (fX0_sizeOf a_sizes v1).bind fun r1 =>
  if nI 0 ≤ (lg_cmp v2 (r1.toInt64)) then
    some (nI 0)
  else
    if nI 0 ≤ (lg_cmp v2 (((0 - r1)).toInt64)) then
      if (lg_cmp v2 (0 : Int64)) < nI 0 then
        (fX0_turnedBack a_codes a_sizes v1 ((((-1 : Int64) - v2)).toInt32)).bind fun r2 =>
        some r2
      else
        (fX0_turnedUp a_codes a_sizes v1 ((v2).toInt32)).bind fun r3 =>
        some r3
    else
      some (nI 0)
def fX0_textLength (a_sizes : Nat → Int32) (v1 : Int32) : Option Int32 :=
  (fX0_sizeOf a_sizes v1).bind fun r1 =>
  some (((nI 3) * r1) + (nI 1))
def fX0_opening_J32 (a_codes : Nat → Int32) (a_sizes : Nat → Int32) (v1 : Int32) (v2 : Int32) (v3 : Int32) (v4 : Int32)  : Option ((Int32 × Int32) ⊕ Int32) :=
  some (.inl (v3, (v4 + nI 1)))
def fX0_opening_B5 (a_codes : Nat → Int32) (a_sizes : Nat → Int32) (v1 : Int32) (v2 : Int32) (x : (Int32 × Int32)) : Option ((Int32 × Int32) ⊕ Int32) :=
  (fX0_sizeOf a_sizes v1).bind fun r1 =>
  if r1 ≤ x.2 then
    some (.inr x.1)
  else
    (fX0_leftSize a_codes a_sizes v1 x.2).bind fun r2 =>
    if (x.2 - r2) = v2 then
      fX0_opening_J32 a_codes a_sizes v1 v2 (x.1 + nI 1) x.2
    else
      fX0_opening_J32 a_codes a_sizes v1 v2 x.1 x.2
def fX0_opening (a_codes : Nat → Int32) (a_sizes : Nat → Int32) (v1 : Int32) (v2 : Int32) : Option Int32 :=
  (it (fX0_opening_B5 a_codes a_sizes v1 v2) FU ((nI 0), v2)).bind fun y1 =>
  some y1
def fX0_closing_J27 (a_codes : Nat → Int32) (a_sizes : Nat → Int32) (v1 : Int32) (v2 : Int32) (v3 : Int32) (v4 : Int32)  : Option ((Int32 × Int32) ⊕ Int32) :=
  some (.inl (v3, (v4 + nI 1)))
def fX0_closing_B5 (a_codes : Nat → Int32) (a_sizes : Nat → Int32) (v1 : Int32) (v2 : Int32) (x : (Int32 × Int32)) : Option ((Int32 × Int32) ⊕ Int32) :=
  if v2 ≤ x.2 then
    some (.inr x.1)
  else
    (fX0_end a_codes a_sizes v1 x.2).bind fun r1 =>
    if (r1 + (nI 1)) = v2 then
      fX0_closing_J27 a_codes a_sizes v1 v2 (x.1 + nI 1) x.2
    else
      fX0_closing_J27 a_codes a_sizes v1 v2 x.1 x.2
def fX0_closing (a_codes : Nat → Int32) (a_sizes : Nat → Int32) (v1 : Int32) (v2 : Int32) : Option Int32 :=
  (it (fX0_closing_B5 a_codes a_sizes v1 v2) FU ((nI 0), (nI 0))).bind fun y1 =>
  some y1
def fX0_textByte_B11 (a_codes : Nat → Int32) (a_sizes : Nat → Int32) (v1 : Int32) (v2 : Int32) (x : (Int32 × Int32)) : Option ((Int32 × Int32) ⊕ (Unit ⊕ Int32)) :=
  (fX0_sizeOf a_sizes v1).bind fun r1 =>
  if r1 < x.2 then
    some (.inr (.inl ()))
  else
    (fX0_opening a_codes a_sizes v1 x.2).bind fun r2 =>
    if (x.1 + r2) ≤ v2 then
      if v2 = (x.1 + r2) then
        some (.inr (.inr (nI 46)))
      else
        (fX0_closing a_codes a_sizes v1 x.2).bind fun r3 =>
        if ((x.1 + r2) + ((nI 1) + r3)) ≤ v2 then
          some (.inl (((x.1 + r2) + ((nI 1) + r3)), (x.2 + nI 1)))
        else
          some (.inr (.inr (nI 41)))
    else
      some (.inr (.inr (nI 40)))
def fX0_textByte (a_codes : Nat → Int32) (a_sizes : Nat → Int32) (v1 : Int32) (v2 : Int32) : Option Int32 :=
  if nI 0 ≤ v2 then
    (it (fX0_textByte_B11 a_codes a_sizes v1 v2) FU ((nI 0), (nI 0))).bind (Sum.elim (fun y1 =>
      some (-1 : Int32)) some)
  else
    some (-1 : Int32)
def fX0_growAll_B57  (v2 : Int32) (v3 : Int32) (v4 : Int32) (v6 : Int32) (v7 : Int32) (x : (Int32 × Int32 × (Nat → Int32) × (Nat → Int32))) : Option ((Int32 × Int32 × (Nat → Int32) × (Nat → Int32)) ⊕ (Int32 × (Nat → Int32) × (Nat → Int32))) :=
  (rd 9 fiF (v4 + (nI 1))).bind fun t1 =>
  if t1 ≤ x.2.1 then
    some (.inr (x.1, x.2.2.1, x.2.2.2))
  else
    if (nI 626) ≤ x.1 then
      some (.inr (x.1, x.2.2.1, x.2.2.2))
    else
      (rd 626 x.2.2.1 x.2.1).bind fun t2 =>
      (wr 626 x.2.2.1 x.1 (v7 ||| t2)).bind fun u3 =>
      (wr 626 x.2.2.2 x.1 v2).bind fun u4 =>
      some (.inl ((x.1 + nI 1), (x.2.1 + nI 1), u3, u4))
def fX0_growAll_B17  (v2 : Int32) (v3 : Int32) (v4 : Int32) (x : (Int32 × Int32 × (Nat → Int32) × (Nat → Int32))) : Option ((Int32 × Int32 × (Nat → Int32) × (Nat → Int32)) ⊕ (Int32 × (Nat → Int32) × (Nat → Int32))) :=
  (rd 9 fiF (v3 + (nI 1))).bind fun t1 =>
  if t1 ≤ x.2.1 then
    some (.inr (x.1, x.2.2.1, x.2.2.2))
  else
    (rd 626 x.2.2.1 x.2.1).bind fun t2 =>
    (rd 9 fiF v4).bind fun t3 =>
    (it (fX0_growAll_B57 v2 v3 v4 x.2.1 (((v3 <<< (((nI 4) * v3) &&& 31)) ||| t2) <<< (((nI 4) * v4) &&& 31))) FU (x.1, t3, x.2.2.1, x.2.2.2)).bind fun y4 =>
    some (.inl (y4.1, (x.2.1 + nI 1), y4.2.1, y4.2.2))
def fX0_growAll (a_codes : Nat → Int32) (a_sizes : Nat → Int32) (v1 : Int32) (v2 : Int32) (v3 : Int32) : Option (Int32 × (Nat → Int32) × (Nat → Int32)) :=
  (rd 9 fiF v3).bind fun t1 =>
  (it (fX0_growAll_B17 v2 v3 ((v2 - (nI 1)) - v3)) FU (v1, t1, a_codes, a_sizes)).bind fun y2 =>
  some (y2.1, y2.2.1, y2.2.2)
def fX1_isList  (v0 : Int32) : Option Int32 :=
  if v0 < nI 0 then
    some (nI 0)
  else
    if (nI 3) ≤ v0 then
      some (nI 0)
    else
      some (nI 1)
def fX1_renew (a_lengths : Nat → Int32) (lo : Nat → Nat → Int64) (v1 : Int32) (v2 : Int32) : Option ((Nat → Int32) × (Nat → Nat → Int64)) :=
  (fX1_isList v1).bind fun r1 =>
  if r1 = nI 0 then
    some (a_lengths, lo)
  else
    if v2 < (-1 : Int32) then
      some (a_lengths, lo)
    else
      if (nI 20) < v2 then
        some (a_lengths, lo)
      else
        (ixo 3 v1).bind fun t2 =>
        (wr 3 a_lengths v1 v2).bind fun u3 =>
        some (u3, (pu lo [(t2, fillF 20 (0 : Int64) (lo t2))]))
def fX1_lengthOf (a_lengths : Nat → Int32) (v1 : Int32) : Option Int32 :=
  (fX1_isList v1).bind fun r1 =>
  if r1 = nI 0 then
    some (-1 : Int32)
  else
    (rd 3 a_lengths v1).bind fun t2 =>
    some t2
def fX1_isThere (a_lengths : Nat → Int32) (v1 : Int32) : Option Int32 :=
  (fX1_lengthOf a_lengths v1).bind fun r1 =>
  if r1 = (-1 : Int32) then
    some (nI 0)
  else
    some (nI 1)
def fX1_isPlace (a_lengths : Nat → Int32) (v1 : Int32) (v2 : Int32) : Option Int32 :=
  if v2 < nI 0 then
    some (nI 0)
  else
    (fX1_lengthOf a_lengths v1).bind fun r1 =>
    if r1 ≤ v2 then
      some (nI 0)
    else
      some (nI 1)
def fX1_store (a_lengths : Nat → Int32) (lo : Nat → Nat → Int64) (v1 : Int32) (v2 : Int32) (v3 : Int64) : Option (Nat → Nat → Int64) :=
  (fX1_isPlace a_lengths v1 v2).bind fun r1 =>
  if r1 = nI 0 then
    some lo
  else
    (ixo 3 v1).bind fun t2 =>
    (wrL 20 (lo t2) v2 v3).bind fun u3 =>
    some (pu lo [(t2, u3)])
def fX1_valueAt (a_lengths : Nat → Int32) (lo : Nat → Nat → Int64) (v1 : Int32) (v2 : Int32) : Option Int64 :=
  (fX1_isPlace a_lengths v1 v2).bind fun r1 =>
  if r1 = nI 0 then
    some (-9223372036854775808 : Int64)
  else
    (ixo 3 v1).bind fun t2 =>
    (rd 20 (lo t2) v2).bind fun t3 =>
    some t3
def fX1_howManyThere_J34 (a_lengths : Nat → Int32) (v1 : Int32) (v3 : Int32) (v4 : Int32)  : Option ((Int32 × Int32) ⊕ Int32) :=
  some (.inl (v1, (v4 + nI 1)))
def fX1_howManyThere_B13 (a_lengths : Nat → Int32) (v3 : Int32) (x : (Int32 × Int32)) : Option ((Int32 × Int32) ⊕ Int32) :=
  if v3 ≤ x.2 then
    some (.inr x.1)
  else
    (rd 3 a_lengths x.2).bind fun t1 =>
    if t1 = (-1 : Int32) then
      fX1_howManyThere_J34 a_lengths x.1 v3 x.2
    else
      fX1_howManyThere_J34 a_lengths (x.1 + nI 1) v3 x.2
def fX1_howManyThere (a_lengths : Nat → Int32)  : Option Int32 :=
  (it (fX1_howManyThere_B13 a_lengths (nI 3)) FU ((nI 0), (nI 0))).bind fun y1 =>
  some y1
def fX2_noMore  (v0 : Int32) (v1 : Int32) : Option Int32 :=
  if (((v1 ||| (143165576 : Int32)) - v0) &&& (143165576 : Int32)) = (143165576 : Int32) then
    some (nI 1)
  else
    some (nI 0)
def fX2_isBelow (a_codes : Nat → Int32) (v1 : Int32) (v2 : Int32) : Option Int32 :=
  (fX0_codeOf a_codes v1).bind fun r1 =>
  (fX0_codeOf a_codes v2).bind fun r2 =>
  (fX2_noMore r1 r2).bind fun r3 =>
  (zro r3).bind fun z4 =>
  some z4
def fX2_joinOf_B53  (v1 : Int32) (v2 : Int32) (v3 : Int32) (v4 : Int32) (v5 : Int32) (x : (Int32 × Int32)) : Option ((Int32 × Int32) ⊕ Int32) :=
  if v3 ≤ x.2 then
    some (.inr x.1)
  else
    if x.1 < x.2 then
      some (.inr x.1)
    else
      (fX0_digitOf v4 v3 x.2).bind fun r1 =>
      some (.inl ((if x.1 < (x.2 + r1) then (x.2 + r1) else x.1), (x.2 + nI 1)))
def fX2_joinOf_B17 (a_codes : Nat → Int32) (a_sizes : Nat → Int32) (v1 : Int32) (v2 : Int32) (v3 : Int32) (x : (Int32 × Int32)) : Option ((Int32 × Int32) ⊕ Int32) :=
  if x.2 < nI 0 then
    some (.inr x.1)
  else
    (fX0_end a_codes a_sizes v1 x.2).bind fun r1 =>
    (fX0_end a_codes a_sizes v2 x.2).bind fun r2 =>
    (it (fX2_joinOf_B53 v1 v2 v3 x.1 x.2) FU ((if r1 < r2 then r2 else r1), (x.2 + (nI 1)))).bind fun y3 =>
    (fX0_digitAt (y3 - x.2) v3 x.2).bind fun r4 =>
    some (.inl ((x.1 ||| r4), (x.2 + (-1))))
def fX2_joinOf (a_codes : Nat → Int32) (a_sizes : Nat → Int32) (v1 : Int32) (v2 : Int32) : Option Int32 :=
  (fX0_sizeOf a_sizes v1).bind fun r1 =>
  (it (fX2_joinOf_B17 a_codes a_sizes v1 v2 r1) FU ((nI 0), (r1 - (nI 1)))).bind fun y2 =>
  (fX0_find a_codes r1 y2).bind fun r3 =>
  some r3
def fX2_meetOf_B15 (a_codes : Nat → Int32) (a_sizes : Nat → Int32) (v1 : Int32) (v2 : Int32) (v3 : Int32) (x : (Int32 × Int32)) : Option ((Int32 × Int32) ⊕ Int32) :=
  if v3 ≤ x.2 then
    some (.inr x.1)
  else
    (fX0_rightSize a_codes a_sizes v1 x.2).bind fun r1 =>
    (fX0_rightSize a_codes a_sizes v2 x.2).bind fun r2 =>
    (fX0_digitAt (if r2 < r1 then r2 else r1) v3 x.2).bind fun r3 =>
    some (.inl ((x.1 ||| r3), (x.2 + nI 1)))
def fX2_meetOf (a_codes : Nat → Int32) (a_sizes : Nat → Int32) (v1 : Int32) (v2 : Int32) : Option Int32 :=
  (fX0_sizeOf a_sizes v1).bind fun r1 =>
  (it (fX2_meetOf_B15 a_codes a_sizes v1 v2 r1) FU ((nI 0), (nI 0))).bind fun y2 =>
  (fX0_find a_codes r1 y2).bind fun r3 =>
  some r3
def fX2_meetOrJoin (a_codes : Nat → Int32) (a_sizes : Nat → Int32) (v1 : Int32) (v2 : Int32) (v3 : Int32) : Option Int32 :=
  if v3 = nI 0 then
    (fX2_meetOf a_codes a_sizes v1 v2).bind fun r1 =>
    some r1
  else
    (fX2_joinOf a_codes a_sizes v1 v2).bind fun r2 =>
    some r2
def fX2_isWithin  (v0 : Int32) (v1 : Int32) (v2 : Int32) : Option Int32 :=
  (fX2_noMore v0 v1).bind fun r1 =>
  if r1 = nI 0 then
    some (nI 0)
  else
    (fX2_noMore v1 v2).bind fun r2 =>
    if r2 = nI 0 then
      some (nI 0)
    else
      some (nI 1)
def fX2_howManyBetween_J52 (a_codes : Nat → Int32) (v2 : Int32) (v3 : Int32) (v4 : Int32) (v5 : Int32) (v6 : Int32)  : Option ((Int32 × Int32) ⊕ Int32) :=
  some (.inl (v5, (v6 + nI 1)))
def fX2_howManyBetween_B25 (a_codes : Nat → Int32) (v2 : Int32) (v3 : Int32) (v4 : Int32) (x : (Int32 × Int32)) : Option ((Int32 × Int32) ⊕ Int32) :=
  if v2 < x.2 then
    some (.inr x.1)
  else
    (fX0_codeOf a_codes x.2).bind fun r1 =>
    (fX2_isWithin v3 r1 v4).bind fun r2 =>
    if r2 = nI 0 then
      fX2_howManyBetween_J52 a_codes v2 v3 v4 x.1 x.2
    else
      fX2_howManyBetween_J52 a_codes v2 v3 v4 (x.1 + nI 1) x.2
def fX2_howManyBetween (a_codes : Nat → Int32) (v1 : Int32) (v2 : Int32) : Option Int32 :=
  (fX0_codeOf a_codes v1).bind fun r1 =>
  (fX0_codeOf a_codes v2).bind fun r2 =>
  (it (fX2_howManyBetween_B25 a_codes v2 r1 r2) FU ((nI 0), v1)).bind fun y3 =>
  some y3
def fX2_nthBetween_J63 (a_codes : Nat → Int32) (v2 : Int32) (v3 : Int32) (v4 : Int32) (v5 : Int32) (v6 : Int32) (v7 : Int32)  : Option ((Int32 × Int32) ⊕ (Unit ⊕ Int32)) :=
  some (.inl (v6, (v7 + nI 1)))
def fX2_nthBetween_B26 (a_codes : Nat → Int32) (v2 : Int32) (v3 : Int32) (v4 : Int32) (v5 : Int32) (x : (Int32 × Int32)) : Option ((Int32 × Int32) ⊕ (Unit ⊕ Int32)) :=
  if v2 < x.2 then
    some (.inr (.inl ()))
  else
    (fX0_codeOf a_codes x.2).bind fun r1 =>
    (fX2_isWithin v4 r1 v5).bind fun r2 =>
    if r2 = nI 0 then
      fX2_nthBetween_J63 a_codes v2 v3 v4 v5 x.1 x.2
    else
      if x.1 = v3 then
        some (.inr (.inr x.2))
      else
        fX2_nthBetween_J63 a_codes v2 v3 v4 v5 (x.1 + nI 1) x.2
def fX2_nthBetween (a_codes : Nat → Int32) (v1 : Int32) (v2 : Int32) (v3 : Int32) : Option Int32 :=
  (fX0_codeOf a_codes v1).bind fun r1 =>
  (fX0_codeOf a_codes v2).bind fun r2 =>
  (it (fX2_nthBetween_B26 a_codes v2 v3 r1 r2) FU ((nI 0), v1)).bind (Sum.elim (fun y3 =>
    some (nI 0)) some)
def fX2_sumBelow_J43 (a_markedCodes : Nat → Int32) (a_marks : Nat → Int32) (v1 : Int32) (v2 : Int32) (v3 : Int32) (v4 : Int32)  : Option ((Int32 × Int32) ⊕ Int32) :=
  some (.inl (v3, (v4 + nI 1)))
def fX2_sumBelow_B5 (a_markedCodes : Nat → Int32) (a_marks : Nat → Int32) (v1 : Int32) (v2 : Int32) (x : (Int32 × Int32)) : Option ((Int32 × Int32) ⊕ Int32) :=
  if v2 ≤ x.2 then
    some (.inr x.1)
  else
    if (nI 429) ≤ x.2 then
      some (.inr x.1)
    else
      (rd 429 a_markedCodes x.2).bind fun t1 =>
      (fX2_noMore t1 v1).bind fun r2 =>
      if r2 = nI 0 then
        fX2_sumBelow_J43 a_markedCodes a_marks v1 v2 x.1 x.2
      else
        (rd 429 a_marks x.2).bind fun t3 =>
        fX2_sumBelow_J43 a_markedCodes a_marks v1 v2 (x.1 + t3) x.2
def fX2_sumBelow (a_markedCodes : Nat → Int32) (a_marks : Nat → Int32) (v1 : Int32) (v2 : Int32) : Option Int32 :=
  (it (fX2_sumBelow_B5 a_markedCodes a_marks v1 v2) FU ((nI 0), (nI 0))).bind fun y1 =>
  some y1
def fX2_markOf_J114 (a_codes : Nat → Int32) (a_markedCodes : Nat → Int32) (a_marks : Nat → Int32) (v1 : Int32) (v2 : Int32) (v3 : Int32) (v4 : Int32) (v5 : Int32) (v6 : Int32) (v7 : Int32)  : Option ((Int32 × Int32 × Int32 × (Nat → Int32) × (Nat → Int32)) ⊕ (Int32 × (Nat → Int32) × (Nat → Int32))) :=
  some (.inl (v5, v6, (v7 + nI 1), a_markedCodes, a_marks))
def fX2_markOf_J78 (a_codes : Nat → Int32) (a_markedCodes : Nat → Int32) (a_marks : Nat → Int32) (v1 : Int32) (v2 : Int32) (v3 : Int32) (v4 : Int32) (v5 : Int32) (v7 : Int32) (v8 : Int32) (k0 : Int32) : Option ((Int32 × Int32 × Int32 × (Nat → Int32) × (Nat → Int32)) ⊕ (Int32 × (Nat → Int32) × (Nat → Int32))) :=
  if k0 = nI 0 then
    fX2_markOf_J114 a_codes a_markedCodes a_marks v1 v2 v3 v4 v5 k0 v7
  else
    if (nI 429) ≤ v5 then
      fX2_markOf_J114 a_codes a_markedCodes a_marks v1 v2 v3 v4 v5 k0 v7
    else
      (wr 429 a_markedCodes v5 v8).bind fun u1 =>
      (wr 429 a_marks v5 k0).bind fun u2 =>
      fX2_markOf_J114 a_codes u1 u2 v1 v2 v3 v4 (v5 + nI 1) k0 v7
def fX2_markOf_B28 (a_codes : Nat → Int32) (v1 : Int32) (v2 : Int32) (v3 : Int32) (v4 : Int32) (x : (Int32 × Int32 × Int32 × (Nat → Int32) × (Nat → Int32))) : Option ((Int32 × Int32 × Int32 × (Nat → Int32) × (Nat → Int32)) ⊕ (Int32 × (Nat → Int32) × (Nat → Int32))) :=
  if v2 < x.2.2.1 then
    some (.inr (x.2.1, x.2.2.2.1, x.2.2.2.2))
  else
    (fX0_codeOf a_codes x.2.2.1).bind fun r1 =>
    (fX2_isWithin v3 r1 v4).bind fun r2 =>
    if r2 = nI 0 then
      fX2_markOf_J114 a_codes x.2.2.2.1 x.2.2.2.2 v1 v2 v3 v4 x.1 x.2.1 x.2.2.1
    else
      if x.2.2.1 = v1 then
        fX2_markOf_J78 a_codes x.2.2.2.1 x.2.2.2.2 v1 v2 v3 v4 x.1 x.2.2.1 r1 (nI 1)
      else
        (fX2_sumBelow x.2.2.2.1 x.2.2.2.2 r1 x.1).bind fun r3 =>
        fX2_markOf_J78 a_codes x.2.2.2.1 x.2.2.2.2 v1 v2 v3 v4 x.1 x.2.2.1 r1 (0 - r3)
def fX2_markOf (a_codes : Nat → Int32) (a_markedCodes : Nat → Int32) (a_marks : Nat → Int32) (v1 : Int32) (v2 : Int32) : Option (Int32 × (Nat → Int32) × (Nat → Int32)) :=
  (fX0_codeOf a_codes v1).bind fun r1 =>
  (fX0_codeOf a_codes v2).bind fun r2 =>
  (it (fX2_markOf_B28 a_codes v1 v2 r1 r2) FU ((nI 0), (nI 0), v1, a_markedCodes, a_marks)).bind fun y3 =>
  some (y3.1, y3.2.1, y3.2.2)
def fX2_howManyPairs_J68 (a_codes : Nat → Int32) (v2 : Int32) (v3 : Int32) (v4 : Int32) (v5 : Int32) (v6 : Int32)  : Option ((Int32 × Int32) ⊕ Int32) :=
  some (.inl (v3, (v6 + nI 1)))
def fX2_howManyPairs_B42 (a_codes : Nat → Int32) (v2 : Int32) (v4 : Int32) (v5 : Int32) (x : (Int32 × Int32)) : Option ((Int32 × Int32) ⊕ Int32) :=
  if v2 < x.2 then
    some (.inr x.1)
  else
    (fX0_codeOf a_codes x.2).bind fun r1 =>
    (fX2_noMore v5 r1).bind fun r2 =>
    if r2 = nI 0 then
      fX2_howManyPairs_J68 a_codes v2 x.1 v4 v5 x.2
    else
      fX2_howManyPairs_J68 a_codes v2 (x.1 + nI 1) v4 v5 x.2
def fX2_howManyPairs_B21 (a_codes : Nat → Int32) (v2 : Int32) (x : (Int32 × Int32)) : Option ((Int32 × Int32) ⊕ Int32) :=
  if v2 < x.2 then
    some (.inr x.1)
  else
    (fX0_codeOf a_codes x.2).bind fun r1 =>
    (it (fX2_howManyPairs_B42 a_codes v2 x.2 r1) FU (x.1, x.2)).bind fun y2 =>
    some (.inl (y2, (x.2 + nI 1)))
def fX2_howManyPairs (a_codes : Nat → Int32) (v1 : Int32) : Option Int32 :=
  (fX0_lastOf v1).bind fun r1 =>
  (fX0_firstOf v1).bind fun r2 =>
  (it (fX2_howManyPairs_B21 a_codes r1) FU ((nI 0), r2)).bind fun y3 =>
  some y3
def fX3_clear (s_held : Int32)  : Option Int32 :=
  some (nI 0)
def fX3_add_J30 (a_trees : Nat → Int32) (s_held : Int32) (v1 : Int32)  : Option ((Nat → Int32) × Int32) :=
  (wr 10 a_trees s_held v1).bind fun u1 =>
  some (u1, (s_held + (nI 1)))
def fX3_add (a_trees : Nat → Int32) (s_held : Int32) (v1 : Int32) : Option ((Nat → Int32) × Int32) :=
  if s_held < (nI 10) then
    fX3_add_J30 a_trees s_held v1
  else
    (cpo 10 10 a_trees a_trees (nI 1) (nI 0) (nI 9)).bind fun u1 =>
    fX3_add_J30 u1 (nI 9) v1
def fX3_takeLatest (a_trees : Nat → Int32) (s_held : Int32)  : Option (Int32 × Int32) :=
  if nI 0 < s_held then
    (rd 10 a_trees (s_held - (nI 1))).bind fun t1 =>
    some (t1, (s_held - (nI 1)))
  else
    some ((nI 0), s_held)
def fX3_held (s_held : Int32)  : Option Int32 :=
  some s_held
def fX4_append (a_bytes : Nat → Int32) (s_length : Int32) (v1 : Int32) : Option (Int32 × (Nat → Int32) × Int32) :=
  if s_length < (nI 60) then
    (wr 60 a_bytes s_length v1).bind fun u1 =>
    some ((nI 1), u1, (s_length + (nI 1)))
  else
    some ((nI 0), a_bytes, s_length)
def fX4_length (s_length : Int32)  : Option Int32 :=
  some s_length
def fX4_clear (s_length : Int32)  : Option Int32 :=
  some (nI 0)
def fX4_awaitedNow (a_awaited : Nat → Int32) (s_opn : Int32)  : Option Int32 :=
  if s_opn ≤ nI 0 then
    some (nI 2)
  else
    if (nI 7) < s_opn then
      some (nI 2)
    else
      (rd 7 a_awaited (s_opn - (nI 1))).bind fun t1 =>
      some t1
def fX4_endSubtree (a_awaited : Nat → Int32) (a_openNodes : Nat → Int32) (s_opn : Int32) (s_numbered : Int32)  : Option ((Nat → Int32) × (Nat → Int32) × Int32) :=
  if s_opn ≤ nI 0 then
    some (a_awaited, a_openNodes, s_numbered)
  else
    if s_opn ≤ (nI 7) then
      (rd 7 a_awaited (s_opn - (nI 1))).bind fun t1 =>
      if t1 = nI 0 then
        (wr 7 a_awaited (s_opn - (nI 1)) (nI 1)).bind fun u3 =>
        (wr 7 a_openNodes (s_opn - (nI 1)) s_numbered).bind fun u4 =>
        some (u3, u4, (s_numbered + (nI 1)))
      else
        (wr 7 a_awaited (s_opn - (nI 1)) (nI 2)).bind fun u2 =>
        some (u2, a_openNodes, s_numbered)
    else
      some (a_awaited, a_openNodes, s_numbered)
def fX4_staysNothing (a_awaited : Nat → Int32) (a_openNodes : Nat → Int32) (s_opn : Int32) (s_numbered : Int32)  : Option (Int32 × (Nat → Int32) × (Nat → Int32) × Int32) :=
  (fX4_awaitedNow a_awaited s_opn).bind fun r1 =>
  if r1 = (nI 2) then
    some ((nI 0), a_awaited, a_openNodes, s_numbered)
  else
    (fX4_endSubtree a_awaited a_openNodes s_opn s_numbered).bind fun r2 =>
    some ((nI 1), r2.1, r2.2.1, r2.2.2)
def fX4_closesNode_J77 (a_awaited : Nat → Int32) (a_openNodes : Nat → Int32) (a_rightSizes : Nat → Int32) (s_opn : Int32) (s_numbered : Int32)   : Option (Int32 × (Nat → Int32) × (Nat → Int32) × (Nat → Int32) × Int32 × Int32) :=
  (fX4_endSubtree a_awaited a_openNodes s_opn s_numbered).bind fun r1 =>
  some ((nI 1), r1.1, r1.2.1, a_rightSizes, s_opn, r1.2.2)
def fX4_closesNode (a_awaited : Nat → Int32) (a_openNodes : Nat → Int32) (a_rightSizes : Nat → Int32) (s_opn : Int32) (s_numbered : Int32)  : Option (Int32 × (Nat → Int32) × (Nat → Int32) × (Nat → Int32) × Int32 × Int32) :=
  if s_opn ≤ nI 0 then
    some ((nI 0), a_awaited, a_openNodes, a_rightSizes, s_opn, s_numbered)
  else
    if (nI 7) < s_opn then
      some ((nI 0), a_awaited, a_openNodes, a_rightSizes, s_opn, s_numbered)
    else
      (rd 7 a_awaited (s_opn - (nI 1))).bind fun t1 =>
      if t1 = (nI 2) then
        (rd 7 a_openNodes (s_opn - (nI 1))).bind fun t2 =>
        if t2 < nI 0 then
          fX4_closesNode_J77 a_awaited a_openNodes a_rightSizes (s_opn - (nI 1)) s_numbered
        else
          if (nI 7) ≤ t2 then
            fX4_closesNode_J77 a_awaited a_openNodes a_rightSizes (s_opn - (nI 1)) s_numbered
          else
            (wr 7 a_rightSizes t2 ((s_numbered - t2) - (nI 1))).bind fun u3 =>
            fX4_closesNode_J77 a_awaited a_openNodes u3 (s_opn - (nI 1)) s_numbered
      else
        some ((nI 0), a_awaited, a_openNodes, a_rightSizes, s_opn, s_numbered)
def fX4_opensNode_J45 (a_awaited : Nat → Int32) (s_opn : Int32) (s_opened : Int32)   : Option (Int32 × (Nat → Int32) × Int32 × Int32) :=
  (wr 7 a_awaited s_opn (nI 0)).bind fun u1 =>
  some ((nI 1), u1, (s_opn + (nI 1)), (s_opened + (nI 1)))
def fX4_opensNode_J12 (a_awaited : Nat → Int32) (s_opn : Int32) (s_opened : Int32)  (k0 : Int32) : Option (Int32 × (Nat → Int32) × Int32 × Int32) :=
  if (nI 7) ≤ s_opened then
    some ((nI 0), a_awaited, s_opn, s_opened)
  else
    if (nI 7) ≤ s_opn then
      some ((nI 0), a_awaited, s_opn, s_opened)
    else
      if k0 = nI 0 then
        (fX4_awaitedNow a_awaited s_opn).bind fun r1 =>
        if r1 = (nI 2) then
          some ((nI 0), a_awaited, s_opn, s_opened)
        else
          fX4_opensNode_J45 a_awaited s_opn s_opened
      else
        fX4_opensNode_J45 a_awaited s_opn s_opened
def fX4_opensNode (a_awaited : Nat → Int32) (s_opn : Int32) (s_opened : Int32)  : Option (Int32 × (Nat → Int32) × Int32 × Int32) :=
  if s_opened = nI 0 then
    fX4_opensNode_J12 a_awaited s_opn s_opened (nI 1)
  else
    fX4_opensNode_J12 a_awaited s_opn s_opened (nI 0)
def fX4_accepts (a_awaited : Nat → Int32) (a_openNodes : Nat → Int32) (a_rightSizes : Nat → Int32) (s_opn : Int32) (s_opened : Int32) (s_numbered : Int32) (v1 : Int32) : Option (Int32 × (Nat → Int32) × (Nat → Int32) × (Nat → Int32) × Int32 × Int32 × Int32) :=
  if v1 = nI 40 then
    (fX4_opensNode a_awaited s_opn s_opened).bind fun r1 =>
    (zro r1.1).bind fun z2 =>
    some (z2, r1.2.1, a_openNodes, a_rightSizes, r1.2.2.1, r1.2.2.2, s_numbered)
  else
    if v1 = nI 41 then
      (fX4_closesNode a_awaited a_openNodes a_rightSizes s_opn s_numbered).bind fun r3 =>
      (zro r3.1).bind fun z4 =>
      some (z4, r3.2.1, r3.2.2.1, r3.2.2.2.1, r3.2.2.2.2.1, s_opened, r3.2.2.2.2.2)
    else
      if v1 = nI 46 then
        (fX4_staysNothing a_awaited a_openNodes s_opn s_numbered).bind fun r5 =>
        (zro r5.1).bind fun z6 =>
        some (z6, r5.2.1, r5.2.2.1, a_rightSizes, s_opn, s_opened, r5.2.2.2)
      else
        some ((nI 0), a_awaited, a_openNodes, a_rightSizes, s_opn, s_opened, s_numbered)
def fX4_isWhole (s_opn : Int32) (s_opened : Int32)  : Option Int32 :=
  if s_opened ≤ nI 0 then
    some (nI 0)
  else
    if s_opn = nI 0 then
      some (nI 1)
    else
      some (nI 0)
def fX4_parse_B17 (a_bytes : Nat → Int32) (s_length : Int32)  (x : (Int32 × (Nat → Int32) × (Nat → Int32) × (Nat → Int32) × Int32 × Int32 × Int32)) : Option ((Int32 × (Nat → Int32) × (Nat → Int32) × (Nat → Int32) × Int32 × Int32 × Int32) ⊕ (((Nat → Int32) × (Nat → Int32) × (Nat → Int32) × Int32 × Int32 × Int32) ⊕ (Int32 × (Nat → Int32) × (Nat → Int32) × (Nat → Int32) × Int32 × Int32 × Int32))) :=
  if s_length ≤ x.1 then
    some (.inr (.inl (x.2.1, x.2.2.1, x.2.2.2.1, x.2.2.2.2.1, x.2.2.2.2.2.1, x.2.2.2.2.2.2)))
  else
    if (nI 60) ≤ x.1 then
      some (.inr (.inl (x.2.1, x.2.2.1, x.2.2.2.1, x.2.2.2.2.1, x.2.2.2.2.2.1, x.2.2.2.2.2.2)))
    else
      (rd 60 a_bytes x.1).bind fun t1 =>
      (fX4_accepts x.2.1 x.2.2.1 x.2.2.2.1 x.2.2.2.2.1 x.2.2.2.2.2.1 x.2.2.2.2.2.2 t1).bind fun r2 =>
      if r2.1 = nI 0 then
        some (.inr (.inr (x.1, r2.2.1, r2.2.2.1, r2.2.2.2.1, r2.2.2.2.2.1, r2.2.2.2.2.2.1, r2.2.2.2.2.2.2)))
      else
        some (.inl ((x.1 + nI 1), r2.2.1, r2.2.2.1, r2.2.2.2.1, r2.2.2.2.2.1, r2.2.2.2.2.2.1, r2.2.2.2.2.2.2))
def fX4_parse (a_bytes : Nat → Int32) (a_awaited : Nat → Int32) (a_openNodes : Nat → Int32) (a_rightSizes : Nat → Int32) (s_length : Int32) (s_opn : Int32) (s_opened : Int32) (s_numbered : Int32)  : Option (Int32 × (Nat → Int32) × (Nat → Int32) × (Nat → Int32) × Int32 × Int32 × Int32) :=
  (it (fX4_parse_B17 a_bytes s_length) FU ((nI 0), a_awaited, a_openNodes, a_rightSizes, (nI 0), (nI 0), (nI 0))).bind (Sum.elim (fun y1 =>
    (fX4_isWhole y1.2.2.2.1 y1.2.2.2.2.1).bind fun r2 =>
    if r2 = nI 0 then
      some (s_length, y1.1, y1.2.1, y1.2.2.1, y1.2.2.2.1, y1.2.2.2.2.1, y1.2.2.2.2.2)
    else
      some ((-1 : Int32), y1.1, y1.2.1, y1.2.2.1, y1.2.2.2.1, y1.2.2.2.2.1, y1.2.2.2.2.2)) some)
def fX4_parsedNodes (s_numbered : Int32)  : Option Int32 :=
  some s_numbered
def fX4_parsedCode_B4 (a_rightSizes : Nat → Int32) (s_numbered : Int32)  (x : (Int32 × Int32)) : Option ((Int32 × Int32) ⊕ Int32) :=
  if s_numbered ≤ x.2 then
    some (.inr x.1)
  else
    if (nI 7) ≤ x.2 then
      some (.inr x.1)
    else
      (rd 7 a_rightSizes x.2).bind fun t1 =>
      (fX0_digitAt t1 s_numbered x.2).bind fun r2 =>
      some (.inl ((x.1 ||| r2), (x.2 + nI 1)))
def fX4_parsedCode (a_rightSizes : Nat → Int32) (s_numbered : Int32)  : Option Int32 :=
  (it (fX4_parsedCode_B4 a_rightSizes s_numbered) FU ((nI 0), (nI 0))).bind fun y1 =>
  some y1
def fX5_isTree  (v0 : Int32) : Option Int32 :=
  if v0 ≤ nI 0 then
    some (nI 0)
  else
    if (nI 626) ≤ v0 then
      some (nI 0)
    else
      some (nI 1)
def fX5_turnPlace  (v0 : Int32) (v1 : Int32) : Option Int32 :=
  some ((v0 * (nI 7)) + v1)
def fX5_learn_J88 (a_codes : Nat → Int32) (a_sizes : Nat → Int32) (a_ups : Nat → Int32) (a_backs : Nat → Int32) (v1 : Int32) (v2 : Int32) (v3 : Int32)  : Option ((Int32 × (Nat → Int32) × (Nat → Int32)) ⊕ ((Nat → Int32) × (Nat → Int32))) :=
  some (.inl ((v3 + nI 1), a_ups, a_backs))
def fX5_learn_B40 (a_codes : Nat → Int32) (a_sizes : Nat → Int32) (v1 : Int32) (v2 : Int32) (x : (Int32 × (Nat → Int32) × (Nat → Int32))) : Option ((Int32 × (Nat → Int32) × (Nat → Int32)) ⊕ ((Nat → Int32) × (Nat → Int32))) :=
  if v1 ≤ x.1 then
    some (.inr (x.2.1, x.2.2))
  else
    (fX0_turnedUp a_codes a_sizes v2 x.1).bind fun r1 =>
    (fX5_isTree r1).bind fun r2 =>
    if r2 = nI 0 then
      fX5_learn_J88 a_codes a_sizes x.2.1 x.2.2 v1 v2 x.1
    else
      (fX5_turnPlace v2 x.1).bind fun r3 =>
      (wr 4382 x.2.1 r3 r1).bind fun u4 =>
      (fX5_turnPlace r1 x.1).bind fun r5 =>
      (wr 4382 x.2.2 r5 v2).bind fun u6 =>
      fX5_learn_J88 a_codes a_sizes u4 u6 v1 v2 x.1
def fX5_learn_B26 (a_codes : Nat → Int32) (a_sizes : Nat → Int32) (v1 : Int32) (x : (Int32 × (Nat → Int32) × (Nat → Int32))) : Option ((Int32 × (Nat → Int32) × (Nat → Int32)) ⊕ ((Nat → Int32) × (Nat → Int32))) :=
  (fX0_lastOf v1).bind fun r1 =>
  if r1 < x.1 then
    some (.inr (x.2.1, x.2.2))
  else
    (it (fX5_learn_B40 a_codes a_sizes v1 x.1) FU ((nI 0), x.2.1, x.2.2)).bind fun y2 =>
    some (.inl ((x.1 + nI 1), y2.1, y2.2))
def fX5_learn (a_codes : Nat → Int32) (a_sizes : Nat → Int32) (a_ups : Nat → Int32) (a_backs : Nat → Int32) (a_learned : Nat → Int32) (v1 : Int32) : Option ((Nat → Int32) × (Nat → Int32) × (Nat → Int32)) :=
  (fX0_isSize v1).bind fun r1 =>
  if r1 = nI 0 then
    some (a_ups, a_backs, a_learned)
  else
    (rd 8 a_learned v1).bind fun t2 =>
    if t2 = nI 0 then
      (fX0_firstOf v1).bind fun r3 =>
      (it (fX5_learn_B26 a_codes a_sizes v1) FU (r3, a_ups, a_backs)).bind fun y4 =>
      (wr 8 a_learned v1 (nI 1)).bind fun u5 =>
      some (y4.1, y4.2, u5)
    else
      some (a_ups, a_backs, a_learned)
def fX5_reach (a_turns : Nat → Int32) (a_queue : Nat → Int32) (s_queued : Int32) (v1 : Int32) (v2 : Int32) : Option ((Nat → Int32) × (Nat → Int32) × Int32) :=
  (fX5_isTree v1).bind fun r1 =>
  if r1 = nI 0 then
    some (a_turns, a_queue, s_queued)
  else
    (rd 626 a_turns v1).bind fun t2 =>
    if t2 = (-1 : Int32) then
      if (nI 429) ≤ s_queued then
        some (a_turns, a_queue, s_queued)
      else
        (wr 626 a_turns v1 v2).bind fun u3 =>
        (wr 429 a_queue s_queued v1).bind fun u4 =>
        some (u3, u4, (s_queued + (nI 1)))
    else
      some (a_turns, a_queue, s_queued)
def fX5_measure_B77 (a_ups : Nat → Int32) (a_backs : Nat → Int32) (v1 : Int32) (v2 : Int32) (v3 : Int32) (v4 : Int32) (x : (Int32 × (Nat → Int32) × (Nat → Int32) × Int32)) : Option ((Int32 × (Nat → Int32) × (Nat → Int32) × Int32) ⊕ ((Nat → Int32) × (Nat → Int32) × Int32)) :=
  if v2 ≤ x.1 then
    some (.inr (x.2.1, x.2.2.1, x.2.2.2))
  else
    (fX5_turnPlace v4 x.1).bind fun r1 =>
    (rd 4382 a_ups r1).bind fun t2 =>
    (rd 626 x.2.1 v4).bind fun t3 =>
    (fX5_reach x.2.1 x.2.2.1 x.2.2.2 t2 (t3 + (nI 1))).bind fun r4 =>
    (fX5_turnPlace v4 x.1).bind fun r5 =>
    (rd 4382 a_backs r5).bind fun t6 =>
    (rd 626 r4.1 v4).bind fun t7 =>
    (fX5_reach r4.1 r4.2.1 r4.2.2 t6 (t7 + (nI 1))).bind fun r8 =>
    some (.inl ((x.1 + nI 1), r8.1, r8.2.1, r8.2.2))
def fX5_measure_B51 (a_ups : Nat → Int32) (a_backs : Nat → Int32) (v1 : Int32) (v2 : Int32) (x : (Int32 × (Nat → Int32) × (Nat → Int32) × Int32)) : Option ((Int32 × (Nat → Int32) × (Nat → Int32) × Int32) ⊕ ((Nat → Int32) × (Nat → Int32) × Int32)) :=
  if x.2.2.2 ≤ x.1 then
    some (.inr (x.2.1, x.2.2.1, x.2.2.2))
  else
    if (nI 429) ≤ x.1 then
      some (.inr (x.2.1, x.2.2.1, x.2.2.2))
    else
      (rd 429 x.2.2.1 x.1).bind fun t1 =>
      (it (fX5_measure_B77 a_ups a_backs v1 v2 x.1 t1) FU ((nI 0), x.2.1, x.2.2.1, x.2.2.2)).bind fun y2 =>
      some (.inl ((x.1 + nI 1), y2.1, y2.2.1, y2.2.2))
def fX5_measure (a_codes : Nat → Int32) (a_sizes : Nat → Int32) (a_ups : Nat → Int32) (a_backs : Nat → Int32) (a_learned : Nat → Int32) (a_turns : Nat → Int32) (a_queue : Nat → Int32) (s_queued : Int32) (s_measured : Int32) (v1 : Int32) : Option ((Nat → Int32) × (Nat → Int32) × (Nat → Int32) × (Nat → Int32) × (Nat → Int32) × Int32 × Int32) :=
  if v1 = s_measured then
    some (a_ups, a_backs, a_learned, a_turns, a_queue, s_queued, s_measured)
  else
    (fX5_isTree v1).bind fun r1 =>
    if r1 = nI 0 then
      some (a_ups, a_backs, a_learned, a_turns, a_queue, s_queued, s_measured)
    else
      (fX0_sizeOf a_sizes v1).bind fun r2 =>
      (fX5_learn a_codes a_sizes a_ups a_backs a_learned r2).bind fun r3 =>
      (fX5_reach (fillF 626 (-1 : Int32) a_turns) a_queue (nI 0) v1 (nI 0)).bind fun r4 =>
      (it (fX5_measure_B51 r3.1 r3.2.1 v1 r2) FU ((nI 0), r4.1, r4.2.1, r4.2.2)).bind fun y5 =>
      some (r3.1, r3.2.1, r3.2.2, y5.1, y5.2.1, y5.2.2, v1)
def fX5_turnsFrom (a_turns : Nat → Int32) (v1 : Int32) : Option Int32 :=
  (fX5_isTree v1).bind fun r1 =>
  if r1 = nI 0 then
    some (-1 : Int32)
  else
    (rd 626 a_turns v1).bind fun t2 =>
    some t2
def fX5_firstTurn_B40 (a_ups : Nat → Int32) (a_turns : Nat → Int32) (v1 : Int32) (v2 : Int32) (v3 : Int32) (x : Int32) : Option (Int32 ⊕ (Unit ⊕ Int32)) :=
  if v3 ≤ x then
    some (.inr (.inl ()))
  else
    (fX5_turnPlace v1 x).bind fun r1 =>
    (rd 4382 a_ups r1).bind fun t2 =>
    (fX5_turnsFrom a_turns t2).bind fun r3 =>
    if r3 = v2 then
      some (.inr (.inr x))
    else
      some (.inl (x + nI 1))
def fX5_firstTurn_B77 (a_backs : Nat → Int32) (a_turns : Nat → Int32) (v1 : Int32) (v2 : Int32) (v3 : Int32) (x : Int32) : Option (Int32 ⊕ (Unit ⊕ Int32)) :=
  if v3 ≤ x then
    some (.inr (.inl ()))
  else
    (fX5_turnPlace v1 x).bind fun r1 =>
    (rd 4382 a_backs r1).bind fun t2 =>
    (fX5_turnsFrom a_turns t2).bind fun r3 =>
    if r3 = v2 then
      some (.inr (.inr ((-1 : Int32) - x)))
    else
      some (.inl (x + nI 1))
def fX5_firstTurn (a_sizes : Nat → Int32) (a_ups : Nat → Int32) (a_backs : Nat → Int32) (a_turns : Nat → Int32) (v1 : Int32) : Option Int32 :=
  (fX5_isTree v1).bind fun r1 =>
  if r1 = nI 0 then
    some (-5 : Int32)
  else
    (rd 626 a_turns v1).bind fun t2 =>
    if nI 0 < t2 then
      (rd 626 a_turns v1).bind fun t3 =>
      (fX0_sizeOf a_sizes v1).bind fun r4 =>
      (it (fX5_firstTurn_B40 a_ups a_turns v1 (t3 - (nI 1)) r4) FU (nI 0)).bind (Sum.elim (fun y5 =>
        (it (fX5_firstTurn_B77 a_backs a_turns v1 (t3 - (nI 1)) r4) FU (nI 0)).bind (Sum.elim (fun y6 =>
          some (-5 : Int32)) some)) some)
    else
      some (-5 : Int32)
def fX5_improve_J41 (a_turnsUp : Nat → Int32) (v1 : Int32) (v2 : Int32)  : Option (Nat → Int32) :=
  (wr 626 a_turnsUp v1 v2).bind fun u1 =>
  some u1
def fX5_improve (a_turnsUp : Nat → Int32) (v1 : Int32) (v2 : Int32) (v3 : Int32) : Option (Nat → Int32) :=
  (fX5_isTree v1).bind fun r1 =>
  if r1 = nI 0 then
    some a_turnsUp
  else
    (rd 626 a_turnsUp v1).bind fun t2 =>
    if t2 = (-1 : Int32) then
      fX5_improve_J41 a_turnsUp v1 v2
    else
      if v3 = nI 0 then
        if t2 ≤ v2 then
          some a_turnsUp
        else
          fX5_improve_J41 a_turnsUp v1 v2
      else
        if v2 ≤ t2 then
          some a_turnsUp
        else
          fX5_improve_J41 a_turnsUp v1 v2
def fX5_turnsUpAlone_B60 (a_ups : Nat → Int32) (v2 : Int32) (v3 : Int32) (v4 : Int32) (v5 : Int32) (x : (Int32 × (Nat → Int32))) : Option ((Int32 × (Nat → Int32)) ⊕ (Nat → Int32)) :=
  if v4 ≤ x.1 then
    some (.inr x.2)
  else
    (rd 626 x.2 v5).bind fun t1 =>
    if t1 = (-1 : Int32) then
      some (.inr x.2)
    else
      (fX5_turnPlace v5 x.1).bind fun r2 =>
      (rd 4382 a_ups r2).bind fun t3 =>
      (rd 626 x.2 v5).bind fun t4 =>
      (fX5_improve x.2 t3 (t4 + (nI 1)) v3).bind fun r5 =>
      some (.inl ((x.1 + nI 1), r5))
def fX5_turnsUpAlone_B51 (a_ups : Nat → Int32) (v2 : Int32) (v3 : Int32) (v4 : Int32) (x : (Int32 × (Nat → Int32))) : Option ((Int32 × (Nat → Int32)) ⊕ (Nat → Int32)) :=
  if v2 ≤ x.1 then
    some (.inr x.2)
  else
    (it (fX5_turnsUpAlone_B60 a_ups v2 v3 v4 x.1) FU ((nI 0), x.2)).bind fun y1 =>
    some (.inl ((x.1 + nI 1), y1))
def fX5_turnsUpAlone (a_codes : Nat → Int32) (a_sizes : Nat → Int32) (a_ups : Nat → Int32) (a_backs : Nat → Int32) (a_learned : Nat → Int32) (a_turnsUp : Nat → Int32) (v1 : Int32) (v2 : Int32) (v3 : Int32) : Option (Int32 × (Nat → Int32) × (Nat → Int32) × (Nat → Int32) × (Nat → Int32)) :=
  (fX5_isTree v1).bind fun r1 =>
  if r1 = nI 0 then
    some ((-5 : Int32), a_ups, a_backs, a_learned, a_turnsUp)
  else
    (fX5_isTree v2).bind fun r2 =>
    if r2 = nI 0 then
      some ((-5 : Int32), a_ups, a_backs, a_learned, a_turnsUp)
    else
      (fX0_sizeOf a_sizes v1).bind fun r3 =>
      (fX5_learn a_codes a_sizes a_ups a_backs a_learned r3).bind fun r4 =>
      (wr 626 (fillF 626 (-1 : Int32) a_turnsUp) v1 (nI 0)).bind fun u5 =>
      (it (fX5_turnsUpAlone_B51 r4.1 v2 v3 r3) FU (v1, u5)).bind fun y6 =>
      (rd 626 y6 v2).bind fun t7 =>
      some (t7, r4.1, r4.2.1, r4.2.2, y6)
def fX5_farthest_B4 (a_turns : Nat → Int32)  (x : (Int32 × Int32)) : Option ((Int32 × Int32) ⊕ Int32) :=
  if (nI 626) ≤ x.2 then
    some (.inr x.1)
  else
    (rd 626 a_turns x.2).bind fun t1 =>
    some (.inl ((if x.1 < t1 then t1 else x.1), (x.2 + nI 1)))
def fX5_farthest (a_turns : Nat → Int32)  : Option Int32 :=
  (it (fX5_farthest_B4 a_turns) FU ((nI 0), (nI 0))).bind fun y1 =>
  some y1
def fX5_leastFarthest_B7 (a_turns : Nat → Int32) (v1 : Int32) (x : Int32) : Option (Int32 ⊕ (Unit ⊕ Int32)) :=
  if (nI 626) ≤ x then
    some (.inr (.inl ()))
  else
    (rd 626 a_turns x).bind fun t1 =>
    if t1 = v1 then
      some (.inr (.inr x))
    else
      some (.inl (x + nI 1))
def fX5_leastFarthest (a_turns : Nat → Int32)  : Option Int32 :=
  (fX5_farthest a_turns).bind fun r1 =>
  (it (fX5_leastFarthest_B7 a_turns r1) FU (nI 0)).bind (Sum.elim (fun y2 =>
    some (nI 0)) some)
def fX5_howManyFarthest_J29 (a_turns : Nat → Int32) (v1 : Int32) (v2 : Int32) (v3 : Int32)  : Option ((Int32 × Int32) ⊕ Int32) :=
  some (.inl (v2, (v3 + nI 1)))
def fX5_howManyFarthest_B9 (a_turns : Nat → Int32) (v1 : Int32) (x : (Int32 × Int32)) : Option ((Int32 × Int32) ⊕ Int32) :=
  if (nI 626) ≤ x.2 then
    some (.inr x.1)
  else
    (rd 626 a_turns x.2).bind fun t1 =>
    if t1 = v1 then
      fX5_howManyFarthest_J29 a_turns v1 (x.1 + nI 1) x.2
    else
      fX5_howManyFarthest_J29 a_turns v1 x.1 x.2
def fX5_howManyFarthest (a_turns : Nat → Int32)  : Option Int32 :=
  (fX5_farthest a_turns).bind fun r1 =>
  (it (fX5_howManyFarthest_B9 a_turns r1) FU ((nI 0), (nI 0))).bind fun y2 =>
  some y2
def fX6_size (a_sizes : Nat → Int32) (s_tree : Int32)  : Option Int32 :=
  (fX0_sizeOf a_sizes s_tree).bind fun r1 =>
  some r1
def fX6_nodes (a_sizes : Nat → Int32) (s_tree : Int32) (s_held : Int32) (v1 : Int32) : Option (Int32 × Int32 × Int32) :=
  (fX0_isSize v1).bind fun r1 =>
  if r1 = nI 0 then
    some ((-2 : Int32), s_tree, s_held)
  else
    (fX6_size a_sizes s_tree).bind fun r2 =>
    (fX0_firstOf v1).bind fun r3 =>
    (fX3_clear s_held).bind fun r4 =>
    some (r2, r3, r4)
def fX6_become (a_trees : Nat → Int32) (s_tree : Int32) (s_held : Int32) (v1 : Int32) : Option ((Nat → Int32) × Int32 × Int32) :=
  if v1 = s_tree then
    some (a_trees, s_tree, s_held)
  else
    (fX3_add a_trees s_held s_tree).bind fun r1 =>
    some (r1.1, v1, r1.2)
def fX6_becomeAndTell (a_sizes : Nat → Int32) (a_trees : Nat → Int32) (s_tree : Int32) (s_held : Int32) (v1 : Int32) : Option (Int32 × (Nat → Int32) × Int32 × Int32) :=
  (fX6_become a_trees s_tree s_held v1).bind fun r1 =>
  (fX0_numberOf a_sizes r1.2.1).bind fun r2 =>
  some (r2, r1.1, r1.2.1, r1.2.2)
def fX6_row (a_codes : Nat → Int32) (a_sizes : Nat → Int32) (a_trees : Nat → Int32) (s_tree : Int32) (s_held : Int32) (v1 : Int32) : Option (Int32 × (Nat → Int32) × Int32 × Int32) :=
  (fX6_size a_sizes s_tree).bind fun r1 =>
  (fX0_findDigits a_codes r1 v1).bind fun r2 =>
  if r2 = nI 0 then
    some ((-2 : Int32), a_trees, s_tree, s_held)
  else
    (fX6_becomeAndTell a_sizes a_trees s_tree s_held r2).bind fun r3 =>
    some (r3.1, r3.2.1, r3.2.2.1, r3.2.2.2)
def fX6_isNode (a_sizes : Nat → Int32) (s_tree : Int32) (v1 : Int32) : Option Int32 :=
  if v1 < nI 0 then
    some (nI 0)
  else
    (fX6_size a_sizes s_tree).bind fun r1 =>
    if r1 ≤ v1 then
      some (nI 0)
    else
      some (nI 1)
def fX6_of (a_codes : Nat → Int32) (a_sizes : Nat → Int32) (s_tree : Int32) (v1 : Int32) (v2 : Int32) : Option Int32 :=
  (fX6_isNode a_sizes s_tree v1).bind fun r1 =>
  if r1 = nI 0 then
    some (-1 : Int32)
  else
    if v2 = nI 0 then
      (fX0_rightSize a_codes a_sizes s_tree v1).bind fun r2 =>
      some r2
    else
      if v2 = nI 1 then
        (fX0_parent a_codes a_sizes s_tree v1).bind fun r3 =>
        some r3
      else
        if v2 = nI 2 then
          (fX0_leftChild a_codes a_sizes s_tree v1).bind fun r4 =>
          some r4
        else
          if v2 = nI 3 then
            (fX0_rightChild a_codes a_sizes s_tree v1).bind fun r5 =>
            some r5
          else
            if v2 = nI 4 then
              (fX0_leftSize a_codes a_sizes s_tree v1).bind fun r6 =>
              some r6
            else
              if v2 = nI 5 then
                (fX0_depth a_codes a_sizes s_tree v1).bind fun r7 =>
                some r7
              else
                some (-1 : Int32)
def fX6_number (a_sizes : Nat → Int32) (a_trees : Nat → Int32) (s_tree : Int32) (s_held : Int32) (v1 : Int32) : Option (Int32 × (Nat → Int32) × Int32 × Int32) :=
  if v1 < nI 0 then
    some ((-1 : Int32), a_trees, s_tree, s_held)
  else
    (fX6_size a_sizes s_tree).bind fun r1 =>
    (fX0_howMany r1).bind fun r2 =>
    if v1 < r2 then
      (fX0_numberOf a_sizes s_tree).bind fun r3 =>
      (fX6_size a_sizes s_tree).bind fun r4 =>
      (fX0_firstOf r4).bind fun r5 =>
      (fX6_become a_trees s_tree s_held (r5 + v1)).bind fun r6 =>
      some (r3, r6.1, r6.2.1, r6.2.2)
    else
      some ((-1 : Int32), a_trees, s_tree, s_held)
def fX6_which (a_sizes : Nat → Int32) (s_tree : Int32)  : Option Int32 :=
  (fX0_numberOf a_sizes s_tree).bind fun r1 =>
  some r1
def fX6_many  (v1 : Int32) : Option Int32 :=
  (fX0_isSize v1).bind fun r1 =>
  if r1 = nI 0 then
    some (-2 : Int32)
  else
    (fX0_howMany v1).bind fun r2 =>
    some r2
def fX6_digits (a_codes : Nat → Int32) (a_sizes : Nat → Int32) (s_tree : Int32)  : Option Int32 :=
  (fX0_asDigits a_codes a_sizes s_tree).bind fun r1 =>
  some r1
def fX6_turn (a_codes : Nat → Int32) (a_sizes : Nat → Int32) (a_trees : Nat → Int32) (s_tree : Int32) (s_held : Int32) (v1 : Int32) : Option (Int32 × (Nat → Int32) × Int32 × Int32) :=
  (fX6_isNode a_sizes s_tree v1).bind fun r1 =>
  if r1 = nI 0 then
    some ((-1 : Int32), a_trees, s_tree, s_held)
  else
    (fX0_turnedUp a_codes a_sizes s_tree v1).bind fun r2 =>
    if r2 = nI 0 then
      some ((-5 : Int32), a_trees, s_tree, s_held)
    else
      (fX6_becomeAndTell a_sizes a_trees s_tree s_held r2).bind fun r3 =>
      some (r3.1, r3.2.1, r3.2.2.1, r3.2.2.2)
def fX6_back (a_codes : Nat → Int32) (a_sizes : Nat → Int32) (a_trees : Nat → Int32) (s_tree : Int32) (s_held : Int32) (v1 : Int32) : Option (Int32 × (Nat → Int32) × Int32 × Int32) :=
  (fX6_isNode a_sizes s_tree v1).bind fun r1 =>
  if r1 = nI 0 then
    some ((-1 : Int32), a_trees, s_tree, s_held)
  else
    (fX0_turnedBack a_codes a_sizes s_tree v1).bind fun r2 =>
    if r2 = nI 0 then
      some ((-5 : Int32), a_trees, s_tree, s_held)
    else
      (fX6_becomeAndTell a_sizes a_trees s_tree s_held r2).bind fun r3 =>
      some (r3.1, r3.2.1, r3.2.2.1, r3.2.2.2)
def fX6_mayTurn (a_codes : Nat → Int32) (a_sizes : Nat → Int32) (s_tree : Int32) (v1 : Int32) : Option Int32 :=
  if v1 = nI 0 then
    (fX0_leftChildren a_codes a_sizes s_tree).bind fun r1 =>
    (fJ0_bitCount r1).bind fun r2 =>
    some r2
  else
    if v1 = nI 1 then
      (fX0_withRightChild a_codes a_sizes s_tree).bind fun r3 =>
      (fJ0_bitCount r3).bind fun r4 =>
      some r4
    else
      if v1 = nI 2 then
        (fX0_leftChildren a_codes a_sizes s_tree).bind fun r5 =>
        some r5
      else
        if v1 = nI 3 then
          (fX0_withRightChild a_codes a_sizes s_tree).bind fun r6 =>
          some r6
        else
          some (-1 : Int32)
def fX6_mirror (a_codes : Nat → Int32) (a_sizes : Nat → Int32) (a_trees : Nat → Int32) (s_tree : Int32) (s_held : Int32)  : Option (Int32 × (Nat → Int32) × Int32 × Int32) :=
  (fX0_mirrored a_codes a_sizes s_tree).bind fun r1 =>
  (fX6_becomeAndTell a_sizes a_trees s_tree s_held r1).bind fun r2 =>
  some (r2.1, r2.2.1, r2.2.2.1, r2.2.2.2)
def fX6_off (a_trees : Nat → Int32) (s_tree : Int32) (s_held : Int32)  : Option (Int32 × Int32 × Int32) :=
  (fX3_takeLatest a_trees s_held).bind fun r1 =>
  if r1.1 = nI 0 then
    some ((-3 : Int32), s_tree, r1.2)
  else
    (fX3_held r1.2).bind fun r2 =>
    some (r2, r1.1, r1.2)
def fX6_isShelf  (v0 : Int32) : Option Int32 :=
  if v0 < nI 0 then
    some (nI 0)
  else
    if (nI 4) ≤ v0 then
      some (nI 0)
    else
      some (nI 1)
def fX6_lack (a_shelves : Nat → Int32) (v1 : Int32) : Option Int32 :=
  (fX6_isShelf v1).bind fun r1 =>
  if r1 = nI 0 then
    some (-1 : Int32)
  else
    (rd 4 a_shelves v1).bind fun t2 =>
    if t2 = nI 0 then
      some (-6 : Int32)
    else
      some (nI 0)
def fX6_refusal (a_sizes : Nat → Int32) (a_shelves : Nat → Int32) (s_tree : Int32) (v1 : Int32) : Option Int32 :=
  (fX6_lack a_shelves v1).bind fun r1 =>
  if r1 = nI 0 then
    (rd 4 a_shelves v1).bind fun t2 =>
    (fX0_sizeOf a_sizes t2).bind fun r3 =>
    (fX6_size a_sizes s_tree).bind fun r4 =>
    if r3 = r4 then
      some (nI 0)
    else
      some (-7 : Int32)
  else
    some r1
def fX6_refusalOfTwo_J9 (a_sizes : Nat → Int32) (a_shelves : Nat → Int32) (s_tree : Int32)   : Option Int32 :=
  some (-1 : Int32)
def fX6_refusalOfTwo (a_sizes : Nat → Int32) (a_shelves : Nat → Int32) (s_tree : Int32) (v1 : Int32) (v2 : Int32) : Option Int32 :=
  if v2 < nI 0 then
    fX6_refusalOfTwo_J9 a_sizes a_shelves s_tree
  else
    if v2 ≤ (nI 1) then
      (fX6_refusal a_sizes a_shelves s_tree v1).bind fun r1 =>
      some r1
    else
      fX6_refusalOfTwo_J9 a_sizes a_shelves s_tree
def fX6_below_J54 (a_codes : Nat → Int32) (a_sizes : Nat → Int32) (a_shelves : Nat → Int32) (s_tree : Int32)  (k0 : Int32) : Option Int32 :=
  if k0 = nI 0 then
    some (nI 0)
  else
    some (nI 1)
def fX6_below (a_codes : Nat → Int32) (a_sizes : Nat → Int32) (a_shelves : Nat → Int32) (s_tree : Int32) (v1 : Int32) (v2 : Int32) : Option Int32 :=
  (fX6_refusalOfTwo a_sizes a_shelves s_tree v1 v2).bind fun r1 =>
  if r1 = nI 0 then
    (rd 4 a_shelves v1).bind fun t2 =>
    if v2 = nI 0 then
      (fX2_isBelow a_codes s_tree t2).bind fun r4 =>
      fX6_below_J54 a_codes a_sizes a_shelves s_tree r4
    else
      (fX2_isBelow a_codes t2 s_tree).bind fun r3 =>
      fX6_below_J54 a_codes a_sizes a_shelves s_tree r3
  else
    some r1
def fX6_meet_J41 (a_codes : Nat → Int32) (a_sizes : Nat → Int32) (a_shelves : Nat → Int32) (s_tree : Int32)  (k0 : Int32) (k1 : Int32) (k2 : Int32) : Option Int32 :=
  (fX2_meetOrJoin a_codes a_sizes k2 k1 k0).bind fun r1 =>
  (fX0_numberOf a_sizes r1).bind fun r2 =>
  some r2
def fX6_meet (a_codes : Nat → Int32) (a_sizes : Nat → Int32) (a_shelves : Nat → Int32) (s_tree : Int32) (v1 : Int32) (v2 : Int32) : Option Int32 :=
  (fX6_refusalOfTwo a_sizes a_shelves s_tree v1 v2).bind fun r1 =>
  if r1 = nI 0 then
    (rd 4 a_shelves v1).bind fun t2 =>
    if v2 = (nI 1) then
      fX6_meet_J41 a_codes a_sizes a_shelves s_tree (nI 1) t2 s_tree
    else
      fX6_meet_J41 a_codes a_sizes a_shelves s_tree (nI 0) t2 s_tree
  else
    some r1
def fX6_meetAll_J78 (a_codes : Nat → Int32) (a_sizes : Nat → Int32) (a_shelves : Nat → Int32) (s_tree : Int32) (v1 : Int32) (v2 : Int32) (v4 : Int32) (v5 : Int32)  : Option ((Int32 × Int32) ⊕ Int32) :=
  some (.inl (v2, (v5 + nI 1)))
def fX6_meetAll_J74 (a_codes : Nat → Int32) (a_sizes : Nat → Int32) (a_shelves : Nat → Int32) (s_tree : Int32) (v1 : Int32) (v4 : Int32) (v5 : Int32) (k0 : Int32) (k1 : Int32) (k2 : Int32) : Option ((Int32 × Int32) ⊕ Int32) :=
  (fX2_meetOrJoin a_codes a_sizes k2 k1 k0).bind fun r1 =>
  fX6_meetAll_J78 a_codes a_sizes a_shelves s_tree v1 r1 v4 v5
def fX6_meetAll_B28 (a_codes : Nat → Int32) (a_sizes : Nat → Int32) (a_shelves : Nat → Int32) (s_tree : Int32) (v1 : Int32) (v4 : Int32) (x : (Int32 × Int32)) : Option ((Int32 × Int32) ⊕ Int32) :=
  if v4 ≤ x.2 then
    some (.inr x.1)
  else
    (rd 4 a_shelves x.2).bind fun t1 =>
    (fX0_sizeOf a_sizes t1).bind fun r2 =>
    (fX6_size a_sizes s_tree).bind fun r3 =>
    if r2 = r3 then
      if v1 = (nI 1) then
        fX6_meetAll_J74 a_codes a_sizes a_shelves s_tree v1 v4 x.2 (nI 1) t1 x.1
      else
        fX6_meetAll_J74 a_codes a_sizes a_shelves s_tree v1 v4 x.2 (nI 0) t1 x.1
    else
      fX6_meetAll_J78 a_codes a_sizes a_shelves s_tree v1 x.1 v4 x.2
def fX6_meetAll (a_codes : Nat → Int32) (a_sizes : Nat → Int32) (a_shelves : Nat → Int32) (s_tree : Int32) (v1 : Int32) : Option Int32 :=
  if v1 < nI 0 then
    some (-1 : Int32)
  else
    if v1 ≤ (nI 1) then
      (it (fX6_meetAll_B28 a_codes a_sizes a_shelves s_tree v1 (nI 4)) FU (s_tree, (nI 0))).bind fun y1 =>
      (fX0_numberOf a_sizes y1).bind fun r2 =>
      some r2
    else
      some (-1 : Int32)
def fX6_between (a_codes : Nat → Int32) (a_sizes : Nat → Int32) (a_shelves : Nat → Int32) (s_tree : Int32) (v1 : Int32) (v2 : Int32) : Option Int32 :=
  if (-1 : Int32) ≤ v2 then
    (fX6_refusal a_sizes a_shelves s_tree v1).bind fun r1 =>
    if r1 = nI 0 then
      if v2 = (-1 : Int32) then
        (rd 4 a_shelves v1).bind fun t5 =>
        (fX2_howManyBetween a_codes s_tree t5).bind fun r6 =>
        some r6
      else
        (rd 4 a_shelves v1).bind fun t2 =>
        (fX2_nthBetween a_codes s_tree t2 v2).bind fun r3 =>
        if r3 = nI 0 then
          some (-1 : Int32)
        else
          (fX0_numberOf a_sizes r3).bind fun r4 =>
          some r4
    else
      some r1
  else
    some (-1 : Int32)
def fX6_way (a_codes : Nat → Int32) (a_sizes : Nat → Int32) (a_ups : Nat → Int32) (a_backs : Nat → Int32) (a_learned : Nat → Int32) (a_turns : Nat → Int32) (a_queue : Nat → Int32) (a_shelves : Nat → Int32) (s_tree : Int32) (s_queued : Int32) (s_measured : Int32) (v1 : Int32) (v2 : Int32) : Option (Int32 × (Nat → Int32) × (Nat → Int32) × (Nat → Int32) × (Nat → Int32) × (Nat → Int32) × Int32 × Int32) :=
  (fX6_refusalOfTwo a_sizes a_shelves s_tree v1 v2).bind fun r1 =>
  if r1 = nI 0 then
    (rd 4 a_shelves v1).bind fun t2 =>
    (fX5_measure a_codes a_sizes a_ups a_backs a_learned a_turns a_queue s_queued s_measured t2).bind fun r3 =>
    (fX5_turnsFrom r3.2.2.2.1 s_tree).bind fun r4 =>
    if v2 = nI 0 then
      some (r4, r3.1, r3.2.1, r3.2.2.1, r3.2.2.2.1, r3.2.2.2.2.1, r3.2.2.2.2.2.1, r3.2.2.2.2.2.2)
    else
      if r4 = nI 0 then
        some ((-5 : Int32), r3.1, r3.2.1, r3.2.2.1, r3.2.2.2.1, r3.2.2.2.2.1, r3.2.2.2.2.2.1, r3.2.2.2.2.2.2)
      else
        (fX5_firstTurn a_sizes r3.1 r3.2.1 r3.2.2.2.1 s_tree).bind fun r5 =>
        if r5 < nI 0 then
          some (((nI 99) - r5), r3.1, r3.2.1, r3.2.2.1, r3.2.2.2.1, r3.2.2.2.2.1, r3.2.2.2.2.2.1, r3.2.2.2.2.2.2)
        else
          some (r5, r3.1, r3.2.1, r3.2.2.1, r3.2.2.2.1, r3.2.2.2.2.1, r3.2.2.2.2.2.1, r3.2.2.2.2.2.2)
  else
    some (r1, a_ups, a_backs, a_learned, a_turns, a_queue, s_queued, s_measured)
def fX6_chain_J60 (a_codes : Nat → Int32) (a_sizes : Nat → Int32) (a_ups : Nat → Int32) (a_backs : Nat → Int32) (a_learned : Nat → Int32) (a_turnsUp : Nat → Int32) (a_shelves : Nat → Int32) (s_tree : Int32)  (k0 : Int32) (k1 : Int32) (k2 : Int32) : Option (Int32 × (Nat → Int32) × (Nat → Int32) × (Nat → Int32) × (Nat → Int32)) :=
  (fX5_turnsUpAlone a_codes a_sizes a_ups a_backs a_learned a_turnsUp k2 k1 k0).bind fun r1 =>
  some (r1.1, r1.2.1, r1.2.2.1, r1.2.2.2.1, r1.2.2.2.2)
def fX6_chain (a_codes : Nat → Int32) (a_sizes : Nat → Int32) (a_ups : Nat → Int32) (a_backs : Nat → Int32) (a_learned : Nat → Int32) (a_turnsUp : Nat → Int32) (a_shelves : Nat → Int32) (s_tree : Int32) (v1 : Int32) (v2 : Int32) : Option (Int32 × (Nat → Int32) × (Nat → Int32) × (Nat → Int32) × (Nat → Int32)) :=
  (fX6_refusalOfTwo a_sizes a_shelves s_tree v1 v2).bind fun r1 =>
  if r1 = nI 0 then
    (rd 4 a_shelves v1).bind fun t2 =>
    (fX2_isBelow a_codes s_tree t2).bind fun r3 =>
    if r3 = nI 0 then
      some ((-5 : Int32), a_ups, a_backs, a_learned, a_turnsUp)
    else
      (rd 4 a_shelves v1).bind fun t4 =>
      if v2 = (nI 1) then
        fX6_chain_J60 a_codes a_sizes a_ups a_backs a_learned a_turnsUp a_shelves s_tree (nI 1) t4 s_tree
      else
        fX6_chain_J60 a_codes a_sizes a_ups a_backs a_learned a_turnsUp a_shelves s_tree (nI 0) t4 s_tree
  else
    some (r1, a_ups, a_backs, a_learned, a_turnsUp)
def fX6_mark (a_codes : Nat → Int32) (a_sizes : Nat → Int32) (a_markedCodes : Nat → Int32) (a_marks : Nat → Int32) (a_shelves : Nat → Int32) (s_tree : Int32) (v1 : Int32) : Option (Int32 × (Nat → Int32) × (Nat → Int32)) :=
  (fX6_refusal a_sizes a_shelves s_tree v1).bind fun r1 =>
  if r1 = nI 0 then
    (rd 4 a_shelves v1).bind fun t2 =>
    (fX2_isBelow a_codes s_tree t2).bind fun r3 =>
    if r3 = nI 0 then
      some ((-95 : Int32), a_markedCodes, a_marks)
    else
      (rd 4 a_shelves v1).bind fun t4 =>
      (fX2_markOf a_codes a_markedCodes a_marks s_tree t4).bind fun r5 =>
      some (r5.1, r5.2.1, r5.2.2)
  else
    some (((-100 : Int32) - r1), a_markedCodes, a_marks)
def fX6_pairs (a_codes : Nat → Int32) (v1 : Int32) : Option Int32 :=
  (fX0_isSize v1).bind fun r1 =>
  if r1 = nI 0 then
    some (-2 : Int32)
  else
    if (nI 6) < v1 then
      some (-2 : Int32)
    else
      (fX2_howManyPairs a_codes v1).bind fun r2 =>
      some r2
def fX6_far (a_codes : Nat → Int32) (a_sizes : Nat → Int32) (a_ups : Nat → Int32) (a_backs : Nat → Int32) (a_learned : Nat → Int32) (a_turns : Nat → Int32) (a_queue : Nat → Int32) (s_tree : Int32) (s_queued : Int32) (s_measured : Int32) (v1 : Int32) : Option (Int32 × (Nat → Int32) × (Nat → Int32) × (Nat → Int32) × (Nat → Int32) × (Nat → Int32) × Int32 × Int32) :=
  (fX5_measure a_codes a_sizes a_ups a_backs a_learned a_turns a_queue s_queued s_measured s_tree).bind fun r1 =>
  if v1 = nI 0 then
    (fX5_farthest r1.2.2.2.1).bind fun r2 =>
    some (r2, r1.1, r1.2.1, r1.2.2.1, r1.2.2.2.1, r1.2.2.2.2.1, r1.2.2.2.2.2.1, r1.2.2.2.2.2.2)
  else
    if v1 = nI 1 then
      (fX5_howManyFarthest r1.2.2.2.1).bind fun r3 =>
      some (r3, r1.1, r1.2.1, r1.2.2.1, r1.2.2.2.1, r1.2.2.2.2.1, r1.2.2.2.2.2.1, r1.2.2.2.2.2.2)
    else
      if v1 = nI 2 then
        (fX5_leastFarthest r1.2.2.2.1).bind fun r4 =>
        (fX0_numberOf a_sizes r4).bind fun r5 =>
        some (r5, r1.1, r1.2.1, r1.2.2.1, r1.2.2.2.1, r1.2.2.2.2.1, r1.2.2.2.2.2.1, r1.2.2.2.2.2.2)
      else
        some ((-1 : Int32), r1.1, r1.2.1, r1.2.2.1, r1.2.2.2.1, r1.2.2.2.2.1, r1.2.2.2.2.2.1, r1.2.2.2.2.2.2)
def fX6_canopy (a_codes : Nat → Int32) (a_sizes : Nat → Int32) (s_tree : Int32)  : Option Int32 :=
  (fX0_withRightChild a_codes a_sizes s_tree).bind fun r1 =>
  some r1
def fX6_inClass (a_codes : Nat → Int32) (a_sizes : Nat → Int32) (s_tree : Int32) (v1 : Int32) (v2 : Int32) : Option Int32 :=
  if v1 < nI 0 then
    some (-2 : Int32)
  else
    (fX6_size a_sizes s_tree).bind fun r1 =>
    if v1 < ((nI 1) <<< ((r1 - (nI 1)) &&& 31)) then
      if v2 = nI 0 then
        (fX6_size a_sizes s_tree).bind fun r2 =>
        (fX0_howManyWith a_codes a_sizes r2 v1).bind fun r3 =>
        some r3
      else
        if v2 = nI 1 then
          (fX6_size a_sizes s_tree).bind fun r4 =>
          (fX0_leastWith a_codes a_sizes r4 v1).bind fun r5 =>
          (fX0_numberOf a_sizes r5).bind fun r6 =>
          some r6
        else
          if v2 = nI 2 then
            (fX6_size a_sizes s_tree).bind fun r7 =>
            (fX0_greatestWith a_codes a_sizes r7 v1).bind fun r8 =>
            (fX0_numberOf a_sizes r8).bind fun r9 =>
            some r9
          else
            some (-1 : Int32)
    else
      some (-2 : Int32)
def fX6_likeness (a_codes : Nat → Int32) (a_sizes : Nat → Int32) (a_shelves : Nat → Int32) (s_tree : Int32) (v1 : Int32) : Option Int32 :=
  (fX6_refusal a_sizes a_shelves s_tree v1).bind fun r1 =>
  if r1 = nI 0 then
    (fX0_withRightChild a_codes a_sizes s_tree).bind fun r2 =>
    (rd 4 a_shelves v1).bind fun t3 =>
    (fX0_withRightChild a_codes a_sizes t3).bind fun r4 =>
    (fJ0_bitCount (r2 ^^^ r4)).bind fun r5 =>
    some r5
  else
    some r1
def fX6_keep (a_sizes : Nat → Int32) (a_shelves : Nat → Int32) (s_tree : Int32) (v1 : Int32) : Option (Int32 × (Nat → Int32)) :=
  (fX6_isShelf v1).bind fun r1 =>
  if r1 = nI 0 then
    some ((-1 : Int32), a_shelves)
  else
    (wr 4 a_shelves v1 s_tree).bind fun u2 =>
    (fX0_numberOf a_sizes s_tree).bind fun r3 =>
    some (r3, u2)
def fX6_lay (a_sizes : Nat → Int32) (a_trees : Nat → Int32) (a_shelves : Nat → Int32) (s_tree : Int32) (s_held : Int32) (v1 : Int32) : Option (Int32 × (Nat → Int32) × Int32 × Int32) :=
  (fX6_lack a_shelves v1).bind fun r1 =>
  if r1 = nI 0 then
    (rd 4 a_shelves v1).bind fun t2 =>
    (fX6_become a_trees s_tree s_held t2).bind fun r3 =>
    (fX6_size a_sizes r3.2.1).bind fun r4 =>
    some (r4, r3.1, r3.2.1, r3.2.2)
  else
    some (r1, a_trees, s_tree, s_held)
def fX6_lose (a_sizes : Nat → Int32) (a_shelves : Nat → Int32) (v1 : Int32) : Option (Int32 × (Nat → Int32)) :=
  (fX6_lack a_shelves v1).bind fun r1 =>
  if r1 = nI 0 then
    (rd 4 a_shelves v1).bind fun t2 =>
    (fX0_sizeOf a_sizes t2).bind fun r3 =>
    (wr 4 a_shelves v1 (nI 0)).bind fun u4 =>
    some (r3, u4)
  else
    some (r1, a_shelves)
def fX6_lackOrTooMany (a_sizes : Nat → Int32) (a_shelves : Nat → Int32) (s_tree : Int32) (v1 : Int32) : Option Int32 :=
  (fX6_lack a_shelves v1).bind fun r1 =>
  if r1 = nI 0 then
    (fX6_size a_sizes s_tree).bind fun r2 =>
    (rd 4 a_shelves v1).bind fun t3 =>
    (fX0_sizeOf a_sizes t3).bind fun r4 =>
    if (r2 + r4) ≤ (nI 7) then
      some (nI 0)
    else
      some (-4 : Int32)
  else
    some r1
def fX6_over (a_codes : Nat → Int32) (a_sizes : Nat → Int32) (a_trees : Nat → Int32) (a_shelves : Nat → Int32) (s_tree : Int32) (s_held : Int32) (v1 : Int32) : Option (Int32 × (Nat → Int32) × Int32 × Int32) :=
  (fX6_lackOrTooMany a_sizes a_shelves s_tree v1).bind fun r1 =>
  if r1 = nI 0 then
    (rd 4 a_shelves v1).bind fun t2 =>
    (fX0_setOver a_codes a_sizes t2 s_tree).bind fun r3 =>
    (fX6_become a_trees s_tree s_held r3).bind fun r4 =>
    (fX6_size a_sizes r4.2.1).bind fun r5 =>
    some (r5, r4.1, r4.2.1, r4.2.2)
  else
    some (r1, a_trees, s_tree, s_held)
def fX6_under (a_codes : Nat → Int32) (a_sizes : Nat → Int32) (a_trees : Nat → Int32) (a_shelves : Nat → Int32) (s_tree : Int32) (s_held : Int32) (v1 : Int32) : Option (Int32 × (Nat → Int32) × Int32 × Int32) :=
  (fX6_lackOrTooMany a_sizes a_shelves s_tree v1).bind fun r1 =>
  if r1 = nI 0 then
    (rd 4 a_shelves v1).bind fun t2 =>
    (fX0_setUnder a_codes a_sizes s_tree t2).bind fun r3 =>
    (fX6_become a_trees s_tree s_held r3).bind fun r4 =>
    (fX6_size a_sizes r4.2.1).bind fun r5 =>
    some (r5, r4.1, r4.2.1, r4.2.2)
  else
    some (r1, a_trees, s_tree, s_held)
def fX6_shelf (a_codes : Nat → Int32) (a_sizes : Nat → Int32) (a_shelves : Nat → Int32) (v1 : Int32) (v2 : Int32) : Option Int32 :=
  if v2 < nI 0 then
    some (-1 : Int32)
  else
    if v2 ≤ (nI 2) then
      (fX6_lack a_shelves v1).bind fun r1 =>
      if r1 = nI 0 then
        if v2 = nI 0 then
          (rd 4 a_shelves v1).bind fun t2 =>
          (fX0_sizeOf a_sizes t2).bind fun r3 =>
          some r3
        else
          if v2 = nI 1 then
            (rd 4 a_shelves v1).bind fun t4 =>
            (fX0_numberOf a_sizes t4).bind fun r5 =>
            some r5
          else
            (rd 4 a_shelves v1).bind fun t6 =>
            (fX0_asDigits a_codes a_sizes t6).bind fun r7 =>
            some r7
      else
        some r1
    else
      some (-1 : Int32)
def fX6_list (a_lengths : Nat → Int32) (lo : Nat → Nat → Int64) (v1 : Int32) (v2 : Int32) : Option (Int32 × (Nat → Int32) × (Nat → Nat → Int64)) :=
  (fX1_isList v1).bind fun r1 =>
  if r1 = nI 0 then
    some ((-1 : Int32), a_lengths, lo)
  else
    if v2 ≤ (nI 20) then
      if (-1 : Int32) ≤ v2 then
        (fX1_renew a_lengths lo v1 v2).bind fun r2 =>
        some ((nI 1), r2.1, r2.2)
      else
        some ((-14 : Int32), a_lengths, lo)
    else
      some ((-2 : Int32), a_lengths, lo)
def fX6_put (a_lengths : Nat → Int32) (lo : Nat → Nat → Int64) (v1 : Int32) (v2 : Int32) (v3 : Int64) : Option (Int32 × (Nat → Nat → Int64)) :=
  (fX1_isList v1).bind fun r1 =>
  if r1 = nI 0 then
    some ((-1 : Int32), lo)
  else
    (fX1_isThere a_lengths v1).bind fun r2 =>
    if r2 = nI 0 then
      some ((-11 : Int32), lo)
    else
      (fX1_isPlace a_lengths v1 v2).bind fun r3 =>
      if r3 = nI 0 then
        some ((-13 : Int32), lo)
      else
        (fX1_store a_lengths lo v1 v2 v3).bind fun r4 =>
        some ((nI 1), r4)
def fX6_get (a_lengths : Nat → Int32) (lo : Nat → Nat → Int64) (v1 : Int32) (v2 : Int32) : Option Int64 :=
  (fX1_isPlace a_lengths v1 v2).bind fun r1 =>
  if r1 = nI 0 then
    some (-9223372036854775808 : Int64)
  else
    (fX1_valueAt a_lengths lo v1 v2).bind fun r2 =>
    some r2
def fX6_play_B34 (a_codes : Nat → Int32) (a_sizes : Nat → Int32) (a_lengths : Nat → Int32) (lo : Nat → Nat → Int64) (v1 : Int32) (v2 : Int32) (x : (Int32 × (Nat → Int32) × Int32 × Int32)) : Option ((Int32 × (Nat → Int32) × Int32 × Int32) ⊕ (((Nat → Int32) × Int32 × Int32) ⊕ (Int32 × (Nat → Int32) × Int32 × Int32))) :=
  if v2 ≤ x.1 then
    some (.inr (.inl (x.2.1, x.2.2.1, x.2.2.2)))
  else
    (fX1_valueAt a_lengths lo v1 x.1).bind fun r1 =>
    (fX0_turnedAsTold a_codes a_sizes x.2.2.1 r1).bind fun r2 =>
    if r2 = nI 0 then
      some (.inr (.inr (x.1, x.2.1, x.2.2.1, x.2.2.2)))
    else
      (fX6_become x.2.1 x.2.2.1 x.2.2.2 r2).bind fun r3 =>
      some (.inl ((x.1 + nI 1), r3.1, r3.2.1, r3.2.2))
def fX6_play (a_codes : Nat → Int32) (a_sizes : Nat → Int32) (a_trees : Nat → Int32) (a_lengths : Nat → Int32) (lo : Nat → Nat → Int64) (s_tree : Int32) (s_held : Int32) (v1 : Int32) : Option (Int32 × (Nat → Int32) × Int32 × Int32) :=
  (fX1_isList v1).bind fun r1 =>
  if r1 = nI 0 then
    some ((-1 : Int32), a_trees, s_tree, s_held)
  else
    (fX1_isThere a_lengths v1).bind fun r2 =>
    if r2 = nI 0 then
      some ((-11 : Int32), a_trees, s_tree, s_held)
    else
      (fX1_lengthOf a_lengths v1).bind fun r3 =>
      (it (fX6_play_B34 a_codes a_sizes a_lengths lo v1 r3) FU ((nI 0), a_trees, s_tree, s_held)).bind (Sum.elim (fun y4 =>
        some (r3, y4.1, y4.2.1, y4.2.2)) some)
def fX6_film_B76 (a_codes : Nat → Int32) (a_sizes : Nat → Int32) (a_ups : Nat → Int32) (a_backs : Nat → Int32) (a_turns : Nat → Int32) (a_lengths : Nat → Int32) (v1 : Int32) (v4 : Int32) (x : (Int32 × Int32 × (Nat → Nat → Int64))) : Option ((Int32 × Int32 × (Nat → Nat → Int64)) ⊕ (Nat → Nat → Int64)) :=
  if v4 ≤ x.2.1 then
    some (.inr x.2.2)
  else
    (fX5_firstTurn a_sizes a_ups a_backs a_turns x.1).bind fun r1 =>
    (fX1_store a_lengths x.2.2 v1 x.2.1 (r1.toInt64)).bind fun r2 =>
    (fX0_turnedAsTold a_codes a_sizes x.1 (r1.toInt64)).bind fun r3 =>
    some (.inl (r3, (x.2.1 + nI 1), r2))
def fX6_film (a_codes : Nat → Int32) (a_sizes : Nat → Int32) (a_ups : Nat → Int32) (a_backs : Nat → Int32) (a_learned : Nat → Int32) (a_turns : Nat → Int32) (a_queue : Nat → Int32) (a_lengths : Nat → Int32) (a_shelves : Nat → Int32) (lo : Nat → Nat → Int64) (s_tree : Int32) (s_queued : Int32) (s_measured : Int32) (v1 : Int32) (v2 : Int32) : Option (Int32 × (Nat → Int32) × (Nat → Int32) × (Nat → Int32) × (Nat → Int32) × (Nat → Int32) × (Nat → Int32) × (Nat → Nat → Int64) × Int32 × Int32) :=
  (fX1_isList v1).bind fun r1 =>
  if r1 = nI 0 then
    some ((-1 : Int32), a_ups, a_backs, a_learned, a_turns, a_queue, a_lengths, lo, s_queued, s_measured)
  else
    (fX6_refusal a_sizes a_shelves s_tree v2).bind fun r2 =>
    if r2 = nI 0 then
      (rd 4 a_shelves v2).bind fun t3 =>
      (fX5_measure a_codes a_sizes a_ups a_backs a_learned a_turns a_queue s_queued s_measured t3).bind fun r4 =>
      (fX5_turnsFrom r4.2.2.2.1 s_tree).bind fun r5 =>
      if r5 ≤ (nI 20) then
        (fX1_renew a_lengths lo v1 r5).bind fun r6 =>
        (it (fX6_film_B76 a_codes a_sizes r4.1 r4.2.1 r4.2.2.2.1 r6.1 v1 r5) FU (s_tree, (nI 0), r6.2)).bind fun y7 =>
        some (r5, r4.1, r4.2.1, r4.2.2.1, r4.2.2.2.1, r4.2.2.2.2.1, r6.1, y7, r4.2.2.2.2.2.1, r4.2.2.2.2.2.2)
      else
        some ((-4 : Int32), r4.1, r4.2.1, r4.2.2.1, r4.2.2.2.1, r4.2.2.2.2.1, a_lengths, lo, r4.2.2.2.2.2.1, r4.2.2.2.2.2.2)
    else
      some (r2, a_ups, a_backs, a_learned, a_turns, a_queue, a_lengths, lo, s_queued, s_measured)
def fX6_feed (a_bytes : Nat → Int32) (s_length : Int32) (v1 : Int32) : Option (Int32 × (Nat → Int32) × Int32) :=
  if v1 < (nI 32) then
    some ((-2 : Int32), a_bytes, s_length)
  else
    if v1 ≤ (nI 126) then
      (fX4_append a_bytes s_length v1).bind fun r1 =>
      if r1.1 = nI 0 then
        some ((-4 : Int32), r1.2.1, r1.2.2)
      else
        (fX4_length r1.2.2).bind fun r2 =>
        some (r2, r1.2.1, r1.2.2)
    else
      some ((-2 : Int32), a_bytes, s_length)
def fX6_wipe (s_length : Int32)  : Option (Int32 × Int32) :=
  (fX4_length s_length).bind fun r1 =>
  (fX4_clear s_length).bind fun r2 =>
  some (r1, r2)
def fX6_read (a_codes : Nat → Int32) (a_sizes : Nat → Int32) (a_bytes : Nat → Int32) (a_awaited : Nat → Int32) (a_openNodes : Nat → Int32) (a_rightSizes : Nat → Int32) (s_tree : Int32) (s_held : Int32) (s_length : Int32) (s_opn : Int32) (s_opened : Int32) (s_numbered : Int32)  : Option (Int32 × (Nat → Int32) × (Nat → Int32) × (Nat → Int32) × Int32 × Int32 × Int32 × Int32 × Int32 × Int32) :=
  (fX4_parse a_bytes a_awaited a_openNodes a_rightSizes s_length s_opn s_opened s_numbered).bind fun r1 =>
  (fX4_clear s_length).bind fun r2 =>
  if r1.1 = (-1 : Int32) then
    (fX4_parsedNodes r1.2.2.2.2.2.2).bind fun r3 =>
    (fX4_parsedCode r1.2.2.2.1 r1.2.2.2.2.2.2).bind fun r4 =>
    (fX0_find a_codes r3 r4).bind fun r5 =>
    (fX3_clear s_held).bind fun r6 =>
    (fX6_size a_sizes r5).bind fun r7 =>
    some (r7, r1.2.1, r1.2.2.1, r1.2.2.2.1, r5, r6, r2, r1.2.2.2.2.1, r1.2.2.2.2.2.1, r1.2.2.2.2.2.2)
  else
    some (((-100 : Int32) - r1.1), r1.2.1, r1.2.2.1, r1.2.2.2.1, s_tree, s_held, r2, r1.2.2.2.2.1, r1.2.2.2.2.2.1, r1.2.2.2.2.2.2)
def fX6_written (a_codes : Nat → Int32) (a_sizes : Nat → Int32) (s_tree : Int32) (v1 : Int32) : Option Int32 :=
  if v1 = (-1 : Int32) then
    (fX0_textLength a_sizes s_tree).bind fun r2 =>
    some r2
  else
    (fX0_textByte a_codes a_sizes s_tree v1).bind fun r1 =>
    some r1
def fX6_image (a_sizes : Nat → Int32) (a_shelves : Nat → Int32) (a_imageShelves : Nat → Int32) (s_imageTree : Int32) (s_tree : Int32)  : Option (Int32 × (Nat → Int32) × Int32) :=
  (cpo 4 4 a_shelves a_imageShelves (nI 0) (nI 0) (nI 4)).bind fun u1 =>
  (fX6_size a_sizes s_tree).bind fun r2 =>
  some (r2, u1, s_tree)
def fX6_undo (a_sizes : Nat → Int32) (a_shelves : Nat → Int32) (a_imageShelves : Nat → Int32) (s_imageTree : Int32) (s_tree : Int32) (s_held : Int32)  : Option (Int32 × (Nat → Int32) × Int32 × Int32) :=
  if s_imageTree = nI 0 then
    some ((-3 : Int32), a_shelves, s_tree, s_held)
  else
    (cpo 4 4 a_imageShelves a_shelves (nI 0) (nI 0) (nI 4)).bind fun u1 =>
    (fX3_clear s_held).bind fun r2 =>
    (fX6_size a_sizes s_imageTree).bind fun r3 =>
    some (r3, u1, s_imageTree, r2)
def fX6_shelvesInUse_J33 (a_shelves : Nat → Int32) (v1 : Int32) (v3 : Int32) (v4 : Int32)  : Option ((Int32 × Int32) ⊕ Int32) :=
  some (.inl (v1, (v4 + nI 1)))
def fX6_shelvesInUse_B13 (a_shelves : Nat → Int32) (v3 : Int32) (x : (Int32 × Int32)) : Option ((Int32 × Int32) ⊕ Int32) :=
  if v3 ≤ x.2 then
    some (.inr x.1)
  else
    (rd 4 a_shelves x.2).bind fun t1 =>
    if t1 = nI 0 then
      fX6_shelvesInUse_J33 a_shelves x.1 v3 x.2
    else
      fX6_shelvesInUse_J33 a_shelves (x.1 + nI 1) v3 x.2
def fX6_shelvesInUse (a_shelves : Nat → Int32)  : Option Int32 :=
  (it (fX6_shelvesInUse_B13 a_shelves (nI 4)) FU ((nI 0), (nI 0))).bind fun y1 =>
  some y1
def fX6_count (a_sizes : Nat → Int32) (a_lengths : Nat → Int32) (a_shelves : Nat → Int32) (s_tree : Int32) (s_held : Int32) (s_length : Int32) (v1 : Int32) : Option Int32 :=
  if v1 = nI 0 then
    (fX6_size a_sizes s_tree).bind fun r1 =>
    some r1
  else
    if v1 = nI 1 then
      (fX3_held s_held).bind fun r2 =>
      some r2
    else
      if v1 = nI 2 then
        (fX4_length s_length).bind fun r3 =>
        some r3
      else
        if v1 = nI 3 then
          (fX6_shelvesInUse a_shelves).bind fun r4 =>
          some r4
        else
          if v1 = nI 4 then
            (fX1_howManyThere a_lengths).bind fun r5 =>
            some r5
          else
            some (-1 : Int32)
def fX0_init_B38  (v2 : Int32) (x : (Int32 × Int32 × (Nat → Int32) × (Nat → Int32))) : Option ((Int32 × Int32 × (Nat → Int32) × (Nat → Int32)) ⊕ (Int32 × (Nat → Int32) × (Nat → Int32))) :=
  if v2 ≤ x.2.1 then
    some (.inr (x.1, x.2.2.1, x.2.2.2))
  else
    (fX0_growAll x.2.2.1 x.2.2.2 x.1 v2 x.2.1).bind fun r1 =>
    some (.inl (r1.1, (x.2.1 + nI 1), r1.2.1, r1.2.2))
def fX0_init_B30   (x : (Int32 × Int32 × (Nat → Int32) × (Nat → Int32))) : Option ((Int32 × Int32 × (Nat → Int32) × (Nat → Int32)) ⊕ ((Nat → Int32) × (Nat → Int32))) :=
  if (nI 7) < x.2.1 then
    some (.inr (x.2.2.1, x.2.2.2))
  else
    (it (fX0_init_B38 x.2.1) FU (x.1, (nI 0), x.2.2.1, x.2.2.2)).bind fun y1 =>
    some (.inl (y1.1, (x.2.1 + nI 1), y1.2.1, y1.2.2))
def fX0_init_J22 (a_codes : Nat → Int32) (a_sizes : Nat → Int32)   : Option ((Nat → Int32) × (Nat → Int32)) :=
  (rd 9 fiF (nI 1)).bind fun t1 =>
  (it (fX0_init_B30) FU (t1, (nI 1), a_codes, a_sizes)).bind fun y2 =>
  some (y2.1, y2.2)
