def fX7_in  (v0 : Int64) (v2 : Int64) (v4 : Int64) : Option Int32 :=
  if (lg_cmp v0 v2) < nI 0 then
    some (nI 0)
  else
    if nI 0 < (lg_cmp v0 v4) then
      some (nI 0)
    else
      some (nI 1)
def fX7_ten_B4  (v0 : Int32) (x : (Int32 × Int32)) : Option ((Int32 × Int32) ⊕ Int32) :=
  if v0 ≤ x.2 then
    some (.inr x.1)
  else
    some (.inl ((x.1 * (nI 10)), (x.2 + nI 1)))
def fX7_ten  (v0 : Int32) : Option Int32 :=
  (it (fX7_ten_B4 v0) FU ((nI 1), (nI 0))).bind fun y1 =>
  some y1
def fX7_at  (v0 : Int32) (v1 : Int32) (v2 : Int32) : Option Int32 :=
  (fX7_ten ((v1 - (nI 1)) - v2)).bind fun r1 =>
  (dvo v0 r1).bind fun t2 =>
  (rmo t2 (nI 10)).bind fun t3 =>
  some t3
def fX7_with  (v0 : Int32) (v1 : Int32) (v2 : Int32) (v3 : Int32) : Option Int32 :=
  (fX7_at v0 v1 v2).bind fun r1 =>
  (fX7_ten ((v1 - (nI 1)) - v2)).bind fun r2 =>
  some (v0 + ((v3 - r1) * r2))
def fX7_isTree_B48  (v0 : Int32) (v1 : Int32) (v2 : Int32) (v3 : Int32) (x : Int32) : Option (Int32 ⊕ (Unit ⊕ Int32)) :=
  if (v2 + v3) < x then
    some (.inr (.inl ()))
  else
    (fX7_at v0 v1 x).bind fun r1 =>
    if (x + r1) ≤ (v2 + v3) then
      some (.inl (x + nI 1))
    else
      some (.inr (.inr (nI 0)))
def fX7_isTree_B20  (v0 : Int32) (v1 : Int32) (x : Int32) : Option (Int32 ⊕ (Unit ⊕ Int32)) :=
  if v1 ≤ x then
    some (.inr (.inl ()))
  else
    (fX7_at v0 v1 x).bind fun r1 =>
    if r1 ≤ ((v1 - (nI 1)) - x) then
      (it (fX7_isTree_B48 v0 v1 x r1) FU (x + (nI 1))).bind (Sum.elim (fun y2 =>
        some (.inl (x + nI 1))) (fun q => some (.inr (.inr q))))
    else
      some (.inr (.inr (nI 0)))
def fX7_isTree  (v0 : Int32) (v1 : Int32) : Option Int32 :=
  (fX7_ten v1).bind fun r1 =>
  (fX7_in (v0.toInt64) (0 : Int64) (((r1 - (nI 1))).toInt64)).bind fun r2 =>
  if r2 = nI 0 then
    some (nI 0)
  else
    (it (fX7_isTree_B20 v0 v1) FU (nI 0)).bind (Sum.elim (fun y3 =>
      some (nI 1)) some)
def fX7_table_J102  (v1 : Int32) (v2 : Int32) (v3 : Int32) (v4 : Int32) (v5 : Int32)  : Option ((Int32 × Int32 × Int32) ⊕ (Int32 × Int32)) :=
  some (.inl (v3, v4, (v5 + nI 1)))
def fX7_table_B37  (v1 : Int32) (v2 : Int32) (x : (Int32 × Int32 × Int32)) : Option ((Int32 × Int32 × Int32) ⊕ (Int32 × Int32)) :=
  if v1 ≤ x.2.2 then
    some (.inr (x.1, x.2.1))
  else
    if x.1 = nI 0 then
      some (.inr (x.1, x.2.1))
    else
      (fX7_at v2 v1 x.2.2).bind fun r1 =>
      if ((v1 - (nI 1)) - x.2.2) < r1 then
        (fX7_ten ((v1 - (nI 1)) - x.2.2)).bind fun r2 =>
        (fX7_at v2 v1 x.2.2).bind fun r3 =>
        (fX7_ten ((v1 - (nI 1)) - x.2.2)).bind fun r4 =>
        (rmo v2 r4).bind fun t5 =>
        fX7_table_J102 v1 v2 (nI 0) ((r2 * ((nI 10) - r3)) - t5) x.2.2
      else
        fX7_table_J102 v1 v2 x.1 x.2.1 x.2.2
def fX7_table_J147 (a_all : Nat → Int32) (s_many : Int32) (v1 : Int32) (v2 : Int32)  : Option ((Int32 × (Nat → Int32) × Int32) ⊕ ((Nat → Int32) × Int32)) :=
  some (.inl ((v2 + nI 1), a_all, s_many))
def fX7_table_B21  (v1 : Int32) (x : (Int32 × (Nat → Int32) × Int32)) : Option ((Int32 × (Nat → Int32) × Int32) ⊕ ((Nat → Int32) × Int32)) :=
  (fX7_ten v1).bind fun r1 =>
  if r1 ≤ x.1 then
    some (.inr (x.2.1, x.2.2))
  else
    (it (fX7_table_B37 v1 x.1) FU ((nI 1), (nI 0), (nI 0))).bind fun y2 =>
    if y2.1 = nI 0 then
      fX7_table_J147 x.2.1 x.2.2 v1 (x.1 + (y2.2 - (nI 1)))
    else
      (fX7_isTree x.1 v1).bind fun r3 =>
      if r3 = nI 0 then
        fX7_table_J147 x.2.1 x.2.2 v1 x.1
      else
        (wr 429 x.2.1 x.2.2 x.1).bind fun u4 =>
        fX7_table_J147 u4 (x.2.2 + (nI 1)) v1 x.1
def fX7_table (a_all : Nat → Int32) (s_many : Int32) (s_tableOf : Int32) (v1 : Int32) : Option ((Nat → Int32) × Int32 × Int32) :=
  if s_tableOf = v1 then
    some (a_all, s_many, s_tableOf)
  else
    (it (fX7_table_B21 v1) FU ((nI 0), a_all, (nI 0))).bind fun y1 =>
    some (y1.1, y1.2, v1)
def fX7_numberOf_B7 (a_all : Nat → Int32) (s_many : Int32) (s_tableOf : Int32) (v1 : Int32) (x : Int32) : Option (Int32 ⊕ (Unit ⊕ (Int32 × (Nat → Int32) × Int32 × Int32))) :=
  if s_many ≤ x then
    some (.inr (.inl ()))
  else
    (rd 429 a_all x).bind fun t1 =>
    if t1 = v1 then
      some (.inr (.inr (x, a_all, s_many, s_tableOf)))
    else
      some (.inl (x + nI 1))
def fX7_numberOf (a_all : Nat → Int32) (s_many : Int32) (s_tableOf : Int32) (v1 : Int32) (v2 : Int32) : Option (Int32 × (Nat → Int32) × Int32 × Int32) :=
  (fX7_table a_all s_many s_tableOf v2).bind fun r1 =>
  (it (fX7_numberOf_B7 r1.1 r1.2.1 r1.2.2 v1) FU (nI 0)).bind (Sum.elim (fun y2 =>
    some ((-1 : Int32), r1.1, r1.2.1, r1.2.2)) some)
def fX7_reads_B12  (v1 : Int32) (v2 : Int32) (v3 : Int32) (v4 : Int32) (v5 : Int32) (v6 : Int32) (x : Int32) : Option (Int32 ⊕ Int32) :=
  (fX7_at v1 v2 x).bind fun r1 =>
  if v4 < ((x + r1) + (nI 1)) then
    some (.inr x)
  else
    (fX7_at v1 v2 x).bind fun r2 =>
    some (.inl (x + (r2 + (nI 1))))
def fX7_reads : Nat → (Nat → Int32) → (Nat → Int32) → (Nat → Int32) → (Nat → Int32) → (Nat → Int32) → Int32 → Int32 → Int32 → Int32 → Int32 → Int32 → Option (Int32 × (Nat → Int32) × (Nat → Int32) × (Nat → Int32) × (Nat → Int32) × (Nat → Int32))
  | 0, _, _, _, _, _, _, _, _, _, _, _ => none
  | d + 1, a_parent, a_left, a_right, a_leftSize, a_above, v1, v2, v3, v4, v5, v6 =>
    if v3 ≤ v4 then
      (it (fX7_reads_B12 v1 v2 v3 v4 v5 v6) FU v3).bind fun y1 =>
      (wr 7 a_parent y1 v5).bind fun u2 =>
      (wr 7 a_above y1 v6).bind fun u3 =>
      (wr 7 a_leftSize y1 (y1 - v3)).bind fun u4 =>
      (fX7_reads d u2 a_left a_right u4 u3 v1 v2 v3 (y1 - (nI 1)) y1 (v6 + (nI 1))).bind fun r5 =>
      (wr 7 r5.2.2.1 y1 r5.1).bind fun u6 =>
      (fX7_reads d r5.2.1 u6 r5.2.2.2.1 r5.2.2.2.2.1 r5.2.2.2.2.2 v1 v2 (y1 + (nI 1)) v4 y1 (v6 + (nI 1))).bind fun r7 =>
      (wr 7 r7.2.2.2.1 y1 r7.1).bind fun u8 =>
      some (y1, r7.2.1, r7.2.2.1, u8, r7.2.2.2.2.1, r7.2.2.2.2.2)
    else
      some ((-5 : Int32), a_parent, a_left, a_right, a_leftSize, a_above)
def fX7_looks (a_parent : Nat → Int32) (a_left : Nat → Int32) (a_right : Nat → Int32) (a_leftSize : Nat → Int32) (a_above : Nat → Int32) (s_read : Int32) (v1 : Int32) (v2 : Int32) : Option ((Nat → Int32) × (Nat → Int32) × (Nat → Int32) × (Nat → Int32) × (Nat → Int32) × Int32) :=
  (fX7_reads 16 a_parent a_left a_right a_leftSize a_above v1 v2 (nI 0) (v2 - (nI 1)) (-5 : Int32) (nI 0)).bind fun r1 =>
  some (r1.2.1, r1.2.2.1, r1.2.2.2.1, r1.2.2.2.2.1, r1.2.2.2.2.2, r1.1)
def fX7_up (a_parent : Nat → Int32) (a_left : Nat → Int32) (a_right : Nat → Int32) (a_leftSize : Nat → Int32) (a_above : Nat → Int32) (s_read : Int32) (v1 : Int32) (v2 : Int32) (v3 : Int32) : Option (Int32 × (Nat → Int32) × (Nat → Int32) × (Nat → Int32) × (Nat → Int32) × (Nat → Int32) × Int32) :=
  (fX7_looks a_parent a_left a_right a_leftSize a_above s_read v1 v2).bind fun r1 =>
  (rd 7 r1.1 v3).bind fun t2 =>
  if t2 = (-5 : Int32) then
    some ((-5 : Int32), r1.1, r1.2.1, r1.2.2.1, r1.2.2.2.1, r1.2.2.2.2.1, r1.2.2.2.2.2)
  else
    (rd 7 r1.2.1 t2).bind fun t3 =>
    if t3 = v3 then
      (fX7_at v1 v2 v3).bind fun r4 =>
      (fX7_at v1 v2 t2).bind fun r5 =>
      (fX7_with v1 v2 v3 ((r4 + (nI 1)) + r5)).bind fun r6 =>
      some (r6, r1.1, r1.2.1, r1.2.2.1, r1.2.2.2.1, r1.2.2.2.2.1, r1.2.2.2.2.2)
    else
      some ((-5 : Int32), r1.1, r1.2.1, r1.2.2.1, r1.2.2.2.1, r1.2.2.2.2.1, r1.2.2.2.2.2)
def fX7_down (a_parent : Nat → Int32) (a_left : Nat → Int32) (a_right : Nat → Int32) (a_leftSize : Nat → Int32) (a_above : Nat → Int32) (s_read : Int32) (v1 : Int32) (v2 : Int32) (v3 : Int32) : Option (Int32 × (Nat → Int32) × (Nat → Int32) × (Nat → Int32) × (Nat → Int32) × (Nat → Int32) × Int32) :=
  (fX7_looks a_parent a_left a_right a_leftSize a_above s_read v1 v2).bind fun r1 =>
  (rd 7 r1.2.2.1 v3).bind fun t2 =>
  if t2 = (-5 : Int32) then
    some ((-5 : Int32), r1.1, r1.2.1, r1.2.2.1, r1.2.2.2.1, r1.2.2.2.2.1, r1.2.2.2.2.2)
  else
    (rd 7 r1.2.2.1 v3).bind fun t3 =>
    (fX7_with v1 v2 v3 ((t3 - v3) - (nI 1))).bind fun r4 =>
    some (r4, r1.1, r1.2.1, r1.2.2.1, r1.2.2.2.1, r1.2.2.2.2.1, r1.2.2.2.2.2)
def fX7_mirrored_B11 (a_leftSize : Nat → Int32) (v2 : Int32) (x : (Int32 × Int32)) : Option ((Int32 × Int32) ⊕ Int32) :=
  if v2 ≤ x.2 then
    some (.inr x.1)
  else
    (rd 7 a_leftSize ((v2 - (nI 1)) - x.2)).bind fun t1 =>
    some (.inl ((((nI 10) * x.1) + t1), (x.2 + nI 1)))
def fX7_mirrored (a_parent : Nat → Int32) (a_left : Nat → Int32) (a_right : Nat → Int32) (a_leftSize : Nat → Int32) (a_above : Nat → Int32) (s_read : Int32) (v1 : Int32) (v2 : Int32) : Option (Int32 × (Nat → Int32) × (Nat → Int32) × (Nat → Int32) × (Nat → Int32) × (Nat → Int32) × Int32) :=
  (fX7_looks a_parent a_left a_right a_leftSize a_above s_read v1 v2).bind fun r1 =>
  (it (fX7_mirrored_B11 r1.2.2.2.1 v2) FU ((nI 0), (nI 0))).bind fun y2 =>
  some (y2, r1.1, r1.2.1, r1.2.2.1, r1.2.2.2.1, r1.2.2.2.2.1, r1.2.2.2.2.2)
def fX7_isBelow_B2  (v0 : Int32) (v1 : Int32) (v2 : Int32) (x : Int32) : Option (Int32 ⊕ (Unit ⊕ Int32)) :=
  if v2 ≤ x then
    some (.inr (.inl ()))
  else
    (fX7_at v0 v2 x).bind fun r1 =>
    (fX7_at v1 v2 x).bind fun r2 =>
    if r1 ≤ r2 then
      some (.inl (x + nI 1))
    else
      some (.inr (.inr (nI 0)))
def fX7_isBelow  (v0 : Int32) (v1 : Int32) (v2 : Int32) : Option Int32 :=
  (it (fX7_isBelow_B2 v0 v1 v2) FU (nI 0)).bind (Sum.elim (fun y1 =>
    some (nI 1)) some)
def fX7_becomes_J78 (a_stepNodes : Nat → Int32) (a_stepTree : Nat → Int32) (s_nodes : Int32) (s_tree : Int32) (s_steps : Int32) (v1 : Int32) (v2 : Int32)  : Option ((Nat → Int32) × (Nat → Int32) × Int32 × Int32 × Int32) :=
  (wr 10 a_stepNodes s_steps s_nodes).bind fun u1 =>
  (wr 10 a_stepTree s_steps s_tree).bind fun u2 =>
  some (u1, u2, v1, v2, (s_steps + (nI 1)))
def fX7_becomes_B28  (v1 : Int32) (v2 : Int32) (x : (Int32 × (Nat → Int32) × (Nat → Int32))) : Option ((Int32 × (Nat → Int32) × (Nat → Int32)) ⊕ ((Nat → Int32) × (Nat → Int32))) :=
  if (nI 10) ≤ x.1 then
    some (.inr (x.2.1, x.2.2))
  else
    (rd 10 x.2.1 x.1).bind fun t1 =>
    (wr 10 x.2.1 (x.1 - (nI 1)) t1).bind fun u2 =>
    (rd 10 x.2.2 x.1).bind fun t3 =>
    (wr 10 x.2.2 (x.1 - (nI 1)) t3).bind fun u4 =>
    some (.inl ((x.1 + nI 1), u2, u4))
def fX7_becomes_J17 (a_stepNodes : Nat → Int32) (a_stepTree : Nat → Int32) (s_nodes : Int32) (s_tree : Int32) (s_steps : Int32) (v1 : Int32) (v2 : Int32)  : Option ((Nat → Int32) × (Nat → Int32) × Int32 × Int32 × Int32) :=
  if s_steps = (nI 10) then
    (it (fX7_becomes_B28 v1 v2) FU ((nI 1), a_stepNodes, a_stepTree)).bind fun y1 =>
    fX7_becomes_J78 y1.1 y1.2 s_nodes s_tree (s_steps - (nI 1)) v1 v2
  else
    fX7_becomes_J78 a_stepNodes a_stepTree s_nodes s_tree s_steps v1 v2
def fX7_becomes (a_stepNodes : Nat → Int32) (a_stepTree : Nat → Int32) (s_nodes : Int32) (s_tree : Int32) (s_steps : Int32) (v1 : Int32) (v2 : Int32) : Option ((Nat → Int32) × (Nat → Int32) × Int32 × Int32 × Int32) :=
  if v1 = s_nodes then
    if v2 = s_tree then
      some (a_stepNodes, a_stepTree, s_nodes, s_tree, s_steps)
    else
      fX7_becomes_J17 a_stepNodes a_stepTree s_nodes s_tree s_steps v1 v2
  else
    fX7_becomes_J17 a_stepNodes a_stepTree s_nodes s_tree s_steps v1 v2
def fX7_isNode (s_nodes : Int32) (v1 : Int32) : Option Int32 :=
  (fX7_in (v1.toInt64) (0 : Int64) (((s_nodes - (nI 1))).toInt64)).bind fun r1 =>
  (zro r1).bind fun z2 =>
  some z2
def fX7_nodes (s_nodes : Int32) (s_tree : Int32) (s_steps : Int32) (v1 : Int32) : Option (Int32 × Int32 × Int32 × Int32) :=
  (fX7_in (v1.toInt64) (1 : Int64) (7 : Int64)).bind fun r1 =>
  if r1 = nI 0 then
    some ((-2 : Int32), s_nodes, s_tree, s_steps)
  else
    some (s_nodes, v1, (nI 0), (nI 0))
def fX7_which (a_all : Nat → Int32) (s_nodes : Int32) (s_tree : Int32) (s_many : Int32) (s_tableOf : Int32)  : Option (Int32 × (Nat → Int32) × Int32 × Int32) :=
  (fX7_numberOf a_all s_many s_tableOf s_tree s_nodes).bind fun r1 =>
  some (r1.1, r1.2.1, r1.2.2.1, r1.2.2.2)
def fX7_row (a_stepNodes : Nat → Int32) (a_stepTree : Nat → Int32) (a_all : Nat → Int32) (s_nodes : Int32) (s_tree : Int32) (s_steps : Int32) (s_many : Int32) (s_tableOf : Int32) (v1 : Int32) : Option (Int32 × (Nat → Int32) × (Nat → Int32) × (Nat → Int32) × Int32 × Int32 × Int32 × Int32 × Int32) :=
  (fX7_isTree v1 s_nodes).bind fun r1 =>
  if r1 = nI 0 then
    some ((-2 : Int32), a_stepNodes, a_stepTree, a_all, s_nodes, s_tree, s_steps, s_many, s_tableOf)
  else
    (fX7_becomes a_stepNodes a_stepTree s_nodes s_tree s_steps s_nodes v1).bind fun r2 =>
    (fX7_which a_all r2.2.2.1 r2.2.2.2.1 s_many s_tableOf).bind fun r3 =>
    some (r3.1, r2.1, r2.2.1, r3.2.1, r2.2.2.1, r2.2.2.2.1, r2.2.2.2.2, r3.2.2.1, r3.2.2.2)
def fX7_of (a_parent : Nat → Int32) (a_left : Nat → Int32) (a_right : Nat → Int32) (a_leftSize : Nat → Int32) (a_above : Nat → Int32) (s_nodes : Int32) (s_tree : Int32) (s_read : Int32) (v1 : Int32) (v2 : Int32) : Option (Int32 × (Nat → Int32) × (Nat → Int32) × (Nat → Int32) × (Nat → Int32) × (Nat → Int32) × Int32) :=
  (fX7_isNode s_nodes v1).bind fun r1 =>
  if r1 = nI 0 then
    some ((-1 : Int32), a_parent, a_left, a_right, a_leftSize, a_above, s_read)
  else
    (fX7_in (v2.toInt64) (0 : Int64) (5 : Int64)).bind fun r2 =>
    if r2 = nI 0 then
      some ((-1 : Int32), a_parent, a_left, a_right, a_leftSize, a_above, s_read)
    else
      (fX7_looks a_parent a_left a_right a_leftSize a_above s_read s_tree s_nodes).bind fun r3 =>
      if v2 = nI 0 then
        (fX7_at s_tree s_nodes v1).bind fun r4 =>
        some (r4, r3.1, r3.2.1, r3.2.2.1, r3.2.2.2.1, r3.2.2.2.2.1, r3.2.2.2.2.2)
      else
        if v2 = nI 1 then
          (rd 7 r3.1 v1).bind fun t5 =>
          some (t5, r3.1, r3.2.1, r3.2.2.1, r3.2.2.2.1, r3.2.2.2.2.1, r3.2.2.2.2.2)
        else
          if v2 = nI 2 then
            (rd 7 r3.2.1 v1).bind fun t6 =>
            some (t6, r3.1, r3.2.1, r3.2.2.1, r3.2.2.2.1, r3.2.2.2.2.1, r3.2.2.2.2.2)
          else
            if v2 = nI 3 then
              (rd 7 r3.2.2.1 v1).bind fun t7 =>
              some (t7, r3.1, r3.2.1, r3.2.2.1, r3.2.2.2.1, r3.2.2.2.2.1, r3.2.2.2.2.2)
            else
              if v2 = nI 4 then
                (rd 7 r3.2.2.2.1 v1).bind fun t8 =>
                some (t8, r3.1, r3.2.1, r3.2.2.1, r3.2.2.2.1, r3.2.2.2.2.1, r3.2.2.2.2.2)
              else
                (rd 7 r3.2.2.2.2.1 v1).bind fun t9 =>
                some (t9, r3.1, r3.2.1, r3.2.2.1, r3.2.2.2.1, r3.2.2.2.2.1, r3.2.2.2.2.2)
def fX7_number (a_stepNodes : Nat → Int32) (a_stepTree : Nat → Int32) (a_all : Nat → Int32) (s_nodes : Int32) (s_tree : Int32) (s_steps : Int32) (s_many : Int32) (s_tableOf : Int32) (v1 : Int32) : Option (Int32 × (Nat → Int32) × (Nat → Int32) × (Nat → Int32) × Int32 × Int32 × Int32 × Int32 × Int32) :=
  (fX7_table a_all s_many s_tableOf s_nodes).bind fun r1 =>
  (fX7_in (v1.toInt64) (0 : Int64) (((r1.2.1 - (nI 1))).toInt64)).bind fun r2 =>
  if r2 = nI 0 then
    some ((-1 : Int32), a_stepNodes, a_stepTree, r1.1, s_nodes, s_tree, s_steps, r1.2.1, r1.2.2)
  else
    (fX7_which r1.1 s_nodes s_tree r1.2.1 r1.2.2).bind fun r3 =>
    (rd 429 r3.2.1 v1).bind fun t4 =>
    (fX7_becomes a_stepNodes a_stepTree s_nodes s_tree s_steps s_nodes t4).bind fun r5 =>
    some (r3.1, r5.1, r5.2.1, r3.2.1, r5.2.2.1, r5.2.2.2.1, r5.2.2.2.2, r3.2.2.1, r3.2.2.2)
def fX7_many (a_all : Nat → Int32) (s_many : Int32) (s_tableOf : Int32) (v1 : Int32) : Option (Int32 × (Nat → Int32) × Int32 × Int32) :=
  (fX7_in (v1.toInt64) (1 : Int64) (7 : Int64)).bind fun r1 =>
  if r1 = nI 0 then
    some ((-2 : Int32), a_all, s_many, s_tableOf)
  else
    (fX7_table a_all s_many s_tableOf v1).bind fun r2 =>
    some (r2.2.1, r2.1, r2.2.1, r2.2.2)
def fX7_digits (s_tree : Int32)  : Option Int32 :=
  some s_tree
def fX7_turn (a_stepNodes : Nat → Int32) (a_stepTree : Nat → Int32) (a_all : Nat → Int32) (a_parent : Nat → Int32) (a_left : Nat → Int32) (a_right : Nat → Int32) (a_leftSize : Nat → Int32) (a_above : Nat → Int32) (s_nodes : Int32) (s_tree : Int32) (s_steps : Int32) (s_many : Int32) (s_tableOf : Int32) (s_read : Int32) (v1 : Int32) : Option (Int32 × (Nat → Int32) × (Nat → Int32) × (Nat → Int32) × (Nat → Int32) × (Nat → Int32) × (Nat → Int32) × (Nat → Int32) × (Nat → Int32) × Int32 × Int32 × Int32 × Int32 × Int32 × Int32) :=
  (fX7_isNode s_nodes v1).bind fun r1 =>
  if r1 = nI 0 then
    some ((-1 : Int32), a_stepNodes, a_stepTree, a_all, a_parent, a_left, a_right, a_leftSize, a_above, s_nodes, s_tree, s_steps, s_many, s_tableOf, s_read)
  else
    (fX7_up a_parent a_left a_right a_leftSize a_above s_read s_tree s_nodes v1).bind fun r2 =>
    if r2.1 = (-5 : Int32) then
      some ((-5 : Int32), a_stepNodes, a_stepTree, a_all, r2.2.1, r2.2.2.1, r2.2.2.2.1, r2.2.2.2.2.1, r2.2.2.2.2.2.1, s_nodes, s_tree, s_steps, s_many, s_tableOf, r2.2.2.2.2.2.2)
    else
      (fX7_becomes a_stepNodes a_stepTree s_nodes s_tree s_steps s_nodes r2.1).bind fun r3 =>
      (fX7_which a_all r3.2.2.1 r3.2.2.2.1 s_many s_tableOf).bind fun r4 =>
      some (r4.1, r3.1, r3.2.1, r4.2.1, r2.2.1, r2.2.2.1, r2.2.2.2.1, r2.2.2.2.2.1, r2.2.2.2.2.2.1, r3.2.2.1, r3.2.2.2.1, r3.2.2.2.2, r4.2.2.1, r4.2.2.2, r2.2.2.2.2.2.2)
def fX7_back (a_stepNodes : Nat → Int32) (a_stepTree : Nat → Int32) (a_all : Nat → Int32) (a_parent : Nat → Int32) (a_left : Nat → Int32) (a_right : Nat → Int32) (a_leftSize : Nat → Int32) (a_above : Nat → Int32) (s_nodes : Int32) (s_tree : Int32) (s_steps : Int32) (s_many : Int32) (s_tableOf : Int32) (s_read : Int32) (v1 : Int32) : Option (Int32 × (Nat → Int32) × (Nat → Int32) × (Nat → Int32) × (Nat → Int32) × (Nat → Int32) × (Nat → Int32) × (Nat → Int32) × (Nat → Int32) × Int32 × Int32 × Int32 × Int32 × Int32 × Int32) :=
  (fX7_isNode s_nodes v1).bind fun r1 =>
  if r1 = nI 0 then
    some ((-1 : Int32), a_stepNodes, a_stepTree, a_all, a_parent, a_left, a_right, a_leftSize, a_above, s_nodes, s_tree, s_steps, s_many, s_tableOf, s_read)
  else
    (fX7_down a_parent a_left a_right a_leftSize a_above s_read s_tree s_nodes v1).bind fun r2 =>
    if r2.1 = (-5 : Int32) then
      some ((-5 : Int32), a_stepNodes, a_stepTree, a_all, r2.2.1, r2.2.2.1, r2.2.2.2.1, r2.2.2.2.2.1, r2.2.2.2.2.2.1, s_nodes, s_tree, s_steps, s_many, s_tableOf, r2.2.2.2.2.2.2)
    else
      (fX7_becomes a_stepNodes a_stepTree s_nodes s_tree s_steps s_nodes r2.1).bind fun r3 =>
      (fX7_which a_all r3.2.2.1 r3.2.2.2.1 s_many s_tableOf).bind fun r4 =>
      some (r4.1, r3.1, r3.2.1, r4.2.1, r2.2.1, r2.2.2.1, r2.2.2.2.1, r2.2.2.2.2.1, r2.2.2.2.2.2.1, r3.2.2.1, r3.2.2.2.1, r3.2.2.2.2, r4.2.2.1, r4.2.2.2, r2.2.2.2.2.2.2)
def fX7_mayTurn_J72 (a_parent : Nat → Int32) (a_left : Nat → Int32) (a_right : Nat → Int32) (a_leftSize : Nat → Int32) (a_above : Nat → Int32) (s_nodes : Int32) (s_tree : Int32) (s_read : Int32) (v1 : Int32) (v2 : Int32) (v3 : Int32)  : Option ((Int32 × Int32 × (Nat → Int32) × (Nat → Int32) × (Nat → Int32) × (Nat → Int32) × (Nat → Int32) × Int32) ⊕ (Int32 × (Nat → Int32) × (Nat → Int32) × (Nat → Int32) × (Nat → Int32) × (Nat → Int32) × Int32)) :=
  some (.inl (v2, (v3 + nI 1), a_parent, a_left, a_right, a_leftSize, a_above, s_read))
def fX7_mayTurn_J61 (a_parent : Nat → Int32) (a_left : Nat → Int32) (a_right : Nat → Int32) (a_leftSize : Nat → Int32) (a_above : Nat → Int32) (s_nodes : Int32) (s_tree : Int32) (s_read : Int32) (v1 : Int32) (v2 : Int32) (v3 : Int32) (k0 : Int32) : Option ((Int32 × Int32 × (Nat → Int32) × (Nat → Int32) × (Nat → Int32) × (Nat → Int32) × (Nat → Int32) × Int32) ⊕ (Int32 × (Nat → Int32) × (Nat → Int32) × (Nat → Int32) × (Nat → Int32) × (Nat → Int32) × Int32)) :=
  if k0 = (-5 : Int32) then
    fX7_mayTurn_J72 a_parent a_left a_right a_leftSize a_above s_nodes s_tree s_read v1 v2 v3
  else
    fX7_mayTurn_J72 a_parent a_left a_right a_leftSize a_above s_nodes s_tree s_read v1 (v2 ||| ((nI 1) <<< (v3 &&& 31))) v3
def fX7_mayTurn_B18 (s_nodes : Int32) (s_tree : Int32) (v1 : Int32) (x : (Int32 × Int32 × (Nat → Int32) × (Nat → Int32) × (Nat → Int32) × (Nat → Int32) × (Nat → Int32) × Int32)) : Option ((Int32 × Int32 × (Nat → Int32) × (Nat → Int32) × (Nat → Int32) × (Nat → Int32) × (Nat → Int32) × Int32) ⊕ (Int32 × (Nat → Int32) × (Nat → Int32) × (Nat → Int32) × (Nat → Int32) × (Nat → Int32) × Int32)) :=
  if s_nodes ≤ x.2.1 then
    some (.inr (x.1, x.2.2.1, x.2.2.2.1, x.2.2.2.2.1, x.2.2.2.2.2.1, x.2.2.2.2.2.2.1, x.2.2.2.2.2.2.2))
  else
    (rmo v1 (nI 2)).bind fun t1 =>
    if t1 = nI 0 then
      (fX7_up x.2.2.1 x.2.2.2.1 x.2.2.2.2.1 x.2.2.2.2.2.1 x.2.2.2.2.2.2.1 x.2.2.2.2.2.2.2 s_tree s_nodes x.2.1).bind fun r3 =>
      fX7_mayTurn_J61 r3.2.1 r3.2.2.1 r3.2.2.2.1 r3.2.2.2.2.1 r3.2.2.2.2.2.1 s_nodes s_tree r3.2.2.2.2.2.2 v1 x.1 x.2.1 r3.1
    else
      (fX7_down x.2.2.1 x.2.2.2.1 x.2.2.2.2.1 x.2.2.2.2.2.1 x.2.2.2.2.2.2.1 x.2.2.2.2.2.2.2 s_tree s_nodes x.2.1).bind fun r2 =>
      fX7_mayTurn_J61 r2.2.1 r2.2.2.1 r2.2.2.2.1 r2.2.2.2.2.1 r2.2.2.2.2.2.1 s_nodes s_tree r2.2.2.2.2.2.2 v1 x.1 x.2.1 r2.1
def fX7_mayTurn (a_parent : Nat → Int32) (a_left : Nat → Int32) (a_right : Nat → Int32) (a_leftSize : Nat → Int32) (a_above : Nat → Int32) (s_nodes : Int32) (s_tree : Int32) (s_read : Int32) (v1 : Int32) : Option (Int32 × (Nat → Int32) × (Nat → Int32) × (Nat → Int32) × (Nat → Int32) × (Nat → Int32) × Int32) :=
  (fX7_in (v1.toInt64) (0 : Int64) (3 : Int64)).bind fun r1 =>
  if r1 = nI 0 then
    some ((-1 : Int32), a_parent, a_left, a_right, a_leftSize, a_above, s_read)
  else
    (it (fX7_mayTurn_B18 s_nodes s_tree v1) FU ((nI 0), (nI 0), a_parent, a_left, a_right, a_leftSize, a_above, s_read)).bind fun y2 =>
    if (nI 2) ≤ v1 then
      some (y2.1, y2.2.1, y2.2.2.1, y2.2.2.2.1, y2.2.2.2.2.1, y2.2.2.2.2.2.1, y2.2.2.2.2.2.2)
    else
      (fJ0_bitCount y2.1).bind fun r3 =>
      some (r3, y2.2.1, y2.2.2.1, y2.2.2.2.1, y2.2.2.2.2.1, y2.2.2.2.2.2.1, y2.2.2.2.2.2.2)
def fX7_mirror (a_stepNodes : Nat → Int32) (a_stepTree : Nat → Int32) (a_all : Nat → Int32) (a_parent : Nat → Int32) (a_left : Nat → Int32) (a_right : Nat → Int32) (a_leftSize : Nat → Int32) (a_above : Nat → Int32) (s_nodes : Int32) (s_tree : Int32) (s_steps : Int32) (s_many : Int32) (s_tableOf : Int32) (s_read : Int32)  : Option (Int32 × (Nat → Int32) × (Nat → Int32) × (Nat → Int32) × (Nat → Int32) × (Nat → Int32) × (Nat → Int32) × (Nat → Int32) × (Nat → Int32) × Int32 × Int32 × Int32 × Int32 × Int32 × Int32) :=
  (fX7_mirrored a_parent a_left a_right a_leftSize a_above s_read s_tree s_nodes).bind fun r1 =>
  (fX7_becomes a_stepNodes a_stepTree s_nodes s_tree s_steps s_nodes r1.1).bind fun r2 =>
  (fX7_which a_all r2.2.2.1 r2.2.2.2.1 s_many s_tableOf).bind fun r3 =>
  some (r3.1, r2.1, r2.2.1, r3.2.1, r1.2.1, r1.2.2.1, r1.2.2.2.1, r1.2.2.2.2.1, r1.2.2.2.2.2.1, r2.2.2.1, r2.2.2.2.1, r2.2.2.2.2, r3.2.2.1, r3.2.2.2, r1.2.2.2.2.2.2)
def fX7_off (a_stepNodes : Nat → Int32) (a_stepTree : Nat → Int32) (s_nodes : Int32) (s_tree : Int32) (s_steps : Int32)  : Option (Int32 × Int32 × Int32 × Int32) :=
  if s_steps = nI 0 then
    some ((-3 : Int32), s_nodes, s_tree, s_steps)
  else
    (rd 10 a_stepNodes (s_steps - (nI 1))).bind fun t1 =>
    (rd 10 a_stepTree (s_steps - (nI 1))).bind fun t2 =>
    some ((s_steps - (nI 1)), t1, t2, (s_steps - (nI 1)))
def fX7_isShelf  (v0 : Int32) : Option Int32 :=
  (fX7_in (v0.toInt64) (0 : Int64) (3 : Int64)).bind fun r1 =>
  (zro r1).bind fun z2 =>
  some z2
def fX7_barOf (a_shelfNodes : Nat → Int32) (s_nodes : Int32) (v1 : Int32) : Option Int32 :=
  (rd 4 a_shelfNodes v1).bind fun t1 =>
  if t1 = nI 0 then
    some (-6 : Int32)
  else
    (rd 4 a_shelfNodes v1).bind fun t2 =>
    if t2 = s_nodes then
      some (nI 0)
    else
      some (-7 : Int32)
def fX7_below_J72 (a_shelfNodes : Nat → Int32) (a_shelfTree : Nat → Int32) (s_nodes : Int32) (s_tree : Int32)  (k0 : Int32) : Option Int32 :=
  if k0 = nI 0 then
    some (nI 0)
  else
    some (nI 1)
def fX7_below (a_shelfNodes : Nat → Int32) (a_shelfTree : Nat → Int32) (s_nodes : Int32) (s_tree : Int32) (v1 : Int32) (v2 : Int32) : Option Int32 :=
  (fX7_isShelf v1).bind fun r1 =>
  if r1 = nI 0 then
    some (-1 : Int32)
  else
    (fX7_in (v2.toInt64) (0 : Int64) (1 : Int64)).bind fun r2 =>
    if r2 = nI 0 then
      some (-1 : Int32)
    else
      (fX7_barOf a_shelfNodes s_nodes v1).bind fun r3 =>
      if r3 = nI 0 then
        if v2 = nI 0 then
          (rd 4 a_shelfTree v1).bind fun t6 =>
          (fX7_isBelow s_tree t6 s_nodes).bind fun r7 =>
          fX7_below_J72 a_shelfNodes a_shelfTree s_nodes s_tree r7
        else
          (rd 4 a_shelfTree v1).bind fun t4 =>
          (fX7_isBelow t4 s_tree s_nodes).bind fun r5 =>
          fX7_below_J72 a_shelfNodes a_shelfTree s_nodes s_tree r5
      else
        some r3
def fX7_bound_J153 (a_all : Nat → Int32) (s_nodes : Int32) (s_many : Int32) (v1 : Int32) (v2 : Int32) (v3 : Int32) (v4 : Int32) (v5 : Int32)  : Option ((Int32 × Int32) ⊕ Int32) :=
  some (.inl (v4, (v5 + nI 1)))
def fX7_bound_J149 (a_all : Nat → Int32) (s_nodes : Int32) (s_many : Int32) (v1 : Int32) (v2 : Int32) (v3 : Int32) (v5 : Int32) (v6 : Int32)  : Option ((Int32 × Int32) ⊕ Int32) :=
  fX7_bound_J153 a_all s_nodes s_many v1 v2 v3 v6 v5
def fX7_bound_J101 (a_all : Nat → Int32) (s_nodes : Int32) (s_many : Int32) (v1 : Int32) (v2 : Int32) (v3 : Int32) (v4 : Int32) (v5 : Int32) (v6 : Int32) (k0 : Int32) : Option ((Int32 × Int32) ⊕ Int32) :=
  if k0 = nI 0 then
    fX7_bound_J153 a_all s_nodes s_many v1 v2 v3 v4 v5
  else
    if v4 = (-1 : Int32) then
      fX7_bound_J149 a_all s_nodes s_many v1 v2 v3 v5 v6
    else
      if v3 = nI 0 then
        (fX7_isBelow v6 v4 s_nodes).bind fun r1 =>
        if r1 = nI 0 then
          fX7_bound_J153 a_all s_nodes s_many v1 v2 v3 v4 v5
        else
          fX7_bound_J149 a_all s_nodes s_many v1 v2 v3 v5 v6
      else
        (fX7_isBelow v4 v6 s_nodes).bind fun r2 =>
        if r2 = nI 0 then
          fX7_bound_J153 a_all s_nodes s_many v1 v2 v3 v4 v5
        else
          fX7_bound_J149 a_all s_nodes s_many v1 v2 v3 v5 v6
def fX7_bound_J100 (a_all : Nat → Int32) (s_nodes : Int32) (s_many : Int32) (v1 : Int32) (v2 : Int32) (v3 : Int32) (v4 : Int32) (v5 : Int32) (v6 : Int32)  : Option ((Int32 × Int32) ⊕ Int32) :=
  fX7_bound_J101 a_all s_nodes s_many v1 v2 v3 v4 v5 v6 (nI 0)
def fX7_bound_J66 (a_all : Nat → Int32) (s_nodes : Int32) (s_many : Int32) (v1 : Int32) (v2 : Int32) (v3 : Int32) (v4 : Int32) (v5 : Int32) (v6 : Int32)  : Option ((Int32 × Int32) ⊕ Int32) :=
  fX7_bound_J101 a_all s_nodes s_many v1 v2 v3 v4 v5 v6 (nI 0)
def fX7_bound_B14 (a_all : Nat → Int32) (s_nodes : Int32) (s_many : Int32) (v1 : Int32) (v2 : Int32) (v3 : Int32) (x : (Int32 × Int32)) : Option ((Int32 × Int32) ⊕ Int32) :=
  if s_many ≤ x.2 then
    some (.inr x.1)
  else
    (rd 429 a_all x.2).bind fun t1 =>
    if v3 = nI 0 then
      (fX7_isBelow v1 t1 s_nodes).bind fun r2 =>
      if r2 = nI 0 then
        fX7_bound_J100 a_all s_nodes s_many v1 v2 v3 x.1 x.2 t1
      else
        (fX7_isBelow v2 t1 s_nodes).bind fun r3 =>
        if r3 = nI 0 then
          fX7_bound_J100 a_all s_nodes s_many v1 v2 v3 x.1 x.2 t1
        else
          fX7_bound_J101 a_all s_nodes s_many v1 v2 v3 x.1 x.2 t1 (nI 1)
    else
      (fX7_isBelow t1 v1 s_nodes).bind fun r4 =>
      if r4 = nI 0 then
        fX7_bound_J66 a_all s_nodes s_many v1 v2 v3 x.1 x.2 t1
      else
        (fX7_isBelow t1 v2 s_nodes).bind fun r5 =>
        if r5 = nI 0 then
          fX7_bound_J66 a_all s_nodes s_many v1 v2 v3 x.1 x.2 t1
        else
          fX7_bound_J101 a_all s_nodes s_many v1 v2 v3 x.1 x.2 t1 (nI 1)
def fX7_bound (a_all : Nat → Int32) (s_nodes : Int32) (s_many : Int32) (s_tableOf : Int32) (v1 : Int32) (v2 : Int32) (v3 : Int32) : Option (Int32 × (Nat → Int32) × Int32 × Int32) :=
  (fX7_table a_all s_many s_tableOf s_nodes).bind fun r1 =>
  (it (fX7_bound_B14 r1.1 s_nodes r1.2.1 v1 v2 v3) FU ((-1 : Int32), (nI 0))).bind fun y2 =>
  some (y2, r1.1, r1.2.1, r1.2.2)
def fX7_meet_J52 (a_shelfNodes : Nat → Int32) (a_shelfTree : Nat → Int32) (a_all : Nat → Int32) (s_nodes : Int32) (s_tree : Int32) (s_many : Int32) (s_tableOf : Int32)  (k0 : Int32) (k1 : Int32) (k2 : Int32) : Option (Int32 × (Nat → Int32) × Int32 × Int32) :=
  (fX7_bound a_all s_nodes s_many s_tableOf k2 k1 k0).bind fun r1 =>
  (fX7_numberOf r1.2.1 r1.2.2.1 r1.2.2.2 r1.1 s_nodes).bind fun r2 =>
  some (r2.1, r2.2.1, r2.2.2.1, r2.2.2.2)
def fX7_meet (a_shelfNodes : Nat → Int32) (a_shelfTree : Nat → Int32) (a_all : Nat → Int32) (s_nodes : Int32) (s_tree : Int32) (s_many : Int32) (s_tableOf : Int32) (v1 : Int32) (v2 : Int32) : Option (Int32 × (Nat → Int32) × Int32 × Int32) :=
  (fX7_isShelf v1).bind fun r1 =>
  if r1 = nI 0 then
    some ((-1 : Int32), a_all, s_many, s_tableOf)
  else
    (fX7_in (v2.toInt64) (0 : Int64) (1 : Int64)).bind fun r2 =>
    if r2 = nI 0 then
      some ((-1 : Int32), a_all, s_many, s_tableOf)
    else
      (fX7_barOf a_shelfNodes s_nodes v1).bind fun r3 =>
      if r3 = nI 0 then
        (rd 4 a_shelfTree v1).bind fun t4 =>
        if v2 = nI 0 then
          fX7_meet_J52 a_shelfNodes a_shelfTree a_all s_nodes s_tree s_many s_tableOf (nI 1) t4 s_tree
        else
          fX7_meet_J52 a_shelfNodes a_shelfTree a_all s_nodes s_tree s_many s_tableOf (nI 0) t4 s_tree
      else
        some (r3, a_all, s_many, s_tableOf)
def fX7_meetAll_J58 (a_shelfNodes : Nat → Int32) (a_shelfTree : Nat → Int32) (a_all : Nat → Int32) (s_nodes : Int32) (s_many : Int32) (s_tableOf : Int32) (v1 : Int32) (v2 : Int32) (v3 : Int32)  : Option ((Int32 × Int32 × (Nat → Int32) × Int32 × Int32) ⊕ (Int32 × (Nat → Int32) × Int32 × Int32)) :=
  some (.inl (v2, (v3 + nI 1), a_all, s_many, s_tableOf))
def fX7_meetAll_J54 (a_shelfNodes : Nat → Int32) (a_shelfTree : Nat → Int32) (a_all : Nat → Int32) (s_nodes : Int32) (s_many : Int32) (s_tableOf : Int32) (v1 : Int32) (v3 : Int32) (k0 : Int32) (k1 : Int32) (k2 : Int32) : Option ((Int32 × Int32 × (Nat → Int32) × Int32 × Int32) ⊕ (Int32 × (Nat → Int32) × Int32 × Int32)) :=
  (fX7_bound a_all s_nodes s_many s_tableOf k2 k1 k0).bind fun r1 =>
  fX7_meetAll_J58 a_shelfNodes a_shelfTree r1.2.1 s_nodes r1.2.2.1 r1.2.2.2 v1 r1.1 v3
def fX7_meetAll_B19 (a_shelfNodes : Nat → Int32) (a_shelfTree : Nat → Int32) (s_nodes : Int32) (v1 : Int32) (x : (Int32 × Int32 × (Nat → Int32) × Int32 × Int32)) : Option ((Int32 × Int32 × (Nat → Int32) × Int32 × Int32) ⊕ (Int32 × (Nat → Int32) × Int32 × Int32)) :=
  if (nI 4) ≤ x.2.1 then
    some (.inr (x.1, x.2.2.1, x.2.2.2.1, x.2.2.2.2))
  else
    (rd 4 a_shelfNodes x.2.1).bind fun t1 =>
    if t1 = s_nodes then
      (rd 4 a_shelfTree x.2.1).bind fun t2 =>
      if v1 = nI 0 then
        fX7_meetAll_J54 a_shelfNodes a_shelfTree x.2.2.1 s_nodes x.2.2.2.1 x.2.2.2.2 v1 x.2.1 (nI 1) t2 x.1
      else
        fX7_meetAll_J54 a_shelfNodes a_shelfTree x.2.2.1 s_nodes x.2.2.2.1 x.2.2.2.2 v1 x.2.1 (nI 0) t2 x.1
    else
      fX7_meetAll_J58 a_shelfNodes a_shelfTree x.2.2.1 s_nodes x.2.2.2.1 x.2.2.2.2 v1 x.1 x.2.1
def fX7_meetAll (a_shelfNodes : Nat → Int32) (a_shelfTree : Nat → Int32) (a_all : Nat → Int32) (s_nodes : Int32) (s_tree : Int32) (s_many : Int32) (s_tableOf : Int32) (v1 : Int32) : Option (Int32 × (Nat → Int32) × Int32 × Int32) :=
  (fX7_in (v1.toInt64) (0 : Int64) (1 : Int64)).bind fun r1 =>
  if r1 = nI 0 then
    some ((-1 : Int32), a_all, s_many, s_tableOf)
  else
    (it (fX7_meetAll_B19 a_shelfNodes a_shelfTree s_nodes v1) FU (s_tree, (nI 0), a_all, s_many, s_tableOf)).bind fun y2 =>
    (fX7_numberOf y2.2.1 y2.2.2.1 y2.2.2.2 y2.1 s_nodes).bind fun r3 =>
    some (r3.1, r3.2.1, r3.2.2.1, r3.2.2.2)
def fX7_isBetween (s_nodes : Int32) (v1 : Int32) (v2 : Int32) (v3 : Int32) : Option Int32 :=
  (fX7_isBelow v2 v1 s_nodes).bind fun r1 =>
  if r1 = nI 0 then
    some (nI 0)
  else
    (fX7_isBelow v1 v3 s_nodes).bind fun r2 =>
    if r2 = nI 0 then
      some (nI 0)
    else
      some (nI 1)
def fX7_between_J88 (a_shelfTree : Nat → Int32) (a_all : Nat → Int32) (s_nodes : Int32) (s_tree : Int32) (s_many : Int32) (s_tableOf : Int32) (v1 : Int32) (v2 : Int32) (v4 : Int32) (v5 : Int32)  : Option ((Int32 × Int32) ⊕ (Int32 ⊕ (Int32 × (Nat → Int32) × Int32 × Int32))) :=
  some (.inl (v4, (v5 + nI 1)))
def fX7_between_B40 (a_shelfTree : Nat → Int32) (a_all : Nat → Int32) (s_nodes : Int32) (s_tree : Int32) (s_many : Int32) (s_tableOf : Int32) (v1 : Int32) (v2 : Int32) (x : (Int32 × Int32)) : Option ((Int32 × Int32) ⊕ (Int32 ⊕ (Int32 × (Nat → Int32) × Int32 × Int32))) :=
  if s_many ≤ x.2 then
    some (.inr (.inl x.1))
  else
    (rd 429 a_all x.2).bind fun t1 =>
    (rd 4 a_shelfTree v1).bind fun t2 =>
    (fX7_isBetween s_nodes t1 s_tree t2).bind fun r3 =>
    if r3 = nI 0 then
      fX7_between_J88 a_shelfTree a_all s_nodes s_tree s_many s_tableOf v1 v2 x.1 x.2
    else
      if x.1 = v2 then
        some (.inr (.inr (x.2, a_all, s_many, s_tableOf)))
      else
        fX7_between_J88 a_shelfTree a_all s_nodes s_tree s_many s_tableOf v1 v2 (x.1 + nI 1) x.2
def fX7_between (a_shelfNodes : Nat → Int32) (a_shelfTree : Nat → Int32) (a_all : Nat → Int32) (s_nodes : Int32) (s_tree : Int32) (s_many : Int32) (s_tableOf : Int32) (v1 : Int32) (v2 : Int32) : Option (Int32 × (Nat → Int32) × Int32 × Int32) :=
  (fX7_isShelf v1).bind fun r1 =>
  if r1 = nI 0 then
    some ((-1 : Int32), a_all, s_many, s_tableOf)
  else
    if (-1 : Int32) ≤ v2 then
      (fX7_barOf a_shelfNodes s_nodes v1).bind fun r2 =>
      if r2 = nI 0 then
        (fX7_table a_all s_many s_tableOf s_nodes).bind fun r3 =>
        (it (fX7_between_B40 a_shelfTree r3.1 s_nodes s_tree r3.2.1 r3.2.2 v1 v2) FU ((nI 0), (nI 0))).bind (Sum.elim (fun y4 =>
          if v2 = (-1 : Int32) then
            some (y4, r3.1, r3.2.1, r3.2.2)
          else
            some ((-1 : Int32), r3.1, r3.2.1, r3.2.2)) some)
      else
        some (r2, a_all, s_many, s_tableOf)
    else
      some ((-1 : Int32), a_all, s_many, s_tableOf)
def fX7_measure_B10 (s_many : Int32) (v1 : Int32) (v2 : Int32) (x : (Int32 × (Nat → Int32))) : Option ((Int32 × (Nat → Int32)) ⊕ (Nat → Int32)) :=
  if s_many ≤ x.1 then
    some (.inr x.2)
  else
    (wr 429 x.2 x.1 (-1 : Int32)).bind fun u1 =>
    some (.inl ((x.1 + nI 1), u1))
def fX7_measure_J221 (a_all : Nat → Int32) (a_parent : Nat → Int32) (a_left : Nat → Int32) (a_right : Nat → Int32) (a_leftSize : Nat → Int32) (a_above : Nat → Int32) (a_dist : Nat → Int32) (a_queue : Nat → Int32) (s_nodes : Int32) (s_many : Int32) (s_tableOf : Int32) (s_read : Int32) (v2 : Int32) (v4 : Int32) (v5 : Int32) (v6 : Int32) (v7 : Int32) (v8 : Int32)  : Option ((Int32 × Int32 × (Nat → Int32) × (Nat → Int32) × (Nat → Int32) × (Nat → Int32) × (Nat → Int32) × (Nat → Int32) × (Nat → Int32) × (Nat → Int32) × Int32 × Int32 × Int32) ⊕ (Int32 × (Nat → Int32) × (Nat → Int32) × (Nat → Int32) × (Nat → Int32) × (Nat → Int32) × (Nat → Int32) × (Nat → Int32) × (Nat → Int32) × Int32 × Int32 × Int32)) :=
  some (.inl (v4, (v8 + nI 1), a_all, a_parent, a_left, a_right, a_leftSize, a_above, a_dist, a_queue, s_many, s_tableOf, s_read))
def fX7_measure_J171 (a_all : Nat → Int32) (a_parent : Nat → Int32) (a_left : Nat → Int32) (a_right : Nat → Int32) (a_leftSize : Nat → Int32) (a_above : Nat → Int32) (a_dist : Nat → Int32) (a_queue : Nat → Int32) (s_nodes : Int32) (s_many : Int32) (s_tableOf : Int32) (s_read : Int32) (v2 : Int32) (v4 : Int32) (v5 : Int32) (v6 : Int32) (v7 : Int32) (v8 : Int32) (k0 : Int32) : Option ((Int32 × Int32 × (Nat → Int32) × (Nat → Int32) × (Nat → Int32) × (Nat → Int32) × (Nat → Int32) × (Nat → Int32) × (Nat → Int32) × (Nat → Int32) × Int32 × Int32 × Int32) ⊕ (Int32 × (Nat → Int32) × (Nat → Int32) × (Nat → Int32) × (Nat → Int32) × (Nat → Int32) × (Nat → Int32) × (Nat → Int32) × (Nat → Int32) × Int32 × Int32 × Int32)) :=
  if k0 = (-1 : Int32) then
    fX7_measure_J221 a_all a_parent a_left a_right a_leftSize a_above a_dist a_queue s_nodes s_many s_tableOf s_read v2 v4 v5 v6 v7 v8
  else
    (rd 429 a_dist k0).bind fun t1 =>
    if t1 = (-1 : Int32) then
      (rd 429 a_dist v6).bind fun t2 =>
      (wr 429 a_dist k0 (t2 + (nI 1))).bind fun u3 =>
      (wr 429 a_queue v4 k0).bind fun u4 =>
      fX7_measure_J221 a_all a_parent a_left a_right a_leftSize a_above u3 u4 s_nodes s_many s_tableOf s_read v2 (v4 + nI 1) v5 v6 v7 v8
    else
      fX7_measure_J221 a_all a_parent a_left a_right a_leftSize a_above a_dist a_queue s_nodes s_many s_tableOf s_read v2 v4 v5 v6 v7 v8
def fX7_measure_J148 (a_all : Nat → Int32) (a_parent : Nat → Int32) (a_left : Nat → Int32) (a_right : Nat → Int32) (a_leftSize : Nat → Int32) (a_above : Nat → Int32) (a_dist : Nat → Int32) (a_queue : Nat → Int32) (s_nodes : Int32) (s_many : Int32) (s_tableOf : Int32) (s_read : Int32) (v2 : Int32) (v4 : Int32) (v5 : Int32) (v6 : Int32) (v7 : Int32) (v8 : Int32) (k0 : Int32) : Option ((Int32 × Int32 × (Nat → Int32) × (Nat → Int32) × (Nat → Int32) × (Nat → Int32) × (Nat → Int32) × (Nat → Int32) × (Nat → Int32) × (Nat → Int32) × Int32 × Int32 × Int32) ⊕ (Int32 × (Nat → Int32) × (Nat → Int32) × (Nat → Int32) × (Nat → Int32) × (Nat → Int32) × (Nat → Int32) × (Nat → Int32) × (Nat → Int32) × Int32 × Int32 × Int32)) :=
  if k0 = (-5 : Int32) then
    fX7_measure_J171 a_all a_parent a_left a_right a_leftSize a_above a_dist a_queue s_nodes s_many s_tableOf s_read v2 v4 v5 v6 v7 v8 (-1 : Int32)
  else
    (fX7_numberOf a_all s_many s_tableOf k0 s_nodes).bind fun r1 =>
    fX7_measure_J171 r1.2.1 a_parent a_left a_right a_leftSize a_above a_dist a_queue s_nodes r1.2.2.1 r1.2.2.2 s_read v2 v4 v5 v6 v7 v8 r1.1
def fX7_measure_J103 (a_all : Nat → Int32) (a_parent : Nat → Int32) (a_left : Nat → Int32) (a_right : Nat → Int32) (a_leftSize : Nat → Int32) (a_above : Nat → Int32) (a_dist : Nat → Int32) (a_queue : Nat → Int32) (s_nodes : Int32) (s_many : Int32) (s_tableOf : Int32) (s_read : Int32) (v2 : Int32) (v4 : Int32) (v5 : Int32) (v6 : Int32) (v7 : Int32) (v8 : Int32) (k0 : Int32) (k1 : Int32) : Option ((Int32 × Int32 × (Nat → Int32) × (Nat → Int32) × (Nat → Int32) × (Nat → Int32) × (Nat → Int32) × (Nat → Int32) × (Nat → Int32) × (Nat → Int32) × Int32 × Int32 × Int32) ⊕ (Int32 × (Nat → Int32) × (Nat → Int32) × (Nat → Int32) × (Nat → Int32) × (Nat → Int32) × (Nat → Int32) × (Nat → Int32) × (Nat → Int32) × Int32 × Int32 × Int32)) :=
  if k0 ≤ k1 then
    some (.inr (v4, a_all, a_parent, a_left, a_right, a_leftSize, a_above, a_dist, a_queue, s_many, s_tableOf, s_read))
  else
    if v8 = nI 0 then
      (rd 429 a_all v6).bind fun t3 =>
      (fX7_up a_parent a_left a_right a_leftSize a_above s_read t3 s_nodes v7).bind fun r4 =>
      fX7_measure_J148 a_all r4.2.1 r4.2.2.1 r4.2.2.2.1 r4.2.2.2.2.1 r4.2.2.2.2.2.1 a_dist a_queue s_nodes s_many s_tableOf r4.2.2.2.2.2.2 v2 v4 v5 v6 v7 v8 r4.1
    else
      (rd 429 a_all v6).bind fun t1 =>
      (fX7_down a_parent a_left a_right a_leftSize a_above s_read t1 s_nodes v7).bind fun r2 =>
      fX7_measure_J148 a_all r2.2.1 r2.2.2.1 r2.2.2.2.1 r2.2.2.2.2.1 r2.2.2.2.2.2.1 a_dist a_queue s_nodes s_many s_tableOf r2.2.2.2.2.2.2 v2 v4 v5 v6 v7 v8 r2.1
def fX7_measure_B92 (s_nodes : Int32) (v2 : Int32) (v5 : Int32) (v6 : Int32) (v7 : Int32) (x : (Int32 × Int32 × (Nat → Int32) × (Nat → Int32) × (Nat → Int32) × (Nat → Int32) × (Nat → Int32) × (Nat → Int32) × (Nat → Int32) × (Nat → Int32) × Int32 × Int32 × Int32)) : Option ((Int32 × Int32 × (Nat → Int32) × (Nat → Int32) × (Nat → Int32) × (Nat → Int32) × (Nat → Int32) × (Nat → Int32) × (Nat → Int32) × (Nat → Int32) × Int32 × Int32 × Int32) ⊕ (Int32 × (Nat → Int32) × (Nat → Int32) × (Nat → Int32) × (Nat → Int32) × (Nat → Int32) × (Nat → Int32) × (Nat → Int32) × (Nat → Int32) × Int32 × Int32 × Int32)) :=
  if v2 = nI 0 then
    fX7_measure_J103 x.2.2.1 x.2.2.2.1 x.2.2.2.2.1 x.2.2.2.2.2.1 x.2.2.2.2.2.2.1 x.2.2.2.2.2.2.2.1 x.2.2.2.2.2.2.2.2.1 x.2.2.2.2.2.2.2.2.2.1 s_nodes x.2.2.2.2.2.2.2.2.2.2.1 x.2.2.2.2.2.2.2.2.2.2.2.1 x.2.2.2.2.2.2.2.2.2.2.2.2 v2 x.1 v5 v6 v7 x.2.1 (nI 2) x.2.1
  else
    fX7_measure_J103 x.2.2.1 x.2.2.2.1 x.2.2.2.2.1 x.2.2.2.2.2.1 x.2.2.2.2.2.2.1 x.2.2.2.2.2.2.2.1 x.2.2.2.2.2.2.2.2.1 x.2.2.2.2.2.2.2.2.2.1 s_nodes x.2.2.2.2.2.2.2.2.2.2.1 x.2.2.2.2.2.2.2.2.2.2.2.1 x.2.2.2.2.2.2.2.2.2.2.2.2 v2 x.1 v5 v6 v7 x.2.1 (nI 1) x.2.1
def fX7_measure_B80 (s_nodes : Int32) (v2 : Int32) (v5 : Int32) (v6 : Int32) (x : (Int32 × Int32 × (Nat → Int32) × (Nat → Int32) × (Nat → Int32) × (Nat → Int32) × (Nat → Int32) × (Nat → Int32) × (Nat → Int32) × (Nat → Int32) × Int32 × Int32 × Int32)) : Option ((Int32 × Int32 × (Nat → Int32) × (Nat → Int32) × (Nat → Int32) × (Nat → Int32) × (Nat → Int32) × (Nat → Int32) × (Nat → Int32) × (Nat → Int32) × Int32 × Int32 × Int32) ⊕ (Int32 × (Nat → Int32) × (Nat → Int32) × (Nat → Int32) × (Nat → Int32) × (Nat → Int32) × (Nat → Int32) × (Nat → Int32) × (Nat → Int32) × Int32 × Int32 × Int32)) :=
  if s_nodes ≤ x.2.1 then
    some (.inr (x.1, x.2.2.1, x.2.2.2.1, x.2.2.2.2.1, x.2.2.2.2.2.1, x.2.2.2.2.2.2.1, x.2.2.2.2.2.2.2.1, x.2.2.2.2.2.2.2.2.1, x.2.2.2.2.2.2.2.2.2.1, x.2.2.2.2.2.2.2.2.2.2.1, x.2.2.2.2.2.2.2.2.2.2.2.1, x.2.2.2.2.2.2.2.2.2.2.2.2))
  else
    (it (fX7_measure_B92 s_nodes v2 v5 v6 x.2.1) FU (x.1, (nI 0), x.2.2.1, x.2.2.2.1, x.2.2.2.2.1, x.2.2.2.2.2.1, x.2.2.2.2.2.2.1, x.2.2.2.2.2.2.2.1, x.2.2.2.2.2.2.2.2.1, x.2.2.2.2.2.2.2.2.2.1, x.2.2.2.2.2.2.2.2.2.2.1, x.2.2.2.2.2.2.2.2.2.2.2.1, x.2.2.2.2.2.2.2.2.2.2.2.2)).bind fun y1 =>
    some (.inl (y1.1, (x.2.1 + nI 1), y1.2.1, y1.2.2.1, y1.2.2.2.1, y1.2.2.2.2.1, y1.2.2.2.2.2.1, y1.2.2.2.2.2.2.1, y1.2.2.2.2.2.2.2.1, y1.2.2.2.2.2.2.2.2.1, y1.2.2.2.2.2.2.2.2.2.1, y1.2.2.2.2.2.2.2.2.2.2.1, y1.2.2.2.2.2.2.2.2.2.2.2))
def fX7_measure_B61 (s_nodes : Int32) (v2 : Int32) (x : (Int32 × Int32 × (Nat → Int32) × (Nat → Int32) × (Nat → Int32) × (Nat → Int32) × (Nat → Int32) × (Nat → Int32) × (Nat → Int32) × (Nat → Int32) × Int32 × Int32 × Int32)) : Option ((Int32 × Int32 × (Nat → Int32) × (Nat → Int32) × (Nat → Int32) × (Nat → Int32) × (Nat → Int32) × (Nat → Int32) × (Nat → Int32) × (Nat → Int32) × Int32 × Int32 × Int32) ⊕ ((Nat → Int32) × (Nat → Int32) × (Nat → Int32) × (Nat → Int32) × (Nat → Int32) × (Nat → Int32) × (Nat → Int32) × (Nat → Int32) × Int32 × Int32 × Int32)) :=
  if x.1 ≤ x.2.1 then
    some (.inr (x.2.2.1, x.2.2.2.1, x.2.2.2.2.1, x.2.2.2.2.2.1, x.2.2.2.2.2.2.1, x.2.2.2.2.2.2.2.1, x.2.2.2.2.2.2.2.2.1, x.2.2.2.2.2.2.2.2.2.1, x.2.2.2.2.2.2.2.2.2.2.1, x.2.2.2.2.2.2.2.2.2.2.2.1, x.2.2.2.2.2.2.2.2.2.2.2.2))
  else
    (rd 429 x.2.2.2.2.2.2.2.2.2.1 x.2.1).bind fun t1 =>
    (it (fX7_measure_B80 s_nodes v2 x.2.1 t1) FU (x.1, (nI 0), x.2.2.1, x.2.2.2.1, x.2.2.2.2.1, x.2.2.2.2.2.1, x.2.2.2.2.2.2.1, x.2.2.2.2.2.2.2.1, x.2.2.2.2.2.2.2.2.1, x.2.2.2.2.2.2.2.2.2.1, x.2.2.2.2.2.2.2.2.2.2.1, x.2.2.2.2.2.2.2.2.2.2.2.1, x.2.2.2.2.2.2.2.2.2.2.2.2)).bind fun y2 =>
    some (.inl (y2.1, (x.2.1 + nI 1), y2.2.1, y2.2.2.1, y2.2.2.2.1, y2.2.2.2.2.1, y2.2.2.2.2.2.1, y2.2.2.2.2.2.2.1, y2.2.2.2.2.2.2.2.1, y2.2.2.2.2.2.2.2.2.1, y2.2.2.2.2.2.2.2.2.2.1, y2.2.2.2.2.2.2.2.2.2.2.1, y2.2.2.2.2.2.2.2.2.2.2.2))
def fX7_measure (a_all : Nat → Int32) (a_parent : Nat → Int32) (a_left : Nat → Int32) (a_right : Nat → Int32) (a_leftSize : Nat → Int32) (a_above : Nat → Int32) (a_dist : Nat → Int32) (a_queue : Nat → Int32) (s_nodes : Int32) (s_many : Int32) (s_tableOf : Int32) (s_read : Int32) (v1 : Int32) (v2 : Int32) : Option ((Nat → Int32) × (Nat → Int32) × (Nat → Int32) × (Nat → Int32) × (Nat → Int32) × (Nat → Int32) × (Nat → Int32) × (Nat → Int32) × Int32 × Int32 × Int32) :=
  (fX7_table a_all s_many s_tableOf s_nodes).bind fun r1 =>
  (it (fX7_measure_B10 r1.2.1 v1 v2) FU ((nI 0), a_dist)).bind fun y2 =>
  (fX7_numberOf r1.1 r1.2.1 r1.2.2 v1 s_nodes).bind fun r3 =>
  (wr 429 y2 r3.1 (nI 0)).bind fun u4 =>
  (wr 429 a_queue (nI 0) r3.1).bind fun u5 =>
  (it (fX7_measure_B61 s_nodes v2) FU ((nI 1), (nI 0), r3.2.1, a_parent, a_left, a_right, a_leftSize, a_above, u4, u5, r3.2.2.1, r3.2.2.2, s_read)).bind fun y6 =>
  some (y6.1, y6.2.1, y6.2.2.1, y6.2.2.2.1, y6.2.2.2.2.1, y6.2.2.2.2.2.1, y6.2.2.2.2.2.2.1, y6.2.2.2.2.2.2.2.1, y6.2.2.2.2.2.2.2.2.1, y6.2.2.2.2.2.2.2.2.2.1, y6.2.2.2.2.2.2.2.2.2.2)
def fX7_firstTurn_J108 (a_all : Nat → Int32) (a_parent : Nat → Int32) (a_left : Nat → Int32) (a_right : Nat → Int32) (a_leftSize : Nat → Int32) (a_above : Nat → Int32) (a_dist : Nat → Int32) (s_nodes : Int32) (s_many : Int32) (s_tableOf : Int32) (s_read : Int32) (v1 : Int32) (v2 : Int32) (v3 : Int32) (v4 : Int32)  : Option ((Int32 × (Nat → Int32) × (Nat → Int32) × (Nat → Int32) × (Nat → Int32) × (Nat → Int32) × (Nat → Int32) × Int32 × Int32 × Int32) ⊕ (((Nat → Int32) × (Nat → Int32) × (Nat → Int32) × (Nat → Int32) × (Nat → Int32) × (Nat → Int32) × Int32 × Int32 × Int32) ⊕ (Int32 × (Nat → Int32) × (Nat → Int32) × (Nat → Int32) × (Nat → Int32) × (Nat → Int32) × (Nat → Int32) × Int32 × Int32 × Int32))) :=
  some (.inl ((v4 + nI 1), a_all, a_parent, a_left, a_right, a_leftSize, a_above, s_many, s_tableOf, s_read))
def fX7_firstTurn_J70 (a_all : Nat → Int32) (a_parent : Nat → Int32) (a_left : Nat → Int32) (a_right : Nat → Int32) (a_leftSize : Nat → Int32) (a_above : Nat → Int32) (a_dist : Nat → Int32) (s_nodes : Int32) (s_many : Int32) (s_tableOf : Int32) (s_read : Int32) (v1 : Int32) (v2 : Int32) (v3 : Int32) (v4 : Int32) (k0 : Int32) : Option ((Int32 × (Nat → Int32) × (Nat → Int32) × (Nat → Int32) × (Nat → Int32) × (Nat → Int32) × (Nat → Int32) × Int32 × Int32 × Int32) ⊕ (((Nat → Int32) × (Nat → Int32) × (Nat → Int32) × (Nat → Int32) × (Nat → Int32) × (Nat → Int32) × Int32 × Int32 × Int32) ⊕ (Int32 × (Nat → Int32) × (Nat → Int32) × (Nat → Int32) × (Nat → Int32) × (Nat → Int32) × (Nat → Int32) × Int32 × Int32 × Int32))) :=
  if k0 = (-5 : Int32) then
    fX7_firstTurn_J108 a_all a_parent a_left a_right a_leftSize a_above a_dist s_nodes s_many s_tableOf s_read v1 v2 v3 v4
  else
    (fX7_numberOf a_all s_many s_tableOf k0 s_nodes).bind fun r1 =>
    (rd 429 a_dist r1.1).bind fun t2 =>
    if t2 = (v2 - (nI 1)) then
      some (.inr (.inr ((((nI 100) * v3) + v4), r1.2.1, a_parent, a_left, a_right, a_leftSize, a_above, r1.2.2.1, r1.2.2.2, s_read)))
    else
      fX7_firstTurn_J108 r1.2.1 a_parent a_left a_right a_leftSize a_above a_dist s_nodes r1.2.2.1 r1.2.2.2 s_read v1 v2 v3 v4
def fX7_firstTurn_B32 (a_dist : Nat → Int32) (s_nodes : Int32) (v1 : Int32) (v2 : Int32) (v3 : Int32) (x : (Int32 × (Nat → Int32) × (Nat → Int32) × (Nat → Int32) × (Nat → Int32) × (Nat → Int32) × (Nat → Int32) × Int32 × Int32 × Int32)) : Option ((Int32 × (Nat → Int32) × (Nat → Int32) × (Nat → Int32) × (Nat → Int32) × (Nat → Int32) × (Nat → Int32) × Int32 × Int32 × Int32) ⊕ (((Nat → Int32) × (Nat → Int32) × (Nat → Int32) × (Nat → Int32) × (Nat → Int32) × (Nat → Int32) × Int32 × Int32 × Int32) ⊕ (Int32 × (Nat → Int32) × (Nat → Int32) × (Nat → Int32) × (Nat → Int32) × (Nat → Int32) × (Nat → Int32) × Int32 × Int32 × Int32))) :=
  if s_nodes ≤ x.1 then
    some (.inr (.inl (x.2.1, x.2.2.1, x.2.2.2.1, x.2.2.2.2.1, x.2.2.2.2.2.1, x.2.2.2.2.2.2.1, x.2.2.2.2.2.2.2.1, x.2.2.2.2.2.2.2.2.1, x.2.2.2.2.2.2.2.2.2)))
  else
    if v3 = nI 0 then
      (fX7_up x.2.2.1 x.2.2.2.1 x.2.2.2.2.1 x.2.2.2.2.2.1 x.2.2.2.2.2.2.1 x.2.2.2.2.2.2.2.2.2 v1 s_nodes x.1).bind fun r2 =>
      fX7_firstTurn_J70 x.2.1 r2.2.1 r2.2.2.1 r2.2.2.2.1 r2.2.2.2.2.1 r2.2.2.2.2.2.1 a_dist s_nodes x.2.2.2.2.2.2.2.1 x.2.2.2.2.2.2.2.2.1 r2.2.2.2.2.2.2 v1 v2 v3 x.1 r2.1
    else
      (fX7_down x.2.2.1 x.2.2.2.1 x.2.2.2.2.1 x.2.2.2.2.2.1 x.2.2.2.2.2.2.1 x.2.2.2.2.2.2.2.2.2 v1 s_nodes x.1).bind fun r1 =>
      fX7_firstTurn_J70 x.2.1 r1.2.1 r1.2.2.1 r1.2.2.2.1 r1.2.2.2.2.1 r1.2.2.2.2.2.1 a_dist s_nodes x.2.2.2.2.2.2.2.1 x.2.2.2.2.2.2.2.2.1 r1.2.2.2.2.2.2 v1 v2 v3 x.1 r1.1
def fX7_firstTurn_B24 (a_dist : Nat → Int32) (s_nodes : Int32) (v1 : Int32) (v2 : Int32) (x : (Int32 × (Nat → Int32) × (Nat → Int32) × (Nat → Int32) × (Nat → Int32) × (Nat → Int32) × (Nat → Int32) × Int32 × Int32 × Int32)) : Option ((Int32 × (Nat → Int32) × (Nat → Int32) × (Nat → Int32) × (Nat → Int32) × (Nat → Int32) × (Nat → Int32) × Int32 × Int32 × Int32) ⊕ (((Nat → Int32) × (Nat → Int32) × (Nat → Int32) × (Nat → Int32) × (Nat → Int32) × (Nat → Int32) × Int32 × Int32 × Int32) ⊕ (Int32 × (Nat → Int32) × (Nat → Int32) × (Nat → Int32) × (Nat → Int32) × (Nat → Int32) × (Nat → Int32) × Int32 × Int32 × Int32))) :=
  if (nI 2) ≤ x.1 then
    some (.inr (.inl (x.2.1, x.2.2.1, x.2.2.2.1, x.2.2.2.2.1, x.2.2.2.2.2.1, x.2.2.2.2.2.2.1, x.2.2.2.2.2.2.2.1, x.2.2.2.2.2.2.2.2.1, x.2.2.2.2.2.2.2.2.2)))
  else
    (it (fX7_firstTurn_B32 a_dist s_nodes v1 v2 x.1) FU ((nI 0), x.2.1, x.2.2.1, x.2.2.2.1, x.2.2.2.2.1, x.2.2.2.2.2.1, x.2.2.2.2.2.2.1, x.2.2.2.2.2.2.2.1, x.2.2.2.2.2.2.2.2.1, x.2.2.2.2.2.2.2.2.2)).bind (Sum.elim (fun y1 =>
      some (.inl ((x.1 + nI 1), y1.1, y1.2.1, y1.2.2.1, y1.2.2.2.1, y1.2.2.2.2.1, y1.2.2.2.2.2.1, y1.2.2.2.2.2.2.1, y1.2.2.2.2.2.2.2.1, y1.2.2.2.2.2.2.2.2))) (fun q => some (.inr (.inr q))))
def fX7_firstTurn (a_all : Nat → Int32) (a_parent : Nat → Int32) (a_left : Nat → Int32) (a_right : Nat → Int32) (a_leftSize : Nat → Int32) (a_above : Nat → Int32) (a_dist : Nat → Int32) (s_nodes : Int32) (s_many : Int32) (s_tableOf : Int32) (s_read : Int32) (v1 : Int32) : Option (Int32 × (Nat → Int32) × (Nat → Int32) × (Nat → Int32) × (Nat → Int32) × (Nat → Int32) × (Nat → Int32) × Int32 × Int32 × Int32) :=
  (fX7_numberOf a_all s_many s_tableOf v1 s_nodes).bind fun r1 =>
  (rd 429 a_dist r1.1).bind fun t2 =>
  if t2 = nI 0 then
    some ((-5 : Int32), r1.2.1, a_parent, a_left, a_right, a_leftSize, a_above, r1.2.2.1, r1.2.2.2, s_read)
  else
    (it (fX7_firstTurn_B24 a_dist s_nodes v1 t2) FU ((nI 0), r1.2.1, a_parent, a_left, a_right, a_leftSize, a_above, r1.2.2.1, r1.2.2.2, s_read)).bind (Sum.elim (fun y3 =>
      some ((-5 : Int32), y3.1, y3.2.1, y3.2.2.1, y3.2.2.2.1, y3.2.2.2.2.1, y3.2.2.2.2.2.1, y3.2.2.2.2.2.2.1, y3.2.2.2.2.2.2.2.1, y3.2.2.2.2.2.2.2.2)) some)
def fX7_way (a_shelfNodes : Nat → Int32) (a_shelfTree : Nat → Int32) (a_all : Nat → Int32) (a_parent : Nat → Int32) (a_left : Nat → Int32) (a_right : Nat → Int32) (a_leftSize : Nat → Int32) (a_above : Nat → Int32) (a_dist : Nat → Int32) (a_queue : Nat → Int32) (s_nodes : Int32) (s_tree : Int32) (s_many : Int32) (s_tableOf : Int32) (s_read : Int32) (v1 : Int32) (v2 : Int32) : Option (Int32 × (Nat → Int32) × (Nat → Int32) × (Nat → Int32) × (Nat → Int32) × (Nat → Int32) × (Nat → Int32) × (Nat → Int32) × (Nat → Int32) × Int32 × Int32 × Int32) :=
  (fX7_isShelf v1).bind fun r1 =>
  if r1 = nI 0 then
    some ((-1 : Int32), a_all, a_parent, a_left, a_right, a_leftSize, a_above, a_dist, a_queue, s_many, s_tableOf, s_read)
  else
    (fX7_in (v2.toInt64) (0 : Int64) (1 : Int64)).bind fun r2 =>
    if r2 = nI 0 then
      some ((-1 : Int32), a_all, a_parent, a_left, a_right, a_leftSize, a_above, a_dist, a_queue, s_many, s_tableOf, s_read)
    else
      (fX7_barOf a_shelfNodes s_nodes v1).bind fun r3 =>
      if r3 = nI 0 then
        (rd 4 a_shelfTree v1).bind fun t4 =>
        (fX7_measure a_all a_parent a_left a_right a_leftSize a_above a_dist a_queue s_nodes s_many s_tableOf s_read t4 (nI 0)).bind fun r5 =>
        if v2 = nI 0 then
          (fX7_which r5.1 s_nodes s_tree r5.2.2.2.2.2.2.2.2.1 r5.2.2.2.2.2.2.2.2.2.1).bind fun r7 =>
          (rd 429 r5.2.2.2.2.2.2.1 r7.1).bind fun t8 =>
          some (t8, r7.2.1, r5.2.1, r5.2.2.1, r5.2.2.2.1, r5.2.2.2.2.1, r5.2.2.2.2.2.1, r5.2.2.2.2.2.2.1, r5.2.2.2.2.2.2.2.1, r7.2.2.1, r7.2.2.2, r5.2.2.2.2.2.2.2.2.2.2)
        else
          (fX7_firstTurn r5.1 r5.2.1 r5.2.2.1 r5.2.2.2.1 r5.2.2.2.2.1 r5.2.2.2.2.2.1 r5.2.2.2.2.2.2.1 s_nodes r5.2.2.2.2.2.2.2.2.1 r5.2.2.2.2.2.2.2.2.2.1 r5.2.2.2.2.2.2.2.2.2.2 s_tree).bind fun r6 =>
          some (r6.1, r6.2.1, r6.2.2.1, r6.2.2.2.1, r6.2.2.2.2.1, r6.2.2.2.2.2.1, r6.2.2.2.2.2.2.1, r5.2.2.2.2.2.2.1, r5.2.2.2.2.2.2.2.1, r6.2.2.2.2.2.2.2.1, r6.2.2.2.2.2.2.2.2.1, r6.2.2.2.2.2.2.2.2.2)
      else
        some (r3, a_all, a_parent, a_left, a_right, a_leftSize, a_above, a_dist, a_queue, s_many, s_tableOf, s_read)
def fX7_longest_J33 (a_all : Nat → Int32) (a_queue : Nat → Int32) (s_tree : Int32) (s_many : Int32) (v1 : Int32) (v2 : Int32) (k0 : Int32) (k1 : Int32) : Option ((Int32 × (Nat → Int32)) ⊕ (Nat → Int32)) :=
  (wr 429 a_queue k1 k0).bind fun u1 =>
  some (.inl ((v2 + nI 1), u1))
def fX7_longest_B2 (a_all : Nat → Int32) (s_tree : Int32) (s_many : Int32) (v1 : Int32) (x : (Int32 × (Nat → Int32))) : Option ((Int32 × (Nat → Int32)) ⊕ (Nat → Int32)) :=
  if s_many ≤ x.1 then
    some (.inr x.2)
  else
    (rd 429 a_all x.1).bind fun t1 =>
    if t1 = s_tree then
      fX7_longest_J33 a_all x.2 s_tree s_many v1 x.1 (nI 0) x.1
    else
      fX7_longest_J33 a_all x.2 s_tree s_many v1 x.1 (-1 : Int32) x.1
def fX7_longest_J137 (a_all : Nat → Int32) (a_parent : Nat → Int32) (a_left : Nat → Int32) (a_right : Nat → Int32) (a_leftSize : Nat → Int32) (a_above : Nat → Int32) (a_queue : Nat → Int32) (s_nodes : Int32) (s_many : Int32) (s_tableOf : Int32) (s_read : Int32) (v1 : Int32) (v2 : Int32) (v3 : Int32)  : Option ((Int32 × (Nat → Int32) × (Nat → Int32) × (Nat → Int32) × (Nat → Int32) × (Nat → Int32) × (Nat → Int32) × (Nat → Int32) × Int32 × Int32 × Int32) ⊕ ((Nat → Int32) × (Nat → Int32) × (Nat → Int32) × (Nat → Int32) × (Nat → Int32) × (Nat → Int32) × (Nat → Int32) × Int32 × Int32 × Int32)) :=
  some (.inl ((v3 + nI 1), a_all, a_parent, a_left, a_right, a_leftSize, a_above, a_queue, s_many, s_tableOf, s_read))
def fX7_longest_B65 (s_nodes : Int32) (v1 : Int32) (v2 : Int32) (x : (Int32 × (Nat → Int32) × (Nat → Int32) × (Nat → Int32) × (Nat → Int32) × (Nat → Int32) × (Nat → Int32) × (Nat → Int32) × Int32 × Int32 × Int32)) : Option ((Int32 × (Nat → Int32) × (Nat → Int32) × (Nat → Int32) × (Nat → Int32) × (Nat → Int32) × (Nat → Int32) × (Nat → Int32) × Int32 × Int32 × Int32) ⊕ ((Nat → Int32) × (Nat → Int32) × (Nat → Int32) × (Nat → Int32) × (Nat → Int32) × (Nat → Int32) × (Nat → Int32) × Int32 × Int32 × Int32)) :=
  if s_nodes ≤ x.1 then
    some (.inr (x.2.1, x.2.2.1, x.2.2.2.1, x.2.2.2.2.1, x.2.2.2.2.2.1, x.2.2.2.2.2.2.1, x.2.2.2.2.2.2.2.1, x.2.2.2.2.2.2.2.2.1, x.2.2.2.2.2.2.2.2.2.1, x.2.2.2.2.2.2.2.2.2.2))
  else
    (rd 429 x.2.1 v2).bind fun t1 =>
    (fX7_up x.2.2.1 x.2.2.2.1 x.2.2.2.2.1 x.2.2.2.2.2.1 x.2.2.2.2.2.2.1 x.2.2.2.2.2.2.2.2.2.2 t1 s_nodes x.1).bind fun r2 =>
    if r2.1 = (-5 : Int32) then
      fX7_longest_J137 x.2.1 r2.2.1 r2.2.2.1 r2.2.2.2.1 r2.2.2.2.2.1 r2.2.2.2.2.2.1 x.2.2.2.2.2.2.2.1 s_nodes x.2.2.2.2.2.2.2.2.1 x.2.2.2.2.2.2.2.2.2.1 r2.2.2.2.2.2.2 v1 v2 x.1
    else
      (fX7_numberOf x.2.1 x.2.2.2.2.2.2.2.2.1 x.2.2.2.2.2.2.2.2.2.1 r2.1 s_nodes).bind fun r3 =>
      (rd 429 x.2.2.2.2.2.2.2.1 r3.1).bind fun t4 =>
      (rd 429 x.2.2.2.2.2.2.2.1 v2).bind fun t5 =>
      (wr 429 x.2.2.2.2.2.2.2.1 r3.1 (if t4 < (t5 + (nI 1)) then (t5 + (nI 1)) else t4)).bind fun u6 =>
      fX7_longest_J137 r3.2.1 r2.2.1 r2.2.2.1 r2.2.2.2.1 r2.2.2.2.2.1 r2.2.2.2.2.2.1 u6 s_nodes r3.2.2.1 r3.2.2.2 r2.2.2.2.2.2.2 v1 v2 x.1
def fX7_longest_J143 (a_all : Nat → Int32) (a_parent : Nat → Int32) (a_left : Nat → Int32) (a_right : Nat → Int32) (a_leftSize : Nat → Int32) (a_above : Nat → Int32) (a_queue : Nat → Int32) (s_nodes : Int32) (s_many : Int32) (s_tableOf : Int32) (s_read : Int32) (v1 : Int32) (v2 : Int32)  : Option ((Int32 × (Nat → Int32) × (Nat → Int32) × (Nat → Int32) × (Nat → Int32) × (Nat → Int32) × (Nat → Int32) × (Nat → Int32) × Int32 × Int32 × Int32) ⊕ ((Nat → Int32) × (Nat → Int32) × (Nat → Int32) × (Nat → Int32) × (Nat → Int32) × (Nat → Int32) × (Nat → Int32) × Int32 × Int32 × Int32)) :=
  some (.inl ((v2 + nI 1), a_all, a_parent, a_left, a_right, a_leftSize, a_above, a_queue, s_many, s_tableOf, s_read))
def fX7_longest_B42 (s_nodes : Int32) (v1 : Int32) (x : (Int32 × (Nat → Int32) × (Nat → Int32) × (Nat → Int32) × (Nat → Int32) × (Nat → Int32) × (Nat → Int32) × (Nat → Int32) × Int32 × Int32 × Int32)) : Option ((Int32 × (Nat → Int32) × (Nat → Int32) × (Nat → Int32) × (Nat → Int32) × (Nat → Int32) × (Nat → Int32) × (Nat → Int32) × Int32 × Int32 × Int32) ⊕ ((Nat → Int32) × (Nat → Int32) × (Nat → Int32) × (Nat → Int32) × (Nat → Int32) × (Nat → Int32) × (Nat → Int32) × Int32 × Int32 × Int32)) :=
  if x.2.2.2.2.2.2.2.2.1 ≤ x.1 then
    some (.inr (x.2.1, x.2.2.1, x.2.2.2.1, x.2.2.2.2.1, x.2.2.2.2.2.1, x.2.2.2.2.2.2.1, x.2.2.2.2.2.2.2.1, x.2.2.2.2.2.2.2.2.1, x.2.2.2.2.2.2.2.2.2.1, x.2.2.2.2.2.2.2.2.2.2))
  else
    (rd 429 x.2.2.2.2.2.2.2.1 x.1).bind fun t1 =>
    if t1 = (-1 : Int32) then
      fX7_longest_J143 x.2.1 x.2.2.1 x.2.2.2.1 x.2.2.2.2.1 x.2.2.2.2.2.1 x.2.2.2.2.2.2.1 x.2.2.2.2.2.2.2.1 s_nodes x.2.2.2.2.2.2.2.2.1 x.2.2.2.2.2.2.2.2.2.1 x.2.2.2.2.2.2.2.2.2.2 v1 x.1
    else
      (it (fX7_longest_B65 s_nodes v1 x.1) FU ((nI 0), x.2.1, x.2.2.1, x.2.2.2.1, x.2.2.2.2.1, x.2.2.2.2.2.1, x.2.2.2.2.2.2.1, x.2.2.2.2.2.2.2.1, x.2.2.2.2.2.2.2.2.1, x.2.2.2.2.2.2.2.2.2.1, x.2.2.2.2.2.2.2.2.2.2)).bind fun y2 =>
      fX7_longest_J143 y2.1 y2.2.1 y2.2.2.1 y2.2.2.2.1 y2.2.2.2.2.1 y2.2.2.2.2.2.1 y2.2.2.2.2.2.2.1 s_nodes y2.2.2.2.2.2.2.2.1 y2.2.2.2.2.2.2.2.2.1 y2.2.2.2.2.2.2.2.2.2 v1 x.1
def fX7_longest (a_all : Nat → Int32) (a_parent : Nat → Int32) (a_left : Nat → Int32) (a_right : Nat → Int32) (a_leftSize : Nat → Int32) (a_above : Nat → Int32) (a_queue : Nat → Int32) (s_nodes : Int32) (s_tree : Int32) (s_many : Int32) (s_tableOf : Int32) (s_read : Int32) (v1 : Int32) : Option (Int32 × (Nat → Int32) × (Nat → Int32) × (Nat → Int32) × (Nat → Int32) × (Nat → Int32) × (Nat → Int32) × (Nat → Int32) × Int32 × Int32 × Int32) :=
  (it (fX7_longest_B2 a_all s_tree s_many v1) FU ((nI 0), a_queue)).bind fun y1 =>
  (it (fX7_longest_B42 s_nodes v1) FU ((nI 0), a_all, a_parent, a_left, a_right, a_leftSize, a_above, y1, s_many, s_tableOf, s_read)).bind fun y2 =>
  (fX7_numberOf y2.1 y2.2.2.2.2.2.2.2.1 y2.2.2.2.2.2.2.2.2.1 v1 s_nodes).bind fun r3 =>
  (rd 429 y2.2.2.2.2.2.2.1 r3.1).bind fun t4 =>
  some (t4, r3.2.1, y2.2.1, y2.2.2.1, y2.2.2.2.1, y2.2.2.2.2.1, y2.2.2.2.2.2.1, y2.2.2.2.2.2.2.1, r3.2.2.1, r3.2.2.2, y2.2.2.2.2.2.2.2.2.2)
def fX7_chain (a_shelfNodes : Nat → Int32) (a_shelfTree : Nat → Int32) (a_all : Nat → Int32) (a_parent : Nat → Int32) (a_left : Nat → Int32) (a_right : Nat → Int32) (a_leftSize : Nat → Int32) (a_above : Nat → Int32) (a_dist : Nat → Int32) (a_queue : Nat → Int32) (s_nodes : Int32) (s_tree : Int32) (s_many : Int32) (s_tableOf : Int32) (s_read : Int32) (v1 : Int32) (v2 : Int32) : Option (Int32 × (Nat → Int32) × (Nat → Int32) × (Nat → Int32) × (Nat → Int32) × (Nat → Int32) × (Nat → Int32) × (Nat → Int32) × (Nat → Int32) × Int32 × Int32 × Int32) :=
  (fX7_isShelf v1).bind fun r1 =>
  if r1 = nI 0 then
    some ((-1 : Int32), a_all, a_parent, a_left, a_right, a_leftSize, a_above, a_dist, a_queue, s_many, s_tableOf, s_read)
  else
    (fX7_in (v2.toInt64) (0 : Int64) (1 : Int64)).bind fun r2 =>
    if r2 = nI 0 then
      some ((-1 : Int32), a_all, a_parent, a_left, a_right, a_leftSize, a_above, a_dist, a_queue, s_many, s_tableOf, s_read)
    else
      (fX7_barOf a_shelfNodes s_nodes v1).bind fun r3 =>
      if r3 = nI 0 then
        (rd 4 a_shelfTree v1).bind fun t4 =>
        (fX7_isBelow s_tree t4 s_nodes).bind fun r5 =>
        if r5 = nI 0 then
          some ((-5 : Int32), a_all, a_parent, a_left, a_right, a_leftSize, a_above, a_dist, a_queue, s_many, s_tableOf, s_read)
        else
          (fX7_table a_all s_many s_tableOf s_nodes).bind fun r6 =>
          if v2 = (nI 1) then
            (rd 4 a_shelfTree v1).bind fun t11 =>
            (fX7_longest r6.1 a_parent a_left a_right a_leftSize a_above a_queue s_nodes s_tree r6.2.1 r6.2.2 s_read t11).bind fun r12 =>
            some (r12.1, r12.2.1, r12.2.2.1, r12.2.2.2.1, r12.2.2.2.2.1, r12.2.2.2.2.2.1, r12.2.2.2.2.2.2.1, a_dist, r12.2.2.2.2.2.2.2.1, r12.2.2.2.2.2.2.2.2.1, r12.2.2.2.2.2.2.2.2.2.1, r12.2.2.2.2.2.2.2.2.2.2)
          else
            (fX7_measure r6.1 a_parent a_left a_right a_leftSize a_above a_dist a_queue s_nodes r6.2.1 r6.2.2 s_read s_tree (nI 1)).bind fun r7 =>
            (rd 4 a_shelfTree v1).bind fun t8 =>
            (fX7_numberOf r7.1 r7.2.2.2.2.2.2.2.2.1 r7.2.2.2.2.2.2.2.2.2.1 t8 s_nodes).bind fun r9 =>
            (rd 429 r7.2.2.2.2.2.2.1 r9.1).bind fun t10 =>
            some (t10, r9.2.1, r7.2.1, r7.2.2.1, r7.2.2.2.1, r7.2.2.2.2.1, r7.2.2.2.2.2.1, r7.2.2.2.2.2.2.1, r7.2.2.2.2.2.2.2.1, r9.2.2.1, r9.2.2.2, r7.2.2.2.2.2.2.2.2.2.2)
      else
        some (r3, a_all, a_parent, a_left, a_right, a_leftSize, a_above, a_dist, a_queue, s_many, s_tableOf, s_read)
def fX7_mark_J190 (a_all : Nat → Int32) (a_marks : Nat → Int32) (s_nodes : Int32) (s_tree : Int32) (s_many : Int32) (v3 : Int32) (v4 : Int32)  : Option ((Int32 × (Nat → Int32)) ⊕ (Nat → Int32)) :=
  some (.inl ((v4 + nI 1), a_marks))
def fX7_mark_J184 (a_all : Nat → Int32) (a_marks : Nat → Int32) (s_nodes : Int32) (s_tree : Int32) (v3 : Int32) (v4 : Int32) (v5 : Int32)  : Option ((Int32 × (Nat → Int32)) ⊕ (Nat → Int32)) :=
  some (.inl ((v5 + nI 1), a_marks))
def fX7_mark_B135 (a_all : Nat → Int32) (s_nodes : Int32) (s_tree : Int32) (v3 : Int32) (v4 : Int32) (x : (Int32 × (Nat → Int32))) : Option ((Int32 × (Nat → Int32)) ⊕ (Nat → Int32)) :=
  if v4 ≤ x.1 then
    some (.inr x.2)
  else
    (rd 429 a_all x.1).bind fun t1 =>
    (rd 429 a_all v4).bind fun t2 =>
    (fX7_isBetween s_nodes t1 s_tree t2).bind fun r3 =>
    if r3 = nI 0 then
      fX7_mark_J184 a_all x.2 s_nodes s_tree v3 v4 x.1
    else
      (rd 429 x.2 v4).bind fun t4 =>
      (rd 429 x.2 x.1).bind fun t5 =>
      (wr 429 x.2 v4 (t4 - t5)).bind fun u6 =>
      fX7_mark_J184 a_all u6 s_nodes s_tree v3 v4 x.1
def fX7_mark_J95 (a_all : Nat → Int32) (a_marks : Nat → Int32) (s_nodes : Int32) (s_tree : Int32) (s_many : Int32) (v3 : Int32) (v4 : Int32) (k0 : Int32) (k1 : Int32) : Option ((Int32 × (Nat → Int32)) ⊕ (Nat → Int32)) :=
  (wr 429 a_marks k1 k0).bind fun u1 =>
  (rd 429 a_all v4).bind fun t2 =>
  if t2 = s_tree then
    fX7_mark_J190 a_all u1 s_nodes s_tree s_many v3 v4
  else
    (rd 429 a_all v4).bind fun t3 =>
    (fX7_isBetween s_nodes t3 s_tree v3).bind fun r4 =>
    if r4 = nI 0 then
      fX7_mark_J190 a_all u1 s_nodes s_tree s_many v3 v4
    else
      (it (fX7_mark_B135 a_all s_nodes s_tree v3 v4) FU ((nI 0), u1)).bind fun y5 =>
      fX7_mark_J190 a_all y5 s_nodes s_tree s_many v3 v4
def fX7_mark_B61 (a_all : Nat → Int32) (s_nodes : Int32) (s_tree : Int32) (s_many : Int32) (v3 : Int32) (x : (Int32 × (Nat → Int32))) : Option ((Int32 × (Nat → Int32)) ⊕ (Nat → Int32)) :=
  if s_many ≤ x.1 then
    some (.inr x.2)
  else
    (rd 429 a_all x.1).bind fun t1 =>
    if t1 = s_tree then
      fX7_mark_J95 a_all x.2 s_nodes s_tree s_many v3 x.1 (nI 1) x.1
    else
      fX7_mark_J95 a_all x.2 s_nodes s_tree s_many v3 x.1 (nI 0) x.1
def fX7_mark (a_shelfNodes : Nat → Int32) (a_shelfTree : Nat → Int32) (a_all : Nat → Int32) (a_marks : Nat → Int32) (s_nodes : Int32) (s_tree : Int32) (s_many : Int32) (s_tableOf : Int32) (v1 : Int32) : Option (Int32 × (Nat → Int32) × (Nat → Int32) × Int32 × Int32) :=
  (fX7_isShelf v1).bind fun r1 =>
  if r1 = nI 0 then
    some ((-99 : Int32), a_all, a_marks, s_many, s_tableOf)
  else
    (fX7_barOf a_shelfNodes s_nodes v1).bind fun r2 =>
    if r2 = nI 0 then
      (rd 4 a_shelfTree v1).bind fun t3 =>
      (fX7_isBelow s_tree t3 s_nodes).bind fun r4 =>
      if r4 = nI 0 then
        some ((-95 : Int32), a_all, a_marks, s_many, s_tableOf)
      else
        (fX7_table a_all s_many s_tableOf s_nodes).bind fun r5 =>
        (it (fX7_mark_B61 r5.1 s_nodes s_tree r5.2.1 t3) FU ((nI 0), a_marks)).bind fun y6 =>
        (fX7_numberOf r5.1 r5.2.1 r5.2.2 t3 s_nodes).bind fun r7 =>
        (rd 429 y6 r7.1).bind fun t8 =>
        some (t8, r7.2.1, y6, r7.2.2.1, r7.2.2.2)
    else
      some (((-100 : Int32) - r2), a_all, a_marks, s_many, s_tableOf)
def fX7_pairs_J67 (a_all : Nat → Int32) (s_many : Int32) (v1 : Int32) (v2 : Int32) (v3 : Int32) (v4 : Int32)  : Option ((Int32 × Int32) ⊕ Int32) :=
  some (.inl (v2, (v4 + nI 1)))
def fX7_pairs_B35 (a_all : Nat → Int32) (s_many : Int32) (v1 : Int32) (v3 : Int32) (x : (Int32 × Int32)) : Option ((Int32 × Int32) ⊕ Int32) :=
  if s_many ≤ x.2 then
    some (.inr x.1)
  else
    (rd 429 a_all v3).bind fun t1 =>
    (rd 429 a_all x.2).bind fun t2 =>
    (fX7_isBelow t1 t2 v1).bind fun r3 =>
    if r3 = nI 0 then
      fX7_pairs_J67 a_all s_many v1 x.1 v3 x.2
    else
      fX7_pairs_J67 a_all s_many v1 (x.1 + nI 1) v3 x.2
def fX7_pairs_B24 (a_all : Nat → Int32) (s_many : Int32) (v1 : Int32) (x : (Int32 × Int32)) : Option ((Int32 × Int32) ⊕ Int32) :=
  if s_many ≤ x.2 then
    some (.inr x.1)
  else
    (it (fX7_pairs_B35 a_all s_many v1 x.2) FU (x.1, x.2)).bind fun y1 =>
    some (.inl (y1, (x.2 + nI 1)))
def fX7_pairs (a_all : Nat → Int32) (s_many : Int32) (s_tableOf : Int32) (v1 : Int32) : Option (Int32 × (Nat → Int32) × Int32 × Int32) :=
  (fX7_in (v1.toInt64) (1 : Int64) (6 : Int64)).bind fun r1 =>
  if r1 = nI 0 then
    some ((-2 : Int32), a_all, s_many, s_tableOf)
  else
    (fX7_table a_all s_many s_tableOf v1).bind fun r2 =>
    (it (fX7_pairs_B24 r2.1 r2.2.1 v1) FU ((nI 0), (nI 0))).bind fun y3 =>
    some (y3, r2.1, r2.2.1, r2.2.2)
def fX7_far_J90 (a_dist : Nat → Int32) (s_many : Int32) (v1 : Int32) (v2 : Int32) (v3 : Int32) (v4 : Int32) (v5 : Int32)  : Option ((Int32 × Int32 × Int32 × Int32) ⊕ (Int32 × Int32 × Int32)) :=
  some (.inl (v2, v3, v4, (v5 + nI 1)))
def fX7_far_J87 (a_dist : Nat → Int32) (s_many : Int32) (v1 : Int32) (v2 : Int32) (v3 : Int32) (v4 : Int32) (v5 : Int32)  : Option ((Int32 × Int32 × Int32 × Int32) ⊕ (Int32 × Int32 × Int32)) :=
  fX7_far_J90 a_dist s_many v1 v2 (v3 + nI 1) v4 v5
def fX7_far_J73 (a_dist : Nat → Int32) (s_many : Int32) (v1 : Int32) (v5 : Int32)  : Option ((Int32 × Int32 × Int32 × Int32) ⊕ (Int32 × Int32 × Int32)) :=
  (rd 429 a_dist v5).bind fun t1 =>
  fX7_far_J87 a_dist s_many v1 t1 (nI 0) v5 v5
def fX7_far_B33 (a_dist : Nat → Int32) (s_many : Int32) (v1 : Int32) (x : (Int32 × Int32 × Int32 × Int32)) : Option ((Int32 × Int32 × Int32 × Int32) ⊕ (Int32 × Int32 × Int32)) :=
  if s_many ≤ x.2.2.2 then
    some (.inr (x.1, x.2.1, x.2.2.1))
  else
    (rd 429 a_dist x.2.2.2).bind fun t1 =>
    if x.1 ≤ t1 then
      (rd 429 a_dist x.2.2.2).bind fun t2 =>
      if x.1 < t2 then
        fX7_far_J73 a_dist s_many v1 x.2.2.2
      else
        if x.2.2.1 = (-1 : Int32) then
          fX7_far_J73 a_dist s_many v1 x.2.2.2
        else
          fX7_far_J87 a_dist s_many v1 x.1 x.2.1 x.2.2.1 x.2.2.2
    else
      fX7_far_J90 a_dist s_many v1 x.1 x.2.1 x.2.2.1 x.2.2.2
def fX7_far (a_all : Nat → Int32) (a_parent : Nat → Int32) (a_left : Nat → Int32) (a_right : Nat → Int32) (a_leftSize : Nat → Int32) (a_above : Nat → Int32) (a_dist : Nat → Int32) (a_queue : Nat → Int32) (s_nodes : Int32) (s_tree : Int32) (s_many : Int32) (s_tableOf : Int32) (s_read : Int32) (v1 : Int32) : Option (Int32 × (Nat → Int32) × (Nat → Int32) × (Nat → Int32) × (Nat → Int32) × (Nat → Int32) × (Nat → Int32) × (Nat → Int32) × (Nat → Int32) × Int32 × Int32 × Int32) :=
  (fX7_in (v1.toInt64) (0 : Int64) (2 : Int64)).bind fun r1 =>
  if r1 = nI 0 then
    some ((-1 : Int32), a_all, a_parent, a_left, a_right, a_leftSize, a_above, a_dist, a_queue, s_many, s_tableOf, s_read)
  else
    (fX7_measure a_all a_parent a_left a_right a_leftSize a_above a_dist a_queue s_nodes s_many s_tableOf s_read s_tree (nI 0)).bind fun r2 =>
    (it (fX7_far_B33 r2.2.2.2.2.2.2.1 r2.2.2.2.2.2.2.2.2.1 v1) FU ((nI 0), (nI 0), (-1 : Int32), (nI 0))).bind fun y3 =>
    if v1 = nI 0 then
      some (y3.1, r2.1, r2.2.1, r2.2.2.1, r2.2.2.2.1, r2.2.2.2.2.1, r2.2.2.2.2.2.1, r2.2.2.2.2.2.2.1, r2.2.2.2.2.2.2.2.1, r2.2.2.2.2.2.2.2.2.1, r2.2.2.2.2.2.2.2.2.2.1, r2.2.2.2.2.2.2.2.2.2.2)
    else
      if v1 = (nI 1) then
        some (y3.2.1, r2.1, r2.2.1, r2.2.2.1, r2.2.2.2.1, r2.2.2.2.2.1, r2.2.2.2.2.2.1, r2.2.2.2.2.2.2.1, r2.2.2.2.2.2.2.2.1, r2.2.2.2.2.2.2.2.2.1, r2.2.2.2.2.2.2.2.2.2.1, r2.2.2.2.2.2.2.2.2.2.2)
      else
        some (y3.2.2, r2.1, r2.2.1, r2.2.2.1, r2.2.2.2.1, r2.2.2.2.2.1, r2.2.2.2.2.2.1, r2.2.2.2.2.2.2.1, r2.2.2.2.2.2.2.2.1, r2.2.2.2.2.2.2.2.2.1, r2.2.2.2.2.2.2.2.2.2.1, r2.2.2.2.2.2.2.2.2.2.2)
def fX7_canopyOf_J26  (v0 : Int32) (v1 : Int32) (v2 : Int32) (v3 : Int32)  : Option ((Int32 × Int32) ⊕ Int32) :=
  some (.inl (v2, (v3 + nI 1)))
def fX7_canopyOf_B4  (v0 : Int32) (v1 : Int32) (x : (Int32 × Int32)) : Option ((Int32 × Int32) ⊕ Int32) :=
  if (v1 - (nI 1)) ≤ x.2 then
    some (.inr x.1)
  else
    (fX7_at v0 v1 x.2).bind fun r1 =>
    if r1 ≤ nI 0 then
      fX7_canopyOf_J26 v0 v1 x.1 x.2
    else
      fX7_canopyOf_J26 v0 v1 (x.1 ||| ((nI 1) <<< (x.2 &&& 31))) x.2
def fX7_canopyOf  (v0 : Int32) (v1 : Int32) : Option Int32 :=
  (it (fX7_canopyOf_B4 v0 v1) FU ((nI 0), (nI 0))).bind fun y1 =>
  some y1
def fX7_canopy (s_nodes : Int32) (s_tree : Int32)  : Option Int32 :=
  (fX7_canopyOf s_tree s_nodes).bind fun r1 =>
  some r1
def fX7_inClass_J101 (a_all : Nat → Int32) (s_nodes : Int32) (s_many : Int32) (v1 : Int32) (v2 : Int32) (v3 : Int32) (v4 : Int32) (v5 : Int32) (v6 : Int32)  : Option ((Int32 × Int32 × Int32 × Int32) ⊕ (Int32 × Int32 × Int32)) :=
  some (.inl (v3, v4, v5, (v6 + nI 1)))
def fX7_inClass_J94 (a_all : Nat → Int32) (s_nodes : Int32) (s_many : Int32) (v1 : Int32) (v2 : Int32) (v3 : Int32) (v4 : Int32) (v6 : Int32)  : Option ((Int32 × Int32 × Int32 × Int32) ⊕ (Int32 × Int32 × Int32)) :=
  fX7_inClass_J101 a_all s_nodes s_many v1 v2 (v3 + nI 1) v4 v6 v6
def fX7_inClass_B56 (a_all : Nat → Int32) (s_nodes : Int32) (s_many : Int32) (v1 : Int32) (v2 : Int32) (x : (Int32 × Int32 × Int32 × Int32)) : Option ((Int32 × Int32 × Int32 × Int32) ⊕ (Int32 × Int32 × Int32)) :=
  if s_many ≤ x.2.2.2 then
    some (.inr (x.1, x.2.1, x.2.2.1))
  else
    (rd 429 a_all x.2.2.2).bind fun t1 =>
    (fX7_canopyOf t1 s_nodes).bind fun r2 =>
    if r2 = v1 then
      if x.1 = nI 0 then
        fX7_inClass_J94 a_all s_nodes s_many v1 v2 x.1 x.2.2.2 x.2.2.2
      else
        fX7_inClass_J94 a_all s_nodes s_many v1 v2 x.1 x.2.1 x.2.2.2
    else
      fX7_inClass_J101 a_all s_nodes s_many v1 v2 x.1 x.2.1 x.2.2.1 x.2.2.2
def fX7_inClass (a_all : Nat → Int32) (s_nodes : Int32) (s_many : Int32) (s_tableOf : Int32) (v1 : Int32) (v2 : Int32) : Option (Int32 × (Nat → Int32) × Int32 × Int32) :=
  (fX7_in (v1.toInt64) (0 : Int64) (((((nI 1) <<< ((s_nodes - (nI 1)) &&& 31)) - (nI 1))).toInt64)).bind fun r1 =>
  if r1 = nI 0 then
    some ((-2 : Int32), a_all, s_many, s_tableOf)
  else
    (fX7_in (v2.toInt64) (0 : Int64) (2 : Int64)).bind fun r2 =>
    if r2 = nI 0 then
      some ((-1 : Int32), a_all, s_many, s_tableOf)
    else
      (fX7_table a_all s_many s_tableOf s_nodes).bind fun r3 =>
      (it (fX7_inClass_B56 r3.1 s_nodes r3.2.1 v1 v2) FU ((nI 0), (-1 : Int32), (-1 : Int32), (nI 0))).bind fun y4 =>
      if v2 = nI 0 then
        some (y4.1, r3.1, r3.2.1, r3.2.2)
      else
        if v2 = (nI 1) then
          some (y4.2.1, r3.1, r3.2.1, r3.2.2)
        else
          some (y4.2.2, r3.1, r3.2.1, r3.2.2)
def fX7_likeness (a_shelfNodes : Nat → Int32) (a_shelfTree : Nat → Int32) (s_nodes : Int32) (s_tree : Int32) (v1 : Int32) : Option Int32 :=
  (fX7_isShelf v1).bind fun r1 =>
  if r1 = nI 0 then
    some (-1 : Int32)
  else
    (fX7_barOf a_shelfNodes s_nodes v1).bind fun r2 =>
    if r2 = nI 0 then
      (fX7_canopy s_nodes s_tree).bind fun r3 =>
      (rd 4 a_shelfTree v1).bind fun t4 =>
      (fX7_canopyOf t4 s_nodes).bind fun r5 =>
      (fJ0_bitCount (r3 ^^^ r5)).bind fun r6 =>
      some r6
    else
      some r2
def fX7_keep (a_shelfNodes : Nat → Int32) (a_shelfTree : Nat → Int32) (a_all : Nat → Int32) (s_nodes : Int32) (s_tree : Int32) (s_many : Int32) (s_tableOf : Int32) (v1 : Int32) : Option (Int32 × (Nat → Int32) × (Nat → Int32) × (Nat → Int32) × Int32 × Int32) :=
  (fX7_isShelf v1).bind fun r1 =>
  if r1 = nI 0 then
    some ((-1 : Int32), a_shelfNodes, a_shelfTree, a_all, s_many, s_tableOf)
  else
    (wr 4 a_shelfNodes v1 s_nodes).bind fun u2 =>
    (wr 4 a_shelfTree v1 s_tree).bind fun u3 =>
    (fX7_which a_all s_nodes s_tree s_many s_tableOf).bind fun r4 =>
    some (r4.1, u2, u3, r4.2.1, r4.2.2.1, r4.2.2.2)
def fX7_lay (a_shelfNodes : Nat → Int32) (a_shelfTree : Nat → Int32) (a_stepNodes : Nat → Int32) (a_stepTree : Nat → Int32) (s_nodes : Int32) (s_tree : Int32) (s_steps : Int32) (v1 : Int32) : Option (Int32 × (Nat → Int32) × (Nat → Int32) × Int32 × Int32 × Int32) :=
  (fX7_isShelf v1).bind fun r1 =>
  if r1 = nI 0 then
    some ((-1 : Int32), a_stepNodes, a_stepTree, s_nodes, s_tree, s_steps)
  else
    (rd 4 a_shelfNodes v1).bind fun t2 =>
    if t2 = nI 0 then
      some ((-6 : Int32), a_stepNodes, a_stepTree, s_nodes, s_tree, s_steps)
    else
      (rd 4 a_shelfNodes v1).bind fun t3 =>
      (rd 4 a_shelfTree v1).bind fun t4 =>
      (fX7_becomes a_stepNodes a_stepTree s_nodes s_tree s_steps t3 t4).bind fun r5 =>
      some (r5.2.2.1, r5.1, r5.2.1, r5.2.2.1, r5.2.2.2.1, r5.2.2.2.2)
def fX7_lose (a_shelfNodes : Nat → Int32) (v1 : Int32) : Option (Int32 × (Nat → Int32)) :=
  (fX7_isShelf v1).bind fun r1 =>
  if r1 = nI 0 then
    some ((-1 : Int32), a_shelfNodes)
  else
    (rd 4 a_shelfNodes v1).bind fun t2 =>
    if t2 = nI 0 then
      some ((-6 : Int32), a_shelfNodes)
    else
      (rd 4 a_shelfNodes v1).bind fun t3 =>
      (wr 4 a_shelfNodes v1 (nI 0)).bind fun u4 =>
      some (t3, u4)
def fX7_over (a_shelfNodes : Nat → Int32) (a_shelfTree : Nat → Int32) (a_stepNodes : Nat → Int32) (a_stepTree : Nat → Int32) (s_nodes : Int32) (s_tree : Int32) (s_steps : Int32) (v1 : Int32) : Option (Int32 × (Nat → Int32) × (Nat → Int32) × Int32 × Int32 × Int32) :=
  (fX7_isShelf v1).bind fun r1 =>
  if r1 = nI 0 then
    some ((-1 : Int32), a_stepNodes, a_stepTree, s_nodes, s_tree, s_steps)
  else
    (rd 4 a_shelfNodes v1).bind fun t2 =>
    if t2 = nI 0 then
      some ((-6 : Int32), a_stepNodes, a_stepTree, s_nodes, s_tree, s_steps)
    else
      (rd 4 a_shelfNodes v1).bind fun t3 =>
      if (t3 + s_nodes) ≤ (nI 7) then
        (rd 4 a_shelfNodes v1).bind fun t4 =>
        (rd 4 a_shelfTree v1).bind fun t5 =>
        (fX7_ten s_nodes).bind fun r6 =>
        (fX7_becomes a_stepNodes a_stepTree s_nodes s_tree s_steps (t4 + s_nodes) ((t5 * r6) + s_tree)).bind fun r7 =>
        some (r7.2.2.1, r7.1, r7.2.1, r7.2.2.1, r7.2.2.2.1, r7.2.2.2.2)
      else
        some ((-4 : Int32), a_stepNodes, a_stepTree, s_nodes, s_tree, s_steps)
def fX7_under_J105 (s_nodes : Int32) (s_tree : Int32) (v1 : Int32) (v2 : Int32) (v3 : Int32) (v4 : Int32)  : Option ((Int32 × Int32) ⊕ Int32) :=
  some (.inl (v3, (v4 + nI 1)))
def fX7_under_B45 (s_nodes : Int32) (s_tree : Int32) (v1 : Int32) (v2 : Int32) (x : (Int32 × Int32)) : Option ((Int32 × Int32) ⊕ Int32) :=
  if s_nodes ≤ x.2 then
    some (.inr x.1)
  else
    (fX7_at s_tree s_nodes x.2).bind fun r1 =>
    if (x.2 + r1) = (s_nodes - (nI 1)) then
      (fX7_at s_tree s_nodes x.2).bind fun r2 =>
      (fX7_with x.1 s_nodes x.2 (r2 + v2)).bind fun r3 =>
      fX7_under_J105 s_nodes s_tree v1 v2 r3 x.2
    else
      fX7_under_J105 s_nodes s_tree v1 v2 x.1 x.2
def fX7_under (a_shelfNodes : Nat → Int32) (a_shelfTree : Nat → Int32) (a_stepNodes : Nat → Int32) (a_stepTree : Nat → Int32) (s_nodes : Int32) (s_tree : Int32) (s_steps : Int32) (v1 : Int32) : Option (Int32 × (Nat → Int32) × (Nat → Int32) × Int32 × Int32 × Int32) :=
  (fX7_isShelf v1).bind fun r1 =>
  if r1 = nI 0 then
    some ((-1 : Int32), a_stepNodes, a_stepTree, s_nodes, s_tree, s_steps)
  else
    (rd 4 a_shelfNodes v1).bind fun t2 =>
    if t2 = nI 0 then
      some ((-6 : Int32), a_stepNodes, a_stepTree, s_nodes, s_tree, s_steps)
    else
      if (t2 + s_nodes) ≤ (nI 7) then
        (it (fX7_under_B45 s_nodes s_tree v1 t2) FU (s_tree, (nI 0))).bind fun y3 =>
        (fX7_ten t2).bind fun r4 =>
        (rd 4 a_shelfTree v1).bind fun t5 =>
        (fX7_becomes a_stepNodes a_stepTree s_nodes s_tree s_steps (s_nodes + t2) ((y3 * r4) + t5)).bind fun r6 =>
        some (r6.2.2.1, r6.1, r6.2.1, r6.2.2.1, r6.2.2.2.1, r6.2.2.2.2)
      else
        some ((-4 : Int32), a_stepNodes, a_stepTree, s_nodes, s_tree, s_steps)
def fX7_shelf (a_shelfNodes : Nat → Int32) (a_shelfTree : Nat → Int32) (a_all : Nat → Int32) (s_many : Int32) (s_tableOf : Int32) (v1 : Int32) (v2 : Int32) : Option (Int32 × (Nat → Int32) × Int32 × Int32) :=
  (fX7_isShelf v1).bind fun r1 =>
  if r1 = nI 0 then
    some ((-1 : Int32), a_all, s_many, s_tableOf)
  else
    (fX7_in (v2.toInt64) (0 : Int64) (2 : Int64)).bind fun r2 =>
    if r2 = nI 0 then
      some ((-1 : Int32), a_all, s_many, s_tableOf)
    else
      (rd 4 a_shelfNodes v1).bind fun t3 =>
      if t3 = nI 0 then
        some ((-6 : Int32), a_all, s_many, s_tableOf)
      else
        if v2 = nI 0 then
          (rd 4 a_shelfNodes v1).bind fun t8 =>
          some (t8, a_all, s_many, s_tableOf)
        else
          if v2 = (nI 1) then
            (rd 4 a_shelfTree v1).bind fun t5 =>
            (rd 4 a_shelfNodes v1).bind fun t6 =>
            (fX7_numberOf a_all s_many s_tableOf t5 t6).bind fun r7 =>
            some (r7.1, r7.2.1, r7.2.2.1, r7.2.2.2)
          else
            (rd 4 a_shelfTree v1).bind fun t4 =>
            some (t4, a_all, s_many, s_tableOf)
def fX7_isList  (v0 : Int32) : Option Int32 :=
  (fX7_in (v0.toInt64) (0 : Int64) (2 : Int64)).bind fun r1 =>
  (zro r1).bind fun z2 =>
  some z2
def fX7_makes_B9  (v1 : Int32) (x : (Int32 × (Nat → Nat → Int64))) : Option ((Int32 × (Nat → Nat → Int64)) ⊕ (Nat → Nat → Int64)) :=
  if (nI 20) ≤ x.1 then
    some (.inr x.2)
  else
    (wrL 60 (x.2 0) (((nI 20) * v1) + x.1) (0 : Int64)).bind fun u1 =>
    some (.inl ((x.1 + nI 1), (pu x.2 [(0, u1)])))
def fX7_makes (a_listSize : Nat → Int32) (lo : Nat → Nat → Int64) (v1 : Int32) (v2 : Int32) : Option ((Nat → Int32) × (Nat → Nat → Int64)) :=
  (wr 3 a_listSize v1 v2).bind fun u1 =>
  (it (fX7_makes_B9 v1) FU ((nI 0), lo)).bind fun y2 =>
  some (u1, y2)
def fX7_list (a_listSize : Nat → Int32) (lo : Nat → Nat → Int64) (v1 : Int32) (v2 : Int32) : Option (Int32 × (Nat → Int32) × (Nat → Nat → Int64)) :=
  (fX7_isList v1).bind fun r1 =>
  if r1 = nI 0 then
    some ((-1 : Int32), a_listSize, lo)
  else
    if v2 ≤ (nI 20) then
      if (-1 : Int32) ≤ v2 then
        (fX7_makes a_listSize lo v1 v2).bind fun r2 =>
        some ((nI 1), r2.1, r2.2)
      else
        some ((-14 : Int32), a_listSize, lo)
    else
      some ((-2 : Int32), a_listSize, lo)
def fX7_put (a_listSize : Nat → Int32) (lo : Nat → Nat → Int64) (v1 : Int32) (v2 : Int32) (v3 : Int64) : Option (Int32 × (Nat → Nat → Int64)) :=
  (fX7_isList v1).bind fun r1 =>
  if r1 = nI 0 then
    some ((-1 : Int32), lo)
  else
    (rd 3 a_listSize v1).bind fun t2 =>
    if nI 0 ≤ t2 then
      (rd 3 a_listSize v1).bind fun t3 =>
      (fX7_in (v2.toInt64) (0 : Int64) (((t3 - (nI 1))).toInt64)).bind fun r4 =>
      if r4 = nI 0 then
        some ((-13 : Int32), lo)
      else
        (wrL 60 (lo 0) (((nI 20) * v1) + v2) v3).bind fun u5 =>
        some ((nI 1), (pu lo [(0, u5)]))
    else
      some ((-11 : Int32), lo)
def fX7_get (a_listSize : Nat → Int32) (lo : Nat → Nat → Int64) (v1 : Int32) (v2 : Int32) : Option Int64 :=
  (fX7_isList v1).bind fun r1 =>
  if r1 = nI 0 then
    some (-9223372036854775808 : Int64)
  else
    (rd 3 a_listSize v1).bind fun t2 =>
    (fX7_in (v2.toInt64) (0 : Int64) (((t2 - (nI 1))).toInt64)).bind fun r3 =>
    if r3 = nI 0 then
      some (-9223372036854775808 : Int64)
    else
      (rd 60 (lo 0) (((nI 20) * v1) + v2)).bind fun t4 =>
      some t4
def fX7_play_J108 (a_stepNodes : Nat → Int32) (a_stepTree : Nat → Int32) (a_listSize : Nat → Int32) (a_parent : Nat → Int32) (a_left : Nat → Int32) (a_right : Nat → Int32) (a_leftSize : Nat → Int32) (a_above : Nat → Int32) (lo : Nat → Nat → Int64) (s_nodes : Int32) (s_tree : Int32) (s_steps : Int32) (s_read : Int32) (v1 : Int32) (v2 : Int32) (k0 : Int32) : Option ((Int32 × (Nat → Int32) × (Nat → Int32) × (Nat → Int32) × (Nat → Int32) × (Nat → Int32) × (Nat → Int32) × (Nat → Int32) × Int32 × Int32 × Int32 × Int32) ⊕ (((Nat → Int32) × (Nat → Int32) × (Nat → Int32) × (Nat → Int32) × (Nat → Int32) × (Nat → Int32) × (Nat → Int32) × Int32 × Int32 × Int32 × Int32) ⊕ (Int32 × (Nat → Int32) × (Nat → Int32) × (Nat → Int32) × (Nat → Int32) × (Nat → Int32) × (Nat → Int32) × (Nat → Int32) × Int32 × Int32 × Int32 × Int32))) :=
  if k0 = (-5 : Int32) then
    some (.inr (.inr (v2, a_stepNodes, a_stepTree, a_parent, a_left, a_right, a_leftSize, a_above, s_nodes, s_tree, s_steps, s_read)))
  else
    (fX7_becomes a_stepNodes a_stepTree s_nodes s_tree s_steps s_nodes k0).bind fun r1 =>
    some (.inl ((v2 + nI 1), r1.1, r1.2.1, a_parent, a_left, a_right, a_leftSize, a_above, r1.2.2.1, r1.2.2.2.1, r1.2.2.2.2, s_read))
def fX7_play_B23 (a_listSize : Nat → Int32) (lo : Nat → Nat → Int64) (v1 : Int32) (x : (Int32 × (Nat → Int32) × (Nat → Int32) × (Nat → Int32) × (Nat → Int32) × (Nat → Int32) × (Nat → Int32) × (Nat → Int32) × Int32 × Int32 × Int32 × Int32)) : Option ((Int32 × (Nat → Int32) × (Nat → Int32) × (Nat → Int32) × (Nat → Int32) × (Nat → Int32) × (Nat → Int32) × (Nat → Int32) × Int32 × Int32 × Int32 × Int32) ⊕ (((Nat → Int32) × (Nat → Int32) × (Nat → Int32) × (Nat → Int32) × (Nat → Int32) × (Nat → Int32) × (Nat → Int32) × Int32 × Int32 × Int32 × Int32) ⊕ (Int32 × (Nat → Int32) × (Nat → Int32) × (Nat → Int32) × (Nat → Int32) × (Nat → Int32) × (Nat → Int32) × (Nat → Int32) × Int32 × Int32 × Int32 × Int32))) :=
  (rd 3 a_listSize v1).bind fun t1 =>
  if t1 ≤ x.1 then
    some (.inr (.inl (x.2.1, x.2.2.1, x.2.2.2.1, x.2.2.2.2.1, x.2.2.2.2.2.1, x.2.2.2.2.2.2.1, x.2.2.2.2.2.2.2.1, x.2.2.2.2.2.2.2.2.1, x.2.2.2.2.2.2.2.2.2.1, x.2.2.2.2.2.2.2.2.2.2.1, x.2.2.2.2.2.2.2.2.2.2.2)))
  else
    (rd 60 (lo 0) (((nI 20) * v1) + x.1)).bind fun t2 =>
    (fX7_in t2 (((0 - x.2.2.2.2.2.2.2.2.1)).toInt64) (((x.2.2.2.2.2.2.2.2.1 - (nI 1))).toInt64)).bind fun r3 =>
    if r3 = nI 0 then
      some (.inr (.inr (x.1, x.2.1, x.2.2.1, x.2.2.2.1, x.2.2.2.2.1, x.2.2.2.2.2.1, x.2.2.2.2.2.2.1, x.2.2.2.2.2.2.2.1, x.2.2.2.2.2.2.2.2.1, x.2.2.2.2.2.2.2.2.2.1, x.2.2.2.2.2.2.2.2.2.2.1, x.2.2.2.2.2.2.2.2.2.2.2)))
    else
      if (lg_cmp t2 (0 : Int64)) < nI 0 then
        (fX7_down x.2.2.2.1 x.2.2.2.2.1 x.2.2.2.2.2.1 x.2.2.2.2.2.2.1 x.2.2.2.2.2.2.2.1 x.2.2.2.2.2.2.2.2.2.2.2 x.2.2.2.2.2.2.2.2.2.1 x.2.2.2.2.2.2.2.2.1 ((((-1 : Int64) - t2)).toInt32)).bind fun r4 =>
        fX7_play_J108 x.2.1 x.2.2.1 a_listSize r4.2.1 r4.2.2.1 r4.2.2.2.1 r4.2.2.2.2.1 r4.2.2.2.2.2.1 lo x.2.2.2.2.2.2.2.2.1 x.2.2.2.2.2.2.2.2.2.1 x.2.2.2.2.2.2.2.2.2.2.1 r4.2.2.2.2.2.2 v1 x.1 r4.1
      else
        (fX7_up x.2.2.2.1 x.2.2.2.2.1 x.2.2.2.2.2.1 x.2.2.2.2.2.2.1 x.2.2.2.2.2.2.2.1 x.2.2.2.2.2.2.2.2.2.2.2 x.2.2.2.2.2.2.2.2.2.1 x.2.2.2.2.2.2.2.2.1 ((t2).toInt32)).bind fun r5 =>
        fX7_play_J108 x.2.1 x.2.2.1 a_listSize r5.2.1 r5.2.2.1 r5.2.2.2.1 r5.2.2.2.2.1 r5.2.2.2.2.2.1 lo x.2.2.2.2.2.2.2.2.1 x.2.2.2.2.2.2.2.2.2.1 x.2.2.2.2.2.2.2.2.2.2.1 r5.2.2.2.2.2.2 v1 x.1 r5.1
def fX7_play (a_stepNodes : Nat → Int32) (a_stepTree : Nat → Int32) (a_listSize : Nat → Int32) (a_parent : Nat → Int32) (a_left : Nat → Int32) (a_right : Nat → Int32) (a_leftSize : Nat → Int32) (a_above : Nat → Int32) (lo : Nat → Nat → Int64) (s_nodes : Int32) (s_tree : Int32) (s_steps : Int32) (s_read : Int32) (v1 : Int32) : Option (Int32 × (Nat → Int32) × (Nat → Int32) × (Nat → Int32) × (Nat → Int32) × (Nat → Int32) × (Nat → Int32) × (Nat → Int32) × Int32 × Int32 × Int32 × Int32) :=
  (fX7_isList v1).bind fun r1 =>
  if r1 = nI 0 then
    some ((-1 : Int32), a_stepNodes, a_stepTree, a_parent, a_left, a_right, a_leftSize, a_above, s_nodes, s_tree, s_steps, s_read)
  else
    (rd 3 a_listSize v1).bind fun t2 =>
    if nI 0 ≤ t2 then
      (it (fX7_play_B23 a_listSize lo v1) FU ((nI 0), a_stepNodes, a_stepTree, a_parent, a_left, a_right, a_leftSize, a_above, s_nodes, s_tree, s_steps, s_read)).bind (Sum.elim (fun y3 =>
        (rd 3 a_listSize v1).bind fun t4 =>
        some (t4, y3.1, y3.2.1, y3.2.2.1, y3.2.2.2.1, y3.2.2.2.2.1, y3.2.2.2.2.2.1, y3.2.2.2.2.2.2.1, y3.2.2.2.2.2.2.2.1, y3.2.2.2.2.2.2.2.2.1, y3.2.2.2.2.2.2.2.2.2.1, y3.2.2.2.2.2.2.2.2.2.2)) some)
    else
      some ((-11 : Int32), a_stepNodes, a_stepTree, a_parent, a_left, a_right, a_leftSize, a_above, s_nodes, s_tree, s_steps, s_read)
def fX7_film_J162 (a_all : Nat → Int32) (a_parent : Nat → Int32) (a_left : Nat → Int32) (a_right : Nat → Int32) (a_leftSize : Nat → Int32) (a_above : Nat → Int32) (a_dist : Nat → Int32) (lo : Nat → Nat → Int64) (s_nodes : Int32) (s_many : Int32) (s_tableOf : Int32) (s_read : Int32) (v1 : Int32) (v4 : Int32) (v6 : Int32) (k0 : Int32) : Option ((Int32 × Int32 × (Nat → Int32) × (Nat → Int32) × (Nat → Int32) × (Nat → Int32) × (Nat → Int32) × (Nat → Int32) × (Nat → Nat → Int64) × Int32 × Int32 × Int32) ⊕ ((Nat → Int32) × (Nat → Int32) × (Nat → Int32) × (Nat → Int32) × (Nat → Int32) × (Nat → Int32) × (Nat → Nat → Int64) × Int32 × Int32 × Int32)) :=
  some (.inl (k0, (v6 + nI 1), a_all, a_parent, a_left, a_right, a_leftSize, a_above, lo, s_many, s_tableOf, s_read))
def fX7_film_J127 (a_all : Nat → Int32) (a_parent : Nat → Int32) (a_left : Nat → Int32) (a_right : Nat → Int32) (a_leftSize : Nat → Int32) (a_above : Nat → Int32) (a_dist : Nat → Int32) (lo : Nat → Nat → Int64) (s_nodes : Int32) (s_many : Int32) (s_tableOf : Int32) (s_read : Int32) (v1 : Int32) (v4 : Int32) (v5 : Int32) (v6 : Int32) (v7 : Int32) (v8 : Int32) (k0 : Int64) (k1 : Int32) : Option ((Int32 × Int32 × (Nat → Int32) × (Nat → Int32) × (Nat → Int32) × (Nat → Int32) × (Nat → Int32) × (Nat → Int32) × (Nat → Nat → Int64) × Int32 × Int32 × Int32) ⊕ ((Nat → Int32) × (Nat → Int32) × (Nat → Int32) × (Nat → Int32) × (Nat → Int32) × (Nat → Int32) × (Nat → Nat → Int64) × Int32 × Int32 × Int32)) :=
  (wrL 60 (lo 0) k1 k0).bind fun u1 =>
  if (nI 100) ≤ v7 then
    (fX7_down a_parent a_left a_right a_leftSize a_above s_read v5 s_nodes v8).bind fun r2 =>
    fX7_film_J162 a_all r2.2.1 r2.2.2.1 r2.2.2.2.1 r2.2.2.2.2.1 r2.2.2.2.2.2.1 a_dist (pu lo [(0, u1)]) s_nodes s_many s_tableOf r2.2.2.2.2.2.2 v1 v4 v6 r2.1
  else
    (fX7_up a_parent a_left a_right a_leftSize a_above s_read v5 s_nodes v8).bind fun r3 =>
    fX7_film_J162 a_all r3.2.1 r3.2.2.1 r3.2.2.2.1 r3.2.2.2.2.1 r3.2.2.2.2.2.1 a_dist (pu lo [(0, u1)]) s_nodes s_many s_tableOf r3.2.2.2.2.2.2 v1 v4 v6 r3.1
def fX7_film_B76 (a_dist : Nat → Int32) (s_nodes : Int32) (v1 : Int32) (v4 : Int32) (x : (Int32 × Int32 × (Nat → Int32) × (Nat → Int32) × (Nat → Int32) × (Nat → Int32) × (Nat → Int32) × (Nat → Int32) × (Nat → Nat → Int64) × Int32 × Int32 × Int32)) : Option ((Int32 × Int32 × (Nat → Int32) × (Nat → Int32) × (Nat → Int32) × (Nat → Int32) × (Nat → Int32) × (Nat → Int32) × (Nat → Nat → Int64) × Int32 × Int32 × Int32) ⊕ ((Nat → Int32) × (Nat → Int32) × (Nat → Int32) × (Nat → Int32) × (Nat → Int32) × (Nat → Int32) × (Nat → Nat → Int64) × Int32 × Int32 × Int32)) :=
  if v4 ≤ x.2.1 then
    some (.inr (x.2.2.1, x.2.2.2.1, x.2.2.2.2.1, x.2.2.2.2.2.1, x.2.2.2.2.2.2.1, x.2.2.2.2.2.2.2.1, x.2.2.2.2.2.2.2.2.1, x.2.2.2.2.2.2.2.2.2.1, x.2.2.2.2.2.2.2.2.2.2.1, x.2.2.2.2.2.2.2.2.2.2.2))
  else
    (fX7_firstTurn x.2.2.1 x.2.2.2.1 x.2.2.2.2.1 x.2.2.2.2.2.1 x.2.2.2.2.2.2.1 x.2.2.2.2.2.2.2.1 a_dist s_nodes x.2.2.2.2.2.2.2.2.2.1 x.2.2.2.2.2.2.2.2.2.2.1 x.2.2.2.2.2.2.2.2.2.2.2 x.1).bind fun r1 =>
    (rmo r1.1 (nI 100)).bind fun t2 =>
    if (nI 100) ≤ r1.1 then
      fX7_film_J127 r1.2.1 r1.2.2.1 r1.2.2.2.1 r1.2.2.2.2.1 r1.2.2.2.2.2.1 r1.2.2.2.2.2.2.1 a_dist x.2.2.2.2.2.2.2.2.1 s_nodes r1.2.2.2.2.2.2.2.1 r1.2.2.2.2.2.2.2.2.1 r1.2.2.2.2.2.2.2.2.2 v1 v4 x.1 x.2.1 r1.1 t2 ((((-1 : Int32) - t2)).toInt64) (((nI 20) * v1) + x.2.1)
    else
      fX7_film_J127 r1.2.1 r1.2.2.1 r1.2.2.2.1 r1.2.2.2.2.1 r1.2.2.2.2.2.1 r1.2.2.2.2.2.2.1 a_dist x.2.2.2.2.2.2.2.2.1 s_nodes r1.2.2.2.2.2.2.2.1 r1.2.2.2.2.2.2.2.2.1 r1.2.2.2.2.2.2.2.2.2 v1 v4 x.1 x.2.1 r1.1 t2 (t2.toInt64) (((nI 20) * v1) + x.2.1)
def fX7_film (a_shelfNodes : Nat → Int32) (a_shelfTree : Nat → Int32) (a_listSize : Nat → Int32) (a_all : Nat → Int32) (a_parent : Nat → Int32) (a_left : Nat → Int32) (a_right : Nat → Int32) (a_leftSize : Nat → Int32) (a_above : Nat → Int32) (a_dist : Nat → Int32) (a_queue : Nat → Int32) (lo : Nat → Nat → Int64) (s_nodes : Int32) (s_tree : Int32) (s_many : Int32) (s_tableOf : Int32) (s_read : Int32) (v1 : Int32) (v2 : Int32) : Option (Int32 × (Nat → Int32) × (Nat → Int32) × (Nat → Int32) × (Nat → Int32) × (Nat → Int32) × (Nat → Int32) × (Nat → Int32) × (Nat → Int32) × (Nat → Int32) × (Nat → Nat → Int64) × Int32 × Int32 × Int32) :=
  (fX7_isList v1).bind fun r1 =>
  if r1 = nI 0 then
    some ((-1 : Int32), a_listSize, a_all, a_parent, a_left, a_right, a_leftSize, a_above, a_dist, a_queue, lo, s_many, s_tableOf, s_read)
  else
    (fX7_isShelf v2).bind fun r2 =>
    if r2 = nI 0 then
      some ((-1 : Int32), a_listSize, a_all, a_parent, a_left, a_right, a_leftSize, a_above, a_dist, a_queue, lo, s_many, s_tableOf, s_read)
    else
      (fX7_barOf a_shelfNodes s_nodes v2).bind fun r3 =>
      if r3 = nI 0 then
        (rd 4 a_shelfTree v2).bind fun t4 =>
        (fX7_measure a_all a_parent a_left a_right a_leftSize a_above a_dist a_queue s_nodes s_many s_tableOf s_read t4 (nI 0)).bind fun r5 =>
        (fX7_which r5.1 s_nodes s_tree r5.2.2.2.2.2.2.2.2.1 r5.2.2.2.2.2.2.2.2.2.1).bind fun r6 =>
        (rd 429 r5.2.2.2.2.2.2.1 r6.1).bind fun t7 =>
        if t7 ≤ (nI 20) then
          (fX7_makes a_listSize lo v1 t7).bind fun r8 =>
          (it (fX7_film_B76 r5.2.2.2.2.2.2.1 s_nodes v1 t7) FU (s_tree, (nI 0), r6.2.1, r5.2.1, r5.2.2.1, r5.2.2.2.1, r5.2.2.2.2.1, r5.2.2.2.2.2.1, r8.2, r6.2.2.1, r6.2.2.2, r5.2.2.2.2.2.2.2.2.2.2)).bind fun y9 =>
          some (t7, r8.1, y9.1, y9.2.1, y9.2.2.1, y9.2.2.2.1, y9.2.2.2.2.1, y9.2.2.2.2.2.1, r5.2.2.2.2.2.2.1, r5.2.2.2.2.2.2.2.1, y9.2.2.2.2.2.2.1, y9.2.2.2.2.2.2.2.1, y9.2.2.2.2.2.2.2.2.1, y9.2.2.2.2.2.2.2.2.2)
        else
          some ((-4 : Int32), a_listSize, r6.2.1, r5.2.1, r5.2.2.1, r5.2.2.2.1, r5.2.2.2.2.1, r5.2.2.2.2.2.1, r5.2.2.2.2.2.2.1, r5.2.2.2.2.2.2.2.1, lo, r6.2.2.1, r6.2.2.2, r5.2.2.2.2.2.2.2.2.2.2)
      else
        some (r3, a_listSize, a_all, a_parent, a_left, a_right, a_leftSize, a_above, a_dist, a_queue, lo, s_many, s_tableOf, s_read)
def fX7_feed (a_tape : Nat → Int32) (s_taped : Int32) (v1 : Int32) : Option (Int32 × (Nat → Int32) × Int32) :=
  (fX7_in (v1.toInt64) (32 : Int64) (126 : Int64)).bind fun r1 =>
  if r1 = nI 0 then
    some ((-2 : Int32), a_tape, s_taped)
  else
    if s_taped = (nI 60) then
      some ((-4 : Int32), a_tape, s_taped)
    else
      (wr 60 a_tape s_taped v1).bind fun u2 =>
      some ((s_taped + (nI 1)), u2, (s_taped + (nI 1)))
def fX7_wipe (s_taped : Int32)  : Option (Int32 × Int32) :=
  some (s_taped, (nI 0))
def fX7_sign (a_tape : Nat → Int32) (s_taped : Int32) (s_atp : Int32)  : Option Int32 :=
  if s_taped ≤ s_atp then
    some (-1 : Int32)
  else
    (rd 60 a_tape s_atp).bind fun t1 =>
    some t1
def fX7_sees : Nat → (Nat → Int32) → (Nat → Int32) → Int32 → Int32 → Int32 → Int32 → Int32 → Int32 → Option (Int32 × (Nat → Int32) × Int32 × Int32 × Int32 × Int32)
  | 0, _, _, _, _, _, _, _, _ => none
  | d + 1, a_tape, a_seenRow, s_taped, s_atp, s_seen, s_opn, s_part, v1 =>
    (fX7_sign a_tape s_taped s_atp).bind fun r1 =>
    if r1 = (nI 46) then
      if v1 = nI 0 then
        (fX7_sign a_tape s_taped s_atp).bind fun r7 =>
        if r7 = (nI 40) then
          if s_opn = (nI 7) then
            some ((nI 0), a_seenRow, s_atp, s_seen, s_opn, s_part)
          else
            (fX7_sees d a_tape a_seenRow s_taped (s_atp + (nI 1)) s_seen (s_opn + (nI 1)) s_part (nI 1)).bind fun r8 =>
            if r8.1 = nI 0 then
              some ((nI 0), r8.2.1, r8.2.2.1, r8.2.2.2.1, r8.2.2.2.2.1, r8.2.2.2.2.2)
            else
              (fX7_sees d a_tape r8.2.1 s_taped r8.2.2.1 (r8.2.2.2.1 + (nI 1)) r8.2.2.2.2.1 r8.2.2.2.2.2 (nI 1)).bind fun r9 =>
              if r9.1 = nI 0 then
                some ((nI 0), r9.2.1, r9.2.2.1, r9.2.2.2.1, r9.2.2.2.2.1, r9.2.2.2.2.2)
              else
                (fX7_sign a_tape s_taped r9.2.2.1).bind fun r10 =>
                if r10 = (nI 41) then
                  (wr 7 r9.2.1 r8.2.2.2.1 r9.2.2.2.2.2).bind fun u11 =>
                  some ((nI 1), u11, (r9.2.2.1 + (nI 1)), r9.2.2.2.1, r9.2.2.2.2.1, (r9.2.2.2.2.2 + (r8.2.2.2.2.2 + (nI 1))))
                else
                  some ((nI 0), r9.2.1, r9.2.2.1, r9.2.2.2.1, r9.2.2.2.2.1, r9.2.2.2.2.2)
        else
          some ((nI 0), a_seenRow, s_atp, s_seen, s_opn, s_part)
      else
        some ((nI 1), a_seenRow, (s_atp + (nI 1)), s_seen, s_opn, (nI 0))
    else
      (fX7_sign a_tape s_taped s_atp).bind fun r2 =>
      if r2 = (nI 40) then
        if s_opn = (nI 7) then
          some ((nI 0), a_seenRow, s_atp, s_seen, s_opn, s_part)
        else
          (fX7_sees d a_tape a_seenRow s_taped (s_atp + (nI 1)) s_seen (s_opn + (nI 1)) s_part (nI 1)).bind fun r3 =>
          if r3.1 = nI 0 then
            some ((nI 0), r3.2.1, r3.2.2.1, r3.2.2.2.1, r3.2.2.2.2.1, r3.2.2.2.2.2)
          else
            (fX7_sees d a_tape r3.2.1 s_taped r3.2.2.1 (r3.2.2.2.1 + (nI 1)) r3.2.2.2.2.1 r3.2.2.2.2.2 (nI 1)).bind fun r4 =>
            if r4.1 = nI 0 then
              some ((nI 0), r4.2.1, r4.2.2.1, r4.2.2.2.1, r4.2.2.2.2.1, r4.2.2.2.2.2)
            else
              (fX7_sign a_tape s_taped r4.2.2.1).bind fun r5 =>
              if r5 = (nI 41) then
                (wr 7 r4.2.1 r3.2.2.2.1 r4.2.2.2.2.2).bind fun u6 =>
                some ((nI 1), u6, (r4.2.2.1 + (nI 1)), r4.2.2.2.1, r4.2.2.2.2.1, (r4.2.2.2.2.2 + (r3.2.2.2.2.2 + (nI 1))))
              else
                some ((nI 0), r4.2.1, r4.2.2.1, r4.2.2.2.1, r4.2.2.2.2.1, r4.2.2.2.2.2)
      else
        some ((nI 0), a_seenRow, s_atp, s_seen, s_opn, s_part)
def fX7_read_B61 (a_seenRow : Nat → Int32) (s_seen : Int32)  (x : (Int32 × Int32)) : Option ((Int32 × Int32) ⊕ Int32) :=
  if s_seen ≤ x.2 then
    some (.inr x.1)
  else
    (rd 7 a_seenRow x.2).bind fun t1 =>
    some (.inl ((((nI 10) * x.1) + t1), (x.2 + nI 1)))
def fX7_read_J39 (a_tape : Nat → Int32) (a_seenRow : Nat → Int32) (s_nodes : Int32) (s_tree : Int32) (s_steps : Int32) (s_taped : Int32) (s_atp : Int32) (s_seen : Int32) (s_opn : Int32) (s_part : Int32)  (k0 : Int32) : Option (Int32 × (Nat → Int32) × Int32 × Int32 × Int32 × Int32 × Int32 × Int32 × Int32 × Int32) :=
  if k0 = nI 0 then
    some (((-100 : Int32) - s_atp), a_seenRow, s_nodes, s_tree, s_steps, (nI 0), s_atp, s_seen, s_opn, s_part)
  else
    (it (fX7_read_B61 a_seenRow s_seen) FU ((nI 0), (nI 0))).bind fun y1 =>
    some (s_seen, a_seenRow, s_seen, y1, (nI 0), (nI 0), s_atp, s_seen, s_opn, s_part)
def fX7_read_J38 (a_tape : Nat → Int32) (a_seenRow : Nat → Int32) (s_nodes : Int32) (s_tree : Int32) (s_steps : Int32) (s_taped : Int32) (s_atp : Int32) (s_seen : Int32) (s_opn : Int32) (s_part : Int32)   : Option (Int32 × (Nat → Int32) × Int32 × Int32 × Int32 × Int32 × Int32 × Int32 × Int32 × Int32) :=
  fX7_read_J39 a_tape a_seenRow s_nodes s_tree s_steps s_taped s_atp s_seen s_opn s_part (nI 0)
def fX7_read (a_tape : Nat → Int32) (a_seenRow : Nat → Int32) (s_nodes : Int32) (s_tree : Int32) (s_steps : Int32) (s_taped : Int32) (s_atp : Int32) (s_seen : Int32) (s_opn : Int32) (s_part : Int32)  : Option (Int32 × (Nat → Int32) × Int32 × Int32 × Int32 × Int32 × Int32 × Int32 × Int32 × Int32) :=
  (fX7_sees 16 a_tape a_seenRow s_taped (nI 0) (nI 0) (nI 0) s_part (nI 0)).bind fun r1 =>
  if r1.1 = nI 0 then
    fX7_read_J38 a_tape r1.2.1 s_nodes s_tree s_steps s_taped r1.2.2.1 r1.2.2.2.1 r1.2.2.2.2.1 r1.2.2.2.2.2
  else
    if r1.2.2.1 = s_taped then
      fX7_read_J39 a_tape r1.2.1 s_nodes s_tree s_steps s_taped r1.2.2.1 r1.2.2.2.1 r1.2.2.2.2.1 r1.2.2.2.2.2 (nI 1)
    else
      fX7_read_J38 a_tape r1.2.1 s_nodes s_tree s_steps s_taped r1.2.2.1 r1.2.2.2.1 r1.2.2.2.2.1 r1.2.2.2.2.2
def fX7_write : Nat → (Nat → Int32) → (Nat → Int32) → (Nat → Int32) → Int32 → Int32 → Option ((Nat → Int32) × Int32)
  | 0, _, _, _, _, _ => none
  | d + 1, a_left, a_right, a_text, s_written, v1 =>
    if v1 = (-5 : Int32) then
      (wr 60 a_text s_written (nI 46)).bind fun u7 =>
      some (u7, (s_written + (nI 1)))
    else
      (wr 60 a_text s_written (nI 40)).bind fun u1 =>
      (rd 7 a_left v1).bind fun t2 =>
      (fX7_write d a_left a_right u1 (s_written + (nI 1)) t2).bind fun r3 =>
      (rd 7 a_right v1).bind fun t4 =>
      (fX7_write d a_left a_right r3.1 r3.2 t4).bind fun r5 =>
      (wr 60 r5.1 r5.2 (nI 41)).bind fun u6 =>
      some (u6, (r5.2 + (nI 1)))
def fX7_written (a_parent : Nat → Int32) (a_left : Nat → Int32) (a_right : Nat → Int32) (a_leftSize : Nat → Int32) (a_above : Nat → Int32) (a_text : Nat → Int32) (s_nodes : Int32) (s_tree : Int32) (s_read : Int32) (s_written : Int32) (v1 : Int32) : Option (Int32 × (Nat → Int32) × (Nat → Int32) × (Nat → Int32) × (Nat → Int32) × (Nat → Int32) × (Nat → Int32) × Int32 × Int32) :=
  (fX7_looks a_parent a_left a_right a_leftSize a_above s_read s_tree s_nodes).bind fun r1 =>
  (fX7_write 16 r1.2.1 r1.2.2.1 a_text (nI 0) r1.2.2.2.2.2).bind fun r2 =>
  if v1 = (-1 : Int32) then
    some (r2.2, r1.1, r1.2.1, r1.2.2.1, r1.2.2.2.1, r1.2.2.2.2.1, r2.1, r1.2.2.2.2.2, r2.2)
  else
    (fX7_in (v1.toInt64) (0 : Int64) (((r2.2 - (nI 1))).toInt64)).bind fun r3 =>
    if r3 = nI 0 then
      some ((-1 : Int32), r1.1, r1.2.1, r1.2.2.1, r1.2.2.2.1, r1.2.2.2.2.1, r2.1, r1.2.2.2.2.2, r2.2)
    else
      (rd 60 r2.1 v1).bind fun t4 =>
      some (t4, r1.1, r1.2.1, r1.2.2.1, r1.2.2.2.1, r1.2.2.2.2.1, r2.1, r1.2.2.2.2.2, r2.2)
def fX7_image_B23 (a_shelfNodes : Nat → Int32) (a_shelfTree : Nat → Int32)  (x : (Int32 × (Nat → Int32) × (Nat → Int32))) : Option ((Int32 × (Nat → Int32) × (Nat → Int32)) ⊕ ((Nat → Int32) × (Nat → Int32))) :=
  if (nI 4) ≤ x.1 then
    some (.inr (x.2.1, x.2.2))
  else
    (rd 4 a_shelfNodes x.1).bind fun t1 =>
    (wr 4 x.2.1 x.1 t1).bind fun u2 =>
    (rd 4 a_shelfTree x.1).bind fun t3 =>
    (wr 4 x.2.2 x.1 t3).bind fun u4 =>
    some (.inl ((x.1 + nI 1), u2, u4))
def fX7_image (a_shelfNodes : Nat → Int32) (a_shelfTree : Nat → Int32) (a_imageShelfNodes : Nat → Int32) (a_imageShelfTree : Nat → Int32) (s_nodes : Int32) (s_tree : Int32) (s_imaged : Int32) (s_imageNodes : Int32) (s_imageTree : Int32)  : Option (Int32 × (Nat → Int32) × (Nat → Int32) × Int32 × Int32 × Int32) :=
  (it (fX7_image_B23 a_shelfNodes a_shelfTree) FU ((nI 0), a_imageShelfNodes, a_imageShelfTree)).bind fun y1 =>
  some (s_nodes, y1.1, y1.2, (nI 1), s_nodes, s_tree)
def fX7_undo_B28 (a_imageShelfNodes : Nat → Int32) (a_imageShelfTree : Nat → Int32)  (x : (Int32 × (Nat → Int32) × (Nat → Int32))) : Option ((Int32 × (Nat → Int32) × (Nat → Int32)) ⊕ ((Nat → Int32) × (Nat → Int32))) :=
  if (nI 4) ≤ x.1 then
    some (.inr (x.2.1, x.2.2))
  else
    (rd 4 a_imageShelfNodes x.1).bind fun t1 =>
    (wr 4 x.2.1 x.1 t1).bind fun u2 =>
    (rd 4 a_imageShelfTree x.1).bind fun t3 =>
    (wr 4 x.2.2 x.1 t3).bind fun u4 =>
    some (.inl ((x.1 + nI 1), u2, u4))
def fX7_undo (a_shelfNodes : Nat → Int32) (a_shelfTree : Nat → Int32) (a_imageShelfNodes : Nat → Int32) (a_imageShelfTree : Nat → Int32) (s_nodes : Int32) (s_tree : Int32) (s_steps : Int32) (s_imaged : Int32) (s_imageNodes : Int32) (s_imageTree : Int32)  : Option (Int32 × (Nat → Int32) × (Nat → Int32) × Int32 × Int32 × Int32) :=
  if s_imaged = nI 0 then
    some ((-3 : Int32), a_shelfNodes, a_shelfTree, s_nodes, s_tree, s_steps)
  else
    (it (fX7_undo_B28 a_imageShelfNodes a_imageShelfTree) FU ((nI 0), a_shelfNodes, a_shelfTree)).bind fun y1 =>
    some (s_imageNodes, y1.1, y1.2, s_imageNodes, s_imageTree, (nI 0))
def fX7_count_J70 (a_shelfNodes : Nat → Int32) (v2 : Int32) (v3 : Int32)  : Option ((Int32 × Int32) ⊕ Int32) :=
  some (.inl (v2, (v3 + nI 1)))
def fX7_count_B53 (a_shelfNodes : Nat → Int32)  (x : (Int32 × Int32)) : Option ((Int32 × Int32) ⊕ Int32) :=
  if (nI 4) ≤ x.2 then
    some (.inr x.1)
  else
    (rd 4 a_shelfNodes x.2).bind fun t1 =>
    if t1 ≤ nI 0 then
      fX7_count_J70 a_shelfNodes x.1 x.2
    else
      fX7_count_J70 a_shelfNodes (x.1 + nI 1) x.2
def fX7_count_J97 (a_listSize : Nat → Int32) (v2 : Int32) (v3 : Int32)  : Option ((Int32 × Int32) ⊕ Int32) :=
  some (.inl (v2, (v3 + nI 1)))
def fX7_count_B80 (a_listSize : Nat → Int32)  (x : (Int32 × Int32)) : Option ((Int32 × Int32) ⊕ Int32) :=
  if (nI 3) ≤ x.2 then
    some (.inr x.1)
  else
    (rd 3 a_listSize x.2).bind fun t1 =>
    if t1 < nI 0 then
      fX7_count_J97 a_listSize x.1 x.2
    else
      fX7_count_J97 a_listSize (x.1 + nI 1) x.2
def fX7_count (a_shelfNodes : Nat → Int32) (a_listSize : Nat → Int32) (s_nodes : Int32) (s_steps : Int32) (s_taped : Int32) (v1 : Int32) : Option Int32 :=
  if v1 = nI 0 then
    some s_nodes
  else
    if v1 = nI 1 then
      some s_steps
    else
      if v1 = nI 2 then
        some s_taped
      else
        if v1 = nI 3 then
          (it (fX7_count_B53 a_shelfNodes) FU ((nI 0), (nI 0))).bind fun y1 =>
          some y1
        else
          if v1 = nI 4 then
            (it (fX7_count_B80 a_listSize) FU ((nI 0), (nI 0))).bind fun y2 =>
            some y2
          else
            some (-1 : Int32)
