def wCs (ad : Nat → Nat) (ct : Nat → ClassId) (M : Mm) : va_W := [(ad 0, .inr (6, fsX6 ad M)), (ad 1, .inr (0, fsX0 ad M)), (ad 2, .inl (ct 0, 626, .inl (M.1 2))), (ad 3, .inl (ct 0, 626, .inl (M.1 3))), (ad 4, .inr (2, fsX2 ad M)), (ad 5, .inl (ct 0, 429, .inl (M.1 5))), (ad 6, .inl (ct 0, 429, .inl (M.1 6))), (ad 7, .inr (5, fsX5 ad M)), (ad 8, .inl (ct 0, 4382, .inl (M.1 8))), (ad 9, .inl (ct 0, 4382, .inl (M.1 9))), (ad 10, .inl (ct 2, 8, .inl (M.1 10))), (ad 11, .inl (ct 0, 626, .inl (M.1 11))), (ad 12, .inl (ct 0, 429, .inl (M.1 12))), (ad 13, .inl (ct 0, 626, .inl (M.1 13))), (ad 14, .inr (3, fsX3 ad M)), (ad 15, .inl (ct 0, 10, .inl (M.1 15))), (ad 16, .inr (1, fsX1 ad M)), (ad 17, .inl (ct 3, 3, .inr (.inr (.inr (.inr (fun i => if i < 3 then some (ad (18 + i)) else none)))))), (ad 18, .inl (ct 1, 20, .inr (.inl (M.2.1 0)))), (ad 19, .inl (ct 1, 20, .inr (.inl (M.2.1 1)))), (ad 20, .inl (ct 1, 20, .inr (.inl (M.2.1 2)))), (ad 21, .inl (ct 0, 3, .inl (M.1 21))), (ad 22, .inr (4, fsX4 ad M)), (ad 23, .inl (ct 0, 60, .inl (M.1 23))), (ad 24, .inl (ct 0, 7, .inl (M.1 24))), (ad 25, .inl (ct 0, 7, .inl (M.1 25))), (ad 26, .inl (ct 0, 7, .inl (M.1 26))), (ad 27, .inl (ct 0, 4, .inl (M.1 27))), (ad 28, .inl (ct 0, 4, .inl (M.1 28)))]
def wMs (ad : Nat → Nat) (ct : Nat → ClassId) (M : Mm) : va_W := [(ad 0, .inr (7, fsX7 ad M)), (ad 1, .inl (ct 0, 4, .inl (M.1 1))), (ad 2, .inl (ct 0, 4, .inl (M.1 2))), (ad 3, .inl (ct 0, 10, .inl (M.1 3))), (ad 4, .inl (ct 0, 10, .inl (M.1 4))), (ad 5, .inl (ct 1, 60, .inr (.inl (M.2.1 0)))), (ad 6, .inl (ct 0, 3, .inl (M.1 6))), (ad 7, .inl (ct 0, 60, .inl (M.1 7))), (ad 8, .inl (ct 0, 4, .inl (M.1 8))), (ad 9, .inl (ct 0, 4, .inl (M.1 9))), (ad 10, .inl (ct 0, 429, .inl (M.1 10))), (ad 11, .inl (ct 0, 7, .inl (M.1 11))), (ad 12, .inl (ct 0, 7, .inl (M.1 12))), (ad 13, .inl (ct 0, 7, .inl (M.1 13))), (ad 14, .inl (ct 0, 7, .inl (M.1 14))), (ad 15, .inl (ct 0, 7, .inl (M.1 15))), (ad 16, .inl (ct 0, 429, .inl (M.1 16))), (ad 17, .inl (ct 0, 429, .inl (M.1 17))), (ad 18, .inl (ct 0, 429, .inl (M.1 18))), (ad 19, .inl (ct 0, 60, .inl (M.1 19))), (ad 20, .inl (ct 0, 7, .inl (M.1 20)))]
set_option maxRecDepth 100000 in
set_option maxHeartbeats 4000000 in
theorem kC_at (ad : Nat → Nat) (ct : Nat → ClassId) (W2 : va_W) : KC (fun M => wCs ad ct M ++ W2) (fun q => q) ad ct :=
  ⟨⟨(fun M => rfl), (fun M => ⟨rfl, fun f => rfl⟩), (fun M => ⟨rfl, fun f => rfl⟩)⟩,
  (fun M => rfl),
  (fun M => rfl),
  (fun M => rfl),
  (fun M => rfl),
  (fun M => rfl),
  (fun M => rfl),
  (fun M => ⟨rfl, fun f => rfl⟩),
  (fun M => ⟨rfl, fun f => rfl⟩),
  (fun M => ⟨rfl, fun f => rfl⟩),
  (fun M => ⟨rfl, fun f => rfl⟩),
  (fun M => ⟨rfl, fun f => rfl⟩),
  (fun M => ⟨rfl, fun f => rfl⟩),
  (fun M => ⟨rfl, fun f => rfl⟩),
  (fun M => ⟨rfl, fun f => rfl⟩),
  (fun M => ⟨rfl, fun f => rfl⟩),
  (fun M => ⟨rfl, fun f => rfl⟩),
  (fun M => ⟨rfl, fun f => rfl⟩),
  (fun M => ⟨rfl, fun f => rfl⟩),
  (fun M => ⟨rfl, fun f => rfl⟩),
  (fun M => ⟨rfl, fun f => rfl⟩),
  (fun M => ⟨rfl, fun f => rfl⟩),
  (fun M => ⟨rfl, fun f => rfl⟩),
  (fun M => rfl),
  (fun t h => by rcases (show t = 0 ∨ t = 1 ∨ t = 2 by omega) with rfl | rfl | rfl <;> exact fun M => ⟨rfl, fun f => rfl⟩),
  (fun M v => rfl),
  (fun M v => rfl),
  (fun M v => rfl),
  (fun M v => rfl),
  (fun M v => rfl),
  (fun M v => rfl),
  (fun M v => rfl),
  (fun M v => rfl),
  (fun M v => rfl)⟩
set_option maxRecDepth 100000 in
set_option maxHeartbeats 4000000 in
theorem kM_at (ad am : Nat → Nat) (ct : Nat → ClassId) (Mc : Mm) : KM (fun M => wCs ad ct Mc ++ wMs am ct M) (fun q => 29 + q) am ct :=
  ⟨(fun M => rfl),
  (fun M => ⟨rfl, fun f => rfl⟩),
  (fun M => ⟨rfl, fun f => rfl⟩),
  (fun M => ⟨rfl, fun f => rfl⟩),
  (fun M => ⟨rfl, fun f => rfl⟩),
  (fun M => ⟨rfl, fun f => rfl⟩),
  (fun M => ⟨rfl, fun f => rfl⟩),
  (fun M => ⟨rfl, fun f => rfl⟩),
  (fun M => ⟨rfl, fun f => rfl⟩),
  (fun M => ⟨rfl, fun f => rfl⟩),
  (fun M => ⟨rfl, fun f => rfl⟩),
  (fun M => ⟨rfl, fun f => rfl⟩),
  (fun M => ⟨rfl, fun f => rfl⟩),
  (fun M => ⟨rfl, fun f => rfl⟩),
  (fun M => ⟨rfl, fun f => rfl⟩),
  (fun M => ⟨rfl, fun f => rfl⟩),
  (fun M => ⟨rfl, fun f => rfl⟩),
  (fun M => ⟨rfl, fun f => rfl⟩),
  (fun M => ⟨rfl, fun f => rfl⟩),
  (fun M => ⟨rfl, fun f => rfl⟩),
  (fun M => ⟨rfl, fun f => rfl⟩),
  (fun M v => rfl),
  (fun M v => rfl),
  (fun M v => rfl),
  (fun M v => rfl),
  (fun M v => rfl),
  (fun M v => rfl),
  (fun M v => rfl),
  (fun M v => rfl),
  (fun M v => rfl),
  (fun M v => rfl),
  (fun M v => rfl),
  (fun M v => rfl),
  (fun M v => rfl),
  (fun M v => rfl),
  (fun M v => rfl)⟩
abbrev kset (κ : Rx) (w : Mm → va_W) : Rx := (kp κ, kl κ, ke κ, kR κ, ks κ, km κ, ka κ, kb κ, kme κ, kc κ, kD κ, w, kA κ, kn κ, ko κ, kQ κ)
def Zl (κ : Rx) (ad am : Nat → Nat) (ct : Nat → ClassId) (pc : Nat) (lv : List (Nat × Value)) (st : List Value) (Mc Mr : Mm) : Prop := Zj (kset κ (fun M => wCs ad ct M ++ wMs am ct Mr)) 4 pc lv st Mc
/-- the script, as the law reads it -/
def SX (κ : Rx) (b L : Nat) (xs : Nat → Int32) : Prop := va_X b L xs (ks κ) (ks κ).heap ∧ b < (ks κ).heap.size ∧ ¬ kA κ b
theorem z_sld {κ : Rx} {ct : Nat → ClassId} {tF : Nat} {cc : ByteArray} {nL : Nat} {own : String} {pc : Nat} {lv : List (Nat × Value)} {st : List Value} {M : Mm} {b L : Nat} {xs : Nat → Int32} (X : CX κ ct tF cc nL own) (hX : SX κ b L xs) {i v : Int32} (hv : vp_in i L ∧ xs i.toNatClampNeg = v) (hd : decode cc pc = .ok (.iaload, 1)) (k : Zj κ nL (pc + 1) lv (.int v :: st) M) : Zj κ nL pc lv (.int i :: .ref b :: st) M := by
  intro H locs ls hP hD hS hl
  exact va_sld X.1 X.2.1 hX.1 hX.2.1 hX.2.2 hS hv.1 hd (by rw [hv.2]; exact k H locs ls hP hD hS hl)
theorem z_slen {κ : Rx} {ct : Nat → ClassId} {tF : Nat} {cc : ByteArray} {nL : Nat} {own : String} {pc : Nat} {lv : List (Nat × Value)} {st : List Value} {M : Mm} {b L : Nat} {xs : Nat → Int32} (X : CX κ ct tF cc nL own) (hX : SX κ b L xs) (hd : decode cc pc = .ok (.arraylength, 1)) (k : Zj κ nL (pc + 1) lv (.int (Int32.ofNat L) :: st) M) : Zj κ nL pc lv (.ref b :: st) M := by
  intro H locs ls hP hD hS hl
  exact va_slen X.1 X.2.1 hX.1 hX.2.1 hX.2.2 hS hd (k H locs ls hP hD hS hl)
theorem sx_at {L j k : Nat} (xs : Nat → Int32) (hk : j + k < L) (hL : L ≤ 2560) : vp_in (nI j + nI k) L ∧ xs (nI j + nI k).toNatClampNeg = xs (j + k) := by
  rw [nI_add]
  exact ⟨vp_in_nI hk (by omega), by rw [nI_clamp (by omega)]⟩
theorem sx_at0 {L j : Nat} (xs : Nat → Int32) (hk : j < L) (hL : L ≤ 2560) : vp_in (nI j) L ∧ xs (nI j).toNatClampNeg = xs j := ⟨vp_in_nI hk (by omega), by rw [nI_clamp (by omega)]⟩
theorem z_cmp_same {κ : Rx} {nL pc : Nat} {lv : List (Nat × Value)} {st : List Value} {M : Mm} {x y : Int32} (h : x = y) (k : Zj κ nL pc lv (.int y :: .int y :: st) M) : Zj κ nL pc lv (.int y :: .int x :: st) M := h ▸ k

def Al_nodes (REL : Mm → Mm → Prop) : Prop := ∀ (Mc Mr : Mm) (u1 : Int32), REL Mc Mr → ∃ (rc : (Int32 × Int32 × Int32)) (rm : (Int32 × Int32 × Int32 × Int32)), fX6_nodes (Mc.1 3) (Mc.2.2 41) (Mc.2.2 44) u1 = some rc ∧ fX7_nodes (Mr.2.2 40) (Mr.2.2 41) (Mr.2.2 42) u1 = some rm ∧ rc.1 = rm.1 ∧ REL (mk Mc [] Mc.2.1 [(41, rc.2.1), (44, rc.2.2)]) (mk Mr [] Mr.2.1 [(40, rm.2.1), (41, rm.2.2.1), (42, rm.2.2.2)])
def Al_row (REL : Mm → Mm → Prop) : Prop := ∀ (Mc Mr : Mm) (u1 : Int32), REL Mc Mr → ∃ (rc : (Int32 × (Nat → Int32) × Int32 × Int32)) (rm : (Int32 × (Nat → Int32) × (Nat → Int32) × (Nat → Int32) × Int32 × Int32 × Int32 × Int32 × Int32)), fX6_row (Mc.1 2) (Mc.1 3) (Mc.1 15) (Mc.2.2 41) (Mc.2.2 44) u1 = some rc ∧ fX7_row (Mr.1 3) (Mr.1 4) (Mr.1 10) (Mr.2.2 40) (Mr.2.2 41) (Mr.2.2 42) (Mr.2.2 48) (Mr.2.2 49) u1 = some rm ∧ rc.1 = rm.1 ∧ REL (mk Mc [(15, rc.2.1)] Mc.2.1 [(41, rc.2.2.1), (44, rc.2.2.2)]) (mk Mr [(3, rm.2.1), (4, rm.2.2.1), (10, rm.2.2.2.1)] Mr.2.1 [(40, rm.2.2.2.2.1), (41, rm.2.2.2.2.2.1), (42, rm.2.2.2.2.2.2.1), (48, rm.2.2.2.2.2.2.2.1), (49, rm.2.2.2.2.2.2.2.2)])
def Al_of (REL : Mm → Mm → Prop) : Prop := ∀ (Mc Mr : Mm) (u1 : Int32) (u2 : Int32), REL Mc Mr → ∃ (rc : Int32) (rm : (Int32 × (Nat → Int32) × (Nat → Int32) × (Nat → Int32) × (Nat → Int32) × (Nat → Int32) × Int32)), fX6_of (Mc.1 2) (Mc.1 3) (Mc.2.2 41) u1 u2 = some rc ∧ fX7_of (Mr.1 11) (Mr.1 12) (Mr.1 13) (Mr.1 14) (Mr.1 15) (Mr.2.2 40) (Mr.2.2 41) (Mr.2.2 50) u1 u2 = some rm ∧ rc = rm.1 ∧ REL Mc (mk Mr [(11, rm.2.1), (12, rm.2.2.1), (13, rm.2.2.2.1), (14, rm.2.2.2.2.1), (15, rm.2.2.2.2.2.1)] Mr.2.1 [(50, rm.2.2.2.2.2.2)])
def Al_number (REL : Mm → Mm → Prop) : Prop := ∀ (Mc Mr : Mm) (u1 : Int32), REL Mc Mr → ∃ (rc : (Int32 × (Nat → Int32) × Int32 × Int32)) (rm : (Int32 × (Nat → Int32) × (Nat → Int32) × (Nat → Int32) × Int32 × Int32 × Int32 × Int32 × Int32)), fX6_number (Mc.1 3) (Mc.1 15) (Mc.2.2 41) (Mc.2.2 44) u1 = some rc ∧ fX7_number (Mr.1 3) (Mr.1 4) (Mr.1 10) (Mr.2.2 40) (Mr.2.2 41) (Mr.2.2 42) (Mr.2.2 48) (Mr.2.2 49) u1 = some rm ∧ rc.1 = rm.1 ∧ REL (mk Mc [(15, rc.2.1)] Mc.2.1 [(41, rc.2.2.1), (44, rc.2.2.2)]) (mk Mr [(3, rm.2.1), (4, rm.2.2.1), (10, rm.2.2.2.1)] Mr.2.1 [(40, rm.2.2.2.2.1), (41, rm.2.2.2.2.2.1), (42, rm.2.2.2.2.2.2.1), (48, rm.2.2.2.2.2.2.2.1), (49, rm.2.2.2.2.2.2.2.2)])
def Al_which (REL : Mm → Mm → Prop) : Prop := ∀ (Mc Mr : Mm), REL Mc Mr → ∃ (rc : Int32) (rm : (Int32 × (Nat → Int32) × Int32 × Int32)), fX6_which (Mc.1 3) (Mc.2.2 41) = some rc ∧ fX7_which (Mr.1 10) (Mr.2.2 40) (Mr.2.2 41) (Mr.2.2 48) (Mr.2.2 49) = some rm ∧ rc = rm.1 ∧ REL Mc (mk Mr [(10, rm.2.1)] Mr.2.1 [(48, rm.2.2.1), (49, rm.2.2.2)])
def Al_many (REL : Mm → Mm → Prop) : Prop := ∀ (Mc Mr : Mm) (u1 : Int32), REL Mc Mr → ∃ (rc : Int32) (rm : (Int32 × (Nat → Int32) × Int32 × Int32)), fX6_many u1 = some rc ∧ fX7_many (Mr.1 10) (Mr.2.2 48) (Mr.2.2 49) u1 = some rm ∧ rc = rm.1 ∧ REL Mc (mk Mr [(10, rm.2.1)] Mr.2.1 [(48, rm.2.2.1), (49, rm.2.2.2)])
def Al_digits (REL : Mm → Mm → Prop) : Prop := ∀ (Mc Mr : Mm), REL Mc Mr → ∃ (rc : Int32) (rm : Int32), fX6_digits (Mc.1 2) (Mc.1 3) (Mc.2.2 41) = some rc ∧ fX7_digits (Mr.2.2 41) = some rm ∧ rc = rm ∧ REL Mc Mr
def Al_turn (REL : Mm → Mm → Prop) : Prop := ∀ (Mc Mr : Mm) (u1 : Int32), REL Mc Mr → ∃ (rc : (Int32 × (Nat → Int32) × Int32 × Int32)) (rm : (Int32 × (Nat → Int32) × (Nat → Int32) × (Nat → Int32) × (Nat → Int32) × (Nat → Int32) × (Nat → Int32) × (Nat → Int32) × (Nat → Int32) × Int32 × Int32 × Int32 × Int32 × Int32 × Int32)), fX6_turn (Mc.1 2) (Mc.1 3) (Mc.1 15) (Mc.2.2 41) (Mc.2.2 44) u1 = some rc ∧ fX7_turn (Mr.1 3) (Mr.1 4) (Mr.1 10) (Mr.1 11) (Mr.1 12) (Mr.1 13) (Mr.1 14) (Mr.1 15) (Mr.2.2 40) (Mr.2.2 41) (Mr.2.2 42) (Mr.2.2 48) (Mr.2.2 49) (Mr.2.2 50) u1 = some rm ∧ rc.1 = rm.1 ∧ REL (mk Mc [(15, rc.2.1)] Mc.2.1 [(41, rc.2.2.1), (44, rc.2.2.2)]) (mk Mr [(3, rm.2.1), (4, rm.2.2.1), (10, rm.2.2.2.1), (11, rm.2.2.2.2.1), (12, rm.2.2.2.2.2.1), (13, rm.2.2.2.2.2.2.1), (14, rm.2.2.2.2.2.2.2.1), (15, rm.2.2.2.2.2.2.2.2.1)] Mr.2.1 [(40, rm.2.2.2.2.2.2.2.2.2.1), (41, rm.2.2.2.2.2.2.2.2.2.2.1), (42, rm.2.2.2.2.2.2.2.2.2.2.2.1), (48, rm.2.2.2.2.2.2.2.2.2.2.2.2.1), (49, rm.2.2.2.2.2.2.2.2.2.2.2.2.2.1), (50, rm.2.2.2.2.2.2.2.2.2.2.2.2.2.2)])
def Al_back (REL : Mm → Mm → Prop) : Prop := ∀ (Mc Mr : Mm) (u1 : Int32), REL Mc Mr → ∃ (rc : (Int32 × (Nat → Int32) × Int32 × Int32)) (rm : (Int32 × (Nat → Int32) × (Nat → Int32) × (Nat → Int32) × (Nat → Int32) × (Nat → Int32) × (Nat → Int32) × (Nat → Int32) × (Nat → Int32) × Int32 × Int32 × Int32 × Int32 × Int32 × Int32)), fX6_back (Mc.1 2) (Mc.1 3) (Mc.1 15) (Mc.2.2 41) (Mc.2.2 44) u1 = some rc ∧ fX7_back (Mr.1 3) (Mr.1 4) (Mr.1 10) (Mr.1 11) (Mr.1 12) (Mr.1 13) (Mr.1 14) (Mr.1 15) (Mr.2.2 40) (Mr.2.2 41) (Mr.2.2 42) (Mr.2.2 48) (Mr.2.2 49) (Mr.2.2 50) u1 = some rm ∧ rc.1 = rm.1 ∧ REL (mk Mc [(15, rc.2.1)] Mc.2.1 [(41, rc.2.2.1), (44, rc.2.2.2)]) (mk Mr [(3, rm.2.1), (4, rm.2.2.1), (10, rm.2.2.2.1), (11, rm.2.2.2.2.1), (12, rm.2.2.2.2.2.1), (13, rm.2.2.2.2.2.2.1), (14, rm.2.2.2.2.2.2.2.1), (15, rm.2.2.2.2.2.2.2.2.1)] Mr.2.1 [(40, rm.2.2.2.2.2.2.2.2.2.1), (41, rm.2.2.2.2.2.2.2.2.2.2.1), (42, rm.2.2.2.2.2.2.2.2.2.2.2.1), (48, rm.2.2.2.2.2.2.2.2.2.2.2.2.1), (49, rm.2.2.2.2.2.2.2.2.2.2.2.2.2.1), (50, rm.2.2.2.2.2.2.2.2.2.2.2.2.2.2)])
def Al_mayTurn (REL : Mm → Mm → Prop) : Prop := ∀ (Mc Mr : Mm) (u1 : Int32), REL Mc Mr → ∃ (rc : Int32) (rm : (Int32 × (Nat → Int32) × (Nat → Int32) × (Nat → Int32) × (Nat → Int32) × (Nat → Int32) × Int32)), fX6_mayTurn (Mc.1 2) (Mc.1 3) (Mc.2.2 41) u1 = some rc ∧ fX7_mayTurn (Mr.1 11) (Mr.1 12) (Mr.1 13) (Mr.1 14) (Mr.1 15) (Mr.2.2 40) (Mr.2.2 41) (Mr.2.2 50) u1 = some rm ∧ rc = rm.1 ∧ REL Mc (mk Mr [(11, rm.2.1), (12, rm.2.2.1), (13, rm.2.2.2.1), (14, rm.2.2.2.2.1), (15, rm.2.2.2.2.2.1)] Mr.2.1 [(50, rm.2.2.2.2.2.2)])
def Al_mirror (REL : Mm → Mm → Prop) : Prop := ∀ (Mc Mr : Mm), REL Mc Mr → ∃ (rc : (Int32 × (Nat → Int32) × Int32 × Int32)) (rm : (Int32 × (Nat → Int32) × (Nat → Int32) × (Nat → Int32) × (Nat → Int32) × (Nat → Int32) × (Nat → Int32) × (Nat → Int32) × (Nat → Int32) × Int32 × Int32 × Int32 × Int32 × Int32 × Int32)), fX6_mirror (Mc.1 2) (Mc.1 3) (Mc.1 15) (Mc.2.2 41) (Mc.2.2 44) = some rc ∧ fX7_mirror (Mr.1 3) (Mr.1 4) (Mr.1 10) (Mr.1 11) (Mr.1 12) (Mr.1 13) (Mr.1 14) (Mr.1 15) (Mr.2.2 40) (Mr.2.2 41) (Mr.2.2 42) (Mr.2.2 48) (Mr.2.2 49) (Mr.2.2 50) = some rm ∧ rc.1 = rm.1 ∧ REL (mk Mc [(15, rc.2.1)] Mc.2.1 [(41, rc.2.2.1), (44, rc.2.2.2)]) (mk Mr [(3, rm.2.1), (4, rm.2.2.1), (10, rm.2.2.2.1), (11, rm.2.2.2.2.1), (12, rm.2.2.2.2.2.1), (13, rm.2.2.2.2.2.2.1), (14, rm.2.2.2.2.2.2.2.1), (15, rm.2.2.2.2.2.2.2.2.1)] Mr.2.1 [(40, rm.2.2.2.2.2.2.2.2.2.1), (41, rm.2.2.2.2.2.2.2.2.2.2.1), (42, rm.2.2.2.2.2.2.2.2.2.2.2.1), (48, rm.2.2.2.2.2.2.2.2.2.2.2.2.1), (49, rm.2.2.2.2.2.2.2.2.2.2.2.2.2.1), (50, rm.2.2.2.2.2.2.2.2.2.2.2.2.2.2)])
def Al_off (REL : Mm → Mm → Prop) : Prop := ∀ (Mc Mr : Mm), REL Mc Mr → ∃ (rc : (Int32 × Int32 × Int32)) (rm : (Int32 × Int32 × Int32 × Int32)), fX6_off (Mc.1 15) (Mc.2.2 41) (Mc.2.2 44) = some rc ∧ fX7_off (Mr.1 3) (Mr.1 4) (Mr.2.2 40) (Mr.2.2 41) (Mr.2.2 42) = some rm ∧ rc.1 = rm.1 ∧ REL (mk Mc [] Mc.2.1 [(41, rc.2.1), (44, rc.2.2)]) (mk Mr [] Mr.2.1 [(40, rm.2.1), (41, rm.2.2.1), (42, rm.2.2.2)])
def Al_below (REL : Mm → Mm → Prop) : Prop := ∀ (Mc Mr : Mm) (u1 : Int32) (u2 : Int32), REL Mc Mr → ∃ (rc : Int32) (rm : Int32), fX6_below (Mc.1 2) (Mc.1 3) (Mc.1 27) (Mc.2.2 41) u1 u2 = some rc ∧ fX7_below (Mr.1 1) (Mr.1 2) (Mr.2.2 40) (Mr.2.2 41) u1 u2 = some rm ∧ rc = rm ∧ REL Mc Mr
def Al_meet (REL : Mm → Mm → Prop) : Prop := ∀ (Mc Mr : Mm) (u1 : Int32) (u2 : Int32), REL Mc Mr → ∃ (rc : Int32) (rm : (Int32 × (Nat → Int32) × Int32 × Int32)), fX6_meet (Mc.1 2) (Mc.1 3) (Mc.1 27) (Mc.2.2 41) u1 u2 = some rc ∧ fX7_meet (Mr.1 1) (Mr.1 2) (Mr.1 10) (Mr.2.2 40) (Mr.2.2 41) (Mr.2.2 48) (Mr.2.2 49) u1 u2 = some rm ∧ rc = rm.1 ∧ REL Mc (mk Mr [(10, rm.2.1)] Mr.2.1 [(48, rm.2.2.1), (49, rm.2.2.2)])
def Al_meetAll (REL : Mm → Mm → Prop) : Prop := ∀ (Mc Mr : Mm) (u1 : Int32), REL Mc Mr → ∃ (rc : Int32) (rm : (Int32 × (Nat → Int32) × Int32 × Int32)), fX6_meetAll (Mc.1 2) (Mc.1 3) (Mc.1 27) (Mc.2.2 41) u1 = some rc ∧ fX7_meetAll (Mr.1 1) (Mr.1 2) (Mr.1 10) (Mr.2.2 40) (Mr.2.2 41) (Mr.2.2 48) (Mr.2.2 49) u1 = some rm ∧ rc = rm.1 ∧ REL Mc (mk Mr [(10, rm.2.1)] Mr.2.1 [(48, rm.2.2.1), (49, rm.2.2.2)])
def Al_between (REL : Mm → Mm → Prop) : Prop := ∀ (Mc Mr : Mm) (u1 : Int32) (u2 : Int32), REL Mc Mr → ∃ (rc : Int32) (rm : (Int32 × (Nat → Int32) × Int32 × Int32)), fX6_between (Mc.1 2) (Mc.1 3) (Mc.1 27) (Mc.2.2 41) u1 u2 = some rc ∧ fX7_between (Mr.1 1) (Mr.1 2) (Mr.1 10) (Mr.2.2 40) (Mr.2.2 41) (Mr.2.2 48) (Mr.2.2 49) u1 u2 = some rm ∧ rc = rm.1 ∧ REL Mc (mk Mr [(10, rm.2.1)] Mr.2.1 [(48, rm.2.2.1), (49, rm.2.2.2)])
def Al_way (REL : Mm → Mm → Prop) : Prop := ∀ (Mc Mr : Mm) (u1 : Int32) (u2 : Int32), REL Mc Mr → ∃ (rc : (Int32 × (Nat → Int32) × (Nat → Int32) × (Nat → Int32) × (Nat → Int32) × (Nat → Int32) × Int32 × Int32)) (rm : (Int32 × (Nat → Int32) × (Nat → Int32) × (Nat → Int32) × (Nat → Int32) × (Nat → Int32) × (Nat → Int32) × (Nat → Int32) × (Nat → Int32) × Int32 × Int32 × Int32)), fX6_way (Mc.1 2) (Mc.1 3) (Mc.1 8) (Mc.1 9) (Mc.1 10) (Mc.1 11) (Mc.1 12) (Mc.1 27) (Mc.2.2 41) (Mc.2.2 42) (Mc.2.2 43) u1 u2 = some rc ∧ fX7_way (Mr.1 1) (Mr.1 2) (Mr.1 10) (Mr.1 11) (Mr.1 12) (Mr.1 13) (Mr.1 14) (Mr.1 15) (Mr.1 16) (Mr.1 17) (Mr.2.2 40) (Mr.2.2 41) (Mr.2.2 48) (Mr.2.2 49) (Mr.2.2 50) u1 u2 = some rm ∧ rc.1 = rm.1 ∧ REL (mk Mc [(8, rc.2.1), (9, rc.2.2.1), (10, rc.2.2.2.1), (11, rc.2.2.2.2.1), (12, rc.2.2.2.2.2.1)] Mc.2.1 [(42, rc.2.2.2.2.2.2.1), (43, rc.2.2.2.2.2.2.2)]) (mk Mr [(10, rm.2.1), (11, rm.2.2.1), (12, rm.2.2.2.1), (13, rm.2.2.2.2.1), (14, rm.2.2.2.2.2.1), (15, rm.2.2.2.2.2.2.1), (16, rm.2.2.2.2.2.2.2.1), (17, rm.2.2.2.2.2.2.2.2.1)] Mr.2.1 [(48, rm.2.2.2.2.2.2.2.2.2.1), (49, rm.2.2.2.2.2.2.2.2.2.2.1), (50, rm.2.2.2.2.2.2.2.2.2.2.2)])
def Al_chain (REL : Mm → Mm → Prop) : Prop := ∀ (Mc Mr : Mm) (u1 : Int32) (u2 : Int32), REL Mc Mr → ∃ (rc : (Int32 × (Nat → Int32) × (Nat → Int32) × (Nat → Int32) × (Nat → Int32))) (rm : (Int32 × (Nat → Int32) × (Nat → Int32) × (Nat → Int32) × (Nat → Int32) × (Nat → Int32) × (Nat → Int32) × (Nat → Int32) × (Nat → Int32) × Int32 × Int32 × Int32)), fX6_chain (Mc.1 2) (Mc.1 3) (Mc.1 8) (Mc.1 9) (Mc.1 10) (Mc.1 13) (Mc.1 27) (Mc.2.2 41) u1 u2 = some rc ∧ fX7_chain (Mr.1 1) (Mr.1 2) (Mr.1 10) (Mr.1 11) (Mr.1 12) (Mr.1 13) (Mr.1 14) (Mr.1 15) (Mr.1 16) (Mr.1 17) (Mr.2.2 40) (Mr.2.2 41) (Mr.2.2 48) (Mr.2.2 49) (Mr.2.2 50) u1 u2 = some rm ∧ rc.1 = rm.1 ∧ REL (mk Mc [(8, rc.2.1), (9, rc.2.2.1), (10, rc.2.2.2.1), (13, rc.2.2.2.2)] Mc.2.1 []) (mk Mr [(10, rm.2.1), (11, rm.2.2.1), (12, rm.2.2.2.1), (13, rm.2.2.2.2.1), (14, rm.2.2.2.2.2.1), (15, rm.2.2.2.2.2.2.1), (16, rm.2.2.2.2.2.2.2.1), (17, rm.2.2.2.2.2.2.2.2.1)] Mr.2.1 [(48, rm.2.2.2.2.2.2.2.2.2.1), (49, rm.2.2.2.2.2.2.2.2.2.2.1), (50, rm.2.2.2.2.2.2.2.2.2.2.2)])
def Al_mark (REL : Mm → Mm → Prop) : Prop := ∀ (Mc Mr : Mm) (u1 : Int32), REL Mc Mr → ∃ (rc : (Int32 × (Nat → Int32) × (Nat → Int32))) (rm : (Int32 × (Nat → Int32) × (Nat → Int32) × Int32 × Int32)), fX6_mark (Mc.1 2) (Mc.1 3) (Mc.1 5) (Mc.1 6) (Mc.1 27) (Mc.2.2 41) u1 = some rc ∧ fX7_mark (Mr.1 1) (Mr.1 2) (Mr.1 10) (Mr.1 18) (Mr.2.2 40) (Mr.2.2 41) (Mr.2.2 48) (Mr.2.2 49) u1 = some rm ∧ rc.1 = rm.1 ∧ REL (mk Mc [(5, rc.2.1), (6, rc.2.2)] Mc.2.1 []) (mk Mr [(10, rm.2.1), (18, rm.2.2.1)] Mr.2.1 [(48, rm.2.2.2.1), (49, rm.2.2.2.2)])
def Al_pairs (REL : Mm → Mm → Prop) : Prop := ∀ (Mc Mr : Mm) (u1 : Int32), REL Mc Mr → ∃ (rc : Int32) (rm : (Int32 × (Nat → Int32) × Int32 × Int32)), fX6_pairs (Mc.1 2) u1 = some rc ∧ fX7_pairs (Mr.1 10) (Mr.2.2 48) (Mr.2.2 49) u1 = some rm ∧ rc = rm.1 ∧ REL Mc (mk Mr [(10, rm.2.1)] Mr.2.1 [(48, rm.2.2.1), (49, rm.2.2.2)])
def Al_far (REL : Mm → Mm → Prop) : Prop := ∀ (Mc Mr : Mm) (u1 : Int32), REL Mc Mr → ∃ (rc : (Int32 × (Nat → Int32) × (Nat → Int32) × (Nat → Int32) × (Nat → Int32) × (Nat → Int32) × Int32 × Int32)) (rm : (Int32 × (Nat → Int32) × (Nat → Int32) × (Nat → Int32) × (Nat → Int32) × (Nat → Int32) × (Nat → Int32) × (Nat → Int32) × (Nat → Int32) × Int32 × Int32 × Int32)), fX6_far (Mc.1 2) (Mc.1 3) (Mc.1 8) (Mc.1 9) (Mc.1 10) (Mc.1 11) (Mc.1 12) (Mc.2.2 41) (Mc.2.2 42) (Mc.2.2 43) u1 = some rc ∧ fX7_far (Mr.1 10) (Mr.1 11) (Mr.1 12) (Mr.1 13) (Mr.1 14) (Mr.1 15) (Mr.1 16) (Mr.1 17) (Mr.2.2 40) (Mr.2.2 41) (Mr.2.2 48) (Mr.2.2 49) (Mr.2.2 50) u1 = some rm ∧ rc.1 = rm.1 ∧ REL (mk Mc [(8, rc.2.1), (9, rc.2.2.1), (10, rc.2.2.2.1), (11, rc.2.2.2.2.1), (12, rc.2.2.2.2.2.1)] Mc.2.1 [(42, rc.2.2.2.2.2.2.1), (43, rc.2.2.2.2.2.2.2)]) (mk Mr [(10, rm.2.1), (11, rm.2.2.1), (12, rm.2.2.2.1), (13, rm.2.2.2.2.1), (14, rm.2.2.2.2.2.1), (15, rm.2.2.2.2.2.2.1), (16, rm.2.2.2.2.2.2.2.1), (17, rm.2.2.2.2.2.2.2.2.1)] Mr.2.1 [(48, rm.2.2.2.2.2.2.2.2.2.1), (49, rm.2.2.2.2.2.2.2.2.2.2.1), (50, rm.2.2.2.2.2.2.2.2.2.2.2)])
def Al_canopy (REL : Mm → Mm → Prop) : Prop := ∀ (Mc Mr : Mm), REL Mc Mr → ∃ (rc : Int32) (rm : Int32), fX6_canopy (Mc.1 2) (Mc.1 3) (Mc.2.2 41) = some rc ∧ fX7_canopy (Mr.2.2 40) (Mr.2.2 41) = some rm ∧ rc = rm ∧ REL Mc Mr
def Al_inClass (REL : Mm → Mm → Prop) : Prop := ∀ (Mc Mr : Mm) (u1 : Int32) (u2 : Int32), REL Mc Mr → ∃ (rc : Int32) (rm : (Int32 × (Nat → Int32) × Int32 × Int32)), fX6_inClass (Mc.1 2) (Mc.1 3) (Mc.2.2 41) u1 u2 = some rc ∧ fX7_inClass (Mr.1 10) (Mr.2.2 40) (Mr.2.2 48) (Mr.2.2 49) u1 u2 = some rm ∧ rc = rm.1 ∧ REL Mc (mk Mr [(10, rm.2.1)] Mr.2.1 [(48, rm.2.2.1), (49, rm.2.2.2)])
def Al_likeness (REL : Mm → Mm → Prop) : Prop := ∀ (Mc Mr : Mm) (u1 : Int32), REL Mc Mr → ∃ (rc : Int32) (rm : Int32), fX6_likeness (Mc.1 2) (Mc.1 3) (Mc.1 27) (Mc.2.2 41) u1 = some rc ∧ fX7_likeness (Mr.1 1) (Mr.1 2) (Mr.2.2 40) (Mr.2.2 41) u1 = some rm ∧ rc = rm ∧ REL Mc Mr
def Al_keep (REL : Mm → Mm → Prop) : Prop := ∀ (Mc Mr : Mm) (u1 : Int32), REL Mc Mr → ∃ (rc : (Int32 × (Nat → Int32))) (rm : (Int32 × (Nat → Int32) × (Nat → Int32) × (Nat → Int32) × Int32 × Int32)), fX6_keep (Mc.1 3) (Mc.1 27) (Mc.2.2 41) u1 = some rc ∧ fX7_keep (Mr.1 1) (Mr.1 2) (Mr.1 10) (Mr.2.2 40) (Mr.2.2 41) (Mr.2.2 48) (Mr.2.2 49) u1 = some rm ∧ rc.1 = rm.1 ∧ REL (mk Mc [(27, rc.2)] Mc.2.1 []) (mk Mr [(1, rm.2.1), (2, rm.2.2.1), (10, rm.2.2.2.1)] Mr.2.1 [(48, rm.2.2.2.2.1), (49, rm.2.2.2.2.2)])
def Al_lay (REL : Mm → Mm → Prop) : Prop := ∀ (Mc Mr : Mm) (u1 : Int32), REL Mc Mr → ∃ (rc : (Int32 × (Nat → Int32) × Int32 × Int32)) (rm : (Int32 × (Nat → Int32) × (Nat → Int32) × Int32 × Int32 × Int32)), fX6_lay (Mc.1 3) (Mc.1 15) (Mc.1 27) (Mc.2.2 41) (Mc.2.2 44) u1 = some rc ∧ fX7_lay (Mr.1 1) (Mr.1 2) (Mr.1 3) (Mr.1 4) (Mr.2.2 40) (Mr.2.2 41) (Mr.2.2 42) u1 = some rm ∧ rc.1 = rm.1 ∧ REL (mk Mc [(15, rc.2.1)] Mc.2.1 [(41, rc.2.2.1), (44, rc.2.2.2)]) (mk Mr [(3, rm.2.1), (4, rm.2.2.1)] Mr.2.1 [(40, rm.2.2.2.1), (41, rm.2.2.2.2.1), (42, rm.2.2.2.2.2)])
def Al_lose (REL : Mm → Mm → Prop) : Prop := ∀ (Mc Mr : Mm) (u1 : Int32), REL Mc Mr → ∃ (rc : (Int32 × (Nat → Int32))) (rm : (Int32 × (Nat → Int32))), fX6_lose (Mc.1 3) (Mc.1 27) u1 = some rc ∧ fX7_lose (Mr.1 1) u1 = some rm ∧ rc.1 = rm.1 ∧ REL (mk Mc [(27, rc.2)] Mc.2.1 []) (mk Mr [(1, rm.2)] Mr.2.1 [])
def Al_over (REL : Mm → Mm → Prop) : Prop := ∀ (Mc Mr : Mm) (u1 : Int32), REL Mc Mr → ∃ (rc : (Int32 × (Nat → Int32) × Int32 × Int32)) (rm : (Int32 × (Nat → Int32) × (Nat → Int32) × Int32 × Int32 × Int32)), fX6_over (Mc.1 2) (Mc.1 3) (Mc.1 15) (Mc.1 27) (Mc.2.2 41) (Mc.2.2 44) u1 = some rc ∧ fX7_over (Mr.1 1) (Mr.1 2) (Mr.1 3) (Mr.1 4) (Mr.2.2 40) (Mr.2.2 41) (Mr.2.2 42) u1 = some rm ∧ rc.1 = rm.1 ∧ REL (mk Mc [(15, rc.2.1)] Mc.2.1 [(41, rc.2.2.1), (44, rc.2.2.2)]) (mk Mr [(3, rm.2.1), (4, rm.2.2.1)] Mr.2.1 [(40, rm.2.2.2.1), (41, rm.2.2.2.2.1), (42, rm.2.2.2.2.2)])
def Al_under (REL : Mm → Mm → Prop) : Prop := ∀ (Mc Mr : Mm) (u1 : Int32), REL Mc Mr → ∃ (rc : (Int32 × (Nat → Int32) × Int32 × Int32)) (rm : (Int32 × (Nat → Int32) × (Nat → Int32) × Int32 × Int32 × Int32)), fX6_under (Mc.1 2) (Mc.1 3) (Mc.1 15) (Mc.1 27) (Mc.2.2 41) (Mc.2.2 44) u1 = some rc ∧ fX7_under (Mr.1 1) (Mr.1 2) (Mr.1 3) (Mr.1 4) (Mr.2.2 40) (Mr.2.2 41) (Mr.2.2 42) u1 = some rm ∧ rc.1 = rm.1 ∧ REL (mk Mc [(15, rc.2.1)] Mc.2.1 [(41, rc.2.2.1), (44, rc.2.2.2)]) (mk Mr [(3, rm.2.1), (4, rm.2.2.1)] Mr.2.1 [(40, rm.2.2.2.1), (41, rm.2.2.2.2.1), (42, rm.2.2.2.2.2)])
def Al_shelf (REL : Mm → Mm → Prop) : Prop := ∀ (Mc Mr : Mm) (u1 : Int32) (u2 : Int32), REL Mc Mr → ∃ (rc : Int32) (rm : (Int32 × (Nat → Int32) × Int32 × Int32)), fX6_shelf (Mc.1 2) (Mc.1 3) (Mc.1 27) u1 u2 = some rc ∧ fX7_shelf (Mr.1 1) (Mr.1 2) (Mr.1 10) (Mr.2.2 48) (Mr.2.2 49) u1 u2 = some rm ∧ rc = rm.1 ∧ REL Mc (mk Mr [(10, rm.2.1)] Mr.2.1 [(48, rm.2.2.1), (49, rm.2.2.2)])
def Al_list (REL : Mm → Mm → Prop) : Prop := ∀ (Mc Mr : Mm) (u1 : Int32) (u2 : Int32), REL Mc Mr → ∃ (rc : (Int32 × (Nat → Int32) × (Nat → Nat → Int64))) (rm : (Int32 × (Nat → Int32) × (Nat → Nat → Int64))), fX6_list (Mc.1 21) Mc.2.1 u1 u2 = some rc ∧ fX7_list (Mr.1 6) Mr.2.1 u1 u2 = some rm ∧ rc.1 = rm.1 ∧ REL (mk Mc [(21, rc.2.1)] rc.2.2 []) (mk Mr [(6, rm.2.1)] rm.2.2 [])
def Al_put (REL : Mm → Mm → Prop) : Prop := ∀ (Mc Mr : Mm) (u1 : Int32) (u2 : Int32) (u3 : Int64), REL Mc Mr → ∃ (rc : (Int32 × (Nat → Nat → Int64))) (rm : (Int32 × (Nat → Nat → Int64))), fX6_put (Mc.1 21) Mc.2.1 u1 u2 u3 = some rc ∧ fX7_put (Mr.1 6) Mr.2.1 u1 u2 u3 = some rm ∧ rc.1 = rm.1 ∧ REL (mk Mc [] rc.2 []) (mk Mr [] rm.2 [])
def Al_get (REL : Mm → Mm → Prop) : Prop := ∀ (Mc Mr : Mm) (u1 : Int32) (u2 : Int32), REL Mc Mr → ∃ (rc : Int64) (rm : Int64), fX6_get (Mc.1 21) Mc.2.1 u1 u2 = some rc ∧ fX7_get (Mr.1 6) Mr.2.1 u1 u2 = some rm ∧ rc = rm ∧ REL Mc Mr
def Al_play (REL : Mm → Mm → Prop) : Prop := ∀ (Mc Mr : Mm) (u1 : Int32), REL Mc Mr → ∃ (rc : (Int32 × (Nat → Int32) × Int32 × Int32)) (rm : (Int32 × (Nat → Int32) × (Nat → Int32) × (Nat → Int32) × (Nat → Int32) × (Nat → Int32) × (Nat → Int32) × (Nat → Int32) × Int32 × Int32 × Int32 × Int32)), fX6_play (Mc.1 2) (Mc.1 3) (Mc.1 15) (Mc.1 21) Mc.2.1 (Mc.2.2 41) (Mc.2.2 44) u1 = some rc ∧ fX7_play (Mr.1 3) (Mr.1 4) (Mr.1 6) (Mr.1 11) (Mr.1 12) (Mr.1 13) (Mr.1 14) (Mr.1 15) Mr.2.1 (Mr.2.2 40) (Mr.2.2 41) (Mr.2.2 42) (Mr.2.2 50) u1 = some rm ∧ rc.1 = rm.1 ∧ REL (mk Mc [(15, rc.2.1)] Mc.2.1 [(41, rc.2.2.1), (44, rc.2.2.2)]) (mk Mr [(3, rm.2.1), (4, rm.2.2.1), (11, rm.2.2.2.1), (12, rm.2.2.2.2.1), (13, rm.2.2.2.2.2.1), (14, rm.2.2.2.2.2.2.1), (15, rm.2.2.2.2.2.2.2.1)] Mr.2.1 [(40, rm.2.2.2.2.2.2.2.2.1), (41, rm.2.2.2.2.2.2.2.2.2.1), (42, rm.2.2.2.2.2.2.2.2.2.2.1), (50, rm.2.2.2.2.2.2.2.2.2.2.2)])
def Al_film (REL : Mm → Mm → Prop) : Prop := ∀ (Mc Mr : Mm) (u1 : Int32) (u2 : Int32), REL Mc Mr → ∃ (rc : (Int32 × (Nat → Int32) × (Nat → Int32) × (Nat → Int32) × (Nat → Int32) × (Nat → Int32) × (Nat → Int32) × (Nat → Nat → Int64) × Int32 × Int32)) (rm : (Int32 × (Nat → Int32) × (Nat → Int32) × (Nat → Int32) × (Nat → Int32) × (Nat → Int32) × (Nat → Int32) × (Nat → Int32) × (Nat → Int32) × (Nat → Int32) × (Nat → Nat → Int64) × Int32 × Int32 × Int32)), fX6_film (Mc.1 2) (Mc.1 3) (Mc.1 8) (Mc.1 9) (Mc.1 10) (Mc.1 11) (Mc.1 12) (Mc.1 21) (Mc.1 27) Mc.2.1 (Mc.2.2 41) (Mc.2.2 42) (Mc.2.2 43) u1 u2 = some rc ∧ fX7_film (Mr.1 1) (Mr.1 2) (Mr.1 6) (Mr.1 10) (Mr.1 11) (Mr.1 12) (Mr.1 13) (Mr.1 14) (Mr.1 15) (Mr.1 16) (Mr.1 17) Mr.2.1 (Mr.2.2 40) (Mr.2.2 41) (Mr.2.2 48) (Mr.2.2 49) (Mr.2.2 50) u1 u2 = some rm ∧ rc.1 = rm.1 ∧ REL (mk Mc [(8, rc.2.1), (9, rc.2.2.1), (10, rc.2.2.2.1), (11, rc.2.2.2.2.1), (12, rc.2.2.2.2.2.1), (21, rc.2.2.2.2.2.2.1)] rc.2.2.2.2.2.2.2.1 [(42, rc.2.2.2.2.2.2.2.2.1), (43, rc.2.2.2.2.2.2.2.2.2)]) (mk Mr [(6, rm.2.1), (10, rm.2.2.1), (11, rm.2.2.2.1), (12, rm.2.2.2.2.1), (13, rm.2.2.2.2.2.1), (14, rm.2.2.2.2.2.2.1), (15, rm.2.2.2.2.2.2.2.1), (16, rm.2.2.2.2.2.2.2.2.1), (17, rm.2.2.2.2.2.2.2.2.2.1)] rm.2.2.2.2.2.2.2.2.2.2.1 [(48, rm.2.2.2.2.2.2.2.2.2.2.2.1), (49, rm.2.2.2.2.2.2.2.2.2.2.2.2.1), (50, rm.2.2.2.2.2.2.2.2.2.2.2.2.2)])
def Al_feed (REL : Mm → Mm → Prop) : Prop := ∀ (Mc Mr : Mm) (u1 : Int32), REL Mc Mr → ∃ (rc : (Int32 × (Nat → Int32) × Int32)) (rm : (Int32 × (Nat → Int32) × Int32)), fX6_feed (Mc.1 23) (Mc.2.2 45) u1 = some rc ∧ fX7_feed (Mr.1 7) (Mr.2.2 43) u1 = some rm ∧ rc.1 = rm.1 ∧ REL (mk Mc [(23, rc.2.1)] Mc.2.1 [(45, rc.2.2)]) (mk Mr [(7, rm.2.1)] Mr.2.1 [(43, rm.2.2)])
def Al_wipe (REL : Mm → Mm → Prop) : Prop := ∀ (Mc Mr : Mm), REL Mc Mr → ∃ (rc : (Int32 × Int32)) (rm : (Int32 × Int32)), fX6_wipe (Mc.2.2 45) = some rc ∧ fX7_wipe (Mr.2.2 43) = some rm ∧ rc.1 = rm.1 ∧ REL (mk Mc [] Mc.2.1 [(45, rc.2)]) (mk Mr [] Mr.2.1 [(43, rm.2)])
def Al_read (REL : Mm → Mm → Prop) : Prop := ∀ (Mc Mr : Mm), REL Mc Mr → ∃ (rc : (Int32 × (Nat → Int32) × (Nat → Int32) × (Nat → Int32) × Int32 × Int32 × Int32 × Int32 × Int32 × Int32)) (rm : (Int32 × (Nat → Int32) × Int32 × Int32 × Int32 × Int32 × Int32 × Int32 × Int32 × Int32)), fX6_read (Mc.1 2) (Mc.1 3) (Mc.1 23) (Mc.1 24) (Mc.1 25) (Mc.1 26) (Mc.2.2 41) (Mc.2.2 44) (Mc.2.2 45) (Mc.2.2 46) (Mc.2.2 47) (Mc.2.2 48) = some rc ∧ fX7_read (Mr.1 7) (Mr.1 20) (Mr.2.2 40) (Mr.2.2 41) (Mr.2.2 42) (Mr.2.2 43) (Mr.2.2 44) (Mr.2.2 52) (Mr.2.2 53) (Mr.2.2 54) = some rm ∧ rc.1 = rm.1 ∧ REL (mk Mc [(24, rc.2.1), (25, rc.2.2.1), (26, rc.2.2.2.1)] Mc.2.1 [(41, rc.2.2.2.2.1), (44, rc.2.2.2.2.2.1), (45, rc.2.2.2.2.2.2.1), (46, rc.2.2.2.2.2.2.2.1), (47, rc.2.2.2.2.2.2.2.2.1), (48, rc.2.2.2.2.2.2.2.2.2)]) (mk Mr [(20, rm.2.1)] Mr.2.1 [(40, rm.2.2.1), (41, rm.2.2.2.1), (42, rm.2.2.2.2.1), (43, rm.2.2.2.2.2.1), (44, rm.2.2.2.2.2.2.1), (52, rm.2.2.2.2.2.2.2.1), (53, rm.2.2.2.2.2.2.2.2.1), (54, rm.2.2.2.2.2.2.2.2.2)])
def Al_written (REL : Mm → Mm → Prop) : Prop := ∀ (Mc Mr : Mm) (u1 : Int32), REL Mc Mr → ∃ (rc : Int32) (rm : (Int32 × (Nat → Int32) × (Nat → Int32) × (Nat → Int32) × (Nat → Int32) × (Nat → Int32) × (Nat → Int32) × Int32 × Int32)), fX6_written (Mc.1 2) (Mc.1 3) (Mc.2.2 41) u1 = some rc ∧ fX7_written (Mr.1 11) (Mr.1 12) (Mr.1 13) (Mr.1 14) (Mr.1 15) (Mr.1 19) (Mr.2.2 40) (Mr.2.2 41) (Mr.2.2 50) (Mr.2.2 51) u1 = some rm ∧ rc = rm.1 ∧ REL Mc (mk Mr [(11, rm.2.1), (12, rm.2.2.1), (13, rm.2.2.2.1), (14, rm.2.2.2.2.1), (15, rm.2.2.2.2.2.1), (19, rm.2.2.2.2.2.2.1)] Mr.2.1 [(50, rm.2.2.2.2.2.2.2.1), (51, rm.2.2.2.2.2.2.2.2)])
def Al_image (REL : Mm → Mm → Prop) : Prop := ∀ (Mc Mr : Mm), REL Mc Mr → ∃ (rc : (Int32 × (Nat → Int32) × Int32)) (rm : (Int32 × (Nat → Int32) × (Nat → Int32) × Int32 × Int32 × Int32)), fX6_image (Mc.1 3) (Mc.1 27) (Mc.1 28) (Mc.2.2 40) (Mc.2.2 41) = some rc ∧ fX7_image (Mr.1 1) (Mr.1 2) (Mr.1 8) (Mr.1 9) (Mr.2.2 40) (Mr.2.2 41) (Mr.2.2 45) (Mr.2.2 46) (Mr.2.2 47) = some rm ∧ rc.1 = rm.1 ∧ REL (mk Mc [(28, rc.2.1)] Mc.2.1 [(40, rc.2.2)]) (mk Mr [(8, rm.2.1), (9, rm.2.2.1)] Mr.2.1 [(45, rm.2.2.2.1), (46, rm.2.2.2.2.1), (47, rm.2.2.2.2.2)])
def Al_undo (REL : Mm → Mm → Prop) : Prop := ∀ (Mc Mr : Mm), REL Mc Mr → ∃ (rc : (Int32 × (Nat → Int32) × Int32 × Int32)) (rm : (Int32 × (Nat → Int32) × (Nat → Int32) × Int32 × Int32 × Int32)), fX6_undo (Mc.1 3) (Mc.1 27) (Mc.1 28) (Mc.2.2 40) (Mc.2.2 41) (Mc.2.2 44) = some rc ∧ fX7_undo (Mr.1 1) (Mr.1 2) (Mr.1 8) (Mr.1 9) (Mr.2.2 40) (Mr.2.2 41) (Mr.2.2 42) (Mr.2.2 45) (Mr.2.2 46) (Mr.2.2 47) = some rm ∧ rc.1 = rm.1 ∧ REL (mk Mc [(27, rc.2.1)] Mc.2.1 [(41, rc.2.2.1), (44, rc.2.2.2)]) (mk Mr [(1, rm.2.1), (2, rm.2.2.1)] Mr.2.1 [(40, rm.2.2.2.1), (41, rm.2.2.2.2.1), (42, rm.2.2.2.2.2)])
def Al_count (REL : Mm → Mm → Prop) : Prop := ∀ (Mc Mr : Mm) (u1 : Int32), REL Mc Mr → ∃ (rc : Int32) (rm : Int32), fX6_count (Mc.1 3) (Mc.1 21) (Mc.1 27) (Mc.2.2 41) (Mc.2.2 44) (Mc.2.2 45) u1 = some rc ∧ fX7_count (Mr.1 1) (Mr.1 6) (Mr.2.2 40) (Mr.2.2 42) (Mr.2.2 43) u1 = some rm ∧ rc = rm ∧ REL Mc Mr
def AlAll (REL : Mm → Mm → Prop) : Prop :=
  Al_nodes REL ∧
  Al_row REL ∧
  Al_of REL ∧
  Al_number REL ∧
  Al_which REL ∧
  Al_many REL ∧
  Al_digits REL ∧
  Al_turn REL ∧
  Al_back REL ∧
  Al_mayTurn REL ∧
  Al_mirror REL ∧
  Al_off REL ∧
  Al_below REL ∧
  Al_meet REL ∧
  Al_meetAll REL ∧
  Al_between REL ∧
  Al_way REL ∧
  Al_chain REL ∧
  Al_mark REL ∧
  Al_pairs REL ∧
  Al_far REL ∧
  Al_canopy REL ∧
  Al_inClass REL ∧
  Al_likeness REL ∧
  Al_keep REL ∧
  Al_lay REL ∧
  Al_lose REL ∧
  Al_over REL ∧
  Al_under REL ∧
  Al_shelf REL ∧
  Al_list REL ∧
  Al_put REL ∧
  Al_get REL ∧
  Al_play REL ∧
  Al_film REL ∧
  Al_feed REL ∧
  Al_wipe REL ∧
  Al_read REL ∧
  Al_written REL ∧
  Al_image REL ∧
  Al_undo REL ∧
  Al_count REL
