/-! the reference looks at a tree: what it writes does not depend on what stood there -/
def AGR (x y x' y' : Nat → Int32) : Prop := ∀ j, x' j = y' j ∨ (x' j = x j ∧ y' j = y j)
theorem AGR.rf (x y : Nat → Int32) : AGR x y x y := fun _ => Or.inr ⟨rfl, rfl⟩
theorem AGR.up {x y x1 y1 : Nat → Int32} (h : AGR x y x1 y1) (k : Nat) (v : Int32) : AGR x y (upd x1 k v) (upd y1 k v) := by
  intro j
  by_cases e : j = k
  · subst e
    exact Or.inl (by rw [upd_s, upd_s])
  · rw [upd_n e, upd_n e]
    exact h j
theorem AGR.tr {x y x1 y1 x2 y2 : Nat → Int32} (h : AGR x y x1 y1) (h2 : AGR x1 y1 x2 y2) : AGR x y x2 y2 := by
  intro j
  rcases h2 j with q | ⟨q1, q2⟩
  · exact Or.inl q
  · rw [q1, q2]
    exact h j
theorem wr_two {n : Nat} {f g f' : Nat → Int32} {i v : Int32} (h : wr n f i v = some f') : wr n g i v = some (upd g i.toNatClampNeg v) ∧ f' = upd f i.toNatClampNeg v := by
  unfold wr at h ⊢
  split at h
  · cases h
  · next q => exact ⟨by rw [if_neg q], (Option.some.inj h).symm⟩
theorem reads_ni : ∀ (d : Nat) (t n low high up deep : Int32) (yp yl yr ys ya xp xl xr xs xa : Nat → Int32) (r : Int32 × (Nat → Int32) × (Nat → Int32) × (Nat → Int32) × (Nat → Int32) × (Nat → Int32)), fX7_reads d yp yl yr ys ya t n low high up deep = some r →
    ∃ q : Int32 × (Nat → Int32) × (Nat → Int32) × (Nat → Int32) × (Nat → Int32) × (Nat → Int32), fX7_reads d xp xl xr xs xa t n low high up deep = some q ∧ q.1 = r.1 ∧ AGR xp yp q.2.1 r.2.1 ∧ AGR xl yl q.2.2.1 r.2.2.1 ∧ AGR xr yr q.2.2.2.1 r.2.2.2.1 ∧ AGR xs ys q.2.2.2.2.1 r.2.2.2.2.1 ∧ AGR xa ya q.2.2.2.2.2 r.2.2.2.2.2 := by
  intro d
  induction d with
  | zero => intro t n low high up deep yp yl yr ys ya xp xl xr xs xa r h; rw [fX7_reads] at h; cases h
  | succ d ih =>
    intro t n low high up deep yp yl yr ys ya xp xl xr xs xa r h
    rw [fX7_reads] at h ⊢
    by_cases hc : low ≤ high
    · rw [if_pos hc] at h ⊢
      obtain ⟨root, hroot, h⟩ := ob h
      obtain ⟨u2, hu2, h⟩ := ob h
      obtain ⟨u3, hu3, h⟩ := ob h
      obtain ⟨u4, hu4, h⟩ := ob h
      obtain ⟨r5, hr5, h⟩ := ob h
      obtain ⟨u6, hu6, h⟩ := ob h
      obtain ⟨r7, hr7, h⟩ := ob h
      obtain ⟨u8, hu8, h⟩ := ob h
      have e := Option.some.inj h
      subst e
      obtain ⟨w2, e2⟩ := wr_two (g := xp) hu2
      obtain ⟨w3, e3⟩ := wr_two (g := xa) hu3
      obtain ⟨w4, e4⟩ := wr_two (g := xs) hu4
      obtain ⟨q5, hq5, a1, a2, a3, a4, a5, a6⟩ := ih t n low (root - nI 1) root (deep + nI 1) u2 yl yr u4 u3 (upd xp root.toNatClampNeg up) xl xr (upd xs root.toNatClampNeg (root - low)) (upd xa root.toNatClampNeg deep) r5 hr5
      obtain ⟨w6, e6⟩ := wr_two (g := q5.2.2.1) hu6
      obtain ⟨q7, hq7, b1, b2, b3, b4, b5, b6⟩ := ih t n (root + nI 1) high root (deep + nI 1) r5.2.1 u6 r5.2.2.2.1 r5.2.2.2.2.1 r5.2.2.2.2.2 q5.2.1 (upd q5.2.2.1 root.toNatClampNeg r5.1) q5.2.2.2.1 q5.2.2.2.2.1 q5.2.2.2.2.2 r7 hr7
      obtain ⟨w8, e8⟩ := wr_two (g := q7.2.2.2.1) hu8
      refine ⟨(root, q7.2.1, q7.2.2.1, upd q7.2.2.2.1 root.toNatClampNeg r7.1, q7.2.2.2.2.1, q7.2.2.2.2.2), ?_, rfl, ?_, ?_, ?_, ?_, ?_⟩
      · rw [hroot, Option.bind_some, w2, Option.bind_some, w3, Option.bind_some, w4, Option.bind_some, hq5, Option.bind_some, a1, w6, Option.bind_some, hq7, Option.bind_some, b1, w8, Option.bind_some]
      · exact AGR.tr (AGR.tr (by rw [e2]; exact AGR.up (AGR.rf _ _) _ _) a2) b2
      · exact AGR.tr (by rw [e6]; exact AGR.up a3 _ _) b3
      · rw [e8]
        exact AGR.up (AGR.tr a4 b4) _ _
      · exact AGR.tr (AGR.tr (by rw [e4]; exact AGR.up (AGR.rf _ _) _ _) a5) b5
      · exact AGR.tr (AGR.tr (by rw [e3]; exact AGR.up (AGR.rf _ _) _ _) a6) b6
    · rw [if_neg hc] at h ⊢
      have e := Option.some.inj h
      subst e
      exact ⟨_, rfl, rfl, AGR.rf _ _, AGR.rf _ _, AGR.rf _ _, AGR.rf _ _, AGR.rf _ _⟩
def c77 : Nat → Int32 := fun _ => nI 77
def lkB (p : Nat) : Bool := match fX7_reads 16 c77 c77 c77 c77 c77 (nI (dcF p)) (nI (szF p)) (nI 0) (nI (szF p - 1)) (-5 : Int32) (nI 0) with
  | some r => decide (r.1 = nI (roF p)) && (List.range (szF p)).all fun i => decide (r.2.1 i = ntI (f4 paB p i)) && decide (r.2.2.1 i = ntI (f4 lcB p i)) && decide (r.2.2.2.1 i = ntI (f4 rcB p i)) && decide (r.2.2.2.2.1 i = nI (f4 lsB p i)) && decide (r.2.2.2.2.2 i = nI (f4 dpB p i))
  | none => false
theorem k_look : (List.range 626).all (fun p => decide (p = 0) || lkB p) = true := by decide +kernel
theorem nt77 : ∀ x, x < 16 → ¬ ntI x = nI 77 ∧ ¬ nI x = nI 77 := by decide
theorem f4_lt (B p i : Nat) : f4 B p i < 16 := Nat.mod_lt _ (by omega)
/-- what stands behind a look at the tree of place p -/
def LOK (p : Nat) (P L R S A : Nat → Int32) : Prop := ∀ i, i < szF p → P i = ntI (f4 paB p i) ∧ L i = ntI (f4 lcB p i) ∧ R i = ntI (f4 rcB p i) ∧ S i = nI (f4 lsB p i) ∧ A i = nI (f4 dpB p i)
theorem m_looks {p : Nat} (h0 : 0 < p) (hp : p < 626) (P L R S A : Nat → Int32) (rdv : Int32) : ∃ P' L' R' S' A', fX7_looks P L R S A rdv (nI (dcF p)) (nI (szF p)) = some (P', L', R', S', A', nI (roF p)) ∧ LOK p P' L' R' S' A' := by
  have hs := sz_pos hp h0
  have h1 := ra k_look hp
  simp only [show ¬ p = 0 by omega, decide_false, Bool.false_or] at h1
  unfold lkB at h1
  cases hr : fX7_reads 16 c77 c77 c77 c77 c77 (nI (dcF p)) (nI (szF p)) (nI 0) (nI (szF p - 1)) (-5 : Int32) (nI 0) with
  | none => rw [hr] at h1; cases h1
  | some r =>
    rw [hr] at h1
    simp only [Bool.and_eq_true, decide_eq_true_eq] at h1
    obtain ⟨q, hq, e1, a1, a2, a3, a4, a5⟩ := reads_ni 16 _ _ _ _ _ _ c77 c77 c77 c77 c77 P L R S A r hr
    refine ⟨q.2.1, q.2.2.1, q.2.2.2.1, q.2.2.2.2.1, q.2.2.2.2.2, ?_, fun i hi => ?_⟩
    · unfold fX7_looks
      rw [pk_sub (show 1 ≤ szF p by omega), hq, Option.bind_some, e1, h1.1]
    · have h2 := List.all_eq_true.mp h1.2 i (List.mem_range.mpr hi)
      simp only [Bool.and_eq_true, decide_eq_true_eq] at h2
      obtain ⟨⟨⟨⟨g1, g2⟩, g3⟩, g4⟩, g5⟩ := h2
      have pick : ∀ {x x' y' : Nat → Int32} {v : Int32}, AGR x c77 x' y' → y' i = v → ¬ v = nI 77 → x' i = v := fun ha hv hn => by
        rcases ha i with z | ⟨-, z⟩
        · rw [z, hv]
        · exact absurd (hv.symm.trans z) hn
      exact ⟨pick a1 g1 (nt77 _ (f4_lt _ _ _)).1, pick a2 g2 (nt77 _ (f4_lt _ _ _)).1, pick a3 g3 (nt77 _ (f4_lt _ _ _)).1, pick a4 g4 (nt77 _ (f4_lt _ _ _)).2, pick a5 g5 (nt77 _ (f4_lt _ _ _)).2⟩
def upB1 (p c : Nat) : Bool :=
  let i := f4 paB p c
  if i = 9 then decide (upF p c = 0) else decide (i < szF p) && (if f4 lcB p i = c then decide (0 < upF p c) && decide (p < upF p c) && decide (upF p c < 626) && decide (szF (upF p c) = szF p) && decide (dgF p c * P10 (szF p - 1 - c) ≤ dcF p + (dgF p c + 1 + dgF p i) * P10 (szF p - 1 - c)) && decide (dcF (upF p c) = dcF p + (dgF p c + 1 + dgF p i) * P10 (szF p - 1 - c) - dgF p c * P10 (szF p - 1 - c)) else decide (upF p c = 0))
theorem k_up : (List.range 626).all (fun p => (List.range 7).all fun c => !(decide (c < szF p)) || upB1 p c) = true := by decide +kernel
def bkB1 (p c : Nat) : Bool :=
  let i := f4 rcB p c
  if i = 9 then decide (bkF p c = 0) else decide (c < i) && decide (i < szF p) && decide (0 < bkF p c) && decide (bkF p c < p) && decide (szF (bkF p c) = szF p) && decide (dgF p c * P10 (szF p - 1 - c) ≤ dcF p + (i - c - 1) * P10 (szF p - 1 - c)) && decide (dcF (bkF p c) = dcF p + (i - c - 1) * P10 (szF p - 1 - c) - dgF p c * P10 (szF p - 1 - c))
theorem k_bk : (List.range 626).all (fun p => (List.range 7).all fun c => !(decide (c < szF p)) || bkB1 p c) = true := by decide +kernel
/-- where a turn leads: a place of the same size, or none -/
def gtI (q : Nat) : Int32 := if q = 0 then (-5 : Int32) else nI (dcF q)
theorem nt_9 : ntI 9 = (-5 : Int32) := rfl
theorem nt_n {x : Nat} (h : x ≠ 9) : ntI x = nI x := if_neg h
theorem m_up {p c : Nat} (h0 : 0 < p) (hp : p < 626) (hc : c < szF p) (P L R S A : Nat → Int32) (rdv : Int32) : ∃ P' L' R' S' A', fX7_up P L R S A rdv (nI (dcF p)) (nI (szF p)) (nI c) = some (gtI (upF p c), P', L', R', S', A', nI (roF p)) := by
  obtain ⟨P', L', R', S', A', hl, hk⟩ := m_looks h0 hp P L R S A rdv
  refine ⟨P', L', R', S', A', ?_⟩
  have hsz := sz_le hp
  have hdb := dc_big hp
  have h1 := ra (ra k_up hp) (show c < 7 by omega)
  simp only [hc, decide_true, Bool.not_true, Bool.false_or] at h1
  unfold upB1 at h1
  have h16 := f4_lt paB p c
  unfold fX7_up
  rw [hl, Option.bind_some]
  simp only
  rw [rd_n (show c < 7 by omega) (by omega), Option.bind_some, (hk c hc).1]
  by_cases h9 : f4 paB p c = 9
  · simp only [h9, if_true, decide_eq_true_eq] at h1
    rw [h9, nt_9, if_pos rfl, h1]
    rfl
  · simp only [h9, if_false, Bool.and_eq_true, decide_eq_true_eq] at h1
    obtain ⟨hi, h1⟩ := h1
    rw [nt_n h9, if_neg (nI_nm5 (by omega)), rd_n (show f4 paB p c < 7 by omega) (by omega), Option.bind_some, (hk _ hi).2.1]
    have h16b := f4_lt lcB p (f4 paB p c)
    by_cases hlc : f4 lcB p (f4 paB p c) = c
    · rw [if_pos hlc] at h1
      simp only [Bool.and_eq_true, decide_eq_true_eq] at h1
      obtain ⟨⟨⟨⟨⟨g1, -⟩, g2⟩, g3⟩, g4⟩, g5⟩ := h1
      have hd1 := dg_lt hp hc
      have hd2 := dg_lt hp hi
      rw [hlc, nt_n (by omega), if_pos rfl, m_at' hp hc, Option.bind_some, m_at' hp hi, Option.bind_some]
      rw [nI_add, nI_add, m_with (show dcF p < 2147483648 by omega) hc (by omega) (by rw [at_dg hp hc]; exact g4), Option.bind_some, at_dg hp hc, ← g5]
      unfold gtI
      rw [if_neg (by omega)]
    · rw [if_neg hlc] at h1
      simp only [decide_eq_true_eq] at h1
      rw [if_neg, h1]
      · rfl
      · by_cases h99 : f4 lcB p (f4 paB p c) = 9
        · rw [h99, nt_9]
          exact fun e => nI_nm5 (show c < 2147483648 by omega) e.symm
        · rw [nt_n h99]
          exact fun e => hlc ((nI_eq (by omega) (by omega)).mp e)
theorem m_down {p c : Nat} (h0 : 0 < p) (hp : p < 626) (hc : c < szF p) (P L R S A : Nat → Int32) (rdv : Int32) : ∃ P' L' R' S' A', fX7_down P L R S A rdv (nI (dcF p)) (nI (szF p)) (nI c) = some (gtI (bkF p c), P', L', R', S', A', nI (roF p)) := by
  obtain ⟨P', L', R', S', A', hl, hk⟩ := m_looks h0 hp P L R S A rdv
  refine ⟨P', L', R', S', A', ?_⟩
  have hsz := sz_le hp
  have hdb := dc_big hp
  have h1 := ra (ra k_bk hp) (show c < 7 by omega)
  simp only [hc, decide_true, Bool.not_true, Bool.false_or] at h1
  unfold bkB1 at h1
  have h16 := f4_lt rcB p c
  unfold fX7_down
  rw [hl, Option.bind_some]
  simp only
  rw [rd_n (show c < 7 by omega) (by omega), Option.bind_some, (hk c hc).2.2.1]
  by_cases h9 : f4 rcB p c = 9
  · simp only [h9, if_true, decide_eq_true_eq] at h1
    rw [h9, nt_9, if_pos rfl, h1]
    rfl
  · simp only [h9, if_false, Bool.and_eq_true, decide_eq_true_eq] at h1
    obtain ⟨⟨⟨⟨⟨⟨gc, hi⟩, g1⟩, g2⟩, g3⟩, g4⟩, g5⟩ := h1
    rw [nt_n h9, if_neg (nI_nm5 (by omega)), Option.bind_some]
    rw [pk_sub (show c ≤ f4 rcB p c by omega), pk_sub (show 1 ≤ f4 rcB p c - c by omega), m_with (show dcF p < 2147483648 by omega) hc (by omega) (by rw [at_dg hp hc]; exact g4), Option.bind_some, at_dg hp hc, ← g5]
    unfold gtI
    rw [if_neg (by omega)]
