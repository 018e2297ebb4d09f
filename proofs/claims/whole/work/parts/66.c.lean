/-- the rows from a to b are those of a tree -/
def TRO (g : Nat → Nat) (a b : Nat) : Prop := ∀ k, a ≤ k → k < b → k + g k < b ∧ ∀ j, k < j → j ≤ k + g k → j + g j ≤ k + g k
def SUC (bt aw on rs row : Nat → Int32) (len i seen opd o aT seen' opd' : Nat) (part' : Int32) (row' : Nat → Int32) : Prop :=
  part' = nI (seen' - seen) ∧ (seen ≤ seen' ∧ (o = 0 → seen < seen')) ∧ opd' + seen = opd + seen' ∧ opd' ≤ 7 ∧ i < aT ∧ ∃ (k : Nat) (aw1 on1 rs1 : Nat → Int32) (g : Nat → Nat), k < 400 * (opd' - opd) + 2 ∧ stp (fX4_parse_B17 bt (nI len)) k (nI i, aw, on, rs, nI o, nI opd, nI seen) = some (nI aT, (ES o aw1 on1 seen').1, (ES o aw1 on1 seen').2.1, rs1, nI o, nI opd', nI (ES o aw1 on1 seen').2.2) ∧ (∀ j, j < o → aw1 j = aw j ∧ on1 j = on j) ∧ (∀ j, j < seen → rs1 j = rs j ∧ row' j = row j) ∧ (∀ j, seen ≤ j → j < seen' → rs1 j = nI (g j) ∧ row' j = nI (g j)) ∧ TRO g seen seen'
def FAI (bt aw on rs : Nat → Int32) (len i seen opd o aT opd' : Nat) : Prop := opd' ≤ 7 ∧ opd ≤ opd' ∧ ∃ (k : Nat) (x' : Int32 × (Nat → Int32) × (Nat → Int32) × (Nat → Int32) × Int32 × Int32 × Int32), k < 400 * (opd' - opd) + 2 ∧ stp (fX4_parse_B17 bt (nI len)) k (nI i, aw, on, rs, nI o, nI opd, nI seen) = some x' ∧ FLT bt len aT x'
theorem nI_02 : ¬ nI 0 = nI 2 := by decide
theorem nI_12 : ¬ nI 1 = nI 2 := by decide
theorem sees_ok {bt tp : Nat → Int32} {len : Nat} (hl : len ≤ 60) (hbt : ∀ i, i < len → bt i = tp i) : ∀ (d i seen opd o : Nat) (aw on rs row : Nat → Int32) (part : Int32) (v : Bool), 8 ≤ d + opd → i ≤ len → o ≤ opd → opd ≤ 7 → seen ≤ opd → ((v = true ∧ 0 < o ∧ (aw (o - 1) = nI 0 ∨ aw (o - 1) = nI 1)) ∨ (v = false ∧ o = 0 ∧ opd = 0)) →
    ∃ (ok : Bool) (aT seen' opd' : Nat) (part' : Int32) (row' : Nat → Int32), fX7_sees d tp row (nI len) (nI i) (nI seen) (nI opd) part (bI v) = some (bI ok, row', nI aT, nI seen', nI opd', part') ∧ aT ≤ len ∧ (ok = true → SUC bt aw on rs row len i seen opd o aT seen' opd' part' row') ∧ (ok = false → FAI bt aw on rs len i seen opd o aT opd') := by
  intro d
  induction d with
  | zero => intro i seen opd o aw on rs row part v h1 h2 h3 h4; omega
  | succ d ih =>
    intro i seen opd o aw on rs row part v h1 h2 h3 h4 h5 h6
    have sg := m_sign (tp := tp) hl h2
    have h6' : o = 0 ∨ ¬ aw (o - 1) = nI 2 := by
      rcases h6 with ⟨_, _, h | h⟩ | ⟨_, h, _⟩
      · exact Or.inr (by rw [h]; exact nI_02)
      · exact Or.inr (by rw [h]; exact nI_12)
      · exact Or.inl h
    have h6o : 0 < o ∨ opd = 0 := by
      rcases h6 with ⟨_, h, _⟩ | ⟨_, _, h⟩
      · exact Or.inl h
      · exact Or.inr h
    -- a fault at this very place
    have here : FLT bt len i (nI i, aw, on, rs, nI o, nI opd, nI seen) → FAI bt aw on rs len i seen opd o i opd := fun h => ⟨h4, Nat.le_refl _, 0, _, by omega, rfl, h⟩
    rw [fX7_sees, sg, Option.bind_some]
    by_cases hend : len ≤ i
    · have ei : i = len := by omega
      subst ei
      rw [if_pos hend, if_neg (by decide), Option.bind_some, if_neg (by decide)]
      exact ⟨false, i, seen, opd, part, row, rfl, Nat.le_refl _, (fun h => by cases h), fun _ => here (f_end hl h6o (by omega) h4)⟩
    · have hi : i < len := by omega
      rw [if_neg hend]
      simp only [Option.bind_some]
      have eb := hbt i hi
      by_cases h46 : tp i = nI 46
      · rw [if_pos h46]
        cases v with
        | false =>
          have hv : (if bI false = nI 0 then (1 : Nat) else 0) = 1 := rfl
          rcases h6 with ⟨h, _⟩ | ⟨_, ho, hop⟩
          · cases h
          · rw [if_pos (show bI false = nI 0 from rfl), if_neg (by rw [h46]; decide)]
            refine ⟨false, i, seen, opd, part, row, rfl, h2, (fun h => by cases h), fun _ => here (f_no hl hi ?_)⟩
            rw [eb, h46, ho, hop]
            have hs : fX4_staysNothing aw on (nI 0) (nI seen) = some (nI 0, aw, on, nI seen) := by
              unfold fX4_staysNothing
              rw [c_awNow (show 0 ≤ 7 by omega)]
              rfl
            unfold fX4_accepts
            rw [if_neg (by decide), if_neg (by decide), if_pos rfl, hs]
            exact ⟨_, rfl⟩
        | true =>
          rcases h6 with ⟨_, ho, hw⟩ | ⟨h, _⟩
          · rw [if_neg (show ¬ bI true = nI 0 by decide), nI_add]
            refine ⟨true, i + 1, seen, opd, nI 0, row, rfl, hi, fun _ => ⟨by rw [Nat.sub_self], ⟨Nat.le_refl _, fun e => absurd e (by omega)⟩, rfl, h4, Nat.lt_succ_self _, 1, aw, on, rs, fun _ => 0, by omega, ?_, fun _ _ => ⟨rfl, rfl⟩, fun _ _ => ⟨rfl, rfl⟩, fun j h1 h2 => absurd h1 (by omega), fun k h1 h2 => absurd h1 (by omega)⟩, fun h => by cases h⟩
            exact stp_1 (b_dot hl hi (by rw [eb]; exact h46) ho (by omega) (by omega) (h6'.resolve_left (by omega))) rfl
          · cases h
      · rw [if_neg h46]
        by_cases h40 : tp i = nI 40
        · rw [if_pos h40]
          by_cases h7 : opd = 7
          · rw [h7, if_pos rfl]
            refine ⟨false, i, seen, 7, part, row, rfl, h2, (fun h => by cases h), fun _ => ?_⟩
            rw [← h7]
            refine here (f_no hl hi ?_)
            rw [eb, h40, h7]
            unfold fX4_accepts
            rw [if_pos rfl, c_open7 (by omega)]
            exact ⟨_, rfl⟩
          · rw [if_neg (fun e => h7 ((nI_eq (by omega) (by omega)).mp e)), nI_add, nI_add]
            have hop := b_open (bt := bt) (on := on) (rs := rs) (num := seen) (aw := aw) hl hi (eb.trans h40) h3 (show opd < 7 by omega) (h6o.elim (fun h => Or.inr ⟨h, h6'.resolve_left (by omega)⟩) Or.inl)
            obtain ⟨okL, a1, seen1, opd1, part1, row1, eL, haL, sL, fL⟩ := ih (i + 1) seen (opd + 1) (o + 1) (upd aw o (nI 0)) on rs row part true (by omega) (by omega) (by omega) (by omega) (by omega) (Or.inl ⟨rfl, by omega, Or.inl (by rw [Nat.add_sub_cancel, upd_s])⟩)
            have eL' : fX7_sees d tp row (nI len) (nI (i + 1)) (nI seen) (nI (opd + 1)) part (nI 1) = some (bI okL, row1, nI a1, nI seen1, nI opd1, part1) := eL
            rw [eL', Option.bind_some]
            cases okL with
            | false =>
              obtain ⟨f1, f2, k, x', f3, f4, f5⟩ := fL rfl
              refine ⟨false, a1, seen1, opd1, part1, row1, rfl, haL, (fun h => by cases h), fun _ => ⟨f1, by omega, k + 1, x', by omega, stp_1 hop f4, f5⟩⟩
            | true =>
              obtain ⟨l1, l2, l3, l4, l5, kL, aw1, on1, rs1, gL, l6, l7, l8, l9, l10, l11⟩ := sL rfl
              have haw : aw1 o = nI 0 := by
                have := (l8 o (by omega)).1
                rw [upd_s] at this
                exact this
              have eES : ES (o + 1) aw1 on1 seen1 = (upd aw1 o (nI 1), upd on1 o (nI seen1), seen1 + 1) := by
                unfold ES
                rw [if_neg (by omega), Nat.add_sub_cancel, if_pos haw]
              rw [eES] at l7
              rw [if_neg (show ¬ bI true = nI 0 by decide)]
              dsimp only at l7 ⊢
              rw [nI_add]
              obtain ⟨okR, a2, seen2, opd2, part2, row2, eR, haR, sR, fR⟩ := ih a1 (seen1 + 1) opd1 (o + 1) (upd aw1 o (nI 1)) (upd on1 o (nI seen1)) rs1 row1 part1 true (by omega) haL (by omega) l4 (by omega) (Or.inl ⟨rfl, by omega, Or.inr (by rw [Nat.add_sub_cancel, upd_s])⟩)
              have eR' : fX7_sees d tp row1 (nI len) (nI a1) (nI (seen1 + 1)) (nI opd1) part1 (nI 1) = some (bI okR, row2, nI a2, nI seen2, nI opd2, part2) := eR
              rw [eR', Option.bind_some]
              cases okR with
              | false =>
                obtain ⟨f1, f2, k, x', f3, f4, f5⟩ := fR rfl
                refine ⟨false, a2, seen2, opd2, part2, row2, rfl, haR, (fun h => by cases h), fun _ => ⟨f1, by omega, kL + 1 + k, x', by omega, stp_add (kL + 1) k _ _ _ (stp_1 hop l7) f4, f5⟩⟩
              | true =>
                obtain ⟨r1, r2, r3, r4, r5, kR, aw3, on3, rs3, gR, r6, r7, r8, r9, r10, r11⟩ := sR rfl
                have haw3 : aw3 o = nI 1 := by
                  have := (r8 o (by omega)).1
                  rw [upd_s] at this
                  exact this
                have hon3 : on3 o = nI seen1 := by
                  have := (r8 o (by omega)).2
                  rw [upd_s] at this
                  exact this
                have eES3 : ES (o + 1) aw3 on3 seen2 = (upd aw3 o (nI 2), on3, seen2) := by
                  unfold ES
                  rw [if_neg (by omega), Nat.add_sub_cancel, if_neg (by rw [haw3]; decide)]
                rw [eES3] at r7
                dsimp only at r7
                have run2 := stp_add (kL + 1) kR _ _ _ (stp_1 hop l7) r7
                rw [if_neg (show ¬ bI true = nI 0 by decide)]
                dsimp only
                rw [m_sign hl haR, Option.bind_some]
                have htop : upd aw3 o (nI 2) (o + 1 - 1) = nI 2 := by rw [Nat.add_sub_cancel, upd_s]
                by_cases hc : (if len ≤ a2 then (-1 : Int32) else tp a2) = nI 41
                · have ha2 : a2 < len := by
                    rcases Nat.lt_or_ge a2 len with q | q
                    · exact q
                    · rw [if_pos q] at hc
                      exact absurd hc (by decide)
                  rw [if_neg (by omega)] at hc
                  rw [if_neg (show ¬ len ≤ a2 by omega), if_pos hc, wr_n (show seen1 < 7 by omega) (by omega), Option.bind_some, nI_add, r1, l1, nI_add, nI_add]
                  have hcl := b_close (bt := bt) (on := on3) (rs := rs3) (opd := opd2) hl ha2 ((hbt a2 ha2).trans hc) (show 0 < o + 1 by omega) (by omega) (show seen2 < 100 by omega) htop (show on3 (o + 1 - 1) = nI seen1 from hon3) (show seen1 < 7 by omega) (by omega)
                  rw [Nat.add_sub_cancel] at hcl
                  refine ⟨true, a2 + 1, seen2, opd2, _, _, rfl, ha2, fun _ => ⟨?_, ⟨by omega, fun _ => by omega⟩, by omega, r4, by omega, kL + 1 + kR + 1, upd aw3 o (nI 2), on3, upd rs3 seen1 (nI (seen2 - seen1 - 1)), fun j => if j < seen1 then gL j else if j = seen1 then seen2 - seen1 - 1 else gR j, by omega, ?_, fun j hj => ?_, fun j hj => ?_, fun j hj hj2 => ?_, fun k hk hk2 => ?_⟩, fun h => by cases h⟩
                  · congr 1
                    omega
                  · exact stp_add (kL + 1 + kR) 1 _ _ _ run2 (stp_1 hcl rfl)
                  · have e1 := r8 j (by omega)
                    have e2 := l8 j (by omega)
                    rw [upd_n (by omega)] at e1 e2 ⊢
                    rw [upd_n (by omega)] at e1
                    exact ⟨e1.1.trans e2.1, e1.2.trans e2.2⟩
                  · have e1 := r9 j (by omega)
                    have e2 := l9 j hj
                    rw [upd_n (by omega), upd_n (by omega)]
                    exact ⟨e1.1.trans e2.1, e1.2.trans e2.2⟩
                  · dsimp only
                    by_cases q1 : j < seen1
                    · rw [if_pos q1, upd_n (by omega), upd_n (by omega)]
                      have e1 := r9 j (by omega)
                      have e2 := l10 j hj q1
                      exact ⟨e1.1.trans e2.1, e1.2.trans e2.2⟩
                    · rw [if_neg q1]
                      by_cases q2 : j = seen1
                      · rw [if_pos q2, q2, upd_s, upd_s]
                        exact ⟨rfl, by rw [show seen2 - (seen1 + 1) = seen2 - seen1 - 1 by omega]⟩
                      · rw [if_neg q2, upd_n q2, upd_n q2]
                        exact r10 j (by omega) hj2
                  · dsimp only
                    by_cases q1 : k < seen1
                    · rw [if_pos q1]
                      obtain ⟨t1, t2⟩ := l11 k hk q1
                      refine ⟨by omega, fun j h1 h2 => ?_⟩
                      rw [if_pos (by omega)]
                      exact t2 j h1 h2
                    · rw [if_neg q1]
                      by_cases q2 : k = seen1
                      · rw [if_pos q2]
                        refine ⟨by omega, fun j h1 h2 => ?_⟩
                        rw [if_neg (by omega), if_neg (by omega)]
                        have := (r11 j (by omega) (by omega)).1
                        omega
                      · rw [if_neg q2]
                        obtain ⟨t1, t2⟩ := r11 k (by omega) hk2
                        refine ⟨t1, fun j h1 h2 => ?_⟩
                        rw [if_neg (by omega), if_neg (by omega)]
                        exact t2 j h1 h2
                · rw [if_neg hc]
                  refine ⟨false, a2, seen2, opd2, part2, row2, rfl, haR, (fun h => by cases h), fun _ => ⟨r4, by omega, kL + 1 + kR, _, by omega, run2, ?_⟩⟩
                  rcases Nat.lt_or_ge a2 len with q | q
                  · rw [if_neg (by omega)] at hc
                    exact f_no hl q (by rw [hbt a2 q]; exact a_top2 (by omega) (by omega) r4 hc htop)
                  · have ea : a2 = len := by omega
                    subst ea
                    exact f_end hl (Or.inl (by omega)) (by omega) r4
        · rw [if_neg h40]
          refine ⟨false, i, seen, opd, part, row, rfl, h2, (fun h => by cases h), fun _ => here (f_no hl hi ?_)⟩
          rw [eb]
          exact a_other (by omega) h40 h46 h6'
