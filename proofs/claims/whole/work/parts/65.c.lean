/-! the written text -/
def btN (x : Nat) : Nat := [40, 46, 41].getD x 0
def posN (p : Nat) : Nat → Nat
  | 0 => 0
  | j + 1 => posN p j + f4 opB p j + (1 + f4 clB p j)
def tbF (p m : Nat) : Nat → Nat → Nat → Nat
  | 0, _, _ => 0
  | k + 1, j, a => if szF p < j then 0 else if a + f4 opB p j ≤ m then (if m = a + f4 opB p j then 46 else if a + f4 opB p j + (1 + f4 clB p j) ≤ m then tbF p m k (j + 1) (a + f4 opB p j + (1 + f4 clB p j)) else 41) else 40
theorem k_pos : (List.range 626).all (fun p => decide (p = 0) || (List.range 9).all fun j => !(decide (j ≤ szF p + 1)) || decide (posN p j ≤ 3 * szF p + 1)) = true := by decide +kernel
theorem pos_le {p j : Nat} (h0 : 0 < p) (hp : p < 626) (hj : j ≤ szF p + 1) : posN p j ≤ 3 * szF p + 1 := by
  have h7 := sz_le hp
  have h := ra k_pos hp
  rw [Bool.or_eq_true] at h
  rcases h with h | h
  · have := of_decide_eq_true h
    omega
  · have h := ra h (show j < 9 by omega)
    simpa [hj] using h
theorem k_tb : (List.range 626).all (fun p => decide (p = 0) || (List.range 22).all fun m => !(decide (m < 3 * szF p + 1)) || (decide (tbF p m 10 0 0 = btN (txF p m)) && decide (btN (txF p m) ≠ 0))) = true := by decide +kernel
theorem tb_at {p m : Nat} (h0 : 0 < p) (hp : p < 626) (hm : m < 3 * szF p + 1) : tbF p m 10 0 0 = btN (txF p m) ∧ btN (txF p m) ≠ 0 := by
  have h7 := sz_le hp
  have h := ra k_tb hp
  rw [Bool.or_eq_true] at h
  rcases h with h | h
  · have := of_decide_eq_true h
    omega
  · have h := ra h (show m < 22 by omega)
    rw [Bool.or_eq_true] at h
    rcases h with h | h
    · simp [hm] at h
    · rw [Bool.and_eq_true] at h
      exact ⟨of_decide_eq_true h.1, of_decide_eq_true h.2⟩
theorem c_textByte {p m : Nat} (h0 : 0 < p) (hp : p < 626) (hm : m < 3 * szF p + 1) : fX0_textByte cF sF (nI p) (nI m) = some (nI (btN (txF p m))) := by
  have h7 := sz_le hp
  obtain ⟨t1, t2⟩ := tb_at h0 hp hm
  obtain ⟨y, hy, rfl⟩ : ∃ y, it (fX0_textByte_B11 cF sF (nI p) (nI m)) FU (nI 0, nI 0) = some y ∧ y = .inr (nI (btN (txF p m))) := by
    refine it_inv (fun j x => ∃ a, x = (nI a, nI j) ∧ a ≤ m ∧ tbF p m (10 - j) j a = btN (txF p m)) _ 9 (by omega) ⟨0, rfl, Nat.zero_le _, t1⟩ ?_
    rintro j x hj ⟨a, rfl, ham, ht⟩
    rw [show 10 - j = (9 - j) + 1 by omega, tbF] at ht
    unfold fX0_textByte_B11
    by_cases c1 : szF p < j
    · rw [if_pos c1] at ht
      exact absurd ht.symm t2
    · rw [if_neg c1] at ht
      have o1 := c_opening hp (show j < 8 by omega) ⟨h0, by omega⟩
      have o2 := c_closing hp (show j < 8 by omega) ⟨h0, by omega⟩
      have l1 := f4_lt opB p j
      have l2 := f4_lt clB p j
      by_cases c2 : a + f4 opB p j ≤ m
      · rw [if_pos c2] at ht
        by_cases c3 : m = a + f4 opB p j
        · rw [if_pos c3] at ht
          right
          refine ⟨_, ?_, rfl⟩
          rw [← ht]
          simp (disch := omega) only [Option.bind_some, Sum.elim_inl, Sum.elim_inr, q_le, q_nle, q_lt, q_nlt, q_eq, q_ne, q_m1, q_m5, rd_n, wr_n, ixo_n, dvo_n, rmo_n, nI_add, pk_sub, pk_mul, if_true, if_false, c_sizeOf hp, o1]
        · rw [if_neg c3] at ht
          by_cases c4 : a + f4 opB p j + (1 + f4 clB p j) ≤ m
          · rw [if_pos c4] at ht
            left
            refine ⟨(nI (a + f4 opB p j + (1 + f4 clB p j)), nI (j + 1)), ?_, by omega, _, rfl, c4, ?_⟩
            · simp (disch := omega) only [Option.bind_some, Sum.elim_inl, Sum.elim_inr, q_le, q_nle, q_lt, q_nlt, q_eq, q_ne, q_m1, q_m5, rd_n, wr_n, ixo_n, dvo_n, rmo_n, nI_add, pk_sub, pk_mul, if_true, if_false, c_sizeOf hp, o1, o2]
            · rw [show 10 - (j + 1) = 9 - j by omega]
              exact ht
          · rw [if_neg c4] at ht
            right
            refine ⟨_, ?_, rfl⟩
            rw [← ht]
            simp (disch := omega) only [Option.bind_some, Sum.elim_inl, Sum.elim_inr, q_le, q_nle, q_lt, q_nlt, q_eq, q_ne, q_m1, q_m5, rd_n, wr_n, ixo_n, dvo_n, rmo_n, nI_add, pk_sub, pk_mul, if_true, if_false, c_sizeOf hp, o1, o2]
      · rw [if_neg c2] at ht
        right
        refine ⟨_, ?_, rfl⟩
        rw [← ht]
        simp (disch := omega) only [Option.bind_some, Sum.elim_inl, Sum.elim_inr, q_le, q_nle, q_lt, q_nlt, q_eq, q_ne, q_m1, q_m5, rd_n, wr_n, ixo_n, dvo_n, rmo_n, nI_add, pk_sub, pk_mul, if_true, if_false, c_sizeOf hp, o1]
  unfold fX0_textByte
  simp (disch := omega) only [Option.bind_some, Sum.elim_inl, Sum.elim_inr, q_le, q_nle, q_lt, q_nlt, q_eq, q_ne, q_m1, q_m5, rd_n, wr_n, ixo_n, dvo_n, rmo_n, nI_add, pk_sub, pk_mul, if_true, if_false, hy]
theorem c_textEnd {p m : Nat} (h0 : 0 < p) (hp : p < 626) (hm : 3 * szF p + 1 ≤ m) (hm2 : m < 2147483648) : fX0_textByte cF sF (nI p) (nI m) = some (-1 : Int32) := by
  have h7 := sz_le hp
  have key : it (fX0_textByte_B11 cF sF (nI p) (nI m)) FU (nI 0, nI 0) = some (.inl ()) := by
    refine it_go (fun j => (nI (posN p j), nI j)) (szF p + 1) rfl (by omega) ?_ ?_
    · intro j hj
      have p1 := pos_le h0 hp (show j + 1 ≤ szF p + 1 by omega)
      rw [posN] at p1
      have o1 := c_opening hp (show j < 8 by omega) ⟨h0, by omega⟩
      have o2 := c_closing hp (show j < 8 by omega) ⟨h0, by omega⟩
      unfold fX0_textByte_B11
      simp (disch := omega) only [Option.bind_some, Sum.elim_inl, Sum.elim_inr, q_le, q_nle, q_lt, q_nlt, q_eq, q_ne, q_m1, q_m5, rd_n, wr_n, ixo_n, dvo_n, rmo_n, nI_add, pk_sub, pk_mul, if_true, if_false, c_sizeOf hp, o1, o2]
      rfl
    · unfold fX0_textByte_B11
      simp (disch := omega) only [Option.bind_some, Sum.elim_inl, Sum.elim_inr, q_le, q_nle, q_lt, q_nlt, q_eq, q_ne, q_m1, q_m5, rd_n, wr_n, ixo_n, dvo_n, rmo_n, nI_add, pk_sub, pk_mul, if_true, if_false, c_sizeOf hp]
  unfold fX0_textByte
  simp (disch := omega) only [Option.bind_some, Sum.elim_inl, Sum.elim_inr, q_le, q_nle, q_lt, q_nlt, q_eq, q_ne, q_m1, q_m5, rd_n, wr_n, ixo_n, dvo_n, rmo_n, nI_add, pk_sub, pk_mul, if_true, if_false, key]
/-! the reference writes it -/
def vN (n : Nat) (v : Int32) : Prop := v = (-5 : Int32) ∨ ∃ j, j < n ∧ v = nI j
theorem write_ni {n : Nat} {L0 R0 L R : Nat → Int32} (h7 : n < 8) (hL : ∀ i, i < n → L i = L0 i ∧ vN n (L0 i)) (hR : ∀ i, i < n → R i = R0 i ∧ vN n (R0 i)) : ∀ (d : Nat) (x y : Nat → Int32) (s v : Int32) (r : (Nat → Int32) × Int32), vN n v → fX7_write d L0 R0 y s v = some r → ∃ q, fX7_write d L R x s v = some (q, r.2) ∧ AGR x y q r.1 := by
  intro d
  induction d with
  | zero => intro x y s v r hv h; rw [fX7_write] at h; cases h
  | succ d ih =>
    intro x y s v r hv h
    rw [fX7_write] at h ⊢
    rcases hv with rfl | ⟨j, hj, rfl⟩
    · rw [if_pos rfl] at h ⊢
      obtain ⟨u, hu, h⟩ := ob h
      have e := Option.some.inj h
      subst e
      obtain ⟨w1, e1⟩ := wr_two (g := x) hu
      refine ⟨_, by rw [w1, Option.bind_some], ?_⟩
      rw [e1]
      exact AGR.up (AGR.rf _ _) _ _
    · rw [if_neg (nI_nm5 (by omega))] at h ⊢
      obtain ⟨u1, hu1, h⟩ := ob h
      obtain ⟨t2, ht2, h⟩ := ob h
      obtain ⟨r3, hr3, h⟩ := ob h
      obtain ⟨t4, ht4, h⟩ := ob h
      obtain ⟨r5, hr5, h⟩ := ob h
      obtain ⟨u6, hu6, h⟩ := ob h
      have e := Option.some.inj h
      subst e
      rw [rd_n (show j < 7 by omega) (by omega)] at ht2 ht4
      have e2 := Option.some.inj ht2
      have e4 := Option.some.inj ht4
      subst e2 e4
      obtain ⟨w1, e1⟩ := wr_two (g := x) hu1
      obtain ⟨q3, hq3, a3⟩ := ih (upd x s.toNatClampNeg (nI 40)) u1 (s + nI 1) (L0 j) r3 (hL j hj).2 hr3
      obtain ⟨q5, hq5, a5⟩ := ih q3 r3.1 r3.2 (R0 j) r5 (hR j hj).2 hr5
      obtain ⟨w6, e6⟩ := wr_two (g := q5) hu6
      refine ⟨upd q5 r5.2.toNatClampNeg (nI 41), ?_, ?_⟩
      · rw [w1, Option.bind_some, rd_n (show j < 7 by omega) (by omega), Option.bind_some, (hL j hj).1, hq3, Option.bind_some, rd_n (show j < 7 by omega) (by omega), Option.bind_some, (hR j hj).1, hq5, Option.bind_some, w6, Option.bind_some]
      · rw [e6]
        refine AGR.up (AGR.tr (AGR.tr ?_ a3) a5) _ _
        rw [e1]
        exact AGR.up (AGR.rf _ _) _ _
def wrB (p : Nat) : Bool := match fX7_write 16 (fun i => ntI (f4 lcB p i)) (fun i => ntI (f4 rcB p i)) c77 (nI 0) (nI (roF p)) with
  | some r => decide (r.2 = nI (3 * szF p + 1)) && (List.range (3 * szF p + 1)).all fun i => decide (r.1 i = nI (btN (txF p i)))
  | none => false
theorem k_wr : (List.range 626).all (fun p => decide (p = 0) || (wrB p && decide (roF p < szF p) && (List.range (szF p)).all fun i => (decide (f4 lcB p i = 9) || decide (f4 lcB p i < szF p)) && (decide (f4 rcB p i = 9) || decide (f4 rcB p i < szF p)))) = true := by decide +kernel
theorem nt_vN {n x : Nat} (h : x = 9 ∨ x < n) (h7 : n < 8) : vN n (ntI x) := by
  rcases h with h | h
  · rw [h]
    exact Or.inl rfl
  · rw [nt_n (by omega)]
    exact Or.inr ⟨x, h, rfl⟩
theorem bt77 : ∀ x, x < 4 → ¬ nI (btN x) = nI 77 := by decide
theorem m_write {p : Nat} (h0 : 0 < p) (hp : p < 626) {P L R S A : Nat → Int32} (hL : LOK p P L R S A) (x : Nat → Int32) : ∃ q, fX7_write 16 L R x (nI 0) (nI (roF p)) = some (q, nI (3 * szF p + 1)) ∧ ∀ i, i < 3 * szF p + 1 → q i = nI (btN (txF p i)) := by
  have h7 := sz_le hp
  have h := ra k_wr hp
  rw [Bool.or_eq_true] at h
  rcases h with h | h
  · have := of_decide_eq_true h
    omega
  · rw [Bool.and_eq_true, Bool.and_eq_true] at h
    obtain ⟨⟨h1, h2⟩, h3⟩ := h
    have h2 := of_decide_eq_true h2
    have h3' : ∀ i, i < szF p → (f4 lcB p i = 9 ∨ f4 lcB p i < szF p) ∧ (f4 rcB p i = 9 ∨ f4 rcB p i < szF p) := fun i hi => by
      have := ra h3 hi
      simpa only [Bool.and_eq_true, Bool.or_eq_true, decide_eq_true_eq] using this
    unfold wrB at h1
    split at h1
    · next r hr =>
      rw [Bool.and_eq_true] at h1
      obtain ⟨q, hq, ha⟩ := write_ni (n := szF p) (by omega) (fun i hi => ⟨(hL i hi).2.1, nt_vN (h3' i hi).1 (by omega)⟩) (fun i hi => ⟨(hL i hi).2.2.1, nt_vN (h3' i hi).2 (by omega)⟩) 16 x c77 (nI 0) (nI (roF p)) r (Or.inr ⟨_, h2, rfl⟩) hr
      rw [of_decide_eq_true h1.1] at hq
      refine ⟨q, hq, fun i hi => ?_⟩
      have e := of_decide_eq_true (ra h1.2 hi)
      rcases ha i with g | ⟨_, g⟩
      · rw [g, e]
      · rw [e] at g
        exact absurd g (bt77 _ (Nat.mod_lt _ (by omega)))
    · cases h1
