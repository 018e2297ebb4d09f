/-! alike: counts, told turns played, films -/
theorem sh_use {C N T : Nat → Int32} (H : ShR C N T) : ∃ y, it (fX6_shelvesInUse_B13 C (nI 4)) FU (nI 0, nI 0) = some y ∧ it (fX7_count_B53 N) FU (nI 0, nI 0) = some y := by
  obtain ⟨y, y', e1, e2, rfl⟩ := it_two (B := fX6_shelvesInUse_B13 C (nI 4)) (B' := fX7_count_B53 N) (x0 := (nI 0, nI 0)) (x0' := (nI 0, nI 0)) (fun i x x' => ∃ c, x = (nI c, nI i) ∧ x' = (nI c, nI i)) (fun y y' => y = y') 4 (by omega) ⟨0, rfl, rfl⟩ (by
    rintro i x x' hi ⟨c, rfl, rfl⟩
    by_cases h4 : i = 4
    · subst h4
      refine Or.inr ⟨nI c, nI c, ?_, ?_, rfl⟩
      · unfold fX6_shelvesInUse_B13
        simp (disch := omega) only [Option.bind_some, Sum.elim_inl, Sum.elim_inr, q_le, q_nle, q_lt, q_nlt, q_eq, q_ne, q_m1, q_m5, rd_n, wr_n, ixo_n, dvo_n, rmo_n, nI_add, pk_sub, pk_mul, if_true, if_false]
      · unfold fX7_count_B53
        simp (disch := omega) only [Option.bind_some, Sum.elim_inl, Sum.elim_inr, q_le, q_nle, q_lt, q_nlt, q_eq, q_ne, q_m1, q_m5, rd_n, wr_n, ixo_n, dvo_n, rmo_n, nI_add, pk_sub, pk_mul, if_true, if_false]
    · have i4 : i < 4 := by omega
      rcases H i i4 with ⟨e1, e2⟩ | ⟨z, z0, z1, e1, e2, e3⟩
      · refine Or.inl ⟨(nI c, nI (i + 1)), (nI c, nI (i + 1)), ?_, ?_, i4, c, rfl, rfl⟩
        · unfold fX6_shelvesInUse_B13 fX6_shelvesInUse_J33
          simp (disch := omega) only [Option.bind_some, Sum.elim_inl, Sum.elim_inr, q_le, q_nle, q_lt, q_nlt, q_eq, q_ne, q_m1, q_m5, rd_n, wr_n, ixo_n, dvo_n, rmo_n, nI_add, pk_sub, pk_mul, if_true, if_false, e1]
        · unfold fX7_count_B53 fX7_count_J70
          simp (disch := omega) only [Option.bind_some, Sum.elim_inl, Sum.elim_inr, q_le, q_nle, q_lt, q_nlt, q_eq, q_ne, q_m1, q_m5, rd_n, wr_n, ixo_n, dvo_n, rmo_n, nI_add, pk_sub, pk_mul, if_true, if_false, e2]
      · have z2 := (sz_pos z1 z0).1
        have z3 := sz_le z1
        refine Or.inl ⟨(nI (c + 1), nI (i + 1)), (nI (c + 1), nI (i + 1)), ?_, ?_, i4, c + 1, rfl, rfl⟩
        · unfold fX6_shelvesInUse_B13 fX6_shelvesInUse_J33
          simp (disch := omega) only [Option.bind_some, Sum.elim_inl, Sum.elim_inr, q_le, q_nle, q_lt, q_nlt, q_eq, q_ne, q_m1, q_m5, rd_n, wr_n, ixo_n, dvo_n, rmo_n, nI_add, pk_sub, pk_mul, if_true, if_false, e1]
        · unfold fX7_count_B53 fX7_count_J70
          simp (disch := omega) only [Option.bind_some, Sum.elim_inl, Sum.elim_inr, q_le, q_nle, q_lt, q_nlt, q_eq, q_ne, q_m1, q_m5, rd_n, wr_n, ixo_n, dvo_n, rmo_n, nI_add, pk_sub, pk_mul, if_true, if_false, e2])
  exact ⟨y, e1, e2⟩
theorem m1_l0 : (-1 : Int32) < nI 0 := by decide
theorem li_use {C R : Nat → Int32} {lc lr : Nat → Nat → Int64} (H : LiR C R lc lr) : ∃ y, it (fX1_howManyThere_B13 C (nI 3)) FU (nI 0, nI 0) = some y ∧ it (fX7_count_B80 R) FU (nI 0, nI 0) = some y := by
  obtain ⟨y, y', e1, e2, rfl⟩ := it_two (B := fX1_howManyThere_B13 C (nI 3)) (B' := fX7_count_B80 R) (x0 := (nI 0, nI 0)) (x0' := (nI 0, nI 0)) (fun i x x' => ∃ c, x = (nI c, nI i) ∧ x' = (nI c, nI i)) (fun y y' => y = y') 3 (by omega) ⟨0, rfl, rfl⟩ (by
    rintro i x x' hi ⟨c, rfl, rfl⟩
    by_cases h4 : i = 3
    · subst h4
      refine Or.inr ⟨nI c, nI c, ?_, ?_, rfl⟩
      · unfold fX1_howManyThere_B13
        simp (disch := omega) only [Option.bind_some, Sum.elim_inl, Sum.elim_inr, q_le, q_nle, q_lt, q_nlt, q_eq, q_ne, q_m1, q_m5, rd_n, wr_n, ixo_n, dvo_n, rmo_n, nI_add, pk_sub, pk_mul, if_true, if_false]
      · unfold fX7_count_B80
        simp (disch := omega) only [Option.bind_some, Sum.elim_inl, Sum.elim_inr, q_le, q_nle, q_lt, q_nlt, q_eq, q_ne, q_m1, q_m5, rd_n, wr_n, ixo_n, dvo_n, rmo_n, nI_add, pk_sub, pk_mul, if_true, if_false]
    · have i4 : i < 3 := by omega
      obtain ⟨er, e1 | ⟨n, hn, e1⟩⟩ := H.1 i i4
      · rw [e1] at er
        refine Or.inl ⟨(nI c, nI (i + 1)), (nI c, nI (i + 1)), ?_, ?_, i4, c, rfl, rfl⟩
        · unfold fX1_howManyThere_B13 fX1_howManyThere_J34
          simp (disch := omega) only [Option.bind_some, Sum.elim_inl, Sum.elim_inr, q_le, q_nle, q_lt, q_nlt, q_eq, q_ne, q_m1, q_m5, rd_n, wr_n, ixo_n, dvo_n, rmo_n, nI_add, pk_sub, pk_mul, if_true, if_false, e1]
        · unfold fX7_count_B80 fX7_count_J97
          simp (disch := omega) only [Option.bind_some, Sum.elim_inl, Sum.elim_inr, q_le, q_nle, q_lt, q_nlt, q_eq, q_ne, q_m1, q_m5, rd_n, wr_n, ixo_n, dvo_n, rmo_n, nI_add, pk_sub, pk_mul, if_true, if_false, er, if_pos m1_l0]
      · rw [e1] at er
        refine Or.inl ⟨(nI (c + 1), nI (i + 1)), (nI (c + 1), nI (i + 1)), ?_, ?_, i4, c + 1, rfl, rfl⟩
        · unfold fX1_howManyThere_B13 fX1_howManyThere_J34
          simp (disch := omega) only [Option.bind_some, Sum.elim_inl, Sum.elim_inr, q_le, q_nle, q_lt, q_nlt, q_eq, q_ne, q_m1, q_m5, rd_n, wr_n, ixo_n, dvo_n, rmo_n, nI_add, pk_sub, pk_mul, if_true, if_false, e1]
        · unfold fX7_count_B80 fX7_count_J97
          simp (disch := omega) only [Option.bind_some, Sum.elim_inl, Sum.elim_inr, q_le, q_nle, q_lt, q_nlt, q_eq, q_ne, q_m1, q_m5, rd_n, wr_n, ixo_n, dvo_n, rmo_n, nI_add, pk_sub, pk_mul, if_true, if_false, er])
  exact ⟨y, e1, e2⟩
theorem k5 {k : Nat} (h : k < 5) : k = 0 ∨ k = 1 ∨ k = 2 ∨ k = 3 ∨ k = 4 := by omega
theorem al_count : Al_count Rel := by
  intro Mc Mr u1 h
  have h' := h
  obtain ⟨⟨hc, hs⟩, htr, hsh, hst, hli, hta, him, htb, hwy, hms⟩ := h
  obtain ⟨q, q0, q1, eqq, en, et⟩ := id htr
  have q2 := (sz_pos q1 q0).1
  have q3 := sz_le q1
  obtain ⟨hh, h10, g1, g2, _⟩ := id hst
  obtain ⟨n, hn, g3, g4, _⟩ := id hta
  rw [hs, eqq, en, g1, g2, g3, g4]
  obtain ⟨y1, a1, a2⟩ := sh_use hsh
  obtain ⟨y2, b1, b2⟩ := li_use hli
  have a3 : fX6_shelvesInUse (Mc.1 27) = some y1 := by
    unfold fX6_shelvesInUse
    rw [a1]
    rfl
  have b3 : fX1_howManyThere (Mc.1 21) = some y2 := by
    unfold fX1_howManyThere
    rw [b1]
    rfl
  rcases rng_c u1 5 with ⟨k, hk, rfl⟩ | ho
  · rcases k5 hk with rfl | rfl | rfl | rfl | rfl
    · have hf : fX6_count sF (Mc.1 21) (Mc.1 27) (nI q) (nI hh) (nI n) (nI 0) = some (nI (szF q)) := by
        unfold fX6_count
        simp (disch := omega) only [Option.bind_some, Sum.elim_inl, Sum.elim_inr, q_le, q_nle, q_lt, q_nlt, q_eq, q_ne, q_m1, q_m5, rd_n, wr_n, ixo_n, dvo_n, rmo_n, nI_add, pk_sub, pk_mul, if_true, if_false, c_size q1]
      have hm : fX7_count (Mr.1 1) (Mr.1 6) (nI (szF q)) (nI hh) (nI n) (nI 0) = some (nI (szF q)) := by
        unfold fX7_count
        simp (disch := omega) only [Option.bind_some, Sum.elim_inl, Sum.elim_inr, q_le, q_nle, q_lt, q_nlt, q_eq, q_ne, q_m1, q_m5, rd_n, wr_n, ixo_n, dvo_n, rmo_n, nI_add, pk_sub, pk_mul, if_true, if_false]
      exact ⟨_, _, hf, hm, rfl, h'⟩
    · have hf : fX6_count sF (Mc.1 21) (Mc.1 27) (nI q) (nI hh) (nI n) (nI 1) = some (nI hh) := by
        unfold fX6_count fX3_held
        simp (disch := omega) only [Option.bind_some, Sum.elim_inl, Sum.elim_inr, q_le, q_nle, q_lt, q_nlt, q_eq, q_ne, q_m1, q_m5, rd_n, wr_n, ixo_n, dvo_n, rmo_n, nI_add, pk_sub, pk_mul, if_true, if_false]
      have hm : fX7_count (Mr.1 1) (Mr.1 6) (nI (szF q)) (nI hh) (nI n) (nI 1) = some (nI hh) := by
        unfold fX7_count
        simp (disch := omega) only [Option.bind_some, Sum.elim_inl, Sum.elim_inr, q_le, q_nle, q_lt, q_nlt, q_eq, q_ne, q_m1, q_m5, rd_n, wr_n, ixo_n, dvo_n, rmo_n, nI_add, pk_sub, pk_mul, if_true, if_false]
      exact ⟨_, _, hf, hm, rfl, h'⟩
    · have hf : fX6_count sF (Mc.1 21) (Mc.1 27) (nI q) (nI hh) (nI n) (nI 2) = some (nI n) := by
        unfold fX6_count fX4_length
        simp (disch := omega) only [Option.bind_some, Sum.elim_inl, Sum.elim_inr, q_le, q_nle, q_lt, q_nlt, q_eq, q_ne, q_m1, q_m5, rd_n, wr_n, ixo_n, dvo_n, rmo_n, nI_add, pk_sub, pk_mul, if_true, if_false]
      have hm : fX7_count (Mr.1 1) (Mr.1 6) (nI (szF q)) (nI hh) (nI n) (nI 2) = some (nI n) := by
        unfold fX7_count
        simp (disch := omega) only [Option.bind_some, Sum.elim_inl, Sum.elim_inr, q_le, q_nle, q_lt, q_nlt, q_eq, q_ne, q_m1, q_m5, rd_n, wr_n, ixo_n, dvo_n, rmo_n, nI_add, pk_sub, pk_mul, if_true, if_false]
      exact ⟨_, _, hf, hm, rfl, h'⟩
    · have hf : fX6_count sF (Mc.1 21) (Mc.1 27) (nI q) (nI hh) (nI n) (nI 3) = some y1 := by
        unfold fX6_count
        simp (disch := omega) only [Option.bind_some, Sum.elim_inl, Sum.elim_inr, q_le, q_nle, q_lt, q_nlt, q_eq, q_ne, q_m1, q_m5, rd_n, wr_n, ixo_n, dvo_n, rmo_n, nI_add, pk_sub, pk_mul, if_true, if_false, a3]
      have hm : fX7_count (Mr.1 1) (Mr.1 6) (nI (szF q)) (nI hh) (nI n) (nI 3) = some y1 := by
        unfold fX7_count
        simp (disch := omega) only [Option.bind_some, Sum.elim_inl, Sum.elim_inr, q_le, q_nle, q_lt, q_nlt, q_eq, q_ne, q_m1, q_m5, rd_n, wr_n, ixo_n, dvo_n, rmo_n, nI_add, pk_sub, pk_mul, if_true, if_false, a2]
      exact ⟨_, _, hf, hm, rfl, h'⟩
    · have hf : fX6_count sF (Mc.1 21) (Mc.1 27) (nI q) (nI hh) (nI n) (nI 4) = some y2 := by
        unfold fX6_count
        simp (disch := omega) only [Option.bind_some, Sum.elim_inl, Sum.elim_inr, q_le, q_nle, q_lt, q_nlt, q_eq, q_ne, q_m1, q_m5, rd_n, wr_n, ixo_n, dvo_n, rmo_n, nI_add, pk_sub, pk_mul, if_true, if_false, b3]
      have hm : fX7_count (Mr.1 1) (Mr.1 6) (nI (szF q)) (nI hh) (nI n) (nI 4) = some y2 := by
        unfold fX7_count
        simp (disch := omega) only [Option.bind_some, Sum.elim_inl, Sum.elim_inr, q_le, q_nle, q_lt, q_nlt, q_eq, q_ne, q_m1, q_m5, rd_n, wr_n, ixo_n, dvo_n, rmo_n, nI_add, pk_sub, pk_mul, if_true, if_false, b2]
      exact ⟨_, _, hf, hm, rfl, h'⟩
  · have hf : fX6_count sF (Mc.1 21) (Mc.1 27) (nI q) (nI hh) (nI n) u1 = some (-1 : Int32) := by
      unfold fX6_count
      rw [if_neg (out_ne ho (by omega) (by omega)), if_neg (out_ne ho (by omega) (by omega)), if_neg (out_ne ho (by omega) (by omega)), if_neg (out_ne ho (by omega) (by omega)), if_neg (out_ne ho (by omega) (by omega))]
    have hm : fX7_count (Mr.1 1) (Mr.1 6) (nI (szF q)) (nI hh) (nI n) u1 = some (-1 : Int32) := by
      unfold fX7_count
      rw [if_neg (out_ne ho (by omega) (by omega)), if_neg (out_ne ho (by omega) (by omega)), if_neg (out_ne ho (by omega) (by omega)), if_neg (out_ne ho (by omega) (by omega)), if_neg (out_ne ho (by omega) (by omega))]
    exact ⟨_, _, hf, hm, rfl, h'⟩
/-- the long that tells a turn -/
def toL (dir : Bool) (c : Nat) : Int64 := if dir then ((-1 : Int32) - nI c).toInt64 else (nI c).toInt64
theorem toL_f : ∀ c, c < 8 → (toL false c).toInt = (c : Int) ∧ (toL false c).toInt32 = nI c := by decide
theorem toL_t : ∀ c, c < 8 → (toL true c).toInt = -1 - (c : Int) ∧ ((-1 : Int64) - toL true c).toInt32 = nI c := by decide
theorem toL_c (v : Int64) (n : Nat) (hn : n < 8) : (∃ dir c, c < n ∧ v = toL dir c) ∨ (v.toInt < -(n : Int) ∨ (n : Int) ≤ v.toInt) := by
  by_cases h : v.toInt < -(n : Int) ∨ (n : Int) ≤ v.toInt
  · exact Or.inr h
  · left
    by_cases h0 : v.toInt < 0
    · refine ⟨true, (-1 - v.toInt).toNat, by omega, Int64.toInt_inj.mp ?_⟩
      rw [(toL_t _ (by omega)).1]
      omega
    · refine ⟨false, v.toInt.toNat, by omega, Int64.toInt_inj.mp ?_⟩
      rw [(toL_f _ (by omega)).1]
      omega
theorem neg_n : ∀ n, n < 8 → ((0 - nI n).toInt64).toInt = -(n : Int) := by decide
theorem lg_g (x y : Int64) : nI 0 ≤ lg_cmp x y ↔ y.toInt ≤ x.toInt := by
  rw [← Int64.le_iff_toInt_le, ← lg_cmp_ge x y]
  exact Iff.rfl
theorem lg_l (x y : Int64) : lg_cmp x y < nI 0 ↔ x.toInt < y.toInt := by
  rw [lg_lt, Int64.le_iff_toInt_le]
  omega
theorem z64 : (0 : Int64).toInt = 0 := rfl
theorem told_y {p c : Nat} (dir : Bool) (p1 : p < 626) (hc : c < szF p) : fX0_turnedAsTold cF sF (nI p) (toL dir c) = some (nI (dirW dir p c)) := by
  have h7 := sz_le p1
  have hn := neg_n (szF p) (by omega)
  have hz := nl_toInt (n := szF p) (by omega)
  unfold fX0_turnedAsTold
  rw [c_sizeOf p1, Option.bind_some]
  cases dir with
  | true =>
    obtain ⟨t1, t2⟩ := toL_t c (by omega)
    rw [if_neg (by rw [lg_g, hz, t1]; omega), if_pos (by rw [lg_g, hn, t1]; omega), if_pos (by rw [lg_l, z64, t1]; omega), t2, c_turnedBack p1 (by omega) hc]
    rfl
  | false =>
    obtain ⟨t1, t2⟩ := toL_f c (by omega)
    rw [if_neg (by rw [lg_g, hz, t1]; omega), if_pos (by rw [lg_g, hn, t1]; omega), if_neg (by rw [lg_l, z64, t1]; omega), t2, c_turnedUp p1 (by omega) hc]
    rfl
theorem told_n {p : Nat} {v : Int64} (p1 : p < 626) (h : v.toInt < -(szF p : Int) ∨ (szF p : Int) ≤ v.toInt) : fX0_turnedAsTold cF sF (nI p) v = some (nI 0) := by
  have h7 := sz_le p1
  have hn := neg_n (szF p) (by omega)
  have hz := nl_toInt (n := szF p) (by omega)
  unfold fX0_turnedAsTold
  rw [c_sizeOf p1, Option.bind_some]
  by_cases h1 : (szF p : Int) ≤ v.toInt
  · rw [if_pos (by rw [lg_g, hz]; omega)]
  · rw [if_neg (by rw [lg_g, hz]; omega), if_neg (by rw [lg_g, hn]; omega)]
theorem in_L (x lo hi : Int64) : fX7_in x lo hi = some (if lo.toInt ≤ x.toInt ∧ x.toInt ≤ hi.toInt then nI 1 else nI 0) := by
  rw [in_ok]
  simp only [Int64.le_iff_toInt_le]
theorem al_play : Al_play Rel := by
  intro Mc Mr u1 h
  obtain ⟨⟨hc, hs⟩, htr, hsh, hst, hli, hta, him, htb, hwy, hms⟩ := h
  obtain ⟨q, q0, q1, eqq, en, et⟩ := id htr
  have q2 := (sz_pos q1 q0).1
  have q3 := sz_le q1
  rw [hc, hs, eqq, en, et]
  rcases list_c hli u1 with ⟨l1, l2⟩ | ⟨s, h3, rfl, l1, l2, l3, l4, l5 | ⟨n, hn, l5⟩⟩
  · have hf : fX6_play cF sF (Mc.1 15) (Mc.1 21) Mc.2.1 (nI q) (Mc.2.2 44) u1 = some ((-1 : Int32), Mc.1 15, nI q, Mc.2.2 44) := by
      unfold fX6_play
      simp (disch := omega) only [Option.bind_some, Sum.elim_inl, Sum.elim_inr, q_le, q_nle, q_lt, q_nlt, q_eq, q_ne, q_m1, q_m5, rd_n, wr_n, ixo_n, dvo_n, rmo_n, nI_add, pk_sub, pk_mul, if_true, if_false, l1]
    have hm : fX7_play (Mr.1 3) (Mr.1 4) (Mr.1 6) (Mr.1 11) (Mr.1 12) (Mr.1 13) (Mr.1 14) (Mr.1 15) Mr.2.1 (nI (szF q)) (nI (dcF q)) (Mr.2.2 42) (Mr.2.2 50) u1 = some ((-1 : Int32), Mr.1 3, Mr.1 4, Mr.1 11, Mr.1 12, Mr.1 13, Mr.1 14, Mr.1 15, nI (szF q), nI (dcF q), Mr.2.2 42, Mr.2.2 50) := by
      unfold fX7_play
      simp (disch := omega) only [Option.bind_some, Sum.elim_inl, Sum.elim_inr, q_le, q_nle, q_lt, q_nlt, q_eq, q_ne, q_m1, q_m5, rd_n, wr_n, ixo_n, dvo_n, rmo_n, nI_add, pk_sub, pk_mul, if_true, if_false, l2]
    exact ⟨_, _, hf, hm, rfl, rel_mk ⟨hc, hs⟩ (tr_ok q0 q1) hsh hst hli hta him htb hwy hms⟩
  · rw [l5] at l3 l4
    have hf : fX6_play cF sF (Mc.1 15) (Mc.1 21) Mc.2.1 (nI q) (Mc.2.2 44) (nI s) = some ((-11 : Int32), Mc.1 15, nI q, Mc.2.2 44) := by
      unfold fX6_play
      simp (disch := omega) only [Option.bind_some, Sum.elim_inl, Sum.elim_inr, q_le, q_nle, q_lt, q_nlt, q_eq, q_ne, q_m1, q_m5, rd_n, wr_n, ixo_n, dvo_n, rmo_n, nI_add, pk_sub, pk_mul, if_true, if_false, l1, th_0 l3]
    have hm : fX7_play (Mr.1 3) (Mr.1 4) (Mr.1 6) (Mr.1 11) (Mr.1 12) (Mr.1 13) (Mr.1 14) (Mr.1 15) Mr.2.1 (nI (szF q)) (nI (dcF q)) (Mr.2.2 42) (Mr.2.2 50) (nI s) = some ((-11 : Int32), Mr.1 3, Mr.1 4, Mr.1 11, Mr.1 12, Mr.1 13, Mr.1 14, Mr.1 15, nI (szF q), nI (dcF q), Mr.2.2 42, Mr.2.2 50) := by
      unfold fX7_play
      simp (disch := omega) only [Option.bind_some, Sum.elim_inl, Sum.elim_inr, q_le, q_nle, q_lt, q_nlt, q_eq, q_ne, q_m1, q_m5, rd_n, wr_n, ixo_n, dvo_n, rmo_n, nI_add, pk_sub, pk_mul, if_true, if_false, l2, l4, if_neg m1_n0]
    exact ⟨_, _, hf, hm, rfl, rel_mk ⟨hc, hs⟩ (tr_ok q0 q1) hsh hst hli hta him htb hwy hms⟩
  · have l4' : Mr.1 6 s = nI n := by rw [l4, l5]
    rw [l5] at l3
    obtain ⟨y, y', e1, e2, hQ⟩ := it_two (B := fX6_play_B34 cF sF (Mc.1 21) Mc.2.1 (nI s) (nI n)) (B' := fX7_play_B23 (Mr.1 6) Mr.2.1 (nI s)) (x0 := (nI 0, Mc.1 15, nI q, Mc.2.2 44)) (x0' := (nI 0, Mr.1 3, Mr.1 4, Mr.1 11, Mr.1 12, Mr.1 13, Mr.1 14, Mr.1 15, nI (szF q), nI (dcF q), Mr.2.2 42, Mr.2.2 50))
      (fun i x x' => ∃ p A h1 N T P L R S A' h2 rdv, 0 < p ∧ p < 626 ∧ x = (nI i, A, nI p, h1) ∧ x' = (nI i, N, T, P, L, R, S, A', nI (szF p), nI (dcF p), h2, rdv) ∧ StR A N T h1 h2)
      (fun y y' => ∃ p A h1 N T P L R S A' h2 rdv, 0 < p ∧ p < 626 ∧ StR A N T h1 h2 ∧ ((y = .inl (A, nI p, h1) ∧ y' = .inl (N, T, P, L, R, S, A', nI (szF p), nI (dcF p), h2, rdv)) ∨ ∃ i, y = .inr (nI i, A, nI p, h1) ∧ y' = .inr (nI i, N, T, P, L, R, S, A', nI (szF p), nI (dcF p), h2, rdv))) n (by omega)
      ⟨q, _, _, _, _, _, _, _, _, _, _, _, q0, q1, rfl, rfl, hst⟩ (by
        rintro i x x' hi ⟨p, A, h1, N, T, P, L, R, S, A', h2, rdv, p0, p1, rfl, rfl, hS⟩
        have p2 := (sz_pos p1 p0).1
        have p3 := sz_le p1
        by_cases hin : i = n
        · subst hin
          refine Or.inr ⟨.inl (A, nI p, h1), .inl (N, T, P, L, R, S, A', nI (szF p), nI (dcF p), h2, rdv), ?_, ?_, p, A, h1, N, T, P, L, R, S, A', h2, rdv, p0, p1, hS, Or.inl ⟨rfl, rfl⟩⟩
          · unfold fX6_play_B34
            simp (disch := omega) only [Option.bind_some, Sum.elim_inl, Sum.elim_inr, q_le, q_nle, q_lt, q_nlt, q_eq, q_ne, q_m1, q_m5, rd_n, wr_n, ixo_n, dvo_n, rmo_n, nI_add, pk_sub, pk_mul, if_true, if_false]
          · unfold fX7_play_B23
            simp (disch := omega) only [Option.bind_some, Sum.elim_inl, Sum.elim_inr, q_le, q_nle, q_lt, q_nlt, q_eq, q_ne, q_m1, q_m5, rd_n, wr_n, ixo_n, dvo_n, rmo_n, nI_add, pk_sub, pk_mul, if_true, if_false, l4']
        · have i1 : i < n := by omega
          have ev := va_y (lo := Mc.2.1) h3 l5 hn i1
          have em : Mr.2.1 0 (20 * s + i) = Mc.2.1 s i := (hli.2 s i h3 (by omega)).symm
          have hnz := neg_n (szF p) (by omega)
          have hhi := hi_n (m := szF p) (by omega)
          rcases toL_c (Mc.2.1 s i) (szF p) (by omega) with ⟨dir, c, hcn, hv⟩ | hv
          · rw [hv] at ev em
            have et := told_y dir p1 hcn
            have hin1 : fX7_in (toL dir c) ((0 - nI (szF p)).toInt64) ((nI (szF p) - nI 1).toInt64) = some (nI 1) := by
              rw [in_L, hnz, hhi]
              cases dir with
              | true => rw [(toL_t c (by omega)).1, if_pos (by omega)]
              | false => rw [(toL_f c (by omega)).1, if_pos (by omega)]
            -- the reference's turn
            have hm : ∃ P' L' R' S' A2 rdv', fX7_play_B23 (Mr.1 6) Mr.2.1 (nI s) (nI i, N, T, P, L, R, S, A', nI (szF p), nI (dcF p), h2, rdv) = fX7_play_J108 N T (Mr.1 6) P' L' R' S' A2 Mr.2.1 (nI (szF p)) (nI (dcF p)) h2 rdv' (nI s) (nI i) (gtI (dirW dir p c)) := by
              cases dir with
              | true =>
                obtain ⟨P', L', R', S', A2, e⟩ := m_down p0 p1 hcn P L R S A' rdv
                refine ⟨P', L', R', S', A2, nI (roF p), ?_⟩
                unfold fX7_play_B23
                rw [rd_n h3 (by omega), Option.bind_some, l4']
                dsimp only
                rw [if_neg (nI_ge i1 (by omega)), pk_mul, nI_add, rd_n (by omega) (by omega), Option.bind_some, em, hin1, Option.bind_some, if_neg (by decide), if_pos (by rw [lg_l, z64, (toL_t c (by omega)).1]; omega), (toL_t c (by omega)).2, e]
                rfl
              | false =>
                obtain ⟨P', L', R', S', A2, e⟩ := m_up p0 p1 hcn P L R S A' rdv
                refine ⟨P', L', R', S', A2, nI (roF p), ?_⟩
                unfold fX7_play_B23
                rw [rd_n h3 (by omega), Option.bind_some, l4']
                dsimp only
                rw [if_neg (nI_ge i1 (by omega)), pk_mul, nI_add, rd_n (by omega) (by omega), Option.bind_some, em, hin1, Option.bind_some, if_neg (by decide), if_neg (by rw [lg_l, z64, (toL_f c (by omega)).1]; omega), (toL_f c (by omega)).2, e]
                rfl
            obtain ⟨P', L', R', S', A2, rdv', hm⟩ := hm
            have hok : okW (szF p) (dirW dir p c) := by
              cases dir with
              | true => exact ok_bk p0 p1 rfl hcn
              | false => exact ok_up p0 p1 rfl hcn
            generalize dirW dir p c = w at et hm hok
            rcases hok with rfl | ⟨w0, w1, w2⟩
            · refine Or.inr ⟨.inr (nI i, A, nI p, h1), .inr (nI i, N, T, P', L', R', S', A2, nI (szF p), nI (dcF p), h2, rdv'), ?_, ?_, p, A, h1, N, T, P', L', R', S', A2, h2, rdv', p0, p1, hS, Or.inr ⟨i, rfl, rfl⟩⟩
              · unfold fX6_play_B34
                simp (disch := omega) only [Option.bind_some, Sum.elim_inl, Sum.elim_inr, q_le, q_nle, q_lt, q_nlt, q_eq, q_ne, q_m1, q_m5, rd_n, wr_n, ixo_n, dvo_n, rmo_n, nI_add, pk_sub, pk_mul, if_true, if_false, ev, et]
              · rw [hm]
                unfold fX7_play_J108
                rw [gt_0, if_pos rfl]
            · obtain ⟨A3, N3, T3, h13, h23, b1, b2, b3⟩ := bec_ok p0 p1 w0 w1 hS
              have hd := dc_big w1
              refine Or.inl ⟨(nI (i + 1), A3, nI w, h13), (nI (i + 1), N3, T3, P', L', R', S', A2, nI (szF w), nI (dcF w), h23, rdv'), ?_, ?_, i1, w, A3, h13, N3, T3, P', L', R', S', A2, h23, rdv', w0, w1, rfl, rfl, b3⟩
              · unfold fX6_play_B34
                simp (disch := omega) only [Option.bind_some, Sum.elim_inl, Sum.elim_inr, q_le, q_nle, q_lt, q_nlt, q_eq, q_ne, q_m1, q_m5, rd_n, wr_n, ixo_n, dvo_n, rmo_n, nI_add, pk_sub, pk_mul, if_true, if_false, ev, et, b1]
              · rw [hm]
                unfold fX7_play_J108
                rw [gt_n (by omega), if_neg (nI_nm5 (by omega))]
                rw [w2] at b2
                rw [b2, Option.bind_some, nI_add, w2]
          · have et := told_n p1 hv
            have hin0 : fX7_in (Mc.2.1 s i) ((0 - nI (szF p)).toInt64) ((nI (szF p) - nI 1).toInt64) = some (nI 0) := by
              rw [in_L, hnz, hhi, if_neg (by omega)]
            refine Or.inr ⟨.inr (nI i, A, nI p, h1), .inr (nI i, N, T, P, L, R, S, A', nI (szF p), nI (dcF p), h2, rdv), ?_, ?_, p, A, h1, N, T, P, L, R, S, A', h2, rdv, p0, p1, hS, Or.inr ⟨i, rfl, rfl⟩⟩
            · unfold fX6_play_B34
              simp (disch := omega) only [Option.bind_some, Sum.elim_inl, Sum.elim_inr, q_le, q_nle, q_lt, q_nlt, q_eq, q_ne, q_m1, q_m5, rd_n, wr_n, ixo_n, dvo_n, rmo_n, nI_add, pk_sub, pk_mul, if_true, if_false, ev, et]
            · unfold fX7_play_B23
              rw [rd_n h3 (by omega), Option.bind_some, l4']
              dsimp only
              rw [if_neg (nI_ge i1 (by omega)), pk_mul, nI_add, rd_n (by omega) (by omega), Option.bind_some, em, hin0, Option.bind_some, if_pos rfl])
    obtain ⟨p, A, h1, N, T, P, L, R, S, A', h2, rdv, p0, p1, hS, ⟨rfl, rfl⟩ | ⟨i, rfl, rfl⟩⟩ := hQ
    · have hf : fX6_play cF sF (Mc.1 15) (Mc.1 21) Mc.2.1 (nI q) (Mc.2.2 44) (nI s) = some (nI n, A, nI p, h1) := by
        unfold fX6_play
        simp (disch := omega) only [Option.bind_some, Sum.elim_inl, Sum.elim_inr, q_le, q_nle, q_lt, q_nlt, q_eq, q_ne, q_m1, q_m5, rd_n, wr_n, ixo_n, dvo_n, rmo_n, nI_add, pk_sub, pk_mul, if_true, if_false, l1, th_1 l3 hn, l3, e1]
      have hm : fX7_play (Mr.1 3) (Mr.1 4) (Mr.1 6) (Mr.1 11) (Mr.1 12) (Mr.1 13) (Mr.1 14) (Mr.1 15) Mr.2.1 (nI (szF q)) (nI (dcF q)) (Mr.2.2 42) (Mr.2.2 50) (nI s) = some (nI n, N, T, P, L, R, S, A', nI (szF p), nI (dcF p), h2, rdv) := by
        unfold fX7_play
        simp (disch := omega) only [Option.bind_some, Sum.elim_inl, Sum.elim_inr, q_le, q_nle, q_lt, q_nlt, q_eq, q_ne, q_m1, q_m5, rd_n, wr_n, ixo_n, dvo_n, rmo_n, nI_add, pk_sub, pk_mul, if_true, if_false, l2, l4', e2]
      exact ⟨_, _, hf, hm, rfl, rel_mk ⟨hc, hs⟩ (tr_ok p0 p1) hsh hS hli hta him htb hwy hms⟩
    · have hf : fX6_play cF sF (Mc.1 15) (Mc.1 21) Mc.2.1 (nI q) (Mc.2.2 44) (nI s) = some (nI i, A, nI p, h1) := by
        unfold fX6_play
        simp (disch := omega) only [Option.bind_some, Sum.elim_inl, Sum.elim_inr, q_le, q_nle, q_lt, q_nlt, q_eq, q_ne, q_m1, q_m5, rd_n, wr_n, ixo_n, dvo_n, rmo_n, nI_add, pk_sub, pk_mul, if_true, if_false, l1, th_1 l3 hn, l3, e1]
      have hm : fX7_play (Mr.1 3) (Mr.1 4) (Mr.1 6) (Mr.1 11) (Mr.1 12) (Mr.1 13) (Mr.1 14) (Mr.1 15) Mr.2.1 (nI (szF q)) (nI (dcF q)) (Mr.2.2 42) (Mr.2.2 50) (nI s) = some (nI i, N, T, P, L, R, S, A', nI (szF p), nI (dcF p), h2, rdv) := by
        unfold fX7_play
        simp (disch := omega) only [Option.bind_some, Sum.elim_inl, Sum.elim_inr, q_le, q_nle, q_lt, q_nlt, q_eq, q_ne, q_m1, q_m5, rd_n, wr_n, ixo_n, dvo_n, rmo_n, nI_add, pk_sub, pk_mul, if_true, if_false, l2, l4', e2]
      exact ⟨_, _, hf, hm, rfl, rel_mk ⟨hc, hs⟩ (tr_ok p0 p1) hsh hS hli hta him htb hwy hms⟩
