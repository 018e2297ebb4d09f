/-! alike: marks, pairs, far, classes, likeness -/
theorem al_mark : Al_mark Rel := by
  intro Mc Mr u1 h
  obtain ⟨⟨hc, hs⟩, htr, hsh, hst, hli, hta, him, htb, hwy, hms⟩ := h
  obtain ⟨q, q0, q1, eqq, en, et⟩ := id htr
  have q2 := (sz_pos q1 q0).1
  have q3 := sz_le q1
  rw [hc, hs, eqq, en, et]
  have hn8 : szF q < 8 := by omega
  rcases ref_2 q1 hsh u1 with ⟨r, hr, e1, hm⟩ | ⟨s, z, h4, rfl, z0, z1, hz, s1, s2, s3, e1, e2, e4⟩
  · have hf : fX6_mark cF sF (Mc.1 5) (Mc.1 6) (Mc.1 27) (nI q) u1 = some ((-100 : Int32) - r, Mc.1 5, Mc.1 6) := by
      unfold fX6_mark
      simp (disch := omega) only [Option.bind_some, Sum.elim_inl, Sum.elim_inr, q_le, q_nle, q_lt, q_nlt, q_eq, q_ne, q_m1, q_m5, rd_n, wr_n, ixo_n, dvo_n, rmo_n, nI_add, pk_sub, pk_mul, if_true, if_false, e1, if_neg hr]
    have hm : fX7_mark (Mr.1 1) (Mr.1 2) (Mr.1 10) (Mr.1 18) (nI (szF q)) (nI (dcF q)) (Mr.2.2 48) (Mr.2.2 49) u1 = some ((-100 : Int32) - r, Mr.1 10, Mr.1 18, Mr.2.2 48, Mr.2.2 49) := by
      unfold fX7_mark
      rcases hm with ⟨m1, rfl⟩ | ⟨m1, m2⟩
      · rw [m1]
        rfl
      · simp (disch := omega) only [Option.bind_some, Sum.elim_inl, Sum.elim_inr, q_le, q_nle, q_lt, q_nlt, q_eq, q_ne, q_m1, q_m5, rd_n, wr_n, ixo_n, dvo_n, rmo_n, nI_add, pk_sub, pk_mul, if_true, if_false, m1, m2, if_neg hr]
    exact ⟨_, _, hf, hm, rfl, rel_mk ⟨hc, hs⟩ htr hsh hst hli hta him htb hwy hms⟩
  · have cb := c_isBelow q1 z1 hz
    have mb := m_bel q1 z1 rfl hz
    cases hb : belB q z with
    | false =>
      rw [hb] at cb mb
      have hf : fX6_mark cF sF (Mc.1 5) (Mc.1 6) (Mc.1 27) (nI q) (nI s) = some ((-95 : Int32), Mc.1 5, Mc.1 6) := by
        unfold fX6_mark
        simp (disch := omega) only [Option.bind_some, Sum.elim_inl, Sum.elim_inr, q_le, q_nle, q_lt, q_nlt, q_eq, q_ne, q_m1, q_m5, rd_n, wr_n, ixo_n, dvo_n, rmo_n, nI_add, pk_sub, pk_mul, if_true, if_false, e1, s1, cb, q_bf]
      have hm : fX7_mark (Mr.1 1) (Mr.1 2) (Mr.1 10) (Mr.1 18) (nI (szF q)) (nI (dcF q)) (Mr.2.2 48) (Mr.2.2 49) (nI s) = some ((-95 : Int32), Mr.1 10, Mr.1 18, Mr.2.2 48, Mr.2.2 49) := by
        unfold fX7_mark
        simp (disch := omega) only [Option.bind_some, Sum.elim_inl, Sum.elim_inr, q_le, q_nle, q_lt, q_nlt, q_eq, q_ne, q_m1, q_m5, rd_n, wr_n, ixo_n, dvo_n, rmo_n, nI_add, pk_sub, pk_mul, if_true, if_false, e2, e4, s3, mb, q_bf]
      exact ⟨_, _, hf, hm, rfl, rel_mk ⟨hc, hs⟩ htr hsh hst hli hta him htb hwy hms⟩
    | true =>
      rw [hb] at cb mb
      have ixz := pl_ix z0 z1
      rw [hz] at ixz
      have cl := cnt_le _ hn8
      obtain ⟨all1, many1, t1, t2⟩ := m_table q2 hn8 htb
      obtain ⟨mc, mk2, k1⟩ := c_mark q0 q1 z0 z1 rfl hz hb (Mc.1 5) (Mc.1 6)
      obtain ⟨mk', k2, k3⟩ := m_mark (mk0 := Mr.1 18) q0 q1 z0 z1 rfl hz t2
      obtain ⟨all2, many2, n1, n2⟩ := m_numP z0 z1 hz t2
      have hf : fX6_mark cF sF (Mc.1 5) (Mc.1 6) (Mc.1 27) (nI q) (nI s) = some (mu q z (fstF (szF q)) (z - fstF (szF q)), mc, mk2) := by
        unfold fX6_mark
        simp (disch := omega) only [Option.bind_some, Sum.elim_inl, Sum.elim_inr, q_le, q_nle, q_lt, q_nlt, q_eq, q_ne, q_m1, q_m5, rd_n, wr_n, ixo_n, dvo_n, rmo_n, nI_add, pk_sub, pk_mul, if_true, if_false, e1, s1, cb, q_bt, k1]
      have hm : fX7_mark (Mr.1 1) (Mr.1 2) (Mr.1 10) (Mr.1 18) (nI (szF q)) (nI (dcF q)) (Mr.2.2 48) (Mr.2.2 49) (nI s) = some (mu q z (fstF (szF q)) (z - fstF (szF q)), all2, mk', many2, nI (szF q)) := by
        unfold fX7_mark
        simp (disch := omega) only [Option.bind_some, Sum.elim_inl, Sum.elim_inr, q_le, q_nle, q_lt, q_nlt, q_eq, q_ne, q_m1, q_m5, rd_n, wr_n, ixo_n, dvo_n, rmo_n, nI_add, pk_sub, pk_mul, if_true, if_false, e2, e4, s3, mb, q_bt, t1, k2, n1, k3 _ ixz.1]
      exact ⟨_, _, hf, hm, rfl, rel_mk ⟨hc, hs⟩ htr hsh hst hli hta him (tb_of q0 q1 n2) hwy hms⟩
theorem al_pairs : Al_pairs Rel := by
  intro Mc Mr u1 h
  obtain ⟨⟨hc, hs⟩, htr, hsh, hst, hli, hta, him, htb, hwy, hms⟩ := h
  obtain ⟨q, q0, q1, eqq, en, et⟩ := id htr
  have q2 := (sz_pos q1 q0).1
  have q3 := sz_le q1
  rw [hc]
  by_cases hn : ∃ n, 0 < n ∧ n < 7 ∧ u1 = nI n
  · obtain ⟨n, n0, n7, rfl⟩ := hn
    obtain ⟨all', many', e1, e2⟩ := m_table n0 (show n < 8 by omega) htb
    have hf : fX6_pairs cF (nI n) = some (nI (cpr (fstF n) (cntF n) (cntF n))) := by
      unfold fX6_pairs
      simp (disch := omega) only [Option.bind_some, Sum.elim_inl, Sum.elim_inr, q_le, q_nle, q_lt, q_nlt, q_eq, q_ne, q_m1, q_m5, rd_n, wr_n, ixo_n, dvo_n, rmo_n, nI_add, pk_sub, pk_mul, if_true, if_false, c_isSize n0 (show n < 8 by omega), c_pairs n0 (show n < 8 by omega)]
    have hm : fX7_pairs (Mr.1 10) (Mr.2.2 48) (Mr.2.2 49) (nI n) = some (nI (cpr (fstF n) (cntF n) (cntF n)), all', many', nI n) := by
      unfold fX7_pairs
      rw [in_y (a := 1) (b := 6) (by omega) rfl (by omega) rfl (by omega)]
      simp (disch := omega) only [Option.bind_some, Sum.elim_inl, Sum.elim_inr, q_le, q_nle, q_lt, q_nlt, q_eq, q_ne, q_m1, q_m5, rd_n, wr_n, ixo_n, dvo_n, rmo_n, nI_add, pk_sub, pk_mul, if_true, if_false, e1, m_pairs n0 (show n < 8 by omega) e2]
    exact ⟨_, _, hf, hm, rfl, rel_mk ⟨hc, hs⟩ htr hsh hst hli hta him (tb_ok n0 (by omega) e2) hwy hms⟩
  · have ho : u1 < nI 1 ∨ nI 6 < u1 := by
      rcases i_cases u1 with ⟨k, hk, rfl⟩ | hx
      · by_cases k0 : k = 0
        · exact Or.inl (nI_lt (by omega) (by omega))
        · by_cases k7 : k < 7
          · exact absurd ⟨k, by omega, k7, rfl⟩ hn
          · exact Or.inr (nI_lt (by omega) (by omega))
      · exact Or.inl (neg_lt hx (by omega))
    have hf : fX6_pairs cF u1 = some (-2 : Int32) := by
      unfold fX6_pairs
      rcases size_cases u1 with ⟨n, n0, n7, rfl⟩ | hx
      · have : n = 7 := by
          by_cases e : n = 7
          · exact e
          · exact absurd ⟨n, n0, by omega, rfl⟩ hn
        subst this
        simp (disch := omega) only [Option.bind_some, Sum.elim_inl, Sum.elim_inr, q_le, q_nle, q_lt, q_nlt, q_eq, q_ne, q_m1, q_m5, rd_n, wr_n, ixo_n, dvo_n, rmo_n, nI_add, pk_sub, pk_mul, if_true, if_false, c_isSize n0 n7]
      · rw [c_isSize_no hx]
        rfl
    have hm : fX7_pairs (Mr.1 10) (Mr.2.2 48) (Mr.2.2 49) u1 = some ((-2 : Int32), Mr.1 10, Mr.2.2 48, Mr.2.2 49) := by
      unfold fX7_pairs
      rw [in17 (m := 6) rfl ho (by omega)]
      rfl
    exact ⟨_, _, hf, hm, rfl, rel_mk ⟨hc, hs⟩ htr hsh hst hli hta him htb hwy hms⟩
theorem k3 {k : Nat} (h : k < 3) : k = 0 ∨ k = 1 ∨ k = 2 := by omega
theorem al_far : Al_far Rel := by
  intro Mc Mr u1 h
  obtain ⟨⟨hc, hs⟩, htr, hsh, hst, hli, hta, him, htb, hwy, hms⟩ := h
  obtain ⟨q, q0, q1, eqq, en, et⟩ := id htr
  have q2 := (sz_pos q1 q0).1
  have q3 := sz_le q1
  rw [hc, hs, eqq, en, et]
  have hn8 : szF q < 8 := by omega
  obtain ⟨u', b', l', t', qu', hh', all', P', L', R', S', A', d', qq', many', rdv', i, c1, m1, w1, w2, w3, w4, w5, w6, w7, w8⟩ := meas_ok (q := Mc.1 12) (h := Mc.2.2 42) (P := Mr.1 11) (L := Mr.1 12) (R := Mr.1 13) (S := Mr.1 14) (A := Mr.1 15) (d := Mr.1 16) (qq := Mr.1 17) (rdv := Mr.2.2 50) q0 q1 rfl hwy hms htb
  rcases rng_c u1 3 with ⟨k, hk, rfl⟩ | ho
  · have hi : fX7_in (nI k).toInt64 (0 : Int64) (2 : Int64) = some (nI 1) := in_in (m := 3) rfl hk (by omega)
    obtain ⟨l, g1, g2, g3, g4⟩ := m_far (v1 := nI k) hn8 w8 w6
    have hmy : many' = nI (cntF (szF q)) := w4.1
    rw [← hmy] at g1
    rcases k3 hk with rfl | rfl | rfl
    · have hf : fX6_far cF sF (Mc.1 8) (Mc.1 9) (Mc.1 10) (Mc.1 11) (Mc.1 12) (nI q) (Mc.2.2 42) (Mc.2.2 43) (nI 0) = some (nI (mxD (bf true (szF q) (q - fstF (szF q)) i).1 (cntF (szF q))), u', b', l', t', qu', hh', nI q) := by
        unfold fX6_far
        simp (disch := omega) only [Option.bind_some, Sum.elim_inl, Sum.elim_inr, q_le, q_nle, q_lt, q_nlt, q_eq, q_ne, q_m1, q_m5, rd_n, wr_n, ixo_n, dvo_n, rmo_n, nI_add, pk_sub, pk_mul, if_true, if_false, c1, c_farthest hn8 w6 w7]
      have hm : fX7_far (Mr.1 10) (Mr.1 11) (Mr.1 12) (Mr.1 13) (Mr.1 14) (Mr.1 15) (Mr.1 16) (Mr.1 17) (nI (szF q)) (nI (dcF q)) (Mr.2.2 48) (Mr.2.2 49) (Mr.2.2 50) (nI 0) = some (nI (mxD (bf true (szF q) (q - fstF (szF q)) i).1 (cntF (szF q))), all', P', L', R', S', A', d', qq', many', nI (szF q), rdv') := by
        unfold fX7_far
        simp (disch := omega) only [Option.bind_some, Sum.elim_inl, Sum.elim_inr, q_le, q_nle, q_lt, q_nlt, q_eq, q_ne, q_m1, q_m5, rd_n, wr_n, ixo_n, dvo_n, rmo_n, nI_add, pk_sub, pk_mul, if_true, if_false, hi, m1, g1]
      exact ⟨_, _, hf, hm, rfl, rel_mk ⟨hc, hs⟩ htr hsh hst hli hta him (tb_of q0 q1 w4) w1 w2⟩
    · have hf : fX6_far cF sF (Mc.1 8) (Mc.1 9) (Mc.1 10) (Mc.1 11) (Mc.1 12) (nI q) (Mc.2.2 42) (Mc.2.2 43) (nI 1) = some (nI (cE (bf true (szF q) (q - fstF (szF q)) i).1 (mxD (bf true (szF q) (q - fstF (szF q)) i).1 (cntF (szF q))) (cntF (szF q))), u', b', l', t', qu', hh', nI q) := by
        unfold fX6_far
        simp (disch := omega) only [Option.bind_some, Sum.elim_inl, Sum.elim_inr, q_le, q_nle, q_lt, q_nlt, q_eq, q_ne, q_m1, q_m5, rd_n, wr_n, ixo_n, dvo_n, rmo_n, nI_add, pk_sub, pk_mul, if_true, if_false, c1, c_howManyF hn8 w6 w7]
      have hm : fX7_far (Mr.1 10) (Mr.1 11) (Mr.1 12) (Mr.1 13) (Mr.1 14) (Mr.1 15) (Mr.1 16) (Mr.1 17) (nI (szF q)) (nI (dcF q)) (Mr.2.2 48) (Mr.2.2 49) (Mr.2.2 50) (nI 1) = some (nI (cE (bf true (szF q) (q - fstF (szF q)) i).1 (mxD (bf true (szF q) (q - fstF (szF q)) i).1 (cntF (szF q))) (cntF (szF q))), all', P', L', R', S', A', d', qq', many', nI (szF q), rdv') := by
        unfold fX7_far
        simp (disch := omega) only [Option.bind_some, Sum.elim_inl, Sum.elim_inr, q_le, q_nle, q_lt, q_nlt, q_eq, q_ne, q_m1, q_m5, rd_n, wr_n, ixo_n, dvo_n, rmo_n, nI_add, pk_sub, pk_mul, if_true, if_false, hi, m1, g1]
      exact ⟨_, _, hf, hm, rfl, rel_mk ⟨hc, hs⟩ htr hsh hst hli hta him (tb_of q0 q1 w4) w1 w2⟩
    · obtain ⟨z0, z1, z2⟩ := pl_ok q2 hn8 g2
      have hf : fX6_far cF sF (Mc.1 8) (Mc.1 9) (Mc.1 10) (Mc.1 11) (Mc.1 12) (nI q) (Mc.2.2 42) (Mc.2.2 43) (nI 2) = some (nI l, u', b', l', t', qu', hh', nI q) := by
        unfold fX6_far
        simp (disch := omega) only [Option.bind_some, Sum.elim_inl, Sum.elim_inr, q_le, q_nle, q_lt, q_nlt, q_eq, q_ne, q_m1, q_m5, rd_n, wr_n, ixo_n, dvo_n, rmo_n, nI_add, pk_sub, pk_mul, if_true, if_false, c1, c_leastF hn8 w6 w7 g2 g3 g4, c_numberOf z0 z1, z2]
        rw [Nat.add_sub_cancel_left]
      have hm : fX7_far (Mr.1 10) (Mr.1 11) (Mr.1 12) (Mr.1 13) (Mr.1 14) (Mr.1 15) (Mr.1 16) (Mr.1 17) (nI (szF q)) (nI (dcF q)) (Mr.2.2 48) (Mr.2.2 49) (Mr.2.2 50) (nI 2) = some (nI l, all', P', L', R', S', A', d', qq', many', nI (szF q), rdv') := by
        unfold fX7_far
        simp (disch := omega) only [Option.bind_some, Sum.elim_inl, Sum.elim_inr, q_le, q_nle, q_lt, q_nlt, q_eq, q_ne, q_m1, q_m5, rd_n, wr_n, ixo_n, dvo_n, rmo_n, nI_add, pk_sub, pk_mul, if_true, if_false, hi, m1, g1]
      exact ⟨_, _, hf, hm, rfl, rel_mk ⟨hc, hs⟩ htr hsh hst hli hta him (tb_of q0 q1 w4) w1 w2⟩
  · have hf : fX6_far cF sF (Mc.1 8) (Mc.1 9) (Mc.1 10) (Mc.1 11) (Mc.1 12) (nI q) (Mc.2.2 42) (Mc.2.2 43) u1 = some ((-1 : Int32), u', b', l', t', qu', hh', nI q) := by
      unfold fX6_far
      rw [c1, Option.bind_some, if_neg (out_ne ho (by omega) (by omega)), if_neg (out_ne ho (by omega) (by omega)), if_neg (out_ne ho (by omega) (by omega))]
    have hm : fX7_far (Mr.1 10) (Mr.1 11) (Mr.1 12) (Mr.1 13) (Mr.1 14) (Mr.1 15) (Mr.1 16) (Mr.1 17) (nI (szF q)) (nI (dcF q)) (Mr.2.2 48) (Mr.2.2 49) (Mr.2.2 50) u1 = some ((-1 : Int32), Mr.1 10, Mr.1 11, Mr.1 12, Mr.1 13, Mr.1 14, Mr.1 15, Mr.1 16, Mr.1 17, Mr.2.2 48, Mr.2.2 49, Mr.2.2 50) := by
      unfold fX7_far
      rw [in_out (m := 3) rfl ho]
      rfl
    exact ⟨_, _, hf, hm, rfl, rel_mk ⟨hc, hs⟩ htr hsh hst hli hta him htb w1 w2⟩
theorem al_canopy : Al_canopy Rel := by
  intro Mc Mr h
  have h' := h
  obtain ⟨⟨hc, hs⟩, htr, hsh, hst, hli, hta, him, htb, hwy, hms⟩ := h
  obtain ⟨q, q0, q1, eqq, en, et⟩ := id htr
  have q2 := (sz_pos q1 q0).1
  have q3 := sz_le q1
  rw [hc, hs, eqq, en, et]
  have hf : fX6_canopy cF sF (nI q) = some (nI (caF q)) := by
    unfold fX6_canopy
    rw [c_withRightChild q1 q0]
    rfl
  have hm : fX7_canopy (nI (szF q)) (nI (dcF q)) = some (nI (caF q)) := by
    unfold fX7_canopy
    rw [m_canopyOf q0 q1]
    rfl
  exact ⟨_, _, hf, hm, rfl, h'⟩
theorem sh_1 : ∀ n, n < 8 → 0 < n → (nI 1) <<< ((nI n - nI 1) &&& 31) = nI (2 ^ (n - 1)) ∧ 2 ^ (n - 1) ≤ 64 := by decide
theorem al_inClass : Al_inClass Rel := by
  intro Mc Mr u1 u2 h
  obtain ⟨⟨hc, hs⟩, htr, hsh, hst, hli, hta, him, htb, hwy, hms⟩ := h
  obtain ⟨q, q0, q1, eqq, en, et⟩ := id htr
  have q2 := (sz_pos q1 q0).1
  have q3 := sz_le q1
  rw [hc, hs, eqq, en]
  have hn8 : szF q < 8 := by omega
  obtain ⟨sh, p64⟩ := sh_1 _ hn8 q2
  rcases rng_c u1 (2 ^ (szF q - 1)) with ⟨m, hm, rfl⟩ | ho
  · have hi : fX7_in (nI m).toInt64 (0 : Int64) ((nI (2 ^ (szF q - 1)) - nI 1).toInt64) = some (nI 1) := in_in (hi_n (by omega)) hm (by omega)
    have hl : nI m < nI (2 ^ (szF q - 1)) := nI_lt hm (by omega)
    rcases rng_c u2 3 with ⟨k, hk, rfl⟩ | ho2
    · have hi2 : fX7_in (nI k).toInt64 (0 : Int64) (2 : Int64) = some (nI 1) := in_in (m := 3) rfl hk (by omega)
      obtain ⟨all', many', e1, e2⟩ := m_table q2 hn8 htb
      obtain ⟨a, b, r1, r2, r3⟩ := m_inClass (v2 := nI k) q2 hn8 hm (by omega) e2
      rcases k3 hk with rfl | rfl | rfl
      · have hf : fX6_inClass cF sF (nI q) (nI m) (nI 0) = some (nI (cCa (fstF (szF q)) m (cntF (szF q)))) := by
          unfold fX6_inClass
          rw [if_neg (nI_nlt (by omega) (by omega)), c_size q1, Option.bind_some, sh, if_pos hl]
          simp (disch := omega) only [Option.bind_some, Sum.elim_inl, Sum.elim_inr, q_le, q_nle, q_lt, q_nlt, q_eq, q_ne, q_m1, q_m5, rd_n, wr_n, ixo_n, dvo_n, rmo_n, nI_add, pk_sub, pk_mul, if_true, if_false, c_howManyWith q2 hn8 (show m < 1000 by omega)]
        have hm : fX7_inClass (Mr.1 10) (nI (szF q)) (Mr.2.2 48) (Mr.2.2 49) (nI m) (nI 0) = some (nI (cCa (fstF (szF q)) m (cntF (szF q))), all', many', nI (szF q)) := by
          unfold fX7_inClass
          rw [sh, hi]
          simp (disch := omega) only [Option.bind_some, Sum.elim_inl, Sum.elim_inr, q_le, q_nle, q_lt, q_nlt, q_eq, q_ne, q_m1, q_m5, rd_n, wr_n, ixo_n, dvo_n, rmo_n, nI_add, pk_sub, pk_mul, if_true, if_false, hi2, e1, r1]
        exact ⟨_, _, hf, hm, rfl, rel_mk ⟨hc, hs⟩ htr hsh hst hli hta him (tb_of q0 q1 e2) hwy hms⟩
      · obtain ⟨z0, z1, z2⟩ := pl_ok q2 hn8 r2.1
        have hf : fX6_inClass cF sF (nI q) (nI m) (nI 1) = some (nI a) := by
          unfold fX6_inClass
          rw [if_neg (nI_nlt (by omega) (by omega)), c_size q1, Option.bind_some, sh, if_pos hl]
          simp (disch := omega) only [Option.bind_some, Sum.elim_inl, Sum.elim_inr, q_le, q_nle, q_lt, q_nlt, q_eq, q_ne, q_m1, q_m5, rd_n, wr_n, ixo_n, dvo_n, rmo_n, nI_add, pk_sub, pk_mul, if_true, if_false, c_leastWith q2 hn8 (show m < 1000 by omega) r2, c_numberOf z0 z1, z2]
          rw [Nat.add_sub_cancel_left]
        have hm : fX7_inClass (Mr.1 10) (nI (szF q)) (Mr.2.2 48) (Mr.2.2 49) (nI m) (nI 1) = some (nI a, all', many', nI (szF q)) := by
          unfold fX7_inClass
          rw [sh, hi]
          simp (disch := omega) only [Option.bind_some, Sum.elim_inl, Sum.elim_inr, q_le, q_nle, q_lt, q_nlt, q_eq, q_ne, q_m1, q_m5, rd_n, wr_n, ixo_n, dvo_n, rmo_n, nI_add, pk_sub, pk_mul, if_true, if_false, hi2, e1, r1]
        exact ⟨_, _, hf, hm, rfl, rel_mk ⟨hc, hs⟩ htr hsh hst hli hta him (tb_of q0 q1 e2) hwy hms⟩
      · obtain ⟨z0, z1, z2⟩ := pl_ok q2 hn8 r3.1
        have hf : fX6_inClass cF sF (nI q) (nI m) (nI 2) = some (nI b) := by
          unfold fX6_inClass
          rw [if_neg (nI_nlt (by omega) (by omega)), c_size q1, Option.bind_some, sh, if_pos hl]
          simp (disch := omega) only [Option.bind_some, Sum.elim_inl, Sum.elim_inr, q_le, q_nle, q_lt, q_nlt, q_eq, q_ne, q_m1, q_m5, rd_n, wr_n, ixo_n, dvo_n, rmo_n, nI_add, pk_sub, pk_mul, if_true, if_false, c_greatestWith q2 hn8 (show m < 1000 by omega) r3, c_numberOf z0 z1, z2]
          rw [Nat.add_sub_cancel_left]
        have hm : fX7_inClass (Mr.1 10) (nI (szF q)) (Mr.2.2 48) (Mr.2.2 49) (nI m) (nI 2) = some (nI b, all', many', nI (szF q)) := by
          unfold fX7_inClass
          rw [sh, hi]
          simp (disch := omega) only [Option.bind_some, Sum.elim_inl, Sum.elim_inr, q_le, q_nle, q_lt, q_nlt, q_eq, q_ne, q_m1, q_m5, rd_n, wr_n, ixo_n, dvo_n, rmo_n, nI_add, pk_sub, pk_mul, if_true, if_false, hi2, e1, r1]
        exact ⟨_, _, hf, hm, rfl, rel_mk ⟨hc, hs⟩ htr hsh hst hli hta him (tb_of q0 q1 e2) hwy hms⟩
    · have hf : fX6_inClass cF sF (nI q) (nI m) u2 = some (-1 : Int32) := by
        unfold fX6_inClass
        rw [if_neg (nI_nlt (by omega) (by omega)), c_size q1, Option.bind_some, sh, if_pos hl, if_neg (out_ne ho2 (by omega) (by omega)), if_neg (out_ne ho2 (by omega) (by omega)), if_neg (out_ne ho2 (by omega) (by omega))]
      have hm : fX7_inClass (Mr.1 10) (nI (szF q)) (Mr.2.2 48) (Mr.2.2 49) (nI m) u2 = some ((-1 : Int32), Mr.1 10, Mr.2.2 48, Mr.2.2 49) := by
        unfold fX7_inClass
        rw [sh, hi, Option.bind_some, if_neg (by decide), in_out (m := 3) rfl ho2]
        rfl
      exact ⟨_, _, hf, hm, rfl, rel_mk ⟨hc, hs⟩ htr hsh hst hli hta him htb hwy hms⟩
  · have hf : fX6_inClass cF sF (nI q) u1 u2 = some (-2 : Int32) := by
      unfold fX6_inClass
      rcases ho with h | ⟨k, h1, h2, rfl⟩
      · rw [if_pos h]
      · rw [if_neg (nI_nlt (by omega) (by omega)), c_size q1, Option.bind_some, sh, if_neg (nI_nlt h1 (by omega))]
    have hm : fX7_inClass (Mr.1 10) (nI (szF q)) (Mr.2.2 48) (Mr.2.2 49) u1 u2 = some ((-2 : Int32), Mr.1 10, Mr.2.2 48, Mr.2.2 49) := by
      unfold fX7_inClass
      rw [sh, in_out (hi_n (by omega)) ho]
      rfl
    exact ⟨_, _, hf, hm, rfl, rel_mk ⟨hc, hs⟩ htr hsh hst hli hta him htb hwy hms⟩
theorem al_likeness : Al_likeness Rel := by
  intro Mc Mr u1 h
  have h' := h
  obtain ⟨⟨hc, hs⟩, htr, hsh, hst, hli, hta, him, htb, hwy, hms⟩ := h
  obtain ⟨q, q0, q1, eqq, en, et⟩ := id htr
  have q2 := (sz_pos q1 q0).1
  have q3 := sz_le q1
  rw [hc, hs, eqq, en, et]
  rcases ref_2 q1 hsh u1 with ⟨r, hr, e1, hm⟩ | ⟨s, z, h4, rfl, z0, z1, hz, s1, s2, s3, e1, e2, e4⟩
  · have hf : fX6_likeness cF sF (Mc.1 27) (nI q) u1 = some r := by
      unfold fX6_likeness
      simp (disch := omega) only [Option.bind_some, Sum.elim_inl, Sum.elim_inr, q_le, q_nle, q_lt, q_nlt, q_eq, q_ne, q_m1, q_m5, rd_n, wr_n, ixo_n, dvo_n, rmo_n, nI_add, pk_sub, pk_mul, if_true, if_false, e1, if_neg hr]
    have hm : fX7_likeness (Mr.1 1) (Mr.1 2) (nI (szF q)) (nI (dcF q)) u1 = some r := by
      unfold fX7_likeness
      rcases hm with ⟨m1, rfl⟩ | ⟨m1, m2⟩
      · simp (disch := omega) only [Option.bind_some, Sum.elim_inl, Sum.elim_inr, q_le, q_nle, q_lt, q_nlt, q_eq, q_ne, q_m1, q_m5, rd_n, wr_n, ixo_n, dvo_n, rmo_n, nI_add, pk_sub, pk_mul, if_true, if_false, m1]
      · simp (disch := omega) only [Option.bind_some, Sum.elim_inl, Sum.elim_inr, q_le, q_nle, q_lt, q_nlt, q_eq, q_ne, q_m1, q_m5, rd_n, wr_n, ixo_n, dvo_n, rmo_n, nI_add, pk_sub, pk_mul, if_true, if_false, m1, m2, if_neg hr]
    exact ⟨_, _, hf, hm, rfl, h'⟩
  · obtain ⟨w, hw⟩ := bc_ex (nI (caF q) ^^^ nI (caF z))
    have hcz := m_canopyOf z0 z1
    rw [hz] at hcz
    have hcq : fX7_canopy (nI (szF q)) (nI (dcF q)) = some (nI (caF q)) := by
      unfold fX7_canopy
      rw [m_canopyOf q0 q1]
      rfl
    have hf : fX6_likeness cF sF (Mc.1 27) (nI q) (nI s) = some w := by
      unfold fX6_likeness
      simp (disch := omega) only [Option.bind_some, Sum.elim_inl, Sum.elim_inr, q_le, q_nle, q_lt, q_nlt, q_eq, q_ne, q_m1, q_m5, rd_n, wr_n, ixo_n, dvo_n, rmo_n, nI_add, pk_sub, pk_mul, if_true, if_false, e1, s1, c_withRightChild q1 q0, c_withRightChild z1 z0, hw]
    have hm : fX7_likeness (Mr.1 1) (Mr.1 2) (nI (szF q)) (nI (dcF q)) (nI s) = some w := by
      unfold fX7_likeness
      simp (disch := omega) only [Option.bind_some, Sum.elim_inl, Sum.elim_inr, q_le, q_nle, q_lt, q_nlt, q_eq, q_ne, q_m1, q_m5, rd_n, wr_n, ixo_n, dvo_n, rmo_n, nI_add, pk_sub, pk_mul, if_true, if_false, e2, e4, hcq, s3, hcz, hw]
    exact ⟨_, _, hf, hm, rfl, h'⟩
