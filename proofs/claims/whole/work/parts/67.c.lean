/-! alike: the tree itself -/
theorem al_row : Al_row Rel := by
  intro Mc Mr u1 h
  obtain ⟨⟨hc, hs⟩, htr, hsh, hst, hli, hta, him, htb, hwy, hms⟩ := h
  obtain ⟨q, q0, q1, eqq, en, et⟩ := id htr
  have q2 := (sz_pos q1 q0).1
  have q3 := sz_le q1
  rw [hc, hs, eqq, en, et]
  have no : fX0_findDigits cF (nI (szF q)) u1 = some (nI 0) → fX7_isTree u1 (nI (szF q)) = some (nI 0) → ∃ (rc : (Int32 × (Nat → Int32) × Int32 × Int32)) (rm : (Int32 × (Nat → Int32) × (Nat → Int32) × (Nat → Int32) × Int32 × Int32 × Int32 × Int32 × Int32)), fX6_row cF sF (Mc.1 15) (nI q) (Mc.2.2 44) u1 = some rc ∧ fX7_row (Mr.1 3) (Mr.1 4) (Mr.1 10) (nI (szF q)) (nI (dcF q)) (Mr.2.2 42) (Mr.2.2 48) (Mr.2.2 49) u1 = some rm ∧ rc.1 = rm.1 ∧ Rel (mk Mc [(15, rc.2.1)] Mc.2.1 [(41, rc.2.2.1), (44, rc.2.2.2)]) (mk Mr [(3, rm.2.1), (4, rm.2.2.1), (10, rm.2.2.2.1)] Mr.2.1 [(40, rm.2.2.2.2.1), (41, rm.2.2.2.2.2.1), (42, rm.2.2.2.2.2.2.1), (48, rm.2.2.2.2.2.2.2.1), (49, rm.2.2.2.2.2.2.2.2)]) := by
    intro e1 e2
    have hf : fX6_row cF sF (Mc.1 15) (nI q) (Mc.2.2 44) u1 = some ((-2 : Int32), Mc.1 15, nI q, Mc.2.2 44) := by
      unfold fX6_row
      simp (disch := omega) only [Option.bind_some, Sum.elim_inl, Sum.elim_inr, q_le, q_nle, q_lt, q_nlt, q_eq, q_ne, q_m1, q_m5, rd_n, wr_n, ixo_n, dvo_n, rmo_n, nI_add, pk_sub, pk_mul, if_true, if_false, c_size q1, e1]
    have hm : fX7_row (Mr.1 3) (Mr.1 4) (Mr.1 10) (nI (szF q)) (nI (dcF q)) (Mr.2.2 42) (Mr.2.2 48) (Mr.2.2 49) u1 = some ((-2 : Int32), Mr.1 3, Mr.1 4, Mr.1 10, nI (szF q), nI (dcF q), Mr.2.2 42, Mr.2.2 48, Mr.2.2 49) := by
      unfold fX7_row
      simp (disch := omega) only [Option.bind_some, Sum.elim_inl, Sum.elim_inr, q_le, q_nle, q_lt, q_nlt, q_eq, q_ne, q_m1, q_m5, rd_n, wr_n, ixo_n, dvo_n, rmo_n, nI_add, pk_sub, pk_mul, if_true, if_false, e2]
    exact ⟨_, _, hf, hm, rfl, rel_mk ⟨hc, hs⟩ (tr_ok q0 q1) hsh hst hli hta him htb hwy hms⟩
  rcases i_cases u1 with ⟨t, ht, rfl⟩ | hneg
  · rcases c_findDigits q2 (show szF q < 8 by omega) ht with ⟨hb, hT, p, p0, p1, p2, p3, ef⟩ | ⟨hno, ef⟩
    · obtain ⟨A', N', T', h1', h2', all', many', t1, t2, t3, t4, t5⟩ := tell_ok q0 q1 rfl p0 p1 p2 hst htb
      rw [p3] at t2 t3
      rcases m_isTree q2 (show szF q < 8 by omega) hb with ⟨_, ei⟩ | ⟨hx, _⟩
      · have hf : fX6_row cF sF (Mc.1 15) (nI q) (Mc.2.2 44) (nI t) = some (nI (p - fstF (szF q)), A', nI p, h1') := by
          unfold fX6_row
          simp (disch := omega) only [Option.bind_some, Sum.elim_inl, Sum.elim_inr, q_le, q_nle, q_lt, q_nlt, q_eq, q_ne, q_m1, q_m5, rd_n, wr_n, ixo_n, dvo_n, rmo_n, nI_add, pk_sub, pk_mul, if_true, if_false, c_size q1, ef, t1]
        have hm : fX7_row (Mr.1 3) (Mr.1 4) (Mr.1 10) (nI (szF q)) (nI (dcF q)) (Mr.2.2 42) (Mr.2.2 48) (Mr.2.2 49) (nI t) = some (nI (p - fstF (szF q)), N', T', all', nI (szF q), nI t, h2', many', nI (szF q)) := by
          unfold fX7_row
          simp (disch := omega) only [Option.bind_some, Sum.elim_inl, Sum.elim_inr, q_le, q_nle, q_lt, q_nlt, q_eq, q_ne, q_m1, q_m5, rd_n, wr_n, ixo_n, dvo_n, rmo_n, nI_add, pk_sub, pk_mul, if_true, if_false, ei, t2, t3]
        exact ⟨_, _, hf, hm, rfl, rel_mk ⟨hc, hs⟩ (tr_of p0 p1 p2 p3) hsh t4 hli hta him t5 hwy hms⟩
      · exact absurd hT hx
    · refine no ef ?_
      by_cases hb : t < P10 (szF q)
      · rcases m_isTree q2 (show szF q < 8 by omega) hb with ⟨hT, _⟩ | ⟨_, ei⟩
        · rcases hno with h | h
          · omega
          · exact absurd hT h
        · exact ei
      · exact m_isTree_no (by omega) (Or.inr (nI_le (by omega) (by omega)))
  · exact no (c_findDigits_neg hneg) (m_isTree_no (by omega) (Or.inl hneg))
def ofV (q c : Nat) : Nat → Int32
  | 0 => nI (dgF q c)
  | 1 => ntI (f4 paB q c)
  | 2 => ntI (f4 lcB q c)
  | 3 => ntI (f4 rcB q c)
  | 4 => nI (f4 lsB q c)
  | _ => nI (f4 dpB q c)
theorem k6 {k : Nat} (h : k < 6) : k = 0 ∨ k = 1 ∨ k = 2 ∨ k = 3 ∨ k = 4 ∨ k = 5 := by omega
theorem al_of : Al_of Rel := by
  intro Mc Mr u1 u2 h
  obtain ⟨⟨hc, hs⟩, htr, hsh, hst, hli, hta, him, htb, hwy, hms⟩ := h
  obtain ⟨q, q0, q1, eqq, en, et⟩ := id htr
  have q2 := (sz_pos q1 q0).1
  have q3 := sz_le q1
  rw [hc, hs, eqq, en, et]
  rcases rng_c u1 (szF q) with ⟨c, hcn, rfl⟩ | ho
  · obtain ⟨n1, n2⟩ := nd_y q1 hcn
    rcases rng_c u2 6 with ⟨k, hk, rfl⟩ | ho2
    · have i2 : fX7_in (nI k).toInt64 (0 : Int64) (5 : Int64) = some (nI 1) := in_in (m := 6) rfl hk (by omega)
      obtain ⟨P', L', R', S', A', e, hL⟩ := m_looks q0 q1 (Mr.1 11) (Mr.1 12) (Mr.1 13) (Mr.1 14) (Mr.1 15) (Mr.2.2 50)
      obtain ⟨l1, l2, l3, l4, l5⟩ := hL c hcn
      have c7 : c < 7 := by omega
      have hf : fX6_of cF sF (nI q) (nI c) (nI k) = some (ofV q c k) := by
        unfold fX6_of
        rw [n1]
        rcases k6 hk with rfl | rfl | rfl | rfl | rfl | rfl
        · simp (disch := omega) only [Option.bind_some, Sum.elim_inl, Sum.elim_inr, q_le, q_nle, q_lt, q_nlt, q_eq, q_ne, q_m1, q_m5, rd_n, wr_n, ixo_n, dvo_n, rmo_n, nI_add, pk_sub, pk_mul, if_true, if_false, c_rightSize q1 c7 hcn]
          rfl
        · simp (disch := omega) only [Option.bind_some, Sum.elim_inl, Sum.elim_inr, q_le, q_nle, q_lt, q_nlt, q_eq, q_ne, q_m1, q_m5, rd_n, wr_n, ixo_n, dvo_n, rmo_n, nI_add, pk_sub, pk_mul, if_true, if_false, c_parent q1 c7 hcn]
          rfl
        · simp (disch := omega) only [Option.bind_some, Sum.elim_inl, Sum.elim_inr, q_le, q_nle, q_lt, q_nlt, q_eq, q_ne, q_m1, q_m5, rd_n, wr_n, ixo_n, dvo_n, rmo_n, nI_add, pk_sub, pk_mul, if_true, if_false, c_leftChild q1 c7 hcn]
          rfl
        · simp (disch := omega) only [Option.bind_some, Sum.elim_inl, Sum.elim_inr, q_le, q_nle, q_lt, q_nlt, q_eq, q_ne, q_m1, q_m5, rd_n, wr_n, ixo_n, dvo_n, rmo_n, nI_add, pk_sub, pk_mul, if_true, if_false, c_rightChild q1 c7 hcn]
          rfl
        · simp (disch := omega) only [Option.bind_some, Sum.elim_inl, Sum.elim_inr, q_le, q_nle, q_lt, q_nlt, q_eq, q_ne, q_m1, q_m5, rd_n, wr_n, ixo_n, dvo_n, rmo_n, nI_add, pk_sub, pk_mul, if_true, if_false, c_leftSize q1 c7 hcn]
          rfl
        · simp (disch := omega) only [Option.bind_some, Sum.elim_inl, Sum.elim_inr, q_le, q_nle, q_lt, q_nlt, q_eq, q_ne, q_m1, q_m5, rd_n, wr_n, ixo_n, dvo_n, rmo_n, nI_add, pk_sub, pk_mul, if_true, if_false, c_depth q1 c7 hcn]
          rfl
      have hm : fX7_of (Mr.1 11) (Mr.1 12) (Mr.1 13) (Mr.1 14) (Mr.1 15) (nI (szF q)) (nI (dcF q)) (Mr.2.2 50) (nI c) (nI k) = some (ofV q c k, P', L', R', S', A', nI (roF q)) := by
        unfold fX7_of
        rw [n2]
        rcases k6 hk with rfl | rfl | rfl | rfl | rfl | rfl
        · simp (disch := omega) only [Option.bind_some, Sum.elim_inl, Sum.elim_inr, q_le, q_nle, q_lt, q_nlt, q_eq, q_ne, q_m1, q_m5, rd_n, wr_n, ixo_n, dvo_n, rmo_n, nI_add, pk_sub, pk_mul, if_true, if_false, i2, e, m_at' q1 hcn]
          rfl
        · simp (disch := omega) only [Option.bind_some, Sum.elim_inl, Sum.elim_inr, q_le, q_nle, q_lt, q_nlt, q_eq, q_ne, q_m1, q_m5, rd_n, wr_n, ixo_n, dvo_n, rmo_n, nI_add, pk_sub, pk_mul, if_true, if_false, i2, e, l1]
          rfl
        · simp (disch := omega) only [Option.bind_some, Sum.elim_inl, Sum.elim_inr, q_le, q_nle, q_lt, q_nlt, q_eq, q_ne, q_m1, q_m5, rd_n, wr_n, ixo_n, dvo_n, rmo_n, nI_add, pk_sub, pk_mul, if_true, if_false, i2, e, l2]
          rfl
        · simp (disch := omega) only [Option.bind_some, Sum.elim_inl, Sum.elim_inr, q_le, q_nle, q_lt, q_nlt, q_eq, q_ne, q_m1, q_m5, rd_n, wr_n, ixo_n, dvo_n, rmo_n, nI_add, pk_sub, pk_mul, if_true, if_false, i2, e, l3]
          rfl
        · simp (disch := omega) only [Option.bind_some, Sum.elim_inl, Sum.elim_inr, q_le, q_nle, q_lt, q_nlt, q_eq, q_ne, q_m1, q_m5, rd_n, wr_n, ixo_n, dvo_n, rmo_n, nI_add, pk_sub, pk_mul, if_true, if_false, i2, e, l4]
          rfl
        · simp (disch := omega) only [Option.bind_some, Sum.elim_inl, Sum.elim_inr, q_le, q_nle, q_lt, q_nlt, q_eq, q_ne, q_m1, q_m5, rd_n, wr_n, ixo_n, dvo_n, rmo_n, nI_add, pk_sub, pk_mul, if_true, if_false, i2, e, l5]
          rfl
      exact ⟨_, _, hf, hm, rfl, rel_mk ⟨hc, hs⟩ htr hsh hst hli hta him htb hwy hms⟩
    · have hf : fX6_of cF sF (nI q) (nI c) u2 = some (-1 : Int32) := by
        unfold fX6_of
        rw [n1, Option.bind_some, if_neg (by decide), if_neg (out_ne ho2 (by omega) (by omega)), if_neg (out_ne ho2 (by omega) (by omega)), if_neg (out_ne ho2 (by omega) (by omega)), if_neg (out_ne ho2 (by omega) (by omega)), if_neg (out_ne ho2 (by omega) (by omega)), if_neg (out_ne ho2 (by omega) (by omega))]
      have hm : fX7_of (Mr.1 11) (Mr.1 12) (Mr.1 13) (Mr.1 14) (Mr.1 15) (nI (szF q)) (nI (dcF q)) (Mr.2.2 50) (nI c) u2 = some ((-1 : Int32), Mr.1 11, Mr.1 12, Mr.1 13, Mr.1 14, Mr.1 15, Mr.2.2 50) := by
        unfold fX7_of
        rw [n2, in_out (m := 6) rfl ho2]
        rfl
      exact ⟨_, _, hf, hm, rfl, rel_mk ⟨hc, hs⟩ htr hsh hst hli hta him htb hwy hms⟩
  · obtain ⟨n1, n2⟩ := nd_n q1 ho
    have hf : fX6_of cF sF (nI q) u1 u2 = some (-1 : Int32) := by
      unfold fX6_of
      rw [n1]
      rfl
    have hm : fX7_of (Mr.1 11) (Mr.1 12) (Mr.1 13) (Mr.1 14) (Mr.1 15) (nI (szF q)) (nI (dcF q)) (Mr.2.2 50) u1 u2 = some ((-1 : Int32), Mr.1 11, Mr.1 12, Mr.1 13, Mr.1 14, Mr.1 15, Mr.2.2 50) := by
      unfold fX7_of
      rw [n2]
      rfl
    exact ⟨_, _, hf, hm, rfl, rel_mk ⟨hc, hs⟩ htr hsh hst hli hta him htb hwy hms⟩
theorem al_number : Al_number Rel := by
  intro Mc Mr u1 h
  obtain ⟨⟨hc, hs⟩, htr, hsh, hst, hli, hta, him, htb, hwy, hms⟩ := h
  obtain ⟨q, q0, q1, eqq, en, et⟩ := id htr
  have q2 := (sz_pos q1 q0).1
  have q3 := sz_le q1
  rw [hs, eqq, en, et]
  have hn8 : szF q < 8 := by omega
  obtain ⟨all', many', e1, e2⟩ := m_table q2 hn8 htb
  have hcl := cnt_le _ hn8
  have hmy : many' = nI (cntF (szF q)) := e2.1
  rcases rng_c u1 (cntF (szF q)) with ⟨k, hk, rfl⟩ | ho
  · obtain ⟨all2, many2, w1, w2⟩ := m_which q0 q1 (tb_of q0 q1 e2)
    obtain ⟨z0, z1, z2⟩ := pl_ok q2 hn8 hk
    obtain ⟨A', N', T', h1', h2', b1, b2, b3⟩ := bec_ok q0 q1 z0 z1 hst
    rw [z2] at b2
    have hf : fX6_number sF (Mc.1 15) (nI q) (Mc.2.2 44) (nI k) = some (nI (q - fstF (szF q)), A', nI (fstF (szF q) + k), h1') := by
      unfold fX6_number
      simp (disch := omega) only [Option.bind_some, Sum.elim_inl, Sum.elim_inr, q_le, q_nle, q_lt, q_nlt, q_eq, q_ne, q_m1, q_m5, rd_n, wr_n, ixo_n, dvo_n, rmo_n, nI_add, pk_sub, pk_mul, if_true, if_false, c_size q1, c_howMany q2 hn8, c_numberOf q0 q1, c_firstOf q2 hn8, b1]
    have hm : fX7_number (Mr.1 3) (Mr.1 4) (Mr.1 10) (nI (szF q)) (nI (dcF q)) (Mr.2.2 42) (Mr.2.2 48) (Mr.2.2 49) (nI k) = some (nI (q - fstF (szF q)), N', T', all2, nI (szF q), nI (dcF (fstF (szF q) + k)), h2', many2, nI (szF q)) := by
      have hi : fX7_in (nI k).toInt64 (0 : Int64) ((many' - nI 1).toInt64) = some (nI 1) := by
        rw [hmy]
        exact in_in (hi_n (by omega)) hk (by omega)
      unfold fX7_number
      simp (disch := omega) only [Option.bind_some, Sum.elim_inl, Sum.elim_inr, q_le, q_nle, q_lt, q_nlt, q_eq, q_ne, q_m1, q_m5, rd_n, wr_n, ixo_n, dvo_n, rmo_n, nI_add, pk_sub, pk_mul, if_true, if_false, e1, hi, w1, w2.2 k hk, b2]
    exact ⟨_, _, hf, hm, rfl, rel_mk ⟨hc, hs⟩ (tr_of z0 z1 z2 rfl) hsh b3 hli hta him (tb_of q0 q1 w2) hwy hms⟩
  · have hf : fX6_number sF (Mc.1 15) (nI q) (Mc.2.2 44) u1 = some ((-1 : Int32), Mc.1 15, nI q, Mc.2.2 44) := by
      unfold fX6_number
      rw [c_size q1, Option.bind_some, c_howMany q2 hn8, Option.bind_some]
      rcases ho with h | ⟨k, h1, h2, rfl⟩
      · rw [if_pos h]
      · simp (disch := omega) only [Option.bind_some, Sum.elim_inl, Sum.elim_inr, q_le, q_nle, q_lt, q_nlt, q_eq, q_ne, q_m1, q_m5, rd_n, wr_n, ixo_n, dvo_n, rmo_n, nI_add, pk_sub, pk_mul, if_true, if_false]
    have hm : fX7_number (Mr.1 3) (Mr.1 4) (Mr.1 10) (nI (szF q)) (nI (dcF q)) (Mr.2.2 42) (Mr.2.2 48) (Mr.2.2 49) u1 = some ((-1 : Int32), Mr.1 3, Mr.1 4, all', nI (szF q), nI (dcF q), Mr.2.2 42, many', nI (szF q)) := by
      have hi : fX7_in u1.toInt64 (0 : Int64) ((many' - nI 1).toInt64) = some (nI 0) := by
        rw [hmy]
        exact in_out (hi_n (by omega)) ho
      unfold fX7_number
      simp (disch := omega) only [Option.bind_some, Sum.elim_inl, Sum.elim_inr, q_le, q_nle, q_lt, q_nlt, q_eq, q_ne, q_m1, q_m5, rd_n, wr_n, ixo_n, dvo_n, rmo_n, nI_add, pk_sub, pk_mul, if_true, if_false, e1, hi]
    exact ⟨_, _, hf, hm, rfl, rel_mk ⟨hc, hs⟩ (tr_ok q0 q1) hsh hst hli hta him (tb_of q0 q1 e2) hwy hms⟩
theorem al_which : Al_which Rel := by
  intro Mc Mr h
  obtain ⟨⟨hc, hs⟩, htr, hsh, hst, hli, hta, him, htb, hwy, hms⟩ := h
  obtain ⟨q, q0, q1, eqq, en, et⟩ := id htr
  have q2 := (sz_pos q1 q0).1
  have q3 := sz_le q1
  rw [hs, eqq, en, et]
  obtain ⟨all', many', w1, w2⟩ := m_which q0 q1 htb
  have hf : fX6_which sF (nI q) = some (nI (q - fstF (szF q))) := by
    unfold fX6_which
    rw [c_numberOf q0 q1]
    rfl
  exact ⟨_, _, hf, w1, rfl, rel_mk ⟨hc, hs⟩ htr hsh hst hli hta him (tb_of q0 q1 w2) hwy hms⟩
theorem in17 {x : Int32} {m : Nat} {hi : Int64} (hh : hi.toInt = (m : Int)) (h : x < nI 1 ∨ nI m < x) (hm : m < 2147483648) : fX7_in x.toInt64 (1 : Int64) hi = some (nI 0) := by
  refine in_x (a := 1) rfl hh ?_
  rcases h with h | h
  · have := Int32.lt_iff_toInt_lt.mp h
    rw [nI_toInt (by omega)] at this
    omega
  · have := Int32.lt_iff_toInt_lt.mp h
    rw [nI_toInt (by omega)] at this
    omega
theorem al_many : Al_many Rel := by
  intro Mc Mr u1 h
  obtain ⟨⟨hc, hs⟩, htr, hsh, hst, hli, hta, him, htb, hwy, hms⟩ := h
  obtain ⟨q, q0, q1, eqq, en, et⟩ := id htr
  have q2 := (sz_pos q1 q0).1
  have q3 := sz_le q1
  rcases size_cases u1 with ⟨n, n0, n7, rfl⟩ | hn
  · obtain ⟨all', many', e1, e2⟩ := m_table n0 n7 htb
    have hf : fX6_many (nI n) = some (nI (cntF n)) := by
      unfold fX6_many
      simp (disch := omega) only [Option.bind_some, Sum.elim_inl, Sum.elim_inr, q_le, q_nle, q_lt, q_nlt, q_eq, q_ne, q_m1, q_m5, rd_n, wr_n, ixo_n, dvo_n, rmo_n, nI_add, pk_sub, pk_mul, if_true, if_false, c_isSize n0 n7, c_howMany n0 n7]
    have hm : fX7_many (Mr.1 10) (Mr.2.2 48) (Mr.2.2 49) (nI n) = some (nI (cntF n), all', many', nI n) := by
      unfold fX7_many
      rw [in_y (a := 1) (b := 7) (by omega) rfl (by omega) rfl (by omega)]
      simp (disch := omega) only [Option.bind_some, Sum.elim_inl, Sum.elim_inr, q_le, q_nle, q_lt, q_nlt, q_eq, q_ne, q_m1, q_m5, rd_n, wr_n, ixo_n, dvo_n, rmo_n, nI_add, pk_sub, pk_mul, if_true, if_false, e1]
      rw [e2.1]
    exact ⟨_, _, hf, hm, rfl, rel_mk ⟨hc, hs⟩ htr hsh hst hli hta him (tb_ok n0 n7 e2) hwy hms⟩
  · have hf : fX6_many u1 = some (-2 : Int32) := by
      unfold fX6_many
      rw [c_isSize_no hn]
      rfl
    have hm : fX7_many (Mr.1 10) (Mr.2.2 48) (Mr.2.2 49) u1 = some ((-2 : Int32), Mr.1 10, Mr.2.2 48, Mr.2.2 49) := by
      unfold fX7_many
      rw [in17 (m := 7) rfl hn (by omega)]
      rfl
    exact ⟨_, _, hf, hm, rfl, rel_mk ⟨hc, hs⟩ htr hsh hst hli hta him htb hwy hms⟩
theorem al_digits : Al_digits Rel := by
  intro Mc Mr h
  have h' := h
  obtain ⟨⟨hc, hs⟩, htr, hsh, hst, hli, hta, him, htb, hwy, hms⟩ := h
  obtain ⟨q, q0, q1, eqq, en, et⟩ := id htr
  have q2 := (sz_pos q1 q0).1
  have q3 := sz_le q1
  rw [hc, hs, eqq, et]
  have hf : fX6_digits cF sF (nI q) = some (nI (dcF q)) := by
    unfold fX6_digits
    rw [c_asDigits q1 q0]
    rfl
  exact ⟨_, _, hf, rfl, rfl, h'⟩
theorem al_turn : Al_turn Rel := by
  intro Mc Mr u1 h
  obtain ⟨⟨hc, hs⟩, htr, hsh, hst, hli, hta, him, htb, hwy, hms⟩ := h
  obtain ⟨q, q0, q1, eqq, en, et⟩ := id htr
  have q2 := (sz_pos q1 q0).1
  have q3 := sz_le q1
  rw [hc, hs, eqq, en, et]
  rcases rng_c u1 (szF q) with ⟨c, hcn, rfl⟩ | ho
  · obtain ⟨n1, n2⟩ := nd_y q1 hcn
    obtain ⟨P', L', R', S', A', e⟩ := m_up q0 q1 hcn (Mr.1 11) (Mr.1 12) (Mr.1 13) (Mr.1 14) (Mr.1 15) (Mr.2.2 50)
    by_cases hz : upF q c = 0
    · rw [hz, gt_0] at e
      have hf : fX6_turn cF sF (Mc.1 15) (nI q) (Mc.2.2 44) (nI c) = some ((-5 : Int32), Mc.1 15, nI q, Mc.2.2 44) := by
        unfold fX6_turn
        simp (disch := omega) only [Option.bind_some, Sum.elim_inl, Sum.elim_inr, q_le, q_nle, q_lt, q_nlt, q_eq, q_ne, q_m1, q_m5, rd_n, wr_n, ixo_n, dvo_n, rmo_n, nI_add, pk_sub, pk_mul, if_true, if_false, n1, c_turnedUp q1 (show c < 7 by omega) hcn, hz]
      have hm : fX7_turn (Mr.1 3) (Mr.1 4) (Mr.1 10) (Mr.1 11) (Mr.1 12) (Mr.1 13) (Mr.1 14) (Mr.1 15) (nI (szF q)) (nI (dcF q)) (Mr.2.2 42) (Mr.2.2 48) (Mr.2.2 49) (Mr.2.2 50) (nI c) = some ((-5 : Int32), Mr.1 3, Mr.1 4, Mr.1 10, P', L', R', S', A', nI (szF q), nI (dcF q), Mr.2.2 42, Mr.2.2 48, Mr.2.2 49, nI (roF q)) := by
        unfold fX7_turn
        simp (disch := omega) only [Option.bind_some, Sum.elim_inl, Sum.elim_inr, q_le, q_nle, q_lt, q_nlt, q_eq, q_ne, q_m1, q_m5, rd_n, wr_n, ixo_n, dvo_n, rmo_n, nI_add, pk_sub, pk_mul, if_true, if_false, n2, e]
      exact ⟨_, _, hf, hm, rfl, rel_mk ⟨hc, hs⟩ (tr_ok q0 q1) hsh hst hli hta him htb hwy hms⟩
    · obtain ⟨u1', u2', u3', _⟩ := up_ok q0 q1 hcn hz
      rw [gt_n hz] at e
      have hd := dc_big u2'
      obtain ⟨A2, N', T', h1', h2', all', many', t1, t2, t3, t4, t5⟩ := tell_ok q0 q1 rfl (show 0 < upF q c by omega) u2' u3' hst htb
      have hf : fX6_turn cF sF (Mc.1 15) (nI q) (Mc.2.2 44) (nI c) = some (nI (upF q c - fstF (szF q)), A2, nI (upF q c), h1') := by
        unfold fX6_turn
        simp (disch := omega) only [Option.bind_some, Sum.elim_inl, Sum.elim_inr, q_le, q_nle, q_lt, q_nlt, q_eq, q_ne, q_m1, q_m5, rd_n, wr_n, ixo_n, dvo_n, rmo_n, nI_add, pk_sub, pk_mul, if_true, if_false, n1, c_turnedUp q1 (show c < 7 by omega) hcn, t1]
      have hm : fX7_turn (Mr.1 3) (Mr.1 4) (Mr.1 10) (Mr.1 11) (Mr.1 12) (Mr.1 13) (Mr.1 14) (Mr.1 15) (nI (szF q)) (nI (dcF q)) (Mr.2.2 42) (Mr.2.2 48) (Mr.2.2 49) (Mr.2.2 50) (nI c) = some (nI (upF q c - fstF (szF q)), N', T', all', P', L', R', S', A', nI (szF q), nI (dcF (upF q c)), h2', many', nI (szF q), nI (roF q)) := by
        unfold fX7_turn
        simp (disch := omega) only [Option.bind_some, Sum.elim_inl, Sum.elim_inr, q_le, q_nle, q_lt, q_nlt, q_eq, q_ne, q_m1, q_m5, rd_n, wr_n, ixo_n, dvo_n, rmo_n, nI_add, pk_sub, pk_mul, if_true, if_false, n2, e, t2, t3]
      exact ⟨_, _, hf, hm, rfl, rel_mk ⟨hc, hs⟩ (tr_of (by omega) u2' u3' rfl) hsh t4 hli hta him t5 hwy hms⟩
  · obtain ⟨n1, n2⟩ := nd_n q1 ho
    have hf : fX6_turn cF sF (Mc.1 15) (nI q) (Mc.2.2 44) u1 = some ((-1 : Int32), Mc.1 15, nI q, Mc.2.2 44) := by
      unfold fX6_turn
      simp (disch := omega) only [Option.bind_some, Sum.elim_inl, Sum.elim_inr, q_le, q_nle, q_lt, q_nlt, q_eq, q_ne, q_m1, q_m5, rd_n, wr_n, ixo_n, dvo_n, rmo_n, nI_add, pk_sub, pk_mul, if_true, if_false, n1]
    have hm : fX7_turn (Mr.1 3) (Mr.1 4) (Mr.1 10) (Mr.1 11) (Mr.1 12) (Mr.1 13) (Mr.1 14) (Mr.1 15) (nI (szF q)) (nI (dcF q)) (Mr.2.2 42) (Mr.2.2 48) (Mr.2.2 49) (Mr.2.2 50) u1 = some ((-1 : Int32), Mr.1 3, Mr.1 4, Mr.1 10, Mr.1 11, Mr.1 12, Mr.1 13, Mr.1 14, Mr.1 15, nI (szF q), nI (dcF q), Mr.2.2 42, Mr.2.2 48, Mr.2.2 49, Mr.2.2 50) := by
      unfold fX7_turn
      simp (disch := omega) only [Option.bind_some, Sum.elim_inl, Sum.elim_inr, q_le, q_nle, q_lt, q_nlt, q_eq, q_ne, q_m1, q_m5, rd_n, wr_n, ixo_n, dvo_n, rmo_n, nI_add, pk_sub, pk_mul, if_true, if_false, n2]
    exact ⟨_, _, hf, hm, rfl, rel_mk ⟨hc, hs⟩ (tr_ok q0 q1) hsh hst hli hta him htb hwy hms⟩
theorem al_back : Al_back Rel := by
  intro Mc Mr u1 h
  obtain ⟨⟨hc, hs⟩, htr, hsh, hst, hli, hta, him, htb, hwy, hms⟩ := h
  obtain ⟨q, q0, q1, eqq, en, et⟩ := id htr
  have q2 := (sz_pos q1 q0).1
  have q3 := sz_le q1
  rw [hc, hs, eqq, en, et]
  rcases rng_c u1 (szF q) with ⟨c, hcn, rfl⟩ | ho
  · obtain ⟨n1, n2⟩ := nd_y q1 hcn
    obtain ⟨P', L', R', S', A', e⟩ := m_down q0 q1 hcn (Mr.1 11) (Mr.1 12) (Mr.1 13) (Mr.1 14) (Mr.1 15) (Mr.2.2 50)
    by_cases hz : bkF q c = 0
    · rw [hz, gt_0] at e
      have hf : fX6_back cF sF (Mc.1 15) (nI q) (Mc.2.2 44) (nI c) = some ((-5 : Int32), Mc.1 15, nI q, Mc.2.2 44) := by
        unfold fX6_back
        simp (disch := omega) only [Option.bind_some, Sum.elim_inl, Sum.elim_inr, q_le, q_nle, q_lt, q_nlt, q_eq, q_ne, q_m1, q_m5, rd_n, wr_n, ixo_n, dvo_n, rmo_n, nI_add, pk_sub, pk_mul, if_true, if_false, n1, c_turnedBack q1 (show c < 7 by omega) hcn, hz]
      have hm : fX7_back (Mr.1 3) (Mr.1 4) (Mr.1 10) (Mr.1 11) (Mr.1 12) (Mr.1 13) (Mr.1 14) (Mr.1 15) (nI (szF q)) (nI (dcF q)) (Mr.2.2 42) (Mr.2.2 48) (Mr.2.2 49) (Mr.2.2 50) (nI c) = some ((-5 : Int32), Mr.1 3, Mr.1 4, Mr.1 10, P', L', R', S', A', nI (szF q), nI (dcF q), Mr.2.2 42, Mr.2.2 48, Mr.2.2 49, nI (roF q)) := by
        unfold fX7_back
        simp (disch := omega) only [Option.bind_some, Sum.elim_inl, Sum.elim_inr, q_le, q_nle, q_lt, q_nlt, q_eq, q_ne, q_m1, q_m5, rd_n, wr_n, ixo_n, dvo_n, rmo_n, nI_add, pk_sub, pk_mul, if_true, if_false, n2, e]
      exact ⟨_, _, hf, hm, rfl, rel_mk ⟨hc, hs⟩ (tr_ok q0 q1) hsh hst hli hta him htb hwy hms⟩
    · obtain ⟨u1', u3', _⟩ := bk_ok q0 q1 hcn hz
      have u2' : bkF q c < 626 := by omega
      rw [gt_n hz] at e
      have hd := dc_big u2'
      obtain ⟨A2, N', T', h1', h2', all', many', t1, t2, t3, t4, t5⟩ := tell_ok q0 q1 rfl (show 0 < bkF q c by omega) u2' u3' hst htb
      have hf : fX6_back cF sF (Mc.1 15) (nI q) (Mc.2.2 44) (nI c) = some (nI (bkF q c - fstF (szF q)), A2, nI (bkF q c), h1') := by
        unfold fX6_back
        simp (disch := omega) only [Option.bind_some, Sum.elim_inl, Sum.elim_inr, q_le, q_nle, q_lt, q_nlt, q_eq, q_ne, q_m1, q_m5, rd_n, wr_n, ixo_n, dvo_n, rmo_n, nI_add, pk_sub, pk_mul, if_true, if_false, n1, c_turnedBack q1 (show c < 7 by omega) hcn, t1]
      have hm : fX7_back (Mr.1 3) (Mr.1 4) (Mr.1 10) (Mr.1 11) (Mr.1 12) (Mr.1 13) (Mr.1 14) (Mr.1 15) (nI (szF q)) (nI (dcF q)) (Mr.2.2 42) (Mr.2.2 48) (Mr.2.2 49) (Mr.2.2 50) (nI c) = some (nI (bkF q c - fstF (szF q)), N', T', all', P', L', R', S', A', nI (szF q), nI (dcF (bkF q c)), h2', many', nI (szF q), nI (roF q)) := by
        unfold fX7_back
        simp (disch := omega) only [Option.bind_some, Sum.elim_inl, Sum.elim_inr, q_le, q_nle, q_lt, q_nlt, q_eq, q_ne, q_m1, q_m5, rd_n, wr_n, ixo_n, dvo_n, rmo_n, nI_add, pk_sub, pk_mul, if_true, if_false, n2, e, t2, t3]
      exact ⟨_, _, hf, hm, rfl, rel_mk ⟨hc, hs⟩ (tr_of (by omega) u2' u3' rfl) hsh t4 hli hta him t5 hwy hms⟩
  · obtain ⟨n1, n2⟩ := nd_n q1 ho
    have hf : fX6_back cF sF (Mc.1 15) (nI q) (Mc.2.2 44) u1 = some ((-1 : Int32), Mc.1 15, nI q, Mc.2.2 44) := by
      unfold fX6_back
      simp (disch := omega) only [Option.bind_some, Sum.elim_inl, Sum.elim_inr, q_le, q_nle, q_lt, q_nlt, q_eq, q_ne, q_m1, q_m5, rd_n, wr_n, ixo_n, dvo_n, rmo_n, nI_add, pk_sub, pk_mul, if_true, if_false, n1]
    have hm : fX7_back (Mr.1 3) (Mr.1 4) (Mr.1 10) (Mr.1 11) (Mr.1 12) (Mr.1 13) (Mr.1 14) (Mr.1 15) (nI (szF q)) (nI (dcF q)) (Mr.2.2 42) (Mr.2.2 48) (Mr.2.2 49) (Mr.2.2 50) u1 = some ((-1 : Int32), Mr.1 3, Mr.1 4, Mr.1 10, Mr.1 11, Mr.1 12, Mr.1 13, Mr.1 14, Mr.1 15, nI (szF q), nI (dcF q), Mr.2.2 42, Mr.2.2 48, Mr.2.2 49, Mr.2.2 50) := by
      unfold fX7_back
      simp (disch := omega) only [Option.bind_some, Sum.elim_inl, Sum.elim_inr, q_le, q_nle, q_lt, q_nlt, q_eq, q_ne, q_m1, q_m5, rd_n, wr_n, ixo_n, dvo_n, rmo_n, nI_add, pk_sub, pk_mul, if_true, if_false, n2]
    exact ⟨_, _, hf, hm, rfl, rel_mk ⟨hc, hs⟩ (tr_ok q0 q1) hsh hst hli hta him htb hwy hms⟩
theorem bc_ex (x : Int32) : ∃ w, fJ0_bitCount x = some w := ⟨_, rfl⟩
theorem k4 {k : Nat} (h : k < 4) : k = 0 ∨ k = 1 ∨ k = 2 ∨ k = 3 := by omega
theorem al_mayTurn : Al_mayTurn Rel := by
  intro Mc Mr u1 h
  obtain ⟨⟨hc, hs⟩, htr, hsh, hst, hli, hta, him, htb, hwy, hms⟩ := h
  obtain ⟨q, q0, q1, eqq, en, et⟩ := id htr
  have q2 := (sz_pos q1 q0).1
  have q3 := sz_le q1
  rw [hc, hs, eqq, en, et]
  rcases rng_c u1 4 with ⟨k, hk, rfl⟩ | ho
  · have hi : fX7_in (nI k).toInt64 (0 : Int64) (3 : Int64) = some (nI 1) := in_in (m := 4) rfl hk (by omega)
    obtain ⟨m1, m2⟩ := may_at q0 q1
    obtain ⟨w1, b1⟩ := bc_ex (nI (lfF q))
    obtain ⟨w2, b2⟩ := bc_ex (nI (caF q))
    rcases k4 hk with rfl | rfl | rfl | rfl
    · obtain ⟨P', L', R', S', A', rdv', e⟩ := m_may (b := false) (v1 := nI 0) q0 q1 (by decide) (Mr.1 11) (Mr.1 12) (Mr.1 13) (Mr.1 14) (Mr.1 15) (Mr.2.2 50)
      rw [show dirW false q = upF q from rfl, m1] at e
      have hf : fX6_mayTurn cF sF (nI q) (nI 0) = some w1 := by
        unfold fX6_mayTurn
        simp (disch := omega) only [Option.bind_some, Sum.elim_inl, Sum.elim_inr, q_le, q_nle, q_lt, q_nlt, q_eq, q_ne, q_m1, q_m5, rd_n, wr_n, ixo_n, dvo_n, rmo_n, nI_add, pk_sub, pk_mul, if_true, if_false, c_leftChildren q1 q0, b1]
      have hm : fX7_mayTurn (Mr.1 11) (Mr.1 12) (Mr.1 13) (Mr.1 14) (Mr.1 15) (nI (szF q)) (nI (dcF q)) (Mr.2.2 50) (nI 0) = some (w1, P', L', R', S', A', rdv') := by
        unfold fX7_mayTurn
        simp (disch := omega) only [Option.bind_some, Sum.elim_inl, Sum.elim_inr, q_le, q_nle, q_lt, q_nlt, q_eq, q_ne, q_m1, q_m5, rd_n, wr_n, ixo_n, dvo_n, rmo_n, nI_add, pk_sub, pk_mul, if_true, if_false, hi, e, b1]
      exact ⟨_, _, hf, hm, rfl, rel_mk ⟨hc, hs⟩ htr hsh hst hli hta him htb hwy hms⟩
    · obtain ⟨P', L', R', S', A', rdv', e⟩ := m_may (b := true) (v1 := nI 1) q0 q1 (by decide) (Mr.1 11) (Mr.1 12) (Mr.1 13) (Mr.1 14) (Mr.1 15) (Mr.2.2 50)
      rw [show dirW true q = bkF q from rfl, m2] at e
      have hf : fX6_mayTurn cF sF (nI q) (nI 1) = some w2 := by
        unfold fX6_mayTurn
        simp (disch := omega) only [Option.bind_some, Sum.elim_inl, Sum.elim_inr, q_le, q_nle, q_lt, q_nlt, q_eq, q_ne, q_m1, q_m5, rd_n, wr_n, ixo_n, dvo_n, rmo_n, nI_add, pk_sub, pk_mul, if_true, if_false, c_withRightChild q1 q0, b2]
      have hm : fX7_mayTurn (Mr.1 11) (Mr.1 12) (Mr.1 13) (Mr.1 14) (Mr.1 15) (nI (szF q)) (nI (dcF q)) (Mr.2.2 50) (nI 1) = some (w2, P', L', R', S', A', rdv') := by
        unfold fX7_mayTurn
        simp (disch := omega) only [Option.bind_some, Sum.elim_inl, Sum.elim_inr, q_le, q_nle, q_lt, q_nlt, q_eq, q_ne, q_m1, q_m5, rd_n, wr_n, ixo_n, dvo_n, rmo_n, nI_add, pk_sub, pk_mul, if_true, if_false, hi, e, b2]
      exact ⟨_, _, hf, hm, rfl, rel_mk ⟨hc, hs⟩ htr hsh hst hli hta him htb hwy hms⟩
    · obtain ⟨P', L', R', S', A', rdv', e⟩ := m_may (b := false) (v1 := nI 2) q0 q1 (by decide) (Mr.1 11) (Mr.1 12) (Mr.1 13) (Mr.1 14) (Mr.1 15) (Mr.2.2 50)
      rw [show dirW false q = upF q from rfl, m1] at e
      have hf : fX6_mayTurn cF sF (nI q) (nI 2) = some (nI (lfF q)) := by
        unfold fX6_mayTurn
        simp (disch := omega) only [Option.bind_some, Sum.elim_inl, Sum.elim_inr, q_le, q_nle, q_lt, q_nlt, q_eq, q_ne, q_m1, q_m5, rd_n, wr_n, ixo_n, dvo_n, rmo_n, nI_add, pk_sub, pk_mul, if_true, if_false, c_leftChildren q1 q0]
      have hm : fX7_mayTurn (Mr.1 11) (Mr.1 12) (Mr.1 13) (Mr.1 14) (Mr.1 15) (nI (szF q)) (nI (dcF q)) (Mr.2.2 50) (nI 2) = some (nI (lfF q), P', L', R', S', A', rdv') := by
        unfold fX7_mayTurn
        simp (disch := omega) only [Option.bind_some, Sum.elim_inl, Sum.elim_inr, q_le, q_nle, q_lt, q_nlt, q_eq, q_ne, q_m1, q_m5, rd_n, wr_n, ixo_n, dvo_n, rmo_n, nI_add, pk_sub, pk_mul, if_true, if_false, hi, e]
      exact ⟨_, _, hf, hm, rfl, rel_mk ⟨hc, hs⟩ htr hsh hst hli hta him htb hwy hms⟩
    · obtain ⟨P', L', R', S', A', rdv', e⟩ := m_may (b := true) (v1 := nI 3) q0 q1 (by decide) (Mr.1 11) (Mr.1 12) (Mr.1 13) (Mr.1 14) (Mr.1 15) (Mr.2.2 50)
      rw [show dirW true q = bkF q from rfl, m2] at e
      have hf : fX6_mayTurn cF sF (nI q) (nI 3) = some (nI (caF q)) := by
        unfold fX6_mayTurn
        simp (disch := omega) only [Option.bind_some, Sum.elim_inl, Sum.elim_inr, q_le, q_nle, q_lt, q_nlt, q_eq, q_ne, q_m1, q_m5, rd_n, wr_n, ixo_n, dvo_n, rmo_n, nI_add, pk_sub, pk_mul, if_true, if_false, c_withRightChild q1 q0]
      have hm : fX7_mayTurn (Mr.1 11) (Mr.1 12) (Mr.1 13) (Mr.1 14) (Mr.1 15) (nI (szF q)) (nI (dcF q)) (Mr.2.2 50) (nI 3) = some (nI (caF q), P', L', R', S', A', rdv') := by
        unfold fX7_mayTurn
        simp (disch := omega) only [Option.bind_some, Sum.elim_inl, Sum.elim_inr, q_le, q_nle, q_lt, q_nlt, q_eq, q_ne, q_m1, q_m5, rd_n, wr_n, ixo_n, dvo_n, rmo_n, nI_add, pk_sub, pk_mul, if_true, if_false, hi, e]
      exact ⟨_, _, hf, hm, rfl, rel_mk ⟨hc, hs⟩ htr hsh hst hli hta him htb hwy hms⟩
  · have hf : fX6_mayTurn cF sF (nI q) u1 = some (-1 : Int32) := by
      unfold fX6_mayTurn
      rw [if_neg (out_ne ho (by omega) (by omega)), if_neg (out_ne ho (by omega) (by omega)), if_neg (out_ne ho (by omega) (by omega)), if_neg (out_ne ho (by omega) (by omega))]
    have hm : fX7_mayTurn (Mr.1 11) (Mr.1 12) (Mr.1 13) (Mr.1 14) (Mr.1 15) (nI (szF q)) (nI (dcF q)) (Mr.2.2 50) u1 = some ((-1 : Int32), Mr.1 11, Mr.1 12, Mr.1 13, Mr.1 14, Mr.1 15, Mr.2.2 50) := by
      unfold fX7_mayTurn
      rw [in_out (m := 4) rfl ho]
      rfl
    exact ⟨_, _, hf, hm, rfl, rel_mk ⟨hc, hs⟩ htr hsh hst hli hta him htb hwy hms⟩
theorem al_mirror : Al_mirror Rel := by
  intro Mc Mr h
  obtain ⟨⟨hc, hs⟩, htr, hsh, hst, hli, hta, him, htb, hwy, hms⟩ := h
  obtain ⟨q, q0, q1, eqq, en, et⟩ := id htr
  have q2 := (sz_pos q1 q0).1
  have q3 := sz_le q1
  rw [hc, hs, eqq, en, et]
  obtain ⟨_, z0, z1, z2⟩ := mir_at q0 q1
  obtain ⟨P', L', R', S', A', rdv', e⟩ := m_mirrored q0 q1 (Mr.1 11) (Mr.1 12) (Mr.1 13) (Mr.1 14) (Mr.1 15) (Mr.2.2 50)
  obtain ⟨A2, N', T', h1', h2', all', many', t1, t2, t3, t4, t5⟩ := tell_ok q0 q1 rfl z0 z1 z2 hst htb
  have hf : fX6_mirror cF sF (Mc.1 15) (nI q) (Mc.2.2 44) = some (nI (miF q - fstF (szF q)), A2, nI (miF q), h1') := by
    unfold fX6_mirror
    simp (disch := omega) only [Option.bind_some, Sum.elim_inl, Sum.elim_inr, q_le, q_nle, q_lt, q_nlt, q_eq, q_ne, q_m1, q_m5, rd_n, wr_n, ixo_n, dvo_n, rmo_n, nI_add, pk_sub, pk_mul, if_true, if_false, c_mirrored q1 q0, t1]
  have hm : fX7_mirror (Mr.1 3) (Mr.1 4) (Mr.1 10) (Mr.1 11) (Mr.1 12) (Mr.1 13) (Mr.1 14) (Mr.1 15) (nI (szF q)) (nI (dcF q)) (Mr.2.2 42) (Mr.2.2 48) (Mr.2.2 49) (Mr.2.2 50) = some (nI (miF q - fstF (szF q)), N', T', all', P', L', R', S', A', nI (szF q), nI (dcF (miF q)), h2', many', nI (szF q), rdv') := by
    unfold fX7_mirror
    simp (disch := omega) only [Option.bind_some, Sum.elim_inl, Sum.elim_inr, q_le, q_nle, q_lt, q_nlt, q_eq, q_ne, q_m1, q_m5, rd_n, wr_n, ixo_n, dvo_n, rmo_n, nI_add, pk_sub, pk_mul, if_true, if_false, e, t2, t3]
  exact ⟨_, _, hf, hm, rfl, rel_mk ⟨hc, hs⟩ (tr_of z0 z1 z2 rfl) hsh t4 hli hta him t5 hwy hms⟩
theorem al_off : Al_off Rel := by
  intro Mc Mr h
  obtain ⟨⟨hc, hs⟩, htr, hsh, hst, hli, hta, him, htb, hwy, hms⟩ := h
  obtain ⟨q, q0, q1, eqq, en, et⟩ := id htr
  have q2 := (sz_pos q1 q0).1
  have q3 := sz_le q1
  rw [eqq, en, et]
  obtain ⟨hh, h10, e1, e2, hst'⟩ := id hst
  rw [e1, e2]
  by_cases h0 : hh = 0
  · have hf : fX6_off (Mc.1 15) (nI q) (nI hh) = some ((-3 : Int32), nI q, nI hh) := by
      unfold fX6_off fX3_takeLatest
      simp (disch := omega) only [Option.bind_some, Sum.elim_inl, Sum.elim_inr, q_le, q_nle, q_lt, q_nlt, q_eq, q_ne, q_m1, q_m5, rd_n, wr_n, ixo_n, dvo_n, rmo_n, nI_add, pk_sub, pk_mul, if_true, if_false]
    have hm : fX7_off (Mr.1 3) (Mr.1 4) (nI (szF q)) (nI (dcF q)) (nI hh) = some ((-3 : Int32), nI (szF q), nI (dcF q), nI hh) := by
      unfold fX7_off
      simp (disch := omega) only [Option.bind_some, Sum.elim_inl, Sum.elim_inr, q_le, q_nle, q_lt, q_nlt, q_eq, q_ne, q_m1, q_m5, rd_n, wr_n, ixo_n, dvo_n, rmo_n, nI_add, pk_sub, pk_mul, if_true, if_false]
    exact ⟨_, _, hf, hm, rfl, rel_mk ⟨hc, hs⟩ (tr_ok q0 q1) hsh ⟨hh, h10, rfl, rfl, hst'⟩ hli hta him htb hwy hms⟩
  · obtain ⟨z, z0, z1, z2, z3, z4⟩ := hst' (hh - 1) (by omega)
    have hf : fX6_off (Mc.1 15) (nI q) (nI hh) = some (nI (hh - 1), nI z, nI (hh - 1)) := by
      unfold fX6_off fX3_takeLatest fX3_held
      simp (disch := omega) only [Option.bind_some, Sum.elim_inl, Sum.elim_inr, q_le, q_nle, q_lt, q_nlt, q_eq, q_ne, q_m1, q_m5, rd_n, wr_n, ixo_n, dvo_n, rmo_n, nI_add, pk_sub, pk_mul, if_true, if_false, z2]
    have hm : fX7_off (Mr.1 3) (Mr.1 4) (nI (szF q)) (nI (dcF q)) (nI hh) = some (nI (hh - 1), nI (szF z), nI (dcF z), nI (hh - 1)) := by
      unfold fX7_off
      simp (disch := omega) only [Option.bind_some, Sum.elim_inl, Sum.elim_inr, q_le, q_nle, q_lt, q_nlt, q_eq, q_ne, q_m1, q_m5, rd_n, wr_n, ixo_n, dvo_n, rmo_n, nI_add, pk_sub, pk_mul, if_true, if_false, z3, z4]
    exact ⟨_, _, hf, hm, rfl, rel_mk ⟨hc, hs⟩ (tr_ok z0 z1) hsh ⟨hh - 1, by omega, rfl, rfl, fun i hi => hst' i (by omega)⟩ hli hta him htb hwy hms⟩
