/-! alike: shelves kept, laid, lost; trees set over and under; lists -/
theorem shr_upd {C N T : Nat → Int32} {s q : Nat} (H : ShR C N T) (q0 : 0 < q) (q1 : q < 626) : ShR (upd C s (nI q)) (upd N s (nI (szF q))) (upd T s (nI (dcF q))) := by
  intro i hi
  by_cases e : i = s
  · rw [e, upd_s, upd_s, upd_s]
    exact Or.inr (tr_ok q0 q1)
  · rw [upd_n e, upd_n e, upd_n e]
    exact H i hi
theorem shr_los {C N T : Nat → Int32} {s : Nat} (H : ShR C N T) : ShR (upd C s (nI 0)) (upd N s (nI 0)) T := by
  intro i hi
  by_cases e : i = s
  · rw [e, upd_s, upd_s]
    exact Or.inl ⟨rfl, rfl⟩
  · rw [upd_n e, upd_n e]
    exact H i hi
theorem al_keep : Al_keep Rel := by
  intro Mc Mr u1 h
  obtain ⟨⟨hc, hs⟩, htr, hsh, hst, hli, hta, him, htb, hwy, hms⟩ := h
  obtain ⟨q, q0, q1, eqq, en, et⟩ := id htr
  have q2 := (sz_pos q1 q0).1
  have q3 := sz_le q1
  rw [hs, eqq, en, et]
  rcases shelf_c hsh u1 with ⟨s1, s2, _⟩ | ⟨s, h4, rfl, s1, s2, _⟩
  · have hf : fX6_keep sF (Mc.1 27) (nI q) u1 = some ((-1 : Int32), Mc.1 27) := by
      unfold fX6_keep
      simp (disch := omega) only [Option.bind_some, Sum.elim_inl, Sum.elim_inr, q_le, q_nle, q_lt, q_nlt, q_eq, q_ne, q_m1, q_m5, rd_n, wr_n, ixo_n, dvo_n, rmo_n, nI_add, pk_sub, pk_mul, if_true, if_false, s1]
    have hm : fX7_keep (Mr.1 1) (Mr.1 2) (Mr.1 10) (nI (szF q)) (nI (dcF q)) (Mr.2.2 48) (Mr.2.2 49) u1 = some ((-1 : Int32), Mr.1 1, Mr.1 2, Mr.1 10, Mr.2.2 48, Mr.2.2 49) := by
      unfold fX7_keep
      simp (disch := omega) only [Option.bind_some, Sum.elim_inl, Sum.elim_inr, q_le, q_nle, q_lt, q_nlt, q_eq, q_ne, q_m1, q_m5, rd_n, wr_n, ixo_n, dvo_n, rmo_n, nI_add, pk_sub, pk_mul, if_true, if_false, s2]
    exact ⟨_, _, hf, hm, rfl, rel_mk ⟨hc, hs⟩ htr hsh hst hli hta him htb hwy hms⟩
  · obtain ⟨all', many', w1, w2⟩ := m_which q0 q1 htb
    have hf : fX6_keep sF (Mc.1 27) (nI q) (nI s) = some (nI (q - fstF (szF q)), upd (Mc.1 27) s (nI q)) := by
      unfold fX6_keep
      simp (disch := omega) only [Option.bind_some, Sum.elim_inl, Sum.elim_inr, q_le, q_nle, q_lt, q_nlt, q_eq, q_ne, q_m1, q_m5, rd_n, wr_n, ixo_n, dvo_n, rmo_n, nI_add, pk_sub, pk_mul, if_true, if_false, s1, c_numberOf q0 q1]
    have hm : fX7_keep (Mr.1 1) (Mr.1 2) (Mr.1 10) (nI (szF q)) (nI (dcF q)) (Mr.2.2 48) (Mr.2.2 49) (nI s) = some (nI (q - fstF (szF q)), upd (Mr.1 1) s (nI (szF q)), upd (Mr.1 2) s (nI (dcF q)), all', many', nI (szF q)) := by
      unfold fX7_keep
      simp (disch := omega) only [Option.bind_some, Sum.elim_inl, Sum.elim_inr, q_le, q_nle, q_lt, q_nlt, q_eq, q_ne, q_m1, q_m5, rd_n, wr_n, ixo_n, dvo_n, rmo_n, nI_add, pk_sub, pk_mul, if_true, if_false, s2, w1]
    exact ⟨_, _, hf, hm, rfl, rel_mk ⟨hc, hs⟩ htr (shr_upd hsh q0 q1) hst hli hta him (tb_of q0 q1 w2) hwy hms⟩
theorem al_lay : Al_lay Rel := by
  intro Mc Mr u1 h
  obtain ⟨⟨hc, hs⟩, htr, hsh, hst, hli, hta, him, htb, hwy, hms⟩ := h
  obtain ⟨q, q0, q1, eqq, en, et⟩ := id htr
  have q2 := (sz_pos q1 q0).1
  have q3 := sz_le q1
  rw [hs, eqq, en, et]
  rcases shelf_c hsh u1 with ⟨_, s2, s3⟩ | ⟨s, h4, rfl, _, s2, ⟨e1, e2, s3⟩ | ⟨z, z0, z1, e1, e2, e3, s3⟩⟩
  · have hf : fX6_lay sF (Mc.1 15) (Mc.1 27) (nI q) (Mc.2.2 44) u1 = some ((-1 : Int32), Mc.1 15, nI q, Mc.2.2 44) := by
      unfold fX6_lay
      simp (disch := omega) only [Option.bind_some, Sum.elim_inl, Sum.elim_inr, q_le, q_nle, q_lt, q_nlt, q_eq, q_ne, q_m1, q_m5, rd_n, wr_n, ixo_n, dvo_n, rmo_n, nI_add, pk_sub, pk_mul, if_true, if_false, s3, if_neg m1_0]
    have hm : fX7_lay (Mr.1 1) (Mr.1 2) (Mr.1 3) (Mr.1 4) (nI (szF q)) (nI (dcF q)) (Mr.2.2 42) u1 = some ((-1 : Int32), Mr.1 3, Mr.1 4, nI (szF q), nI (dcF q), Mr.2.2 42) := by
      unfold fX7_lay
      simp (disch := omega) only [Option.bind_some, Sum.elim_inl, Sum.elim_inr, q_le, q_nle, q_lt, q_nlt, q_eq, q_ne, q_m1, q_m5, rd_n, wr_n, ixo_n, dvo_n, rmo_n, nI_add, pk_sub, pk_mul, if_true, if_false, s2]
    exact ⟨_, _, hf, hm, rfl, rel_mk ⟨hc, hs⟩ (tr_ok q0 q1) hsh hst hli hta him htb hwy hms⟩
  · have hf : fX6_lay sF (Mc.1 15) (Mc.1 27) (nI q) (Mc.2.2 44) (nI s) = some ((-6 : Int32), Mc.1 15, nI q, Mc.2.2 44) := by
      unfold fX6_lay
      simp (disch := omega) only [Option.bind_some, Sum.elim_inl, Sum.elim_inr, q_le, q_nle, q_lt, q_nlt, q_eq, q_ne, q_m1, q_m5, rd_n, wr_n, ixo_n, dvo_n, rmo_n, nI_add, pk_sub, pk_mul, if_true, if_false, s3, if_neg m6_0]
    have hm : fX7_lay (Mr.1 1) (Mr.1 2) (Mr.1 3) (Mr.1 4) (nI (szF q)) (nI (dcF q)) (Mr.2.2 42) (nI s) = some ((-6 : Int32), Mr.1 3, Mr.1 4, nI (szF q), nI (dcF q), Mr.2.2 42) := by
      unfold fX7_lay
      simp (disch := omega) only [Option.bind_some, Sum.elim_inl, Sum.elim_inr, q_le, q_nle, q_lt, q_nlt, q_eq, q_ne, q_m1, q_m5, rd_n, wr_n, ixo_n, dvo_n, rmo_n, nI_add, pk_sub, pk_mul, if_true, if_false, s2, e2]
    exact ⟨_, _, hf, hm, rfl, rel_mk ⟨hc, hs⟩ (tr_ok q0 q1) hsh hst hli hta him htb hwy hms⟩
  · have z2 := (sz_pos z1 z0).1
    have z3 := sz_le z1
    obtain ⟨A', N', T', h1', h2', b1, b2, b3⟩ := bec_ok q0 q1 z0 z1 hst
    have hf : fX6_lay sF (Mc.1 15) (Mc.1 27) (nI q) (Mc.2.2 44) (nI s) = some (nI (szF z), A', nI z, h1') := by
      unfold fX6_lay
      simp (disch := omega) only [Option.bind_some, Sum.elim_inl, Sum.elim_inr, q_le, q_nle, q_lt, q_nlt, q_eq, q_ne, q_m1, q_m5, rd_n, wr_n, ixo_n, dvo_n, rmo_n, nI_add, pk_sub, pk_mul, if_true, if_false, s3, e1, b1, c_size z1]
    have hm : fX7_lay (Mr.1 1) (Mr.1 2) (Mr.1 3) (Mr.1 4) (nI (szF q)) (nI (dcF q)) (Mr.2.2 42) (nI s) = some (nI (szF z), N', T', nI (szF z), nI (dcF z), h2') := by
      unfold fX7_lay
      simp (disch := omega) only [Option.bind_some, Sum.elim_inl, Sum.elim_inr, q_le, q_nle, q_lt, q_nlt, q_eq, q_ne, q_m1, q_m5, rd_n, wr_n, ixo_n, dvo_n, rmo_n, nI_add, pk_sub, pk_mul, if_true, if_false, s2, e2, e3, b2]
    exact ⟨_, _, hf, hm, rfl, rel_mk ⟨hc, hs⟩ (tr_ok z0 z1) hsh b3 hli hta him htb hwy hms⟩
theorem al_lose : Al_lose Rel := by
  intro Mc Mr u1 h
  obtain ⟨⟨hc, hs⟩, htr, hsh, hst, hli, hta, him, htb, hwy, hms⟩ := h
  obtain ⟨q, q0, q1, eqq, en, et⟩ := id htr
  have q2 := (sz_pos q1 q0).1
  have q3 := sz_le q1
  rw [hs]
  rcases shelf_c hsh u1 with ⟨_, s2, s3⟩ | ⟨s, h4, rfl, _, s2, ⟨e1, e2, s3⟩ | ⟨z, z0, z1, e1, e2, e3, s3⟩⟩
  · have hf : fX6_lose sF (Mc.1 27) u1 = some ((-1 : Int32), Mc.1 27) := by
      unfold fX6_lose
      simp (disch := omega) only [Option.bind_some, Sum.elim_inl, Sum.elim_inr, q_le, q_nle, q_lt, q_nlt, q_eq, q_ne, q_m1, q_m5, rd_n, wr_n, ixo_n, dvo_n, rmo_n, nI_add, pk_sub, pk_mul, if_true, if_false, s3, if_neg m1_0]
    have hm : fX7_lose (Mr.1 1) u1 = some ((-1 : Int32), Mr.1 1) := by
      unfold fX7_lose
      simp (disch := omega) only [Option.bind_some, Sum.elim_inl, Sum.elim_inr, q_le, q_nle, q_lt, q_nlt, q_eq, q_ne, q_m1, q_m5, rd_n, wr_n, ixo_n, dvo_n, rmo_n, nI_add, pk_sub, pk_mul, if_true, if_false, s2]
    exact ⟨_, _, hf, hm, rfl, rel_mk ⟨hc, hs⟩ htr hsh hst hli hta him htb hwy hms⟩
  · have hf : fX6_lose sF (Mc.1 27) (nI s) = some ((-6 : Int32), Mc.1 27) := by
      unfold fX6_lose
      simp (disch := omega) only [Option.bind_some, Sum.elim_inl, Sum.elim_inr, q_le, q_nle, q_lt, q_nlt, q_eq, q_ne, q_m1, q_m5, rd_n, wr_n, ixo_n, dvo_n, rmo_n, nI_add, pk_sub, pk_mul, if_true, if_false, s3, if_neg m6_0]
    have hm : fX7_lose (Mr.1 1) (nI s) = some ((-6 : Int32), Mr.1 1) := by
      unfold fX7_lose
      simp (disch := omega) only [Option.bind_some, Sum.elim_inl, Sum.elim_inr, q_le, q_nle, q_lt, q_nlt, q_eq, q_ne, q_m1, q_m5, rd_n, wr_n, ixo_n, dvo_n, rmo_n, nI_add, pk_sub, pk_mul, if_true, if_false, s2, e2]
    exact ⟨_, _, hf, hm, rfl, rel_mk ⟨hc, hs⟩ htr hsh hst hli hta him htb hwy hms⟩
  · have z2 := (sz_pos z1 z0).1
    have z3 := sz_le z1
    have hf : fX6_lose sF (Mc.1 27) (nI s) = some (nI (szF z), upd (Mc.1 27) s (nI 0)) := by
      unfold fX6_lose
      simp (disch := omega) only [Option.bind_some, Sum.elim_inl, Sum.elim_inr, q_le, q_nle, q_lt, q_nlt, q_eq, q_ne, q_m1, q_m5, rd_n, wr_n, ixo_n, dvo_n, rmo_n, nI_add, pk_sub, pk_mul, if_true, if_false, s3, e1, c_sizeOf z1]
    have hm : fX7_lose (Mr.1 1) (nI s) = some (nI (szF z), upd (Mr.1 1) s (nI 0)) := by
      unfold fX7_lose
      simp (disch := omega) only [Option.bind_some, Sum.elim_inl, Sum.elim_inr, q_le, q_nle, q_lt, q_nlt, q_eq, q_ne, q_m1, q_m5, rd_n, wr_n, ixo_n, dvo_n, rmo_n, nI_add, pk_sub, pk_mul, if_true, if_false, s2, e2]
    exact ⟨_, _, hf, hm, rfl, rel_mk ⟨hc, hs⟩ htr (shr_los hsh) hst hli hta him htb hwy hms⟩
theorem al_over : Al_over Rel := by
  intro Mc Mr u1 h
  obtain ⟨⟨hc, hs⟩, htr, hsh, hst, hli, hta, him, htb, hwy, hms⟩ := h
  obtain ⟨q, q0, q1, eqq, en, et⟩ := id htr
  have q2 := (sz_pos q1 q0).1
  have q3 := sz_le q1
  rw [hc, hs, eqq, en, et]
  have hn8 : szF q < 8 := by omega
  rcases shelf_c hsh u1 with ⟨_, s2, s3⟩ | ⟨s, h4, rfl, _, s2, ⟨e1, e2, s3⟩ | ⟨z, z0, z1, e1, e2, e3, s3⟩⟩
  · have hf : fX6_over cF sF (Mc.1 15) (Mc.1 27) (nI q) (Mc.2.2 44) u1 = some ((-1 : Int32), Mc.1 15, nI q, Mc.2.2 44) := by
      unfold fX6_over fX6_lackOrTooMany
      simp (disch := omega) only [Option.bind_some, Sum.elim_inl, Sum.elim_inr, q_le, q_nle, q_lt, q_nlt, q_eq, q_ne, q_m1, q_m5, rd_n, wr_n, ixo_n, dvo_n, rmo_n, nI_add, pk_sub, pk_mul, if_true, if_false, s3, if_neg m1_0]
    have hm : fX7_over (Mr.1 1) (Mr.1 2) (Mr.1 3) (Mr.1 4) (nI (szF q)) (nI (dcF q)) (Mr.2.2 42) u1 = some ((-1 : Int32), Mr.1 3, Mr.1 4, nI (szF q), nI (dcF q), Mr.2.2 42) := by
      unfold fX7_over
      simp (disch := omega) only [Option.bind_some, Sum.elim_inl, Sum.elim_inr, q_le, q_nle, q_lt, q_nlt, q_eq, q_ne, q_m1, q_m5, rd_n, wr_n, ixo_n, dvo_n, rmo_n, nI_add, pk_sub, pk_mul, if_true, if_false, s2]
    exact ⟨_, _, hf, hm, rfl, rel_mk ⟨hc, hs⟩ (tr_ok q0 q1) hsh hst hli hta him htb hwy hms⟩
  · have hf : fX6_over cF sF (Mc.1 15) (Mc.1 27) (nI q) (Mc.2.2 44) (nI s) = some ((-6 : Int32), Mc.1 15, nI q, Mc.2.2 44) := by
      unfold fX6_over fX6_lackOrTooMany
      simp (disch := omega) only [Option.bind_some, Sum.elim_inl, Sum.elim_inr, q_le, q_nle, q_lt, q_nlt, q_eq, q_ne, q_m1, q_m5, rd_n, wr_n, ixo_n, dvo_n, rmo_n, nI_add, pk_sub, pk_mul, if_true, if_false, s3, if_neg m6_0]
    have hm : fX7_over (Mr.1 1) (Mr.1 2) (Mr.1 3) (Mr.1 4) (nI (szF q)) (nI (dcF q)) (Mr.2.2 42) (nI s) = some ((-6 : Int32), Mr.1 3, Mr.1 4, nI (szF q), nI (dcF q), Mr.2.2 42) := by
      unfold fX7_over
      simp (disch := omega) only [Option.bind_some, Sum.elim_inl, Sum.elim_inr, q_le, q_nle, q_lt, q_nlt, q_eq, q_ne, q_m1, q_m5, rd_n, wr_n, ixo_n, dvo_n, rmo_n, nI_add, pk_sub, pk_mul, if_true, if_false, s2, e2]
    exact ⟨_, _, hf, hm, rfl, rel_mk ⟨hc, hs⟩ (tr_ok q0 q1) hsh hst hli hta him htb hwy hms⟩
  · have z2 := (sz_pos z1 z0).1
    have z3 := sz_le z1
    by_cases h7 : szF z + szF q ≤ 7
    · obtain ⟨r, r0, r1, o1, o2, o3⟩ := c_setOver q0 q1 z0 z1 h7
      obtain ⟨A', N', T', h1', h2', b1, b2, b3⟩ := bec_ok q0 q1 r0 r1 hst
      rw [o2, o3, ← p10_eq _ hn8] at b2
      have hf : fX6_over cF sF (Mc.1 15) (Mc.1 27) (nI q) (Mc.2.2 44) (nI s) = some (nI (szF z + szF q), A', nI r, h1') := by
        unfold fX6_over fX6_lackOrTooMany
        simp (disch := omega) only [Option.bind_some, Sum.elim_inl, Sum.elim_inr, q_le, q_nle, q_lt, q_nlt, q_eq, q_ne, q_m1, q_m5, rd_n, wr_n, ixo_n, dvo_n, rmo_n, nI_add, pk_sub, pk_mul, if_true, if_false, s3, e1, c_size q1, c_sizeOf z1, o1, b1, c_size r1, o2]
      have hm : fX7_over (Mr.1 1) (Mr.1 2) (Mr.1 3) (Mr.1 4) (nI (szF q)) (nI (dcF q)) (Mr.2.2 42) (nI s) = some (nI (szF z + szF q), N', T', nI (szF z + szF q), nI (dcF z * P10 (szF q) + dcF q), h2') := by
        unfold fX7_over
        simp (disch := omega) only [Option.bind_some, Sum.elim_inl, Sum.elim_inr, q_le, q_nle, q_lt, q_nlt, q_eq, q_ne, q_m1, q_m5, rd_n, wr_n, ixo_n, dvo_n, rmo_n, nI_add, pk_sub, pk_mul, if_true, if_false, s2, e2, e3, m_ten _ hn8, b2]
      exact ⟨_, _, hf, hm, rfl, rel_mk ⟨hc, hs⟩ (tr_of r0 r1 o2 (by rw [o3, p10_eq _ hn8])) hsh b3 hli hta him htb hwy hms⟩
    · have hf : fX6_over cF sF (Mc.1 15) (Mc.1 27) (nI q) (Mc.2.2 44) (nI s) = some ((-4 : Int32), Mc.1 15, nI q, Mc.2.2 44) := by
        unfold fX6_over fX6_lackOrTooMany
        simp (disch := omega) only [Option.bind_some, Sum.elim_inl, Sum.elim_inr, q_le, q_nle, q_lt, q_nlt, q_eq, q_ne, q_m1, q_m5, rd_n, wr_n, ixo_n, dvo_n, rmo_n, nI_add, pk_sub, pk_mul, if_true, if_false, s3, e1, c_size q1, c_sizeOf z1, if_neg m4_0]
      have hm : fX7_over (Mr.1 1) (Mr.1 2) (Mr.1 3) (Mr.1 4) (nI (szF q)) (nI (dcF q)) (Mr.2.2 42) (nI s) = some ((-4 : Int32), Mr.1 3, Mr.1 4, nI (szF q), nI (dcF q), Mr.2.2 42) := by
        unfold fX7_over
        simp (disch := omega) only [Option.bind_some, Sum.elim_inl, Sum.elim_inr, q_le, q_nle, q_lt, q_nlt, q_eq, q_ne, q_m1, q_m5, rd_n, wr_n, ixo_n, dvo_n, rmo_n, nI_add, pk_sub, pk_mul, if_true, if_false, s2, e2]
      exact ⟨_, _, hf, hm, rfl, rel_mk ⟨hc, hs⟩ (tr_ok q0 q1) hsh hst hli hta him htb hwy hms⟩
theorem al_under : Al_under Rel := by
  intro Mc Mr u1 h
  obtain ⟨⟨hc, hs⟩, htr, hsh, hst, hli, hta, him, htb, hwy, hms⟩ := h
  obtain ⟨q, q0, q1, eqq, en, et⟩ := id htr
  have q2 := (sz_pos q1 q0).1
  have q3 := sz_le q1
  rw [hc, hs, eqq, en, et]
  have hn8 : szF q < 8 := by omega
  rcases shelf_c hsh u1 with ⟨_, s2, s3⟩ | ⟨s, h4, rfl, _, s2, ⟨e1, e2, s3⟩ | ⟨z, z0, z1, e1, e2, e3, s3⟩⟩
  · have hf : fX6_under cF sF (Mc.1 15) (Mc.1 27) (nI q) (Mc.2.2 44) u1 = some ((-1 : Int32), Mc.1 15, nI q, Mc.2.2 44) := by
      unfold fX6_under fX6_lackOrTooMany
      simp (disch := omega) only [Option.bind_some, Sum.elim_inl, Sum.elim_inr, q_le, q_nle, q_lt, q_nlt, q_eq, q_ne, q_m1, q_m5, rd_n, wr_n, ixo_n, dvo_n, rmo_n, nI_add, pk_sub, pk_mul, if_true, if_false, s3, if_neg m1_0]
    have hm : fX7_under (Mr.1 1) (Mr.1 2) (Mr.1 3) (Mr.1 4) (nI (szF q)) (nI (dcF q)) (Mr.2.2 42) u1 = some ((-1 : Int32), Mr.1 3, Mr.1 4, nI (szF q), nI (dcF q), Mr.2.2 42) := by
      unfold fX7_under
      simp (disch := omega) only [Option.bind_some, Sum.elim_inl, Sum.elim_inr, q_le, q_nle, q_lt, q_nlt, q_eq, q_ne, q_m1, q_m5, rd_n, wr_n, ixo_n, dvo_n, rmo_n, nI_add, pk_sub, pk_mul, if_true, if_false, s2]
    exact ⟨_, _, hf, hm, rfl, rel_mk ⟨hc, hs⟩ (tr_ok q0 q1) hsh hst hli hta him htb hwy hms⟩
  · have hf : fX6_under cF sF (Mc.1 15) (Mc.1 27) (nI q) (Mc.2.2 44) (nI s) = some ((-6 : Int32), Mc.1 15, nI q, Mc.2.2 44) := by
      unfold fX6_under fX6_lackOrTooMany
      simp (disch := omega) only [Option.bind_some, Sum.elim_inl, Sum.elim_inr, q_le, q_nle, q_lt, q_nlt, q_eq, q_ne, q_m1, q_m5, rd_n, wr_n, ixo_n, dvo_n, rmo_n, nI_add, pk_sub, pk_mul, if_true, if_false, s3, if_neg m6_0]
    have hm : fX7_under (Mr.1 1) (Mr.1 2) (Mr.1 3) (Mr.1 4) (nI (szF q)) (nI (dcF q)) (Mr.2.2 42) (nI s) = some ((-6 : Int32), Mr.1 3, Mr.1 4, nI (szF q), nI (dcF q), Mr.2.2 42) := by
      unfold fX7_under
      simp (disch := omega) only [Option.bind_some, Sum.elim_inl, Sum.elim_inr, q_le, q_nle, q_lt, q_nlt, q_eq, q_ne, q_m1, q_m5, rd_n, wr_n, ixo_n, dvo_n, rmo_n, nI_add, pk_sub, pk_mul, if_true, if_false, s2, e2]
    exact ⟨_, _, hf, hm, rfl, rel_mk ⟨hc, hs⟩ (tr_ok q0 q1) hsh hst hli hta him htb hwy hms⟩
  · have z2 := (sz_pos z1 z0).1
    have z3 := sz_le z1
    have hz8 : szF z < 8 := by omega
    by_cases h7 : szF q + szF z ≤ 7
    · obtain ⟨r, r0, r1, o1, o2, o3⟩ := c_setUnder q0 q1 z0 z1 h7
      obtain ⟨A', N', T', h1', h2', b1, b2, b3⟩ := bec_ok q0 q1 r0 r1 hst
      rw [o2, o3, ← p10_eq _ hz8] at b2
      have hf : fX6_under cF sF (Mc.1 15) (Mc.1 27) (nI q) (Mc.2.2 44) (nI s) = some (nI (szF q + szF z), A', nI r, h1') := by
        unfold fX6_under fX6_lackOrTooMany
        simp (disch := omega) only [Option.bind_some, Sum.elim_inl, Sum.elim_inr, q_le, q_nle, q_lt, q_nlt, q_eq, q_ne, q_m1, q_m5, rd_n, wr_n, ixo_n, dvo_n, rmo_n, nI_add, pk_sub, pk_mul, if_true, if_false, s3, e1, c_size q1, c_sizeOf z1, o1, b1, c_size r1, o2]
      have hm : fX7_under (Mr.1 1) (Mr.1 2) (Mr.1 3) (Mr.1 4) (nI (szF q)) (nI (dcF q)) (Mr.2.2 42) (nI s) = some (nI (szF q + szF z), N', T', nI (szF q + szF z), nI (unN q (szF z) (szF q) * P10 (szF z) + dcF z), h2') := by
        unfold fX7_under
        simp (disch := omega) only [Option.bind_some, Sum.elim_inl, Sum.elim_inr, q_le, q_nle, q_lt, q_nlt, q_eq, q_ne, q_m1, q_m5, rd_n, wr_n, ixo_n, dvo_n, rmo_n, nI_add, pk_sub, pk_mul, if_true, if_false, s2, e2, e3, m_under q0 q1 z2 h7, m_ten _ hz8, b2]
      exact ⟨_, _, hf, hm, rfl, rel_mk ⟨hc, hs⟩ (tr_of r0 r1 o2 (by rw [o3, p10_eq _ hz8])) hsh b3 hli hta him htb hwy hms⟩
    · have hf : fX6_under cF sF (Mc.1 15) (Mc.1 27) (nI q) (Mc.2.2 44) (nI s) = some ((-4 : Int32), Mc.1 15, nI q, Mc.2.2 44) := by
        unfold fX6_under fX6_lackOrTooMany
        simp (disch := omega) only [Option.bind_some, Sum.elim_inl, Sum.elim_inr, q_le, q_nle, q_lt, q_nlt, q_eq, q_ne, q_m1, q_m5, rd_n, wr_n, ixo_n, dvo_n, rmo_n, nI_add, pk_sub, pk_mul, if_true, if_false, s3, e1, c_size q1, c_sizeOf z1, if_neg m4_0]
      have hm : fX7_under (Mr.1 1) (Mr.1 2) (Mr.1 3) (Mr.1 4) (nI (szF q)) (nI (dcF q)) (Mr.2.2 42) (nI s) = some ((-4 : Int32), Mr.1 3, Mr.1 4, nI (szF q), nI (dcF q), Mr.2.2 42) := by
        unfold fX7_under
        simp (disch := omega) only [Option.bind_some, Sum.elim_inl, Sum.elim_inr, q_le, q_nle, q_lt, q_nlt, q_eq, q_ne, q_m1, q_m5, rd_n, wr_n, ixo_n, dvo_n, rmo_n, nI_add, pk_sub, pk_mul, if_true, if_false, s2, e2]
      exact ⟨_, _, hf, hm, rfl, rel_mk ⟨hc, hs⟩ (tr_ok q0 q1) hsh hst hli hta him htb hwy hms⟩
theorem al_shelf : Al_shelf Rel := by
  intro Mc Mr u1 u2 h
  obtain ⟨⟨hc, hs⟩, htr, hsh, hst, hli, hta, him, htb, hwy, hms⟩ := h
  obtain ⟨q, q0, q1, eqq, en, et⟩ := id htr
  have q2 := (sz_pos q1 q0).1
  have q3 := sz_le q1
  rw [hc, hs]
  rcases rng_c u2 3 with ⟨k, hk, rfl⟩ | ho
  · have hi : fX7_in (nI k).toInt64 (0 : Int64) (2 : Int64) = some (nI 1) := in_in (m := 3) rfl hk (by omega)
    rcases shelf_c hsh u1 with ⟨_, s2, s3⟩ | ⟨s, h4, rfl, _, s2, ⟨e1, e2, s3⟩ | ⟨z, z0, z1, e1, e2, e3, s3⟩⟩
    · have hf : fX6_shelf cF sF (Mc.1 27) u1 (nI k) = some (-1 : Int32) := by
        unfold fX6_shelf
        simp (disch := omega) only [Option.bind_some, Sum.elim_inl, Sum.elim_inr, q_le, q_nle, q_lt, q_nlt, q_eq, q_ne, q_m1, q_m5, rd_n, wr_n, ixo_n, dvo_n, rmo_n, nI_add, pk_sub, pk_mul, if_true, if_false, s3, if_neg m1_0]
      have hm : fX7_shelf (Mr.1 1) (Mr.1 2) (Mr.1 10) (Mr.2.2 48) (Mr.2.2 49) u1 (nI k) = some ((-1 : Int32), Mr.1 10, Mr.2.2 48, Mr.2.2 49) := by
        unfold fX7_shelf
        simp (disch := omega) only [Option.bind_some, Sum.elim_inl, Sum.elim_inr, q_le, q_nle, q_lt, q_nlt, q_eq, q_ne, q_m1, q_m5, rd_n, wr_n, ixo_n, dvo_n, rmo_n, nI_add, pk_sub, pk_mul, if_true, if_false, s2]
      exact ⟨_, _, hf, hm, rfl, rel_mk ⟨hc, hs⟩ htr hsh hst hli hta him htb hwy hms⟩
    · have hf : fX6_shelf cF sF (Mc.1 27) (nI s) (nI k) = some (-6 : Int32) := by
        unfold fX6_shelf
        simp (disch := omega) only [Option.bind_some, Sum.elim_inl, Sum.elim_inr, q_le, q_nle, q_lt, q_nlt, q_eq, q_ne, q_m1, q_m5, rd_n, wr_n, ixo_n, dvo_n, rmo_n, nI_add, pk_sub, pk_mul, if_true, if_false, s3, if_neg m6_0]
      have hm : fX7_shelf (Mr.1 1) (Mr.1 2) (Mr.1 10) (Mr.2.2 48) (Mr.2.2 49) (nI s) (nI k) = some ((-6 : Int32), Mr.1 10, Mr.2.2 48, Mr.2.2 49) := by
        unfold fX7_shelf
        simp (disch := omega) only [Option.bind_some, Sum.elim_inl, Sum.elim_inr, q_le, q_nle, q_lt, q_nlt, q_eq, q_ne, q_m1, q_m5, rd_n, wr_n, ixo_n, dvo_n, rmo_n, nI_add, pk_sub, pk_mul, if_true, if_false, s2, hi, e2]
      exact ⟨_, _, hf, hm, rfl, rel_mk ⟨hc, hs⟩ htr hsh hst hli hta him htb hwy hms⟩
    · have z2 := (sz_pos z1 z0).1
      have z3 := sz_le z1
      rcases k3 hk with rfl | rfl | rfl
      · have hf : fX6_shelf cF sF (Mc.1 27) (nI s) (nI 0) = some (nI (szF z)) := by
          unfold fX6_shelf
          simp (disch := omega) only [Option.bind_some, Sum.elim_inl, Sum.elim_inr, q_le, q_nle, q_lt, q_nlt, q_eq, q_ne, q_m1, q_m5, rd_n, wr_n, ixo_n, dvo_n, rmo_n, nI_add, pk_sub, pk_mul, if_true, if_false, s3, e1, c_sizeOf z1]
        have hm : fX7_shelf (Mr.1 1) (Mr.1 2) (Mr.1 10) (Mr.2.2 48) (Mr.2.2 49) (nI s) (nI 0) = some (nI (szF z), Mr.1 10, Mr.2.2 48, Mr.2.2 49) := by
          unfold fX7_shelf
          simp (disch := omega) only [Option.bind_some, Sum.elim_inl, Sum.elim_inr, q_le, q_nle, q_lt, q_nlt, q_eq, q_ne, q_m1, q_m5, rd_n, wr_n, ixo_n, dvo_n, rmo_n, nI_add, pk_sub, pk_mul, if_true, if_false, s2, hi, e2]
        exact ⟨_, _, hf, hm, rfl, rel_mk ⟨hc, hs⟩ htr hsh hst hli hta him htb hwy hms⟩
      · obtain ⟨all', many', n1, n2⟩ := m_numberOf z0 z1 htb
        have hf : fX6_shelf cF sF (Mc.1 27) (nI s) (nI 1) = some (nI (z - fstF (szF z))) := by
          unfold fX6_shelf
          simp (disch := omega) only [Option.bind_some, Sum.elim_inl, Sum.elim_inr, q_le, q_nle, q_lt, q_nlt, q_eq, q_ne, q_m1, q_m5, rd_n, wr_n, ixo_n, dvo_n, rmo_n, nI_add, pk_sub, pk_mul, if_true, if_false, s3, e1, c_numberOf z0 z1]
        have hm : fX7_shelf (Mr.1 1) (Mr.1 2) (Mr.1 10) (Mr.2.2 48) (Mr.2.2 49) (nI s) (nI 1) = some (nI (z - fstF (szF z)), all', many', nI (szF z)) := by
          unfold fX7_shelf
          simp (disch := omega) only [Option.bind_some, Sum.elim_inl, Sum.elim_inr, q_le, q_nle, q_lt, q_nlt, q_eq, q_ne, q_m1, q_m5, rd_n, wr_n, ixo_n, dvo_n, rmo_n, nI_add, pk_sub, pk_mul, if_true, if_false, s2, hi, e2, e3, n1]
        exact ⟨_, _, hf, hm, rfl, rel_mk ⟨hc, hs⟩ htr hsh hst hli hta him (tb_of z0 z1 n2) hwy hms⟩
      · have hf : fX6_shelf cF sF (Mc.1 27) (nI s) (nI 2) = some (nI (dcF z)) := by
          unfold fX6_shelf
          simp (disch := omega) only [Option.bind_some, Sum.elim_inl, Sum.elim_inr, q_le, q_nle, q_lt, q_nlt, q_eq, q_ne, q_m1, q_m5, rd_n, wr_n, ixo_n, dvo_n, rmo_n, nI_add, pk_sub, pk_mul, if_true, if_false, s3, e1, c_asDigits z1 z0]
        have hm : fX7_shelf (Mr.1 1) (Mr.1 2) (Mr.1 10) (Mr.2.2 48) (Mr.2.2 49) (nI s) (nI 2) = some (nI (dcF z), Mr.1 10, Mr.2.2 48, Mr.2.2 49) := by
          unfold fX7_shelf
          simp (disch := omega) only [Option.bind_some, Sum.elim_inl, Sum.elim_inr, q_le, q_nle, q_lt, q_nlt, q_eq, q_ne, q_m1, q_m5, rd_n, wr_n, ixo_n, dvo_n, rmo_n, nI_add, pk_sub, pk_mul, if_true, if_false, s2, hi, e2, e3]
        exact ⟨_, _, hf, hm, rfl, rel_mk ⟨hc, hs⟩ htr hsh hst hli hta him htb hwy hms⟩
  · have hf : fX6_shelf cF sF (Mc.1 27) u1 u2 = some (-1 : Int32) := by
      unfold fX6_shelf
      rcases ho with h | ⟨k, h1, h2, rfl⟩
      · rw [if_pos h]
      · rw [if_neg (nI_nlt (by omega) (by omega)), if_neg (nI_ge (by omega) (by omega))]
    have hm : fX7_shelf (Mr.1 1) (Mr.1 2) (Mr.1 10) (Mr.2.2 48) (Mr.2.2 49) u1 u2 = some ((-1 : Int32), Mr.1 10, Mr.2.2 48, Mr.2.2 49) := by
      unfold fX7_shelf
      rcases shelf_c hsh u1 with ⟨_, m1, _⟩ | ⟨_, _, _, _, m1, _⟩
      · simp (disch := omega) only [Option.bind_some, Sum.elim_inl, Sum.elim_inr, q_le, q_nle, q_lt, q_nlt, q_eq, q_ne, q_m1, q_m5, rd_n, wr_n, ixo_n, dvo_n, rmo_n, nI_add, pk_sub, pk_mul, if_true, if_false, m1]
      · rw [m1, Option.bind_some, if_neg (by decide), in_out (m := 3) rfl ho]
        rfl
    exact ⟨_, _, hf, hm, rfl, rel_mk ⟨hc, hs⟩ htr hsh hst hli hta him htb hwy hms⟩
