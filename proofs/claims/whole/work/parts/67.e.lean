/-! alike: between, ways, chains, marks, classes -/
theorem m1_le {m : Nat} (h : m < 2147483648) : (-1 : Int32) ≤ nI m := by
  rw [Int32.le_iff_toInt_le, nI_toInt (by omega), m1_toInt]
  omega
theorem m1_c (v : Int32) (h : (-1 : Int32) ≤ v) : v = (-1 : Int32) ∨ ∃ m, m < 2147483648 ∧ v = nI m := by
  rcases i_cases v with ⟨k, hk, rfl⟩ | hn
  · exact Or.inr ⟨k, hk, rfl⟩
  · refine Or.inl (Int32.toInt_inj.mp ?_)
    have h1 := neg_toInt hn
    rw [Int32.le_iff_toInt_le, m1_toInt] at h
    rw [m1_toInt]
    omega
theorem al_between : Al_between Rel := by
  intro Mc Mr u1 u2 h
  obtain ⟨⟨hc, hs⟩, htr, hsh, hst, hli, hta, him, htb, hwy, hms⟩ := h
  obtain ⟨q, q0, q1, eqq, en, et⟩ := id htr
  have q2 := (sz_pos q1 q0).1
  have q3 := sz_le q1
  rw [hc, hs, eqq, en, et]
  have hn8 : szF q < 8 := by omega
  by_cases hv : (-1 : Int32) ≤ u2
  · rcases ref_2 q1 hsh u1 with ⟨r, hr, e1, hm⟩ | ⟨s, z, h4, rfl, z0, z1, hz, s1, s2, s3, er, es, eb⟩
    · have hf : fX6_between cF sF (Mc.1 27) (nI q) u1 u2 = some r := by
        unfold fX6_between
        simp (disch := omega) only [Option.bind_some, Sum.elim_inl, Sum.elim_inr, q_le, q_nle, q_lt, q_nlt, q_eq, q_ne, q_m1, q_m5, rd_n, wr_n, ixo_n, dvo_n, rmo_n, nI_add, pk_sub, pk_mul, if_true, if_false, if_pos hv, e1, if_neg hr]
      have hm : fX7_between (Mr.1 1) (Mr.1 2) (Mr.1 10) (nI (szF q)) (nI (dcF q)) (Mr.2.2 48) (Mr.2.2 49) u1 u2 = some (r, Mr.1 10, Mr.2.2 48, Mr.2.2 49) := by
        unfold fX7_between
        rcases hm with ⟨m1, rfl⟩ | ⟨m1, m2⟩
        · simp (disch := omega) only [Option.bind_some, Sum.elim_inl, Sum.elim_inr, q_le, q_nle, q_lt, q_nlt, q_eq, q_ne, q_m1, q_m5, rd_n, wr_n, ixo_n, dvo_n, rmo_n, nI_add, pk_sub, pk_mul, if_true, if_false, m1]
        · simp (disch := omega) only [Option.bind_some, Sum.elim_inl, Sum.elim_inr, q_le, q_nle, q_lt, q_nlt, q_eq, q_ne, q_m1, q_m5, rd_n, wr_n, ixo_n, dvo_n, rmo_n, nI_add, pk_sub, pk_mul, if_true, if_false, m1, if_pos hv, m2, if_neg hr]
      exact ⟨_, _, hf, hm, rfl, rel_mk ⟨hc, hs⟩ htr hsh hst hli hta him htb hwy hms⟩
    · obtain ⟨all', many', t1, t2⟩ := m_table q2 hn8 htb
      have hrd : rd 4 (Mr.1 2) (nI s) = some (nI (dcF z)) := by rw [rd_n h4 (by omega), s3]
      rcases m1_c u2 hv with rfl | ⟨m, hm, rfl⟩
      · have hf : fX6_between cF sF (Mc.1 27) (nI q) (nI s) (-1 : Int32) = some (nI (cbw q z (fstF (szF q)) (cntF (szF q)))) := by
          unfold fX6_between
          rw [if_pos hv]
          simp (disch := omega) only [Option.bind_some, Sum.elim_inl, Sum.elim_inr, q_le, q_nle, q_lt, q_nlt, q_eq, q_ne, q_m1, q_m5, rd_n, wr_n, ixo_n, dvo_n, rmo_n, nI_add, pk_sub, pk_mul, if_true, if_false, er, s1, c_howManyBetween q0 q1 z0 z1 rfl hz]
        have hm : fX7_between (Mr.1 1) (Mr.1 2) (Mr.1 10) (nI (szF q)) (nI (dcF q)) (Mr.2.2 48) (Mr.2.2 49) (nI s) (-1 : Int32) = some (nI (cbw q z (fstF (szF q)) (cntF (szF q))), all', many', nI (szF q)) := by
          unfold fX7_between
          rw [es, Option.bind_some, if_neg (by decide), if_pos hv]
          simp (disch := omega) only [Option.bind_some, Sum.elim_inl, Sum.elim_inr, q_le, q_nle, q_lt, q_nlt, q_eq, q_ne, q_m1, q_m5, rd_n, wr_n, ixo_n, dvo_n, rmo_n, nI_add, pk_sub, pk_mul, if_true, if_false, eb, t1, be_m q0 q1 z0 z1 rfl hz t2 hrd]
        exact ⟨_, _, hf, hm, rfl, rel_mk ⟨hc, hs⟩ htr hsh hst hli hta him (tb_of q0 q1 t2) hwy hms⟩
      · rcases be_n (tb := nI (szF q)) q0 q1 z0 z1 rfl hz hm t2 hrd with ⟨b1, c, b2⟩ | ⟨k, hk, b1, b2⟩
        · have hf : fX6_between cF sF (Mc.1 27) (nI q) (nI s) (nI m) = some (-1 : Int32) := by
            unfold fX6_between
            rw [if_pos hv]
            simp (disch := omega) only [Option.bind_some, Sum.elim_inl, Sum.elim_inr, q_le, q_nle, q_lt, q_nlt, q_eq, q_ne, q_m1, q_m5, rd_n, wr_n, ixo_n, dvo_n, rmo_n, nI_add, pk_sub, pk_mul, if_true, if_false, er, s1, b1]
          have hm : fX7_between (Mr.1 1) (Mr.1 2) (Mr.1 10) (nI (szF q)) (nI (dcF q)) (Mr.2.2 48) (Mr.2.2 49) (nI s) (nI m) = some ((-1 : Int32), all', many', nI (szF q)) := by
            unfold fX7_between
            rw [es, Option.bind_some, if_neg (by decide), if_pos hv]
            simp (disch := omega) only [Option.bind_some, Sum.elim_inl, Sum.elim_inr, q_le, q_nle, q_lt, q_nlt, q_eq, q_ne, q_m1, q_m5, rd_n, wr_n, ixo_n, dvo_n, rmo_n, nI_add, pk_sub, pk_mul, if_true, if_false, eb, t1, b2]
          exact ⟨_, _, hf, hm, rfl, rel_mk ⟨hc, hs⟩ htr hsh hst hli hta him (tb_of q0 q1 t2) hwy hms⟩
        · obtain ⟨k0, k1, k2⟩ := pl_ok q2 hn8 hk
          have hf : fX6_between cF sF (Mc.1 27) (nI q) (nI s) (nI m) = some (nI k) := by
            unfold fX6_between
            rw [if_pos hv]
            simp (disch := omega) only [Option.bind_some, Sum.elim_inl, Sum.elim_inr, q_le, q_nle, q_lt, q_nlt, q_eq, q_ne, q_m1, q_m5, rd_n, wr_n, ixo_n, dvo_n, rmo_n, nI_add, pk_sub, pk_mul, if_true, if_false, er, s1, b1, c_numberOf k0 k1, k2]
            rw [Nat.add_sub_cancel_left]
          have hm : fX7_between (Mr.1 1) (Mr.1 2) (Mr.1 10) (nI (szF q)) (nI (dcF q)) (Mr.2.2 48) (Mr.2.2 49) (nI s) (nI m) = some (nI k, all', many', nI (szF q)) := by
            unfold fX7_between
            rw [es, Option.bind_some, if_neg (by decide), if_pos hv]
            simp (disch := omega) only [Option.bind_some, Sum.elim_inl, Sum.elim_inr, q_le, q_nle, q_lt, q_nlt, q_eq, q_ne, q_m1, q_m5, rd_n, wr_n, ixo_n, dvo_n, rmo_n, nI_add, pk_sub, pk_mul, if_true, if_false, eb, t1, b2]
          exact ⟨_, _, hf, hm, rfl, rel_mk ⟨hc, hs⟩ htr hsh hst hli hta him (tb_of q0 q1 t2) hwy hms⟩
  · have hf : fX6_between cF sF (Mc.1 27) (nI q) u1 u2 = some (-1 : Int32) := by
      unfold fX6_between
      rw [if_neg hv]
    have hm : fX7_between (Mr.1 1) (Mr.1 2) (Mr.1 10) (nI (szF q)) (nI (dcF q)) (Mr.2.2 48) (Mr.2.2 49) u1 u2 = some ((-1 : Int32), Mr.1 10, Mr.2.2 48, Mr.2.2 49) := by
      unfold fX7_between
      rcases shelf_c hsh u1 with ⟨_, m1, _⟩ | ⟨_, _, _, _, m1, _⟩
      · simp (disch := omega) only [Option.bind_some, Sum.elim_inl, Sum.elim_inr, q_le, q_nle, q_lt, q_nlt, q_eq, q_ne, q_m1, q_m5, rd_n, wr_n, ixo_n, dvo_n, rmo_n, nI_add, pk_sub, pk_mul, if_true, if_false, m1]
      · simp (disch := omega) only [Option.bind_some, Sum.elim_inl, Sum.elim_inr, q_le, q_nle, q_lt, q_nlt, q_eq, q_ne, q_m1, q_m5, rd_n, wr_n, ixo_n, dvo_n, rmo_n, nI_add, pk_sub, pk_mul, if_true, if_false, m1, if_neg hv]
    exact ⟨_, _, hf, hm, rfl, rel_mk ⟨hc, hs⟩ htr hsh hst hli hta him htb hwy hms⟩
/-- both measure alike -/
theorem meas_ok {z n : Nat} {u b l t q : Nat → Int32} {h ms : Int32} {all P L R S A d qq : Nat → Int32} {many tb rdv : Int32} (z0 : 0 < z) (z1 : z < 626) (hz : szF z = n) (HW : WYS u b l) (HM : MSD l t ms) (hB : TBok all many tb) : ∃ u' b' l' t' q' h' all' P' L' R' S' A' d' qq' many' rdv' i, fX5_measure cF sF u b l t q h ms (nI z) = some (u', b', l', t', q', h', nI z) ∧ fX7_measure all P L R S A d qq (nI n) many tb rdv (nI (dcF z)) (nI 0) = some (all', P', L', R', S', A', d', qq', many', nI n, rdv') ∧ WYS u' b' l' ∧ MSD l' t' (nI z) ∧ WYn n u' b' ∧ TBn n all' many' ∧ BFE true n (z - fstF n) i ∧ DST n (bf true n (z - fstF n) i).1 ∧ TUR n t' (bf true n (z - fstF n) i).1 ∧ ∀ k, k < cntF n → d' k = oI ((bf true n (z - fstF n) i).1 k) := by
  subst hz
  obtain ⟨u', b', l', t', q', h', i, c1, c2, c3, c4, c5, c6, c7⟩ := c_measure (q := q) (h := h) z0 z1 HW HM
  obtain ⟨all', P', L', R', S', A', d', qq', many', rdv', i', m1, m2, m3, m4⟩ := m_measure (full := true) (P := P) (L := L) (R := R) (S := S) (A := A) (d := d) (q := qq) (rdv := rdv) z0 z1 rfl hB
  have ei : i' = i := bfe_un m3 c5
  subst ei
  exact ⟨u', b', l', t', q', h', all', P', L', R', S', A', d', qq', many', rdv', i', c1, m1, c2, c3, c4, m2, m3, bfe_all (sz_pos z1 z0).1 (by have := sz_le z1; omega) (pl_ix z0 z1).1 m3, ⟨c6, c7⟩, m4⟩
/-- the first turn, by both -/
theorem first_ok {x n a i l : Nat} {u b t all P L R S A d : Nat → Int32} {many rdv : Int32} (x0 : 0 < x) (x1 : x < 626) (hx : szF x = n) (ha : a < cntF n) (hW : WYn n u b) (hB : TBn n all many) (hE : BFE true n a i) (hD : DST n (bf true n a i).1) (ht : TUR n t (bf true n a i).1) (hd : ∀ k, k < cntF n → d k = oI ((bf true n a i).1 k)) (hm : (bf true n a i).1 (x - fstF n) = some (l + 1)) : ∃ (dir : Bool) (c : Nat) (all' P' L' R' S' A' : Nat → Int32) (many' rdv' : Int32), c < n ∧ hitP n l (bf true n a i).1 (dirW dir x c) ∧ fX5_firstTurn sF u b t (nI x) = some (if dir then (-1 : Int32) - nI c else nI c) ∧ fX7_firstTurn all P L R S A d (nI n) many (nI n) rdv (nI (dcF x)) = some (nI (if dir then 100 + c else c), all', P', L', R', S', A', many', nI n, rdv') ∧ TBn n all' many' := by
  obtain ⟨o, o', f1, f2, f3⟩ := c_first x0 x1 hx hW ht.1 hD hm
  obtain ⟨p, p', all', P', L', R', S', A', many', rdv', g1, g2, g3, g4⟩ := m_first (P := P) (L := L) (R := R) (S := S) (A := A) (rdv := rdv) x0 x1 hx hB hd hD hm
  have n0 : 0 < n := by rw [← hx]; exact (sz_pos x1 x0).1
  have n7 : n < 8 := by have := sz_le x1; omega
  have ix := pl_ix x0 x1
  rw [hx] at ix
  have e1 : p = o := fst_un g1 f1
  subst e1
  cases p with
  | some c =>
    refine ⟨false, c, all', P', L', R', S', A', many', rdv', f1.1, f1.2.1, f3, g3, g4⟩
  | none =>
    have e2 : p' = o' := fst_un (g2 rfl) f2
    subst e2
    cases p' with
    | some c =>
      refine ⟨true, c, all', P', L', R', S', A', many', rdv', f2.1, f2.2.1, f3, g3, g4⟩
    | none =>
      have := fst_ex (k := x - fstF n) n0 n7 ha hE ix.1 hm (o := none) (o' := none) (by rw [ix.2]; exact f1) (by rw [ix.2]; exact f2)
      rcases this with h | h <;> exact absurd rfl h
theorem neg_1c : ∀ c, c < 8 → (-1 : Int32) - nI c < nI 0 ∧ nI 99 - ((-1 : Int32) - nI c) = nI (100 + c) := by decide
theorem al_way : Al_way Rel := by
  intro Mc Mr u1 u2 h
  obtain ⟨⟨hc, hs⟩, htr, hsh, hst, hli, hta, him, htb, hwy, hms⟩ := h
  obtain ⟨q, q0, q1, eqq, en, et⟩ := id htr
  have q2 := (sz_pos q1 q0).1
  have q3 := sz_le q1
  rw [hc, hs, eqq, en, et]
  have hn8 : szF q < 8 := by omega
  rcases ref_t q1 hsh u1 u2 with ⟨r, hr, e1, hm⟩ | ⟨s, z, j, h4, rfl, hj, rfl, z0, z1, hz, s1, s2, s3, e1, e2, e3, e4⟩
  · have hf : fX6_way cF sF (Mc.1 8) (Mc.1 9) (Mc.1 10) (Mc.1 11) (Mc.1 12) (Mc.1 27) (nI q) (Mc.2.2 42) (Mc.2.2 43) u1 u2 = some (r, Mc.1 8, Mc.1 9, Mc.1 10, Mc.1 11, Mc.1 12, Mc.2.2 42, Mc.2.2 43) := by
      unfold fX6_way
      simp (disch := omega) only [Option.bind_some, Sum.elim_inl, Sum.elim_inr, q_le, q_nle, q_lt, q_nlt, q_eq, q_ne, q_m1, q_m5, rd_n, wr_n, ixo_n, dvo_n, rmo_n, nI_add, pk_sub, pk_mul, if_true, if_false, e1, if_neg hr]
    have hm : fX7_way (Mr.1 1) (Mr.1 2) (Mr.1 10) (Mr.1 11) (Mr.1 12) (Mr.1 13) (Mr.1 14) (Mr.1 15) (Mr.1 16) (Mr.1 17) (nI (szF q)) (nI (dcF q)) (Mr.2.2 48) (Mr.2.2 49) (Mr.2.2 50) u1 u2 = some (r, Mr.1 10, Mr.1 11, Mr.1 12, Mr.1 13, Mr.1 14, Mr.1 15, Mr.1 16, Mr.1 17, Mr.2.2 48, Mr.2.2 49, Mr.2.2 50) := by
      unfold fX7_way
      rcases hm with ⟨m1, rfl⟩ | ⟨m1, m2, rfl⟩ | ⟨m1, m2, m3⟩
      · simp (disch := omega) only [Option.bind_some, Sum.elim_inl, Sum.elim_inr, q_le, q_nle, q_lt, q_nlt, q_eq, q_ne, q_m1, q_m5, rd_n, wr_n, ixo_n, dvo_n, rmo_n, nI_add, pk_sub, pk_mul, if_true, if_false, m1]
      · simp (disch := omega) only [Option.bind_some, Sum.elim_inl, Sum.elim_inr, q_le, q_nle, q_lt, q_nlt, q_eq, q_ne, q_m1, q_m5, rd_n, wr_n, ixo_n, dvo_n, rmo_n, nI_add, pk_sub, pk_mul, if_true, if_false, m1, m2]
      · simp (disch := omega) only [Option.bind_some, Sum.elim_inl, Sum.elim_inr, q_le, q_nle, q_lt, q_nlt, q_eq, q_ne, q_m1, q_m5, rd_n, wr_n, ixo_n, dvo_n, rmo_n, nI_add, pk_sub, pk_mul, if_true, if_false, m1, m2, m3, if_neg hr]
    exact ⟨_, _, hf, hm, rfl, rel_mk ⟨hc, hs⟩ htr hsh hst hli hta him htb hwy hms⟩
  · obtain ⟨u', b', l', t', qu', hh', all', P', L', R', S', A', d', qq', many', rdv', i, c1, m1, w1, w2, w3, w4, w5, w6, w7, w8⟩ := meas_ok (q := Mc.1 12) (h := Mc.2.2 42) (P := Mr.1 11) (L := Mr.1 12) (R := Mr.1 13) (S := Mr.1 14) (A := Mr.1 15) (d := Mr.1 16) (qq := Mr.1 17) (rdv := Mr.2.2 50) z0 z1 hz hwy hms htb
    have ixz := pl_ix z0 z1
    rw [hz] at ixz
    have ix := pl_ix q0 q1
    obtain ⟨m, hm4, hm⟩ := w6 (q - fstF (szF q)) ix.1
    have htf := c_tf w7.1 (w := q) (Or.inr ⟨q0, q1, rfl⟩)
    rw [if_neg (by omega), hm] at htf
    have htf' : fX5_turnsFrom t' (nI q) = some (nI m) := htf
    have cl := cnt_le _ hn8
    by_cases j0 : j = 0
    · subst j0
      obtain ⟨all2, many2, n1, n2⟩ := m_which q0 q1 (tb_of q0 q1 w4)
      have hd : d' (q - fstF (szF q)) = nI m := by
        rw [w8 _ ix.1, hm]
        rfl
      have hf : fX6_way cF sF (Mc.1 8) (Mc.1 9) (Mc.1 10) (Mc.1 11) (Mc.1 12) (Mc.1 27) (nI q) (Mc.2.2 42) (Mc.2.2 43) (nI s) (nI 0) = some (nI m, u', b', l', t', qu', hh', nI z) := by
        unfold fX6_way
        simp (disch := omega) only [Option.bind_some, Sum.elim_inl, Sum.elim_inr, q_le, q_nle, q_lt, q_nlt, q_eq, q_ne, q_m1, q_m5, rd_n, wr_n, ixo_n, dvo_n, rmo_n, nI_add, pk_sub, pk_mul, if_true, if_false, e1, s1, c1, htf']
      have hm : fX7_way (Mr.1 1) (Mr.1 2) (Mr.1 10) (Mr.1 11) (Mr.1 12) (Mr.1 13) (Mr.1 14) (Mr.1 15) (Mr.1 16) (Mr.1 17) (nI (szF q)) (nI (dcF q)) (Mr.2.2 48) (Mr.2.2 49) (Mr.2.2 50) (nI s) (nI 0) = some (nI m, all2, P', L', R', S', A', d', qq', many2, nI (szF q), rdv') := by
        unfold fX7_way
        simp (disch := omega) only [Option.bind_some, Sum.elim_inl, Sum.elim_inr, q_le, q_nle, q_lt, q_nlt, q_eq, q_ne, q_m1, q_m5, rd_n, wr_n, ixo_n, dvo_n, rmo_n, nI_add, pk_sub, pk_mul, if_true, if_false, e2, e3, e4, s3, m1, n1, hd]
      exact ⟨_, _, hf, hm, rfl, rel_mk ⟨hc, hs⟩ htr hsh hst hli hta him (tb_of q0 q1 n2) w1 w2⟩
    · have j1 : j = 1 := by omega
      subst j1
      cases m with
      | zero =>
        obtain ⟨all2, many2, n1, n2⟩ := m_first0 (P := P') (L := L') (R := R') (S := S') (A := A') (rdv := rdv') q0 q1 rfl w4 w8 hm
        have hf : fX6_way cF sF (Mc.1 8) (Mc.1 9) (Mc.1 10) (Mc.1 11) (Mc.1 12) (Mc.1 27) (nI q) (Mc.2.2 42) (Mc.2.2 43) (nI s) (nI 1) = some ((-5 : Int32), u', b', l', t', qu', hh', nI z) := by
          unfold fX6_way
          simp (disch := omega) only [Option.bind_some, Sum.elim_inl, Sum.elim_inr, q_le, q_nle, q_lt, q_nlt, q_eq, q_ne, q_m1, q_m5, rd_n, wr_n, ixo_n, dvo_n, rmo_n, nI_add, pk_sub, pk_mul, if_true, if_false, e1, s1, c1, htf']
        have hm : fX7_way (Mr.1 1) (Mr.1 2) (Mr.1 10) (Mr.1 11) (Mr.1 12) (Mr.1 13) (Mr.1 14) (Mr.1 15) (Mr.1 16) (Mr.1 17) (nI (szF q)) (nI (dcF q)) (Mr.2.2 48) (Mr.2.2 49) (Mr.2.2 50) (nI s) (nI 1) = some ((-5 : Int32), all2, P', L', R', S', A', d', qq', many2, nI (szF q), rdv') := by
          unfold fX7_way
          simp (disch := omega) only [Option.bind_some, Sum.elim_inl, Sum.elim_inr, q_le, q_nle, q_lt, q_nlt, q_eq, q_ne, q_m1, q_m5, rd_n, wr_n, ixo_n, dvo_n, rmo_n, nI_add, pk_sub, pk_mul, if_true, if_false, e2, e3, e4, s3, m1, n1]
        exact ⟨_, _, hf, hm, rfl, rel_mk ⟨hc, hs⟩ htr hsh hst hli hta him (tb_of q0 q1 n2) w1 w2⟩
      | succ lv =>
        obtain ⟨dir, c, all2, P2, L2, R2, S2, A2, many2, rdv2, f1, f2, f3, f4, f5⟩ := first_ok (P := P') (L := L') (R := R') (S := S') (A := A') (rdv := rdv') q0 q1 rfl ixz.1 w3 w4 w5 w6 w7 w8 hm
        obtain ⟨g1, g2⟩ := neg_1c c (by omega)
        cases dir with
        | true =>
          rw [if_pos rfl] at f3 f4
          obtain ⟨V, hV⟩ : ∃ V, V = (-1 : Int32) - nI c := ⟨_, rfl⟩
          rw [← hV] at f3 g1 g2
          have hf : fX6_way cF sF (Mc.1 8) (Mc.1 9) (Mc.1 10) (Mc.1 11) (Mc.1 12) (Mc.1 27) (nI q) (Mc.2.2 42) (Mc.2.2 43) (nI s) (nI 1) = some (nI (100 + c), u', b', l', t', qu', hh', nI z) := by
            unfold fX6_way
            simp (disch := omega) only [Option.bind_some, Sum.elim_inl, Sum.elim_inr, q_le, q_nle, q_lt, q_nlt, q_eq, q_ne, q_m1, q_m5, rd_n, wr_n, ixo_n, dvo_n, rmo_n, nI_add, pk_sub, pk_mul, if_true, if_false, e1, s1, c1, htf', f3, if_pos g1, g2]
          have hm : fX7_way (Mr.1 1) (Mr.1 2) (Mr.1 10) (Mr.1 11) (Mr.1 12) (Mr.1 13) (Mr.1 14) (Mr.1 15) (Mr.1 16) (Mr.1 17) (nI (szF q)) (nI (dcF q)) (Mr.2.2 48) (Mr.2.2 49) (Mr.2.2 50) (nI s) (nI 1) = some (nI (100 + c), all2, P2, L2, R2, S2, A2, d', qq', many2, nI (szF q), rdv2) := by
            unfold fX7_way
            simp (disch := omega) only [Option.bind_some, Sum.elim_inl, Sum.elim_inr, q_le, q_nle, q_lt, q_nlt, q_eq, q_ne, q_m1, q_m5, rd_n, wr_n, ixo_n, dvo_n, rmo_n, nI_add, pk_sub, pk_mul, if_true, if_false, e2, e3, e4, s3, m1, f4]
          exact ⟨_, _, hf, hm, rfl, rel_mk ⟨hc, hs⟩ htr hsh hst hli hta him (tb_of q0 q1 f5) w1 w2⟩
        | false =>
          rw [if_neg Bool.false_ne_true] at f3 f4
          have hf : fX6_way cF sF (Mc.1 8) (Mc.1 9) (Mc.1 10) (Mc.1 11) (Mc.1 12) (Mc.1 27) (nI q) (Mc.2.2 42) (Mc.2.2 43) (nI s) (nI 1) = some (nI c, u', b', l', t', qu', hh', nI z) := by
            unfold fX6_way
            simp (disch := omega) only [Option.bind_some, Sum.elim_inl, Sum.elim_inr, q_le, q_nle, q_lt, q_nlt, q_eq, q_ne, q_m1, q_m5, rd_n, wr_n, ixo_n, dvo_n, rmo_n, nI_add, pk_sub, pk_mul, if_true, if_false, e1, s1, c1, htf', f3]
          have hm : fX7_way (Mr.1 1) (Mr.1 2) (Mr.1 10) (Mr.1 11) (Mr.1 12) (Mr.1 13) (Mr.1 14) (Mr.1 15) (Mr.1 16) (Mr.1 17) (nI (szF q)) (nI (dcF q)) (Mr.2.2 48) (Mr.2.2 49) (Mr.2.2 50) (nI s) (nI 1) = some (nI c, all2, P2, L2, R2, S2, A2, d', qq', many2, nI (szF q), rdv2) := by
            unfold fX7_way
            simp (disch := omega) only [Option.bind_some, Sum.elim_inl, Sum.elim_inr, q_le, q_nle, q_lt, q_nlt, q_eq, q_ne, q_m1, q_m5, rd_n, wr_n, ixo_n, dvo_n, rmo_n, nI_add, pk_sub, pk_mul, if_true, if_false, e2, e3, e4, s3, m1, f4]
          exact ⟨_, _, hf, hm, rfl, rel_mk ⟨hc, hs⟩ htr hsh hst hli hta him (tb_of q0 q1 f5) w1 w2⟩
theorem msd_l {l l' t : Nat → Int32} {ms : Int32} (h : MSD l t ms) (hl : ∀ m, l m = nI 1 → l' m = nI 1) : MSD l' t ms := by
  rcases h with h | ⟨p, i, h1, h2, h3, h4, h5, h6, h7⟩
  · exact Or.inl h
  · exact Or.inr ⟨p, i, h1, h2, h3, hl _ h4, h5, h6, h7⟩
theorem al_chain : Al_chain Rel := by
  intro Mc Mr u1 u2 h
  obtain ⟨⟨hc, hs⟩, htr, hsh, hst, hli, hta, him, htb, hwy, hms⟩ := h
  obtain ⟨q, q0, q1, eqq, en, et⟩ := id htr
  have q2 := (sz_pos q1 q0).1
  have q3 := sz_le q1
  rw [hc, hs, eqq, en, et]
  have hn8 : szF q < 8 := by omega
  rcases ref_t q1 hsh u1 u2 with ⟨r, hr, e1, hm⟩ | ⟨s, z, j, h4, rfl, hj, rfl, z0, z1, hz, s1, s2, s3, e1, e2, e3, e4⟩
  · have hf : fX6_chain cF sF (Mc.1 8) (Mc.1 9) (Mc.1 10) (Mc.1 13) (Mc.1 27) (nI q) u1 u2 = some (r, Mc.1 8, Mc.1 9, Mc.1 10, Mc.1 13) := by
      unfold fX6_chain
      simp (disch := omega) only [Option.bind_some, Sum.elim_inl, Sum.elim_inr, q_le, q_nle, q_lt, q_nlt, q_eq, q_ne, q_m1, q_m5, rd_n, wr_n, ixo_n, dvo_n, rmo_n, nI_add, pk_sub, pk_mul, if_true, if_false, e1, if_neg hr]
    have hm : fX7_chain (Mr.1 1) (Mr.1 2) (Mr.1 10) (Mr.1 11) (Mr.1 12) (Mr.1 13) (Mr.1 14) (Mr.1 15) (Mr.1 16) (Mr.1 17) (nI (szF q)) (nI (dcF q)) (Mr.2.2 48) (Mr.2.2 49) (Mr.2.2 50) u1 u2 = some (r, Mr.1 10, Mr.1 11, Mr.1 12, Mr.1 13, Mr.1 14, Mr.1 15, Mr.1 16, Mr.1 17, Mr.2.2 48, Mr.2.2 49, Mr.2.2 50) := by
      unfold fX7_chain
      rcases hm with ⟨m1, rfl⟩ | ⟨m1, m2, rfl⟩ | ⟨m1, m2, m3⟩
      · simp (disch := omega) only [Option.bind_some, Sum.elim_inl, Sum.elim_inr, q_le, q_nle, q_lt, q_nlt, q_eq, q_ne, q_m1, q_m5, rd_n, wr_n, ixo_n, dvo_n, rmo_n, nI_add, pk_sub, pk_mul, if_true, if_false, m1]
      · simp (disch := omega) only [Option.bind_some, Sum.elim_inl, Sum.elim_inr, q_le, q_nle, q_lt, q_nlt, q_eq, q_ne, q_m1, q_m5, rd_n, wr_n, ixo_n, dvo_n, rmo_n, nI_add, pk_sub, pk_mul, if_true, if_false, m1, m2]
      · simp (disch := omega) only [Option.bind_some, Sum.elim_inl, Sum.elim_inr, q_le, q_nle, q_lt, q_nlt, q_eq, q_ne, q_m1, q_m5, rd_n, wr_n, ixo_n, dvo_n, rmo_n, nI_add, pk_sub, pk_mul, if_true, if_false, m1, m2, m3, if_neg hr]
    exact ⟨_, _, hf, hm, rfl, rel_mk ⟨hc, hs⟩ htr hsh hst hli hta him htb hwy hms⟩
  · have cb := c_isBelow q1 z1 hz
    have mb := m_bel q1 z1 rfl hz
    have ix := pl_ix q0 q1
    have ixz := pl_ix z0 z1
    rw [hz] at ixz
    cases hb : belB q z with
    | false =>
      rw [hb] at cb mb
      have hf : fX6_chain cF sF (Mc.1 8) (Mc.1 9) (Mc.1 10) (Mc.1 13) (Mc.1 27) (nI q) (nI s) (nI j) = some ((-5 : Int32), Mc.1 8, Mc.1 9, Mc.1 10, Mc.1 13) := by
        unfold fX6_chain
        simp (disch := omega) only [Option.bind_some, Sum.elim_inl, Sum.elim_inr, q_le, q_nle, q_lt, q_nlt, q_eq, q_ne, q_m1, q_m5, rd_n, wr_n, ixo_n, dvo_n, rmo_n, nI_add, pk_sub, pk_mul, if_true, if_false, e1, s1, cb, q_bf]
      have hm : fX7_chain (Mr.1 1) (Mr.1 2) (Mr.1 10) (Mr.1 11) (Mr.1 12) (Mr.1 13) (Mr.1 14) (Mr.1 15) (Mr.1 16) (Mr.1 17) (nI (szF q)) (nI (dcF q)) (Mr.2.2 48) (Mr.2.2 49) (Mr.2.2 50) (nI s) (nI j) = some ((-5 : Int32), Mr.1 10, Mr.1 11, Mr.1 12, Mr.1 13, Mr.1 14, Mr.1 15, Mr.1 16, Mr.1 17, Mr.2.2 48, Mr.2.2 49, Mr.2.2 50) := by
        unfold fX7_chain
        simp (disch := omega) only [Option.bind_some, Sum.elim_inl, Sum.elim_inr, q_le, q_nle, q_lt, q_nlt, q_eq, q_ne, q_m1, q_m5, rd_n, wr_n, ixo_n, dvo_n, rmo_n, nI_add, pk_sub, pk_mul, if_true, if_false, e2, e3, e4, s3, mb, q_bf]
      exact ⟨_, _, hf, hm, rfl, rel_mk ⟨hc, hs⟩ htr hsh hst hli hta him htb hwy hms⟩
    | true =>
      rw [hb] at cb mb
      have hle := bel_le q0 q1 z0 z1 hz hb
      obtain ⟨all1, many1, t1, t2⟩ := m_table q2 hn8 htb
      by_cases j0 : j = 0
      · subst j0
        obtain ⟨u', b', l', tu', k1, k2, k3⟩ := c_alone (most := false) (tu := Mc.1 13) q0 q1 z0 z1 rfl hz hle hwy
        have k1' : fX5_turnsUpAlone cF sF (Mc.1 8) (Mc.1 9) (Mc.1 10) (Mc.1 13) (nI q) (nI z) (nI 0) = some (oI (dp false (szF q) (q - fstF (szF q)) (cntF (szF q)) (z - fstF (szF q))), u', b', l', tu') := k1
        obtain ⟨all', P', L', R', S', A', d', qq', many', rdv', i, m1, m2, m3, m4⟩ := m_measure (full := false) (P := Mr.1 11) (L := Mr.1 12) (R := Mr.1 13) (S := Mr.1 14) (A := Mr.1 15) (d := Mr.1 16) (q := Mr.1 17) (rdv := Mr.2.2 50) q0 q1 rfl (tb_of q0 q1 t2)
        have m1' : fX7_measure all1 (Mr.1 11) (Mr.1 12) (Mr.1 13) (Mr.1 14) (Mr.1 15) (Mr.1 16) (Mr.1 17) (nI (szF q)) many1 (nI (szF q)) (Mr.2.2 50) (nI (dcF q)) (nI 1) = some (all', P', L', R', S', A', d', qq', many', nI (szF q), rdv') := m1
        obtain ⟨all2, many2, n1, n2⟩ := m_numP z0 z1 hz m2
        have hd : d' (z - fstF (szF q)) = oI (dp false (szF q) (q - fstF (szF q)) (cntF (szF q)) (z - fstF (szF q))) := by
          rw [m4 _ ixz.1, dp_bf q2 hn8 ix.1 m3 _ ixz.1]
        have cl := cnt_le _ hn8
        have hf : fX6_chain cF sF (Mc.1 8) (Mc.1 9) (Mc.1 10) (Mc.1 13) (Mc.1 27) (nI q) (nI s) (nI 0) = some (oI (dp false (szF q) (q - fstF (szF q)) (cntF (szF q)) (z - fstF (szF q))), u', b', l', tu') := by
          unfold fX6_chain fX6_chain_J60
          simp (disch := omega) only [Option.bind_some, Sum.elim_inl, Sum.elim_inr, q_le, q_nle, q_lt, q_nlt, q_eq, q_ne, q_m1, q_m5, rd_n, wr_n, ixo_n, dvo_n, rmo_n, nI_add, pk_sub, pk_mul, if_true, if_false, e1, s1, cb, q_bt, k1']
        have hm : fX7_chain (Mr.1 1) (Mr.1 2) (Mr.1 10) (Mr.1 11) (Mr.1 12) (Mr.1 13) (Mr.1 14) (Mr.1 15) (Mr.1 16) (Mr.1 17) (nI (szF q)) (nI (dcF q)) (Mr.2.2 48) (Mr.2.2 49) (Mr.2.2 50) (nI s) (nI 0) = some (oI (dp false (szF q) (q - fstF (szF q)) (cntF (szF q)) (z - fstF (szF q))), all2, P', L', R', S', A', d', qq', many2, nI (szF q), rdv') := by
          unfold fX7_chain
          simp (disch := omega) only [Option.bind_some, Sum.elim_inl, Sum.elim_inr, q_le, q_nle, q_lt, q_nlt, q_eq, q_ne, q_m1, q_m5, rd_n, wr_n, ixo_n, dvo_n, rmo_n, nI_add, pk_sub, pk_mul, if_true, if_false, e2, e3, e4, s3, mb, q_bt, t1, m1', n1, hd]
        exact ⟨_, _, hf, hm, rfl, rel_mk ⟨hc, hs⟩ htr hsh hst hli hta him (tb_of q0 q1 n2) k2 (msd_l hms k3)⟩
      · have j1 : j = 1 := by omega
        subst j1
        obtain ⟨u', b', l', tu', k1, k2, k3⟩ := c_alone (most := true) (tu := Mc.1 13) q0 q1 z0 z1 rfl hz hle hwy
        have k1' : fX5_turnsUpAlone cF sF (Mc.1 8) (Mc.1 9) (Mc.1 10) (Mc.1 13) (nI q) (nI z) (nI 1) = some (oI (dp true (szF q) (q - fstF (szF q)) (cntF (szF q)) (z - fstF (szF q))), u', b', l', tu') := k1
        obtain ⟨all', P', L', R', S', A', qu', many', rdv', m1, m2⟩ := m_longest (P := Mr.1 11) (L := Mr.1 12) (R := Mr.1 13) (S := Mr.1 14) (A := Mr.1 15) (qu := Mr.1 17) (rdv := Mr.2.2 50) q0 q1 z0 z1 rfl hz t2
        have hf : fX6_chain cF sF (Mc.1 8) (Mc.1 9) (Mc.1 10) (Mc.1 13) (Mc.1 27) (nI q) (nI s) (nI 1) = some (oI (dp true (szF q) (q - fstF (szF q)) (cntF (szF q)) (z - fstF (szF q))), u', b', l', tu') := by
          unfold fX6_chain fX6_chain_J60
          simp (disch := omega) only [Option.bind_some, Sum.elim_inl, Sum.elim_inr, q_le, q_nle, q_lt, q_nlt, q_eq, q_ne, q_m1, q_m5, rd_n, wr_n, ixo_n, dvo_n, rmo_n, nI_add, pk_sub, pk_mul, if_true, if_false, e1, s1, cb, q_bt, k1']
        have hm : fX7_chain (Mr.1 1) (Mr.1 2) (Mr.1 10) (Mr.1 11) (Mr.1 12) (Mr.1 13) (Mr.1 14) (Mr.1 15) (Mr.1 16) (Mr.1 17) (nI (szF q)) (nI (dcF q)) (Mr.2.2 48) (Mr.2.2 49) (Mr.2.2 50) (nI s) (nI 1) = some (oI (dp true (szF q) (q - fstF (szF q)) (cntF (szF q)) (z - fstF (szF q))), all', P', L', R', S', A', Mr.1 16, qu', many', nI (szF q), rdv') := by
          unfold fX7_chain
          simp (disch := omega) only [Option.bind_some, Sum.elim_inl, Sum.elim_inr, q_le, q_nle, q_lt, q_nlt, q_eq, q_ne, q_m1, q_m5, rd_n, wr_n, ixo_n, dvo_n, rmo_n, nI_add, pk_sub, pk_mul, if_true, if_false, e2, e3, e4, s3, mb, q_bt, t1, m1]
        exact ⟨_, _, hf, hm, rfl, rel_mk ⟨hc, hs⟩ htr hsh hst hli hta him (tb_of q0 q1 m2) k2 (msd_l hms k3)⟩
