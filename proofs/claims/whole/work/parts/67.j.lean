/-! alike: films -/
theorem dir_i (dir : Bool) (c : Nat) : (if dir then (-1 : Int32) - nI c else nI c).toInt64 = toL dir c := by cases dir <;> rfl
theorem al_film : Al_film Rel := by
  intro Mc Mr u1 u2 h
  obtain ⟨⟨hc, hs⟩, htr, hsh, hst, hli, hta, him, htb, hwy, hms⟩ := h
  obtain ⟨q, q0, q1, eqq, en, et⟩ := id htr
  have q2 := (sz_pos q1 q0).1
  have q3 := sz_le q1
  rw [hc, hs, eqq, en, et]
  have hn8 : szF q < 8 := by omega
  rcases list_c hli u1 with ⟨l1, l2⟩ | ⟨sl, h3, rfl, l1, l2, _, _, _⟩
  · have hf : fX6_film cF sF (Mc.1 8) (Mc.1 9) (Mc.1 10) (Mc.1 11) (Mc.1 12) (Mc.1 21) (Mc.1 27) Mc.2.1 (nI q) (Mc.2.2 42) (Mc.2.2 43) u1 u2 = some ((-1 : Int32), Mc.1 8, Mc.1 9, Mc.1 10, Mc.1 11, Mc.1 12, Mc.1 21, Mc.2.1, Mc.2.2 42, Mc.2.2 43) := by
      unfold fX6_film
      simp (disch := omega) only [Option.bind_some, Sum.elim_inl, Sum.elim_inr, q_le, q_nle, q_lt, q_nlt, q_eq, q_ne, q_m1, q_m5, rd_n, wr_n, ixo_n, dvo_n, rmo_n, nI_add, pk_sub, pk_mul, if_true, if_false, l1]
    have hm : fX7_film (Mr.1 1) (Mr.1 2) (Mr.1 6) (Mr.1 10) (Mr.1 11) (Mr.1 12) (Mr.1 13) (Mr.1 14) (Mr.1 15) (Mr.1 16) (Mr.1 17) Mr.2.1 (nI (szF q)) (nI (dcF q)) (Mr.2.2 48) (Mr.2.2 49) (Mr.2.2 50) u1 u2 = some ((-1 : Int32), Mr.1 6, Mr.1 10, Mr.1 11, Mr.1 12, Mr.1 13, Mr.1 14, Mr.1 15, Mr.1 16, Mr.1 17, Mr.2.1, Mr.2.2 48, Mr.2.2 49, Mr.2.2 50) := by
      unfold fX7_film
      simp (disch := omega) only [Option.bind_some, Sum.elim_inl, Sum.elim_inr, q_le, q_nle, q_lt, q_nlt, q_eq, q_ne, q_m1, q_m5, rd_n, wr_n, ixo_n, dvo_n, rmo_n, nI_add, pk_sub, pk_mul, if_true, if_false, l2]
    exact ⟨_, _, hf, hm, rfl, rel_mk ⟨hc, hs⟩ htr hsh hst hli hta him htb hwy hms⟩
  · rcases ref_2 q1 hsh u2 with ⟨r, hr, e1, hm⟩ | ⟨s, z, h4, rfl, z0, z1, hz, s1, s2, s3, e1, e2, e4⟩
    · have hf : fX6_film cF sF (Mc.1 8) (Mc.1 9) (Mc.1 10) (Mc.1 11) (Mc.1 12) (Mc.1 21) (Mc.1 27) Mc.2.1 (nI q) (Mc.2.2 42) (Mc.2.2 43) (nI sl) u2 = some (r, Mc.1 8, Mc.1 9, Mc.1 10, Mc.1 11, Mc.1 12, Mc.1 21, Mc.2.1, Mc.2.2 42, Mc.2.2 43) := by
        unfold fX6_film
        simp (disch := omega) only [Option.bind_some, Sum.elim_inl, Sum.elim_inr, q_le, q_nle, q_lt, q_nlt, q_eq, q_ne, q_m1, q_m5, rd_n, wr_n, ixo_n, dvo_n, rmo_n, nI_add, pk_sub, pk_mul, if_true, if_false, l1, e1, if_neg hr]
      have hm : fX7_film (Mr.1 1) (Mr.1 2) (Mr.1 6) (Mr.1 10) (Mr.1 11) (Mr.1 12) (Mr.1 13) (Mr.1 14) (Mr.1 15) (Mr.1 16) (Mr.1 17) Mr.2.1 (nI (szF q)) (nI (dcF q)) (Mr.2.2 48) (Mr.2.2 49) (Mr.2.2 50) (nI sl) u2 = some (r, Mr.1 6, Mr.1 10, Mr.1 11, Mr.1 12, Mr.1 13, Mr.1 14, Mr.1 15, Mr.1 16, Mr.1 17, Mr.2.1, Mr.2.2 48, Mr.2.2 49, Mr.2.2 50) := by
        unfold fX7_film
        rcases hm with ⟨m1, rfl⟩ | ⟨m1, m2⟩
        · simp (disch := omega) only [Option.bind_some, Sum.elim_inl, Sum.elim_inr, q_le, q_nle, q_lt, q_nlt, q_eq, q_ne, q_m1, q_m5, rd_n, wr_n, ixo_n, dvo_n, rmo_n, nI_add, pk_sub, pk_mul, if_true, if_false, l2, m1]
        · simp (disch := omega) only [Option.bind_some, Sum.elim_inl, Sum.elim_inr, q_le, q_nle, q_lt, q_nlt, q_eq, q_ne, q_m1, q_m5, rd_n, wr_n, ixo_n, dvo_n, rmo_n, nI_add, pk_sub, pk_mul, if_true, if_false, l2, m1, m2, if_neg hr]
      exact ⟨_, _, hf, hm, rfl, rel_mk ⟨hc, hs⟩ htr hsh hst hli hta him htb hwy hms⟩
    · obtain ⟨u', b', l', t', qu', hh', all', P', L', R', S', A', d', qq', many', rdv', i0, c1, m1, w1, w2, w3, w4, w5, w6, w7, w8⟩ := meas_ok (q := Mc.1 12) (h := Mc.2.2 42) (P := Mr.1 11) (L := Mr.1 12) (R := Mr.1 13) (S := Mr.1 14) (A := Mr.1 15) (d := Mr.1 16) (qq := Mr.1 17) (rdv := Mr.2.2 50) z0 z1 hz hwy hms htb
      have ixz := pl_ix z0 z1
      rw [hz] at ixz
      have ix := pl_ix q0 q1
      obtain ⟨m, hm4, hm⟩ := w6 (q - fstF (szF q)) ix.1
      have htf := c_tf w7.1 (w := q) (Or.inr ⟨q0, q1, rfl⟩)
      rw [if_neg (by omega), hm] at htf
      have htf' : fX5_turnsFrom t' (nI q) = some (nI m) := htf
      have cl := cnt_le _ hn8
      obtain ⟨all2, many2, n1, n2⟩ := m_which q0 q1 (tb_of q0 q1 w4)
      have hd : d' (q - fstF (szF q)) = nI m := by
        rw [w8 _ ix.1, hm]
        rfl
      by_cases h20 : m ≤ 20
      · have hv2 : nI m = (-1 : Int32) ∨ ∃ n, n ≤ 20 ∧ nI m = nI n := Or.inr ⟨m, h20, rfl⟩
        have hrn := renew_ok (C := Mc.1 21) (lo := Mc.2.1) h3 hv2
        obtain ⟨lo', k1, k2⟩ := makes_ok (R := Mr.1 6) (lo := Mr.2.1) (v := nI m) h3
        have hl0 := li_new hli hv2 k2
        have hCs : upd (Mc.1 21) sl (nI m) sl = nI m := upd_s
        obtain ⟨y, y', r1, r2, all3, P3, L3, R3, S3, A3, lr3, many3, rdv3, rfl, hT3, hL3⟩ := it_two (B := fX6_film_B76 cF sF u' b' t' (upd (Mc.1 21) sl (nI m)) (nI sl) (nI m)) (B' := fX7_film_B76 d' (nI (szF q)) (nI sl) (nI m)) (x0 := (nI q, nI 0, pu Mc.2.1 [(sl, fillF 20 (0 : Int64) (Mc.2.1 sl))])) (x0' := (nI (dcF q), nI 0, all2, P', L', R', S', A', lo', many2, nI (szF q), rdv'))
          (fun i x x' => ∃ p lc all P L R S A lr many rdv, 0 < p ∧ p < 626 ∧ szF p = szF q ∧ (bf true (szF q) (z - fstF (szF q)) i0).1 (p - fstF (szF q)) = some (m - i) ∧ x = (nI p, nI i, lc) ∧ x' = (nI (dcF p), nI i, all, P, L, R, S, A, lr, many, nI (szF q), rdv) ∧ TBn (szF q) all many ∧ LiR (upd (Mc.1 21) sl (nI m)) (upd (Mr.1 6) sl (nI m)) lc lr)
          (fun y y' => ∃ all P L R S A lr many rdv, y' = (all, P, L, R, S, A, lr, many, nI (szF q), rdv) ∧ TBn (szF q) all many ∧ LiR (upd (Mc.1 21) sl (nI m)) (upd (Mr.1 6) sl (nI m)) y lr) m (by omega)
          ⟨q, _, _, _, _, _, _, _, _, _, _, q0, q1, rfl, hm, rfl, rfl, n2, hl0⟩ (by
            rintro i x x' hi ⟨p, lc, all, P, L, R, S, A, lr, many, rdv, p0, p1, p2, hD, rfl, rfl, hT, hLi⟩
            by_cases him' : i = m
            · subst him'
              refine Or.inr ⟨lc, (all, P, L, R, S, A, lr, many, nI (szF q), rdv), ?_, ?_, all, P, L, R, S, A, lr, many, rdv, rfl, hT, hLi⟩
              · unfold fX6_film_B76
                simp (disch := omega) only [Option.bind_some, Sum.elim_inl, Sum.elim_inr, q_le, q_nle, q_lt, q_nlt, q_eq, q_ne, q_m1, q_m5, rd_n, wr_n, ixo_n, dvo_n, rmo_n, nI_add, pk_sub, pk_mul, if_true, if_false]
              · unfold fX7_film_B76
                simp (disch := omega) only [Option.bind_some, Sum.elim_inl, Sum.elim_inr, q_le, q_nle, q_lt, q_nlt, q_eq, q_ne, q_m1, q_m5, rd_n, wr_n, ixo_n, dvo_n, rmo_n, nI_add, pk_sub, pk_mul, if_true, if_false]
            · have i1 : i < m := by omega
              rw [show m - i = (m - i - 1) + 1 by omega] at hD
              obtain ⟨dir, c, all4, P4, L4, R4, S4, A4, many4, rdv4, f1, f2, f3, f4, f5⟩ := first_ok (P := P) (L := L) (R := R) (S := S) (A := A) (rdv := rdv) p0 p1 p2 ixz.1 w3 hT w5 w6 w7 w8 hD
              have hcp : c < szF p := by omega
              have hst1 := st_y (C := upd (Mc.1 21) sl (nI m)) (lo := lc) (x := toL dir c) h3 hCs h20 i1
              have htd := told_y dir p1 hcp
              have hok : okW (szF p) (dirW dir p c) := by
                cases dir with
                | true => exact ok_bk p0 p1 rfl hcp
                | false => exact ok_up p0 p1 rfl hcp
              have hw0 : dirW dir p c ≠ 0 := f2.1
              have hc6 : fX6_film_B76 cF sF u' b' t' (upd (Mc.1 21) sl (nI m)) (nI sl) (nI m) (nI p, nI i, lc) = some (.inl (nI (dirW dir p c), nI (i + 1), pu lc [(sl, vp_updL (lc sl) i (toL dir c))])) := by
                unfold fX6_film_B76
                dsimp only
                rw [if_neg (nI_ge i1 (by omega)), f3, Option.bind_some, dir_i, hst1, Option.bind_some, htd, Option.bind_some, nI_add]
              have hm7 : ∃ P5 L5 R5 S5 A5 rdv5, fX7_film_B76 d' (nI (szF q)) (nI sl) (nI m) (nI (dcF p), nI i, all, P, L, R, S, A, lr, many, nI (szF q), rdv) = some (.inl (nI (dcF (dirW dir p c)), nI (i + 1), all4, P5, L5, R5, S5, A5, pu lr [(0, vp_updL (lr 0) (20 * sl + i) (toL dir c))], many4, nI (szF q), rdv5)) := by
                cases dir with
                | true =>
                  obtain ⟨P5, L5, R5, S5, A5, e⟩ := m_down p0 p1 hcp P4 L4 R4 S4 A4 rdv4
                  rw [gt_n (show bkF p c ≠ 0 from hw0), p2] at e
                  rw [if_pos rfl] at f4
                  refine ⟨P5, L5, R5, S5, A5, nI (roF p), ?_⟩
                  unfold fX7_film_B76 fX7_film_J127 fX7_film_J162
                  dsimp only
                  rw [if_neg (nI_ge i1 (by omega)), f4, Option.bind_some]
                  dsimp only
                  rw [rmo_n (by omega) (by omega) (by omega), Option.bind_some, show (100 + c) % 100 = c by omega, if_pos (nI_le (by omega) (by omega)), pk_mul, nI_add, wrL_n (by omega) (by omega), Option.bind_some, if_pos (nI_le (by omega) (by omega)), e, Option.bind_some, nI_add]
                  rfl
                | false =>
                  obtain ⟨P5, L5, R5, S5, A5, e⟩ := m_up p0 p1 hcp P4 L4 R4 S4 A4 rdv4
                  rw [gt_n (show upF p c ≠ 0 from hw0), p2] at e
                  rw [if_neg Bool.false_ne_true] at f4
                  refine ⟨P5, L5, R5, S5, A5, nI (roF p), ?_⟩
                  unfold fX7_film_B76 fX7_film_J127 fX7_film_J162
                  dsimp only
                  rw [if_neg (nI_ge i1 (by omega)), f4, Option.bind_some]
                  dsimp only
                  rw [rmo_n (by omega) (by omega) (by omega), Option.bind_some, show c % 100 = c by omega, if_neg (nI_ge (by omega) (by omega)), pk_mul, nI_add, wrL_n (by omega) (by omega), Option.bind_some, if_neg (nI_ge (by omega) (by omega)), e, Option.bind_some, nI_add]
                  rfl
              obtain ⟨P5, L5, R5, S5, A5, rdv5, hm7⟩ := hm7
              have hDw := f2.2
              generalize dirW dir p c = w at hc6 hm7 hok hw0 hDw
              rcases hok with rfl | ⟨w0, wl, wz⟩
              · exact absurd rfl hw0
              · exact Or.inl ⟨_, _, hc6, hm7, i1, w, _, _, _, _, _, _, _, _, _, _, w0, wl, by rw [wz, p2], by rw [hDw, Nat.sub_sub], rfl, rfl, f5, li_put hLi h3 (by omega)⟩)
        have hf : fX6_film cF sF (Mc.1 8) (Mc.1 9) (Mc.1 10) (Mc.1 11) (Mc.1 12) (Mc.1 21) (Mc.1 27) Mc.2.1 (nI q) (Mc.2.2 42) (Mc.2.2 43) (nI sl) (nI s) = some (nI m, u', b', l', t', qu', upd (Mc.1 21) sl (nI m), y, hh', nI z) := by
          unfold fX6_film
          simp (disch := omega) only [Option.bind_some, Sum.elim_inl, Sum.elim_inr, q_le, q_nle, q_lt, q_nlt, q_eq, q_ne, q_m1, q_m5, rd_n, wr_n, ixo_n, dvo_n, rmo_n, nI_add, pk_sub, pk_mul, if_true, if_false, l1, e1, s1, c1, htf', hrn, r1]
        have hm : fX7_film (Mr.1 1) (Mr.1 2) (Mr.1 6) (Mr.1 10) (Mr.1 11) (Mr.1 12) (Mr.1 13) (Mr.1 14) (Mr.1 15) (Mr.1 16) (Mr.1 17) Mr.2.1 (nI (szF q)) (nI (dcF q)) (Mr.2.2 48) (Mr.2.2 49) (Mr.2.2 50) (nI sl) (nI s) = some (nI m, upd (Mr.1 6) sl (nI m), all3, P3, L3, R3, S3, A3, d', qq', lr3, many3, nI (szF q), rdv3) := by
          unfold fX7_film
          simp (disch := omega) only [Option.bind_some, Sum.elim_inl, Sum.elim_inr, q_le, q_nle, q_lt, q_nlt, q_eq, q_ne, q_m1, q_m5, rd_n, wr_n, ixo_n, dvo_n, rmo_n, nI_add, pk_sub, pk_mul, if_true, if_false, l2, e2, e4, s3, m1, n1, hd, k1, r2]
        exact ⟨_, _, hf, hm, rfl, rel_mk ⟨hc, hs⟩ htr hsh hst hL3 hta him (tb_of q0 q1 hT3) w1 w2⟩
      · have hf : fX6_film cF sF (Mc.1 8) (Mc.1 9) (Mc.1 10) (Mc.1 11) (Mc.1 12) (Mc.1 21) (Mc.1 27) Mc.2.1 (nI q) (Mc.2.2 42) (Mc.2.2 43) (nI sl) (nI s) = some ((-4 : Int32), u', b', l', t', qu', Mc.1 21, Mc.2.1, hh', nI z) := by
          unfold fX6_film
          simp (disch := omega) only [Option.bind_some, Sum.elim_inl, Sum.elim_inr, q_le, q_nle, q_lt, q_nlt, q_eq, q_ne, q_m1, q_m5, rd_n, wr_n, ixo_n, dvo_n, rmo_n, nI_add, pk_sub, pk_mul, if_true, if_false, l1, e1, s1, c1, htf']
        have hm : fX7_film (Mr.1 1) (Mr.1 2) (Mr.1 6) (Mr.1 10) (Mr.1 11) (Mr.1 12) (Mr.1 13) (Mr.1 14) (Mr.1 15) (Mr.1 16) (Mr.1 17) Mr.2.1 (nI (szF q)) (nI (dcF q)) (Mr.2.2 48) (Mr.2.2 49) (Mr.2.2 50) (nI sl) (nI s) = some ((-4 : Int32), Mr.1 6, all2, P', L', R', S', A', d', qq', Mr.2.1, many2, nI (szF q), rdv') := by
          unfold fX7_film
          simp (disch := omega) only [Option.bind_some, Sum.elim_inl, Sum.elim_inr, q_le, q_nle, q_lt, q_nlt, q_eq, q_ne, q_m1, q_m5, rd_n, wr_n, ixo_n, dvo_n, rmo_n, nI_add, pk_sub, pk_mul, if_true, if_false, l2, e2, e4, s3, m1, n1, hd]
        exact ⟨_, _, hf, hm, rfl, rel_mk ⟨hc, hs⟩ htr hsh hst hli hta him (tb_of q0 q1 n2) w1 w2⟩
