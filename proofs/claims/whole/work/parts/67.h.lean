/-! alike: lists, bytes, image -/
theorem puL_s {lo : Nat → Nat → Int64} {s : Nat} {f : Nat → Int64} : pu lo [(s, f)] s = f := if_pos rfl
theorem puL_n {lo : Nat → Nat → Int64} {s l : Nat} {f : Nat → Int64} (h : l ≠ s) : pu lo [(s, f)] l = lo l := if_neg h
theorem list_c {C R : Nat → Int32} {lc lr : Nat → Nat → Int64} (H : LiR C R lc lr) (v : Int32) : (fX1_isList v = some (nI 0) ∧ fX7_isList v = some (nI 0)) ∨ ∃ s, s < 3 ∧ v = nI s ∧ fX1_isList v = some (nI 1) ∧ fX7_isList v = some (nI 1) ∧ fX1_lengthOf C v = some (C s) ∧ R s = C s ∧ (C s = (-1 : Int32) ∨ ∃ n, n ≤ 20 ∧ C s = nI n) := by
  rcases rng_c v 3 with ⟨s, h3, rfl⟩ | ho
  · obtain ⟨l1, l2⟩ := li_y s h3
    obtain ⟨h1, h2⟩ := H.1 s h3
    refine Or.inr ⟨s, h3, rfl, l1, l2, ?_, h1, h2⟩
    unfold fX1_lengthOf
    simp (disch := omega) only [Option.bind_some, Sum.elim_inl, Sum.elim_inr, q_le, q_nle, q_lt, q_nlt, q_eq, q_ne, q_m1, q_m5, rd_n, wr_n, ixo_n, dvo_n, rmo_n, nI_add, pk_sub, pk_mul, if_true, if_false, l1]
  · exact Or.inl (li_n ho)
theorem ip_y {C : Nat → Int32} {s i n : Nat} (h3 : s < 3) (e : C s = nI n) (hn : n ≤ 20) (hi : i < n) : fX1_isPlace C (nI s) (nI i) = some (nI 1) := by
  unfold fX1_isPlace fX1_lengthOf
  simp (disch := omega) only [Option.bind_some, Sum.elim_inl, Sum.elim_inr, q_le, q_nle, q_lt, q_nlt, q_eq, q_ne, q_m1, q_m5, rd_n, wr_n, ixo_n, dvo_n, rmo_n, nI_add, pk_sub, pk_mul, if_true, if_false, (li_y s h3).1, e]
theorem ip_n {C : Nat → Int32} {s n : Nat} {v : Int32} (h3 : s < 3) (e : C s = nI n) (hn : n ≤ 20) (h : v < nI 0 ∨ ∃ k, n ≤ k ∧ k < 2147483648 ∧ v = nI k) : fX1_isPlace C (nI s) v = some (nI 0) := by
  unfold fX1_isPlace fX1_lengthOf
  rcases h with h | ⟨k, h1, h2, rfl⟩
  · rw [if_pos h]
  · simp (disch := omega) only [Option.bind_some, Sum.elim_inl, Sum.elim_inr, q_le, q_nle, q_lt, q_nlt, q_eq, q_ne, q_m1, q_m5, rd_n, wr_n, ixo_n, dvo_n, rmo_n, nI_add, pk_sub, pk_mul, if_true, if_false, (li_y s h3).1, e]
theorem ip_0 {C : Nat → Int32} {v w : Int32} (e : fX1_lengthOf C v = some (-1 : Int32)) : fX1_isPlace C v w = some (nI 0) := by
  unfold fX1_isPlace
  rw [e, Option.bind_some]
  rcases i_cases w with ⟨k, hk, rfl⟩ | h
  · rw [if_neg (nI_nlt (by omega) (by omega)), if_pos (m1_le hk)]
  · rw [if_pos h]
theorem st_y {C : Nat → Int32} {lo : Nat → Nat → Int64} {s i n : Nat} {x : Int64} (h3 : s < 3) (e : C s = nI n) (hn : n ≤ 20) (hi : i < n) : fX1_store C lo (nI s) (nI i) x = some (pu lo [(s, vp_updL (lo s) i x)]) := by
  unfold fX1_store
  simp (disch := omega) only [Option.bind_some, Sum.elim_inl, Sum.elim_inr, q_le, q_nle, q_lt, q_nlt, q_eq, q_ne, q_m1, q_m5, rd_n, wr_n, ixo_n, dvo_n, rmo_n, nI_add, pk_sub, pk_mul, if_true, if_false, ip_y h3 e hn hi, wrL_n]
theorem va_y {C : Nat → Int32} {lo : Nat → Nat → Int64} {s i n : Nat} (h3 : s < 3) (e : C s = nI n) (hn : n ≤ 20) (hi : i < n) : fX1_valueAt C lo (nI s) (nI i) = some (lo s i) := by
  unfold fX1_valueAt
  simp (disch := omega) only [Option.bind_some, Sum.elim_inl, Sum.elim_inr, q_le, q_nle, q_lt, q_nlt, q_eq, q_ne, q_m1, q_m5, rd_n, wr_n, ixo_n, dvo_n, rmo_n, nI_add, pk_sub, pk_mul, if_true, if_false, ip_y h3 e hn hi]
theorem li_put {C R : Nat → Int32} {lc lr : Nat → Nat → Int64} {s i : Nat} {x : Int64} (H : LiR C R lc lr) (hs : s < 3) (hi : i < 20) : LiR C R (pu lc [(s, vp_updL (lc s) i x)]) (pu lr [(0, vp_updL (lr 0) (20 * s + i) x)]) := by
  refine ⟨H.1, fun l j hl hj => ?_⟩
  rw [puL_s]
  by_cases e : l = s
  · subst e
    rw [puL_s]
    unfold vp_updL
    by_cases ej : j = i
    · rw [if_pos ej, if_pos (by omega)]
    · rw [if_neg ej, if_neg (by omega)]
      exact H.2 l j hl hj
  · rw [puL_n e]
    unfold vp_updL
    rw [if_neg (by omega)]
    exact H.2 l j hl hj
theorem makes_ok {R : Nat → Int32} {lo : Nat → Nat → Int64} {s : Nat} {v : Int32} (h3 : s < 3) : ∃ lo', fX7_makes R lo (nI s) v = some (upd R s v, lo') ∧ ∀ k, lo' 0 k = if 20 * s ≤ k ∧ k < 20 * s + 20 then 0 else lo 0 k := by
  obtain ⟨lo', e, h⟩ := it_inv (B := fX7_makes_B9 (nI s)) (x0 := (nI 0, lo)) (fun j x => x.1 = nI j ∧ ∀ k, x.2 0 k = if 20 * s ≤ k ∧ k < 20 * s + j then 0 else lo 0 k) (fun y => ∀ k, y 0 k = if 20 * s ≤ k ∧ k < 20 * s + 20 then 0 else lo 0 k) 20 (by omega) ⟨rfl, fun k => by rw [if_neg (by omega)]⟩ (by
    rintro j ⟨x1, x2⟩ hj ⟨e1, e2⟩
    dsimp only at e1 e2
    subst e1
    by_cases h20 : j = 20
    · subst h20
      refine Or.inr ⟨x2, ?_, e2⟩
      unfold fX7_makes_B9
      simp (disch := omega) only [Option.bind_some, Sum.elim_inl, Sum.elim_inr, q_le, q_nle, q_lt, q_nlt, q_eq, q_ne, q_m1, q_m5, rd_n, wr_n, ixo_n, dvo_n, rmo_n, nI_add, pk_sub, pk_mul, if_true, if_false]
    · refine Or.inl ⟨(nI (j + 1), pu x2 [(0, vp_updL (x2 0) (20 * s + j) 0)]), ?_, by omega, rfl, fun k => ?_⟩
      · unfold fX7_makes_B9
        simp (disch := omega) only [Option.bind_some, Sum.elim_inl, Sum.elim_inr, q_le, q_nle, q_lt, q_nlt, q_eq, q_ne, q_m1, q_m5, rd_n, wr_n, ixo_n, dvo_n, rmo_n, nI_add, pk_sub, pk_mul, if_true, if_false, wrL_n]
      · dsimp only
        rw [puL_s]
        unfold vp_updL
        by_cases ek : k = 20 * s + j
        · rw [if_pos ek, if_pos (by omega)]
        · rw [if_neg ek, e2 k]
          by_cases hk : 20 * s ≤ k ∧ k < 20 * s + j
          · rw [if_pos hk, if_pos (by omega)]
          · rw [if_neg hk, if_neg (by omega)])
  refine ⟨lo', ?_, h⟩
  unfold fX7_makes
  simp (disch := omega) only [Option.bind_some, Sum.elim_inl, Sum.elim_inr, q_le, q_nle, q_lt, q_nlt, q_eq, q_ne, q_m1, q_m5, rd_n, wr_n, ixo_n, dvo_n, rmo_n, nI_add, pk_sub, pk_mul, if_true, if_false, e]
theorem renew_ok {C : Nat → Int32} {lo : Nat → Nat → Int64} {s : Nat} {v : Int32} (h3 : s < 3) (hv : v = (-1 : Int32) ∨ ∃ n, n ≤ 20 ∧ v = nI n) : fX1_renew C lo (nI s) v = some (upd C s v, pu lo [(s, fillF 20 (0 : Int64) (lo s))]) := by
  have h1 : ¬ v < (-1 : Int32) := by
    rcases hv with rfl | ⟨n, hn, rfl⟩
    · decide
    · exact m1_nlt (by omega)
  have h2 : ¬ nI 20 < v := by
    rcases hv with rfl | ⟨n, hn, rfl⟩
    · decide
    · exact nI_nlt (by omega) (by omega)
  unfold fX1_renew
  simp (disch := omega) only [Option.bind_some, Sum.elim_inl, Sum.elim_inr, q_le, q_nle, q_lt, q_nlt, q_eq, q_ne, q_m1, q_m5, rd_n, wr_n, ixo_n, dvo_n, rmo_n, nI_add, pk_sub, pk_mul, if_true, if_false, (li_y s h3).1, if_neg h1, if_neg h2]
theorem li_new {C R : Nat → Int32} {lc lr lr' : Nat → Nat → Int64} {s : Nat} {v : Int32} (H : LiR C R lc lr) (hv : v = (-1 : Int32) ∨ ∃ n, n ≤ 20 ∧ v = nI n) (h : ∀ k, lr' 0 k = if 20 * s ≤ k ∧ k < 20 * s + 20 then 0 else lr 0 k) : LiR (upd C s v) (upd R s v) (pu lc [(s, fillF 20 (0 : Int64) (lc s))]) lr' := by
  refine ⟨fun l hl => ?_, fun l j hl hj => ?_⟩
  · by_cases e : l = s
    · rw [e, upd_s, upd_s]
      exact ⟨rfl, hv⟩
    · rw [upd_n e, upd_n e]
      exact H.1 l hl
  · rw [h]
    by_cases e : l = s
    · subst e
      rw [puL_s, if_pos (by omega)]
      unfold fillF
      rw [if_pos hj]
    · rw [puL_n e, if_neg (by omega)]
      exact H.2 l j hl hj
theorem al_list : Al_list Rel := by
  intro Mc Mr u1 u2 h
  obtain ⟨⟨hc, hs⟩, htr, hsh, hst, hli, hta, him, htb, hwy, hms⟩ := h
  obtain ⟨q, q0, q1, eqq, en, et⟩ := id htr
  have q2 := (sz_pos q1 q0).1
  have q3 := sz_le q1
  rcases list_c hli u1 with ⟨l1, l2⟩ | ⟨s, h3, rfl, l1, l2, l3, l4, l5⟩
  · have hf : fX6_list (Mc.1 21) Mc.2.1 u1 u2 = some ((-1 : Int32), Mc.1 21, Mc.2.1) := by
      unfold fX6_list
      simp (disch := omega) only [Option.bind_some, Sum.elim_inl, Sum.elim_inr, q_le, q_nle, q_lt, q_nlt, q_eq, q_ne, q_m1, q_m5, rd_n, wr_n, ixo_n, dvo_n, rmo_n, nI_add, pk_sub, pk_mul, if_true, if_false, l1]
    have hm : fX7_list (Mr.1 6) Mr.2.1 u1 u2 = some ((-1 : Int32), Mr.1 6, Mr.2.1) := by
      unfold fX7_list
      simp (disch := omega) only [Option.bind_some, Sum.elim_inl, Sum.elim_inr, q_le, q_nle, q_lt, q_nlt, q_eq, q_ne, q_m1, q_m5, rd_n, wr_n, ixo_n, dvo_n, rmo_n, nI_add, pk_sub, pk_mul, if_true, if_false, l2]
    exact ⟨_, _, hf, hm, rfl, rel_mk ⟨hc, hs⟩ htr hsh hst hli hta him htb hwy hms⟩
  · by_cases hv : u2 ≤ nI 20
    · by_cases hw : (-1 : Int32) ≤ u2
      · have hv2 : u2 = (-1 : Int32) ∨ ∃ n, n ≤ 20 ∧ u2 = nI n := by
          rcases m1_c u2 hw with rfl | ⟨m, hm, rfl⟩
          · exact Or.inl rfl
          · refine Or.inr ⟨m, ?_, rfl⟩
            rcases Nat.lt_or_ge 20 m with q | q
            · exact absurd hv (nI_ge q (by omega))
            · exact q
        obtain ⟨lo', k1, k2⟩ := makes_ok (R := Mr.1 6) (lo := Mr.2.1) (v := u2) h3
        have hf : fX6_list (Mc.1 21) Mc.2.1 (nI s) u2 = some (nI 1, upd (Mc.1 21) s u2, pu Mc.2.1 [(s, fillF 20 (0 : Int64) (Mc.2.1 s))]) := by
          unfold fX6_list
          simp (disch := omega) only [Option.bind_some, Sum.elim_inl, Sum.elim_inr, q_le, q_nle, q_lt, q_nlt, q_eq, q_ne, q_m1, q_m5, rd_n, wr_n, ixo_n, dvo_n, rmo_n, nI_add, pk_sub, pk_mul, if_true, if_false, l1, if_pos hv, if_pos hw, renew_ok h3 hv2]
        have hm : fX7_list (Mr.1 6) Mr.2.1 (nI s) u2 = some (nI 1, upd (Mr.1 6) s u2, lo') := by
          unfold fX7_list
          simp (disch := omega) only [Option.bind_some, Sum.elim_inl, Sum.elim_inr, q_le, q_nle, q_lt, q_nlt, q_eq, q_ne, q_m1, q_m5, rd_n, wr_n, ixo_n, dvo_n, rmo_n, nI_add, pk_sub, pk_mul, if_true, if_false, l2, if_pos hv, if_pos hw, k1]
        exact ⟨_, _, hf, hm, rfl, rel_mk ⟨hc, hs⟩ htr hsh hst (li_new hli hv2 k2) hta him htb hwy hms⟩
      · have hf : fX6_list (Mc.1 21) Mc.2.1 (nI s) u2 = some ((-14 : Int32), Mc.1 21, Mc.2.1) := by
          unfold fX6_list
          simp (disch := omega) only [Option.bind_some, Sum.elim_inl, Sum.elim_inr, q_le, q_nle, q_lt, q_nlt, q_eq, q_ne, q_m1, q_m5, rd_n, wr_n, ixo_n, dvo_n, rmo_n, nI_add, pk_sub, pk_mul, if_true, if_false, l1, if_pos hv, if_neg hw]
        have hm : fX7_list (Mr.1 6) Mr.2.1 (nI s) u2 = some ((-14 : Int32), Mr.1 6, Mr.2.1) := by
          unfold fX7_list
          simp (disch := omega) only [Option.bind_some, Sum.elim_inl, Sum.elim_inr, q_le, q_nle, q_lt, q_nlt, q_eq, q_ne, q_m1, q_m5, rd_n, wr_n, ixo_n, dvo_n, rmo_n, nI_add, pk_sub, pk_mul, if_true, if_false, l2, if_pos hv, if_neg hw]
        exact ⟨_, _, hf, hm, rfl, rel_mk ⟨hc, hs⟩ htr hsh hst hli hta him htb hwy hms⟩
    · have hf : fX6_list (Mc.1 21) Mc.2.1 (nI s) u2 = some ((-2 : Int32), Mc.1 21, Mc.2.1) := by
        unfold fX6_list
        simp (disch := omega) only [Option.bind_some, Sum.elim_inl, Sum.elim_inr, q_le, q_nle, q_lt, q_nlt, q_eq, q_ne, q_m1, q_m5, rd_n, wr_n, ixo_n, dvo_n, rmo_n, nI_add, pk_sub, pk_mul, if_true, if_false, l1, if_neg hv]
      have hm : fX7_list (Mr.1 6) Mr.2.1 (nI s) u2 = some ((-2 : Int32), Mr.1 6, Mr.2.1) := by
        unfold fX7_list
        simp (disch := omega) only [Option.bind_some, Sum.elim_inl, Sum.elim_inr, q_le, q_nle, q_lt, q_nlt, q_eq, q_ne, q_m1, q_m5, rd_n, wr_n, ixo_n, dvo_n, rmo_n, nI_add, pk_sub, pk_mul, if_true, if_false, l2, if_neg hv]
      exact ⟨_, _, hf, hm, rfl, rel_mk ⟨hc, hs⟩ htr hsh hst hli hta him htb hwy hms⟩
theorem m1_n0 : ¬ nI 0 ≤ (-1 : Int32) := by decide
theorem th_0 {C : Nat → Int32} {v : Int32} (e : fX1_lengthOf C v = some (-1 : Int32)) : fX1_isThere C v = some (nI 0) := by
  unfold fX1_isThere
  rw [e]
  rfl
theorem th_1 {C : Nat → Int32} {v : Int32} {n : Nat} (e : fX1_lengthOf C v = some (nI n)) (hn : n ≤ 20) : fX1_isThere C v = some (nI 1) := by
  unfold fX1_isThere
  simp (disch := omega) only [Option.bind_some, Sum.elim_inl, Sum.elim_inr, q_le, q_nle, q_lt, q_nlt, q_eq, q_ne, q_m1, q_m5, rd_n, wr_n, ixo_n, dvo_n, rmo_n, nI_add, pk_sub, pk_mul, if_true, if_false, e]
theorem al_put : Al_put Rel := by
  intro Mc Mr u1 u2 u3 h
  obtain ⟨⟨hc, hs⟩, htr, hsh, hst, hli, hta, him, htb, hwy, hms⟩ := h
  obtain ⟨q, q0, q1, eqq, en, et⟩ := id htr
  have q2 := (sz_pos q1 q0).1
  have q3 := sz_le q1
  rcases list_c hli u1 with ⟨l1, l2⟩ | ⟨s, h3, rfl, l1, l2, l3, l4, l5 | ⟨n, hn, l5⟩⟩
  · have hf : fX6_put (Mc.1 21) Mc.2.1 u1 u2 u3 = some ((-1 : Int32), Mc.2.1) := by
      unfold fX6_put
      simp (disch := omega) only [Option.bind_some, Sum.elim_inl, Sum.elim_inr, q_le, q_nle, q_lt, q_nlt, q_eq, q_ne, q_m1, q_m5, rd_n, wr_n, ixo_n, dvo_n, rmo_n, nI_add, pk_sub, pk_mul, if_true, if_false, l1]
    have hm : fX7_put (Mr.1 6) Mr.2.1 u1 u2 u3 = some ((-1 : Int32), Mr.2.1) := by
      unfold fX7_put
      simp (disch := omega) only [Option.bind_some, Sum.elim_inl, Sum.elim_inr, q_le, q_nle, q_lt, q_nlt, q_eq, q_ne, q_m1, q_m5, rd_n, wr_n, ixo_n, dvo_n, rmo_n, nI_add, pk_sub, pk_mul, if_true, if_false, l2]
    exact ⟨_, _, hf, hm, rfl, rel_mk ⟨hc, hs⟩ htr hsh hst hli hta him htb hwy hms⟩
  · rw [l5] at l3 l4
    have hf : fX6_put (Mc.1 21) Mc.2.1 (nI s) u2 u3 = some ((-11 : Int32), Mc.2.1) := by
      unfold fX6_put
      simp (disch := omega) only [Option.bind_some, Sum.elim_inl, Sum.elim_inr, q_le, q_nle, q_lt, q_nlt, q_eq, q_ne, q_m1, q_m5, rd_n, wr_n, ixo_n, dvo_n, rmo_n, nI_add, pk_sub, pk_mul, if_true, if_false, l1, th_0 l3]
    have hm : fX7_put (Mr.1 6) Mr.2.1 (nI s) u2 u3 = some ((-11 : Int32), Mr.2.1) := by
      unfold fX7_put
      simp (disch := omega) only [Option.bind_some, Sum.elim_inl, Sum.elim_inr, q_le, q_nle, q_lt, q_nlt, q_eq, q_ne, q_m1, q_m5, rd_n, wr_n, ixo_n, dvo_n, rmo_n, nI_add, pk_sub, pk_mul, if_true, if_false, l2, l4, if_neg m1_n0]
    exact ⟨_, _, hf, hm, rfl, rel_mk ⟨hc, hs⟩ htr hsh hst hli hta him htb hwy hms⟩
  · have l4' : Mr.1 6 s = nI n := by rw [l4, l5]
    rw [l5] at l3
    rcases rng_c u2 n with ⟨i, hi, rfl⟩ | ho
    · have hf : fX6_put (Mc.1 21) Mc.2.1 (nI s) (nI i) u3 = some (nI 1, pu Mc.2.1 [(s, vp_updL (Mc.2.1 s) i u3)]) := by
        unfold fX6_put
        simp (disch := omega) only [Option.bind_some, Sum.elim_inl, Sum.elim_inr, q_le, q_nle, q_lt, q_nlt, q_eq, q_ne, q_m1, q_m5, rd_n, wr_n, ixo_n, dvo_n, rmo_n, nI_add, pk_sub, pk_mul, if_true, if_false, l1, th_1 l3 hn, ip_y h3 l5 hn hi, st_y h3 l5 hn hi]
      have hm : fX7_put (Mr.1 6) Mr.2.1 (nI s) (nI i) u3 = some (nI 1, pu Mr.2.1 [(0, vp_updL (Mr.2.1 0) (20 * s + i) u3)]) := by
        unfold fX7_put
        rw [l2, Option.bind_some, if_neg (by decide), rd_n h3 (by omega), Option.bind_some, l4', if_pos (nI_le (by omega) (by omega)), Option.bind_some, in_in (hi_n (by omega)) hi (by omega)]
        simp (disch := omega) only [Option.bind_some, Sum.elim_inl, Sum.elim_inr, q_le, q_nle, q_lt, q_nlt, q_eq, q_ne, q_m1, q_m5, rd_n, wr_n, ixo_n, dvo_n, rmo_n, nI_add, pk_sub, pk_mul, if_true, if_false, wrL_n]
      exact ⟨_, _, hf, hm, rfl, rel_mk ⟨hc, hs⟩ htr hsh hst (li_put hli h3 (by omega)) hta him htb hwy hms⟩
    · have hf : fX6_put (Mc.1 21) Mc.2.1 (nI s) u2 u3 = some ((-13 : Int32), Mc.2.1) := by
        unfold fX6_put
        simp (disch := omega) only [Option.bind_some, Sum.elim_inl, Sum.elim_inr, q_le, q_nle, q_lt, q_nlt, q_eq, q_ne, q_m1, q_m5, rd_n, wr_n, ixo_n, dvo_n, rmo_n, nI_add, pk_sub, pk_mul, if_true, if_false, l1, th_1 l3 hn, ip_n h3 l5 hn ho]
      have hm : fX7_put (Mr.1 6) Mr.2.1 (nI s) u2 u3 = some ((-13 : Int32), Mr.2.1) := by
        unfold fX7_put
        rw [l2, Option.bind_some, if_neg (by decide), rd_n h3 (by omega), Option.bind_some, l4', if_pos (nI_le (by omega) (by omega)), Option.bind_some, in_out (hi_n (by omega)) ho]
        rfl
      exact ⟨_, _, hf, hm, rfl, rel_mk ⟨hc, hs⟩ htr hsh hst hli hta him htb hwy hms⟩
theorem in_m1 (v : Int32) : fX7_in v.toInt64 (0 : Int64) (((-1 : Int32) - nI 1).toInt64) = some (nI 0) := in_x (a := 0) (b := -2) rfl rfl (by omega)
theorem al_get : Al_get Rel := by
  intro Mc Mr u1 u2 h
  have h' := h
  obtain ⟨⟨hc, hs⟩, htr, hsh, hst, hli, hta, him, htb, hwy, hms⟩ := h
  obtain ⟨q, q0, q1, eqq, en, et⟩ := id htr
  have q2 := (sz_pos q1 q0).1
  have q3 := sz_le q1
  rcases list_c hli u1 with ⟨l1, l2⟩ | ⟨s, h3, rfl, l1, l2, l3, l4, l5 | ⟨n, hn, l5⟩⟩
  · have el : fX1_lengthOf (Mc.1 21) u1 = some (-1 : Int32) := by
      unfold fX1_lengthOf
      rw [l1]
      rfl
    have hf : fX6_get (Mc.1 21) Mc.2.1 u1 u2 = some (-9223372036854775808 : Int64) := by
      unfold fX6_get
      simp (disch := omega) only [Option.bind_some, Sum.elim_inl, Sum.elim_inr, q_le, q_nle, q_lt, q_nlt, q_eq, q_ne, q_m1, q_m5, rd_n, wr_n, ixo_n, dvo_n, rmo_n, nI_add, pk_sub, pk_mul, if_true, if_false, ip_0 el]
    have hm : fX7_get (Mr.1 6) Mr.2.1 u1 u2 = some (-9223372036854775808 : Int64) := by
      unfold fX7_get
      simp (disch := omega) only [Option.bind_some, Sum.elim_inl, Sum.elim_inr, q_le, q_nle, q_lt, q_nlt, q_eq, q_ne, q_m1, q_m5, rd_n, wr_n, ixo_n, dvo_n, rmo_n, nI_add, pk_sub, pk_mul, if_true, if_false, l2]
    exact ⟨_, _, hf, hm, rfl, h'⟩
  · rw [l5] at l3 l4
    have hf : fX6_get (Mc.1 21) Mc.2.1 (nI s) u2 = some (-9223372036854775808 : Int64) := by
      unfold fX6_get
      simp (disch := omega) only [Option.bind_some, Sum.elim_inl, Sum.elim_inr, q_le, q_nle, q_lt, q_nlt, q_eq, q_ne, q_m1, q_m5, rd_n, wr_n, ixo_n, dvo_n, rmo_n, nI_add, pk_sub, pk_mul, if_true, if_false, ip_0 l3]
    have hm : fX7_get (Mr.1 6) Mr.2.1 (nI s) u2 = some (-9223372036854775808 : Int64) := by
      unfold fX7_get
      rw [l2, Option.bind_some, if_neg (by decide), rd_n h3 (by omega), Option.bind_some, l4, in_m1]
      rfl
    exact ⟨_, _, hf, hm, rfl, h'⟩
  · have l4' : Mr.1 6 s = nI n := by rw [l4, l5]
    rcases rng_c u2 n with ⟨i, hi, rfl⟩ | ho
    · have hf : fX6_get (Mc.1 21) Mc.2.1 (nI s) (nI i) = some (Mc.2.1 s i) := by
        unfold fX6_get
        simp (disch := omega) only [Option.bind_some, Sum.elim_inl, Sum.elim_inr, q_le, q_nle, q_lt, q_nlt, q_eq, q_ne, q_m1, q_m5, rd_n, wr_n, ixo_n, dvo_n, rmo_n, nI_add, pk_sub, pk_mul, if_true, if_false, ip_y h3 l5 hn hi, va_y h3 l5 hn hi]
      have hm : fX7_get (Mr.1 6) Mr.2.1 (nI s) (nI i) = some (Mc.2.1 s i) := by
        unfold fX7_get
        rw [l2, Option.bind_some, if_neg (by decide), rd_n h3 (by omega), Option.bind_some, l4', in_in (hi_n (by omega)) hi (by omega)]
        simp (disch := omega) only [Option.bind_some, Sum.elim_inl, Sum.elim_inr, q_le, q_nle, q_lt, q_nlt, q_eq, q_ne, q_m1, q_m5, rd_n, wr_n, ixo_n, dvo_n, rmo_n, nI_add, pk_sub, pk_mul, if_true, if_false]
        rw [hli.2 s i h3 (by omega)]
      exact ⟨_, _, hf, hm, rfl, h'⟩
    · have hf : fX6_get (Mc.1 21) Mc.2.1 (nI s) u2 = some (-9223372036854775808 : Int64) := by
        unfold fX6_get
        simp (disch := omega) only [Option.bind_some, Sum.elim_inl, Sum.elim_inr, q_le, q_nle, q_lt, q_nlt, q_eq, q_ne, q_m1, q_m5, rd_n, wr_n, ixo_n, dvo_n, rmo_n, nI_add, pk_sub, pk_mul, if_true, if_false, ip_n h3 l5 hn ho]
      have hm : fX7_get (Mr.1 6) Mr.2.1 (nI s) u2 = some (-9223372036854775808 : Int64) := by
        unfold fX7_get
        rw [l2, Option.bind_some, if_neg (by decide), rd_n h3 (by omega), Option.bind_some, l4', in_out (hi_n (by omega)) ho]
        rfl
      exact ⟨_, _, hf, hm, rfl, h'⟩
theorem al_feed : Al_feed Rel := by
  intro Mc Mr u1 h
  obtain ⟨⟨hc, hs⟩, htr, hsh, hst, hli, hta, him, htb, hwy, hms⟩ := h
  obtain ⟨q, q0, q1, eqq, en, et⟩ := id htr
  have q2 := (sz_pos q1 q0).1
  have q3 := sz_le q1
  obtain ⟨n, hn, e1, e2, hb⟩ := id hta
  rw [e1, e2]
  have bad : (u1 < nI 32 ∨ nI 126 < u1) → ∃ (rc : (Int32 × (Nat → Int32) × Int32)) (rm : (Int32 × (Nat → Int32) × Int32)), fX6_feed (Mc.1 23) (nI n) u1 = some rc ∧ fX7_feed (Mr.1 7) (nI n) u1 = some rm ∧ rc.1 = rm.1 ∧ Rel (mk Mc [(23, rc.2.1)] Mc.2.1 [(45, rc.2.2)]) (mk Mr [(7, rm.2.1)] Mr.2.1 [(43, rm.2.2)]) := by
    intro ho
    have hf : fX6_feed (Mc.1 23) (nI n) u1 = some ((-2 : Int32), Mc.1 23, nI n) := by
      unfold fX6_feed
      by_cases h1 : u1 < nI 32
      · rw [if_pos h1]
      · rw [if_neg h1, if_neg (Int32.not_le.mpr (ho.resolve_left h1))]
    have hm : fX7_feed (Mr.1 7) (nI n) u1 = some ((-2 : Int32), Mr.1 7, nI n) := by
      unfold fX7_feed
      rw [in_x (a := 32) (b := 126) rfl rfl]
      · rfl
      · rcases ho with h | h
        · have := Int32.lt_iff_toInt_lt.mp h
          rw [nI_toInt (by omega)] at this
          omega
        · have := Int32.lt_iff_toInt_lt.mp h
          rw [nI_toInt (by omega)] at this
          omega
    exact ⟨_, _, hf, hm, rfl, rel_mk ⟨hc, hs⟩ htr hsh hst hli ⟨n, hn, rfl, rfl, hb⟩ him htb hwy hms⟩
  rcases i_cases u1 with ⟨k, hk, rfl⟩ | hx
  · by_cases h1 : k < 32
    · exact bad (Or.inl (nI_lt h1 (by omega)))
    · by_cases h2 : 126 < k
      · exact bad (Or.inr (nI_lt h2 (by omega)))
      · have hi : fX7_in (nI k).toInt64 (32 : Int64) (126 : Int64) = some (nI 1) := in_y (a := 32) (b := 126) hk rfl (by omega) rfl (by omega)
        by_cases h60 : n = 60
        · have hf : fX6_feed (Mc.1 23) (nI n) (nI k) = some ((-4 : Int32), Mc.1 23, nI n) := by
            unfold fX6_feed fX4_append
            simp (disch := omega) only [Option.bind_some, Sum.elim_inl, Sum.elim_inr, q_le, q_nle, q_lt, q_nlt, q_eq, q_ne, q_m1, q_m5, rd_n, wr_n, ixo_n, dvo_n, rmo_n, nI_add, pk_sub, pk_mul, if_true, if_false]
          have hm : fX7_feed (Mr.1 7) (nI n) (nI k) = some ((-4 : Int32), Mr.1 7, nI n) := by
            unfold fX7_feed
            simp (disch := omega) only [Option.bind_some, Sum.elim_inl, Sum.elim_inr, q_le, q_nle, q_lt, q_nlt, q_eq, q_ne, q_m1, q_m5, rd_n, wr_n, ixo_n, dvo_n, rmo_n, nI_add, pk_sub, pk_mul, if_true, if_false, hi]
          exact ⟨_, _, hf, hm, rfl, rel_mk ⟨hc, hs⟩ htr hsh hst hli ⟨n, hn, rfl, rfl, hb⟩ him htb hwy hms⟩
        · have hf : fX6_feed (Mc.1 23) (nI n) (nI k) = some (nI (n + 1), upd (Mc.1 23) n (nI k), nI (n + 1)) := by
            unfold fX6_feed fX4_append fX4_length
            simp (disch := omega) only [Option.bind_some, Sum.elim_inl, Sum.elim_inr, q_le, q_nle, q_lt, q_nlt, q_eq, q_ne, q_m1, q_m5, rd_n, wr_n, ixo_n, dvo_n, rmo_n, nI_add, pk_sub, pk_mul, if_true, if_false]
          have hm : fX7_feed (Mr.1 7) (nI n) (nI k) = some (nI (n + 1), upd (Mr.1 7) n (nI k), nI (n + 1)) := by
            unfold fX7_feed
            simp (disch := omega) only [Option.bind_some, Sum.elim_inl, Sum.elim_inr, q_le, q_nle, q_lt, q_nlt, q_eq, q_ne, q_m1, q_m5, rd_n, wr_n, ixo_n, dvo_n, rmo_n, nI_add, pk_sub, pk_mul, if_true, if_false, hi]
          refine ⟨_, _, hf, hm, rfl, rel_mk ⟨hc, hs⟩ htr hsh hst hli ⟨n + 1, by omega, rfl, rfl, fun i hi2 => ?_⟩ him htb hwy hms⟩
          show upd (Mc.1 23) n (nI k) i = upd (Mr.1 7) n (nI k) i
          by_cases e : i = n
          · rw [e, upd_s, upd_s]
          · rw [upd_n e, upd_n e]
            exact hb i (by omega)
  · exact bad (Or.inl (neg_lt hx (by omega)))
theorem al_wipe : Al_wipe Rel := by
  intro Mc Mr h
  obtain ⟨⟨hc, hs⟩, htr, hsh, hst, hli, hta, him, htb, hwy, hms⟩ := h
  obtain ⟨q, q0, q1, eqq, en, et⟩ := id htr
  have q2 := (sz_pos q1 q0).1
  have q3 := sz_le q1
  obtain ⟨n, hn, e1, e2, hb⟩ := id hta
  rw [e1, e2]
  have hf : fX6_wipe (nI n) = some (nI n, nI 0) := rfl
  have hm : fX7_wipe (nI n) = some (nI n, nI 0) := rfl
  exact ⟨_, _, hf, hm, rfl, rel_mk ⟨hc, hs⟩ htr hsh hst hli ⟨0, by omega, rfl, rfl, fun i hi => absurd hi (by omega)⟩ him htb hwy hms⟩
theorem al_read : Al_read Rel := by
  intro Mc Mr h
  obtain ⟨⟨hc, hs⟩, htr, hsh, hst, hli, hta, him, htb, hwy, hms⟩ := h
  obtain ⟨q, q0, q1, eqq, en, et⟩ := id htr
  have q2 := (sz_pos q1 q0).1
  have q3 := sz_le q1
  obtain ⟨n, hn, e1, e2, hb⟩ := id hta
  rw [hc, hs, e1, e2]
  obtain ⟨rc, rm, r1, r2, r3, r4, r5, r6⟩ := read_ok (aw := Mc.1 24) (on := Mc.1 25) (rs := Mc.1 26) (row := Mr.1 20) hn hb (Mc.2.2 41) (Mc.2.2 44) (Mc.2.2 46) (Mc.2.2 47) (Mc.2.2 48) (Mr.2.2 40) (Mr.2.2 41) (Mr.2.2 42) (Mr.2.2 44) (Mr.2.2 52) (Mr.2.2 53) (Mr.2.2 54)
  refine ⟨rc, rm, r1, r2, r3, ?_⟩
  have ht0 : TaR (Mc.1 23) (Mr.1 7) rc.2.2.2.2.2.2.1 rm.2.2.2.2.2.1 := ⟨0, by omega, r4, r5, fun i hi => absurd hi (by omega)⟩
  rcases r6 with ⟨a1, a2, a3, a4, a5⟩ | ⟨p, p0, p1, a1, a2, a3, a4, a5⟩
  · have hT : TrR rc.2.2.2.2.1 rm.2.2.1 rm.2.2.2.1 := by rw [a1, a3, a4]; exact htr
    have hS : StR (Mc.1 15) (Mr.1 3) (Mr.1 4) rc.2.2.2.2.2.1 rm.2.2.2.2.1 := by rw [a2, a5]; exact hst
    exact rel_mk ⟨hc, hs⟩ hT hsh hS hli ht0 him htb hwy hms
  · have hT : TrR rc.2.2.2.2.1 rm.2.2.1 rm.2.2.2.1 := ⟨p, p0, p1, a1, a3, a4⟩
    have hS : StR (Mc.1 15) (Mr.1 3) (Mr.1 4) rc.2.2.2.2.2.1 rm.2.2.2.2.1 := ⟨0, by omega, a2, a5, fun i hi => absurd hi (by omega)⟩
    exact rel_mk ⟨hc, hs⟩ hT hsh hS hli ht0 him htb hwy hms
theorem al_written : Al_written Rel := by
  intro Mc Mr u1 h
  obtain ⟨⟨hc, hs⟩, htr, hsh, hst, hli, hta, him, htb, hwy, hms⟩ := h
  obtain ⟨q, q0, q1, eqq, en, et⟩ := id htr
  have q2 := (sz_pos q1 q0).1
  have q3 := sz_le q1
  rw [hc, hs, eqq, en, et]
  obtain ⟨P', L', R', S', A', e, hL⟩ := m_looks q0 q1 (Mr.1 11) (Mr.1 12) (Mr.1 13) (Mr.1 14) (Mr.1 15) (Mr.2.2 50)
  obtain ⟨x', w1, w2⟩ := m_write q0 q1 hL (Mr.1 19)
  by_cases hu : u1 = (-1 : Int32)
  · subst hu
    have hf : fX6_written cF sF (nI q) (-1 : Int32) = some (nI (3 * szF q + 1)) := by
      unfold fX6_written fX0_textLength
      rw [if_pos rfl]
      simp (disch := omega) only [Option.bind_some, Sum.elim_inl, Sum.elim_inr, q_le, q_nle, q_lt, q_nlt, q_eq, q_ne, q_m1, q_m5, rd_n, wr_n, ixo_n, dvo_n, rmo_n, nI_add, pk_sub, pk_mul, if_true, if_false, c_sizeOf q1]
    have hm : fX7_written (Mr.1 11) (Mr.1 12) (Mr.1 13) (Mr.1 14) (Mr.1 15) (Mr.1 19) (nI (szF q)) (nI (dcF q)) (Mr.2.2 50) (Mr.2.2 51) (-1 : Int32) = some (nI (3 * szF q + 1), P', L', R', S', A', x', nI (roF q), nI (3 * szF q + 1)) := by
      unfold fX7_written
      rw [e, Option.bind_some]
      dsimp only
      rw [w1, Option.bind_some, if_pos rfl]
    exact ⟨_, _, hf, hm, rfl, rel_mk ⟨hc, hs⟩ htr hsh hst hli hta him htb hwy hms⟩
  · rcases rng_c u1 (3 * szF q + 1) with ⟨m, hm, rfl⟩ | ho
    · have hf : fX6_written cF sF (nI q) (nI m) = some (nI (btN (txF q m))) := by
        unfold fX6_written
        rw [if_neg hu, c_textByte q0 q1 hm]
        rfl
      have hm : fX7_written (Mr.1 11) (Mr.1 12) (Mr.1 13) (Mr.1 14) (Mr.1 15) (Mr.1 19) (nI (szF q)) (nI (dcF q)) (Mr.2.2 50) (Mr.2.2 51) (nI m) = some (nI (btN (txF q m)), P', L', R', S', A', x', nI (roF q), nI (3 * szF q + 1)) := by
        unfold fX7_written
        rw [e, Option.bind_some]
        dsimp only
        rw [w1, Option.bind_some, if_neg hu, in_in (hi_n (by omega)) hm (by omega), Option.bind_some, if_neg (by decide), rd_n (by omega) (by omega), Option.bind_some]
        dsimp only
        rw [w2 m hm]
      exact ⟨_, _, hf, hm, rfl, rel_mk ⟨hc, hs⟩ htr hsh hst hli hta him htb hwy hms⟩
    · have hf : fX6_written cF sF (nI q) u1 = some (-1 : Int32) := by
        unfold fX6_written
        rw [if_neg hu]
        rcases ho with h | ⟨k, h1, h2, rfl⟩
        · unfold fX0_textByte
          rw [if_neg (neg_nle h (by omega))]
          rfl
        · rw [c_textEnd q0 q1 h1 h2]
          rfl
      have hm : fX7_written (Mr.1 11) (Mr.1 12) (Mr.1 13) (Mr.1 14) (Mr.1 15) (Mr.1 19) (nI (szF q)) (nI (dcF q)) (Mr.2.2 50) (Mr.2.2 51) u1 = some ((-1 : Int32), P', L', R', S', A', x', nI (roF q), nI (3 * szF q + 1)) := by
        unfold fX7_written
        rw [e, Option.bind_some]
        dsimp only
        rw [w1, Option.bind_some, if_neg hu, in_out (hi_n (by omega)) ho]
        rfl
      exact ⟨_, _, hf, hm, rfl, rel_mk ⟨hc, hs⟩ htr hsh hst hli hta him htb hwy hms⟩
/-- four rows taken over, one by one -/
def cp4 (f g : Nat → Int32) (j : Nat) : Nat → Int32 := fun i => if i < j then f i else g i
theorem cp_0 (f g : Nat → Int32) : cp4 f g 0 = g := funext fun i => if_neg (by omega)
theorem cp_st (f g : Nat → Int32) (j : Nat) : upd (cp4 f g j) j (f j) = cp4 f g (j + 1) := by
  funext i
  by_cases e : i = j
  · rw [e, upd_s]
    exact (if_pos (by omega)).symm
  · rw [upd_n e]
    unfold cp4
    by_cases h : i < j
    · rw [if_pos h, if_pos (by omega)]
    · rw [if_neg h, if_neg (by omega)]
theorem cpy4 (f g : Nat → Int32) : va_cpy f g 0 0 4 = cp4 f g 4 := by
  funext i
  unfold va_cpy cp4
  by_cases h : i < 4
  · rw [if_pos (by omega), if_pos h, Nat.sub_zero, Nat.zero_add]
  · rw [if_neg (by omega), if_neg h]
theorem im_run {N T N' T' : Nat → Int32} : it (fX7_image_B23 N T) FU (nI 0, N', T') = some (cp4 N N' 4, cp4 T T' 4) := by
  refine it_go (fun j => (nI j, cp4 N N' j, cp4 T T' j)) 4 ?_ (by omega) (fun j hj => ?_) ?_
  · show (nI 0, cp4 N N' 0, cp4 T T' 0) = _
    rw [cp_0, cp_0]
  · unfold fX7_image_B23
    simp (disch := omega) only [Option.bind_some, Sum.elim_inl, Sum.elim_inr, q_le, q_nle, q_lt, q_nlt, q_eq, q_ne, q_m1, q_m5, rd_n, wr_n, ixo_n, dvo_n, rmo_n, nI_add, pk_sub, pk_mul, if_true, if_false, cp_st]
  · unfold fX7_image_B23
    simp (disch := omega) only [Option.bind_some, Sum.elim_inl, Sum.elim_inr, q_le, q_nle, q_lt, q_nlt, q_eq, q_ne, q_m1, q_m5, rd_n, wr_n, ixo_n, dvo_n, rmo_n, nI_add, pk_sub, pk_mul, if_true, if_false]
theorem un_run {N T N' T' : Nat → Int32} : it (fX7_undo_B28 N T) FU (nI 0, N', T') = some (cp4 N N' 4, cp4 T T' 4) := im_run
theorem shr_cp {C N T C' N' T' : Nat → Int32} (H : ShR C N T) : ShR (cp4 C C' 4) (cp4 N N' 4) (cp4 T T' 4) := by
  intro s h4
  have e : ∀ f g : Nat → Int32, cp4 f g 4 s = f s := fun f g => if_pos h4
  rw [e, e, e]
  exact H s h4
theorem al_image : Al_image Rel := by
  intro Mc Mr h
  obtain ⟨⟨hc, hs⟩, htr, hsh, hst, hli, hta, him, htb, hwy, hms⟩ := h
  obtain ⟨q, q0, q1, eqq, en, et⟩ := id htr
  have q2 := (sz_pos q1 q0).1
  have q3 := sz_le q1
  rw [hs, eqq, en, et]
  have hcp : cpo 4 4 (Mc.1 27) (Mc.1 28) (nI 0) (nI 0) (nI 4) = some (va_cpy (Mc.1 27) (Mc.1 28) 0 0 4) := rfl
  have hf : fX6_image sF (Mc.1 27) (Mc.1 28) (Mc.2.2 40) (nI q) = some (nI (szF q), cp4 (Mc.1 27) (Mc.1 28) 4, nI q) := by
    unfold fX6_image
    rw [hcp, cpy4]
    simp (disch := omega) only [Option.bind_some, Sum.elim_inl, Sum.elim_inr, q_le, q_nle, q_lt, q_nlt, q_eq, q_ne, q_m1, q_m5, rd_n, wr_n, ixo_n, dvo_n, rmo_n, nI_add, pk_sub, pk_mul, if_true, if_false, c_size q1]
  have hm : fX7_image (Mr.1 1) (Mr.1 2) (Mr.1 8) (Mr.1 9) (nI (szF q)) (nI (dcF q)) (Mr.2.2 45) (Mr.2.2 46) (Mr.2.2 47) = some (nI (szF q), cp4 (Mr.1 1) (Mr.1 8) 4, cp4 (Mr.1 2) (Mr.1 9) 4, nI 1, nI (szF q), nI (dcF q)) := by
    unfold fX7_image
    rw [im_run]
    rfl
  exact ⟨_, _, hf, hm, rfl, rel_mk ⟨hc, hs⟩ htr hsh hst hli hta (Or.inr ⟨rfl, tr_ok q0 q1, shr_cp hsh⟩) htb hwy hms⟩
theorem al_undo : Al_undo Rel := by
  intro Mc Mr h
  obtain ⟨⟨hc, hs⟩, htr, hsh, hst, hli, hta, him, htb, hwy, hms⟩ := h
  obtain ⟨q, q0, q1, eqq, en, et⟩ := id htr
  have q2 := (sz_pos q1 q0).1
  have q3 := sz_le q1
  rw [hs]
  rcases id him with ⟨i1, i2⟩ | ⟨i1, ⟨z, z0, z1, i2, i3, i4⟩, i5⟩
  · rw [i1, i2]
    have hf : fX6_undo sF (Mc.1 27) (Mc.1 28) (nI 0) (Mc.2.2 41) (Mc.2.2 44) = some ((-3 : Int32), Mc.1 27, Mc.2.2 41, Mc.2.2 44) := by
      unfold fX6_undo
      rw [if_pos rfl]
    have hm : fX7_undo (Mr.1 1) (Mr.1 2) (Mr.1 8) (Mr.1 9) (Mr.2.2 40) (Mr.2.2 41) (Mr.2.2 42) (nI 0) (Mr.2.2 46) (Mr.2.2 47) = some ((-3 : Int32), Mr.1 1, Mr.1 2, Mr.2.2 40, Mr.2.2 41, Mr.2.2 42) := by
      unfold fX7_undo
      rw [if_pos rfl]
    exact ⟨_, _, hf, hm, rfl, rel_mk ⟨hc, hs⟩ htr hsh hst hli hta him htb hwy hms⟩
  · rw [i1, i2, i3, i4]
    have hcp : cpo 4 4 (Mc.1 28) (Mc.1 27) (nI 0) (nI 0) (nI 4) = some (va_cpy (Mc.1 28) (Mc.1 27) 0 0 4) := rfl
    have h3 : fX3_clear (Mc.2.2 44) = some (nI 0) := rfl
    have hf : fX6_undo sF (Mc.1 27) (Mc.1 28) (nI z) (Mc.2.2 41) (Mc.2.2 44) = some (nI (szF z), cp4 (Mc.1 28) (Mc.1 27) 4, nI z, nI 0) := by
      unfold fX6_undo
      rw [hcp, cpy4]
      simp (disch := omega) only [Option.bind_some, Sum.elim_inl, Sum.elim_inr, q_le, q_nle, q_lt, q_nlt, q_eq, q_ne, q_m1, q_m5, rd_n, wr_n, ixo_n, dvo_n, rmo_n, nI_add, pk_sub, pk_mul, if_true, if_false, h3, c_size z1]
    have hm : fX7_undo (Mr.1 1) (Mr.1 2) (Mr.1 8) (Mr.1 9) (Mr.2.2 40) (Mr.2.2 41) (Mr.2.2 42) (nI 1) (nI (szF z)) (nI (dcF z)) = some (nI (szF z), cp4 (Mr.1 8) (Mr.1 1) 4, cp4 (Mr.1 9) (Mr.1 2) 4, nI (szF z), nI (dcF z), nI 0) := by
      unfold fX7_undo
      rw [if_neg (by decide), un_run]
      rfl
    exact ⟨_, _, hf, hm, rfl, rel_mk ⟨hc, hs⟩ (tr_ok z0 z1) (shr_cp i5) ⟨0, by omega, rfl, rfl, fun i hi => absurd hi (by omega)⟩ hli hta him htb hwy hms⟩
