/-! what the two hold alike: the relation, and the step from tree to tree -/
def TrR (c n t : Int32) : Prop := ∃ q, 0 < q ∧ q < 626 ∧ c = nI q ∧ n = nI (szF q) ∧ t = nI (dcF q)
def ShR (C N T : Nat → Int32) : Prop := ∀ s, s < 4 → (C s = nI 0 ∧ N s = nI 0) ∨ TrR (C s) (N s) (T s)
def StR (A N T : Nat → Int32) (h1 h2 : Int32) : Prop := ∃ h, h ≤ 10 ∧ h1 = nI h ∧ h2 = nI h ∧ ∀ i, i < h → TrR (A i) (N i) (T i)
def LiR (C R : Nat → Int32) (lc lr : Nat → Nat → Int64) : Prop := (∀ l, l < 3 → R l = C l ∧ (C l = (-1 : Int32) ∨ ∃ n, n ≤ 20 ∧ C l = nI n)) ∧ ∀ l i, l < 3 → i < 20 → lc l i = lr 0 (20 * l + i)
def TaR (C R : Nat → Int32) (h1 h2 : Int32) : Prop := ∃ n, n ≤ 60 ∧ h1 = nI n ∧ h2 = nI n ∧ ∀ i, i < n → C i = R i
def ImR (C N T : Nat → Int32) (c i n t : Int32) : Prop := (c = nI 0 ∧ i = nI 0) ∨ (i = nI 1 ∧ TrR c n t ∧ ShR C N T)
def Rel (Mc Mr : Mm) : Prop := (Mc.1 2 = cF ∧ Mc.1 3 = sF) ∧ TrR (Mc.2.2 41) (Mr.2.2 40) (Mr.2.2 41) ∧ ShR (Mc.1 27) (Mr.1 1) (Mr.1 2) ∧ StR (Mc.1 15) (Mr.1 3) (Mr.1 4) (Mc.2.2 44) (Mr.2.2 42) ∧ LiR (Mc.1 21) (Mr.1 6) Mc.2.1 Mr.2.1 ∧ TaR (Mc.1 23) (Mr.1 7) (Mc.2.2 45) (Mr.2.2 43) ∧ ImR (Mc.1 28) (Mr.1 8) (Mr.1 9) (Mc.2.2 40) (Mr.2.2 45) (Mr.2.2 46) (Mr.2.2 47) ∧ TBok (Mr.1 10) (Mr.2.2 48) (Mr.2.2 49) ∧ WYS (Mc.1 8) (Mc.1 9) (Mc.1 10) ∧ MSD (Mc.1 10) (Mc.1 11) (Mc.2.2 43)
theorem rel_mk {Mc Mr : Mm} (h1 : Mc.1 2 = cF ∧ Mc.1 3 = sF) (h2 : TrR (Mc.2.2 41) (Mr.2.2 40) (Mr.2.2 41)) (h3 : ShR (Mc.1 27) (Mr.1 1) (Mr.1 2)) (h4 : StR (Mc.1 15) (Mr.1 3) (Mr.1 4) (Mc.2.2 44) (Mr.2.2 42)) (h5 : LiR (Mc.1 21) (Mr.1 6) Mc.2.1 Mr.2.1) (h6 : TaR (Mc.1 23) (Mr.1 7) (Mc.2.2 45) (Mr.2.2 43)) (h7 : ImR (Mc.1 28) (Mr.1 8) (Mr.1 9) (Mc.2.2 40) (Mr.2.2 45) (Mr.2.2 46) (Mr.2.2 47)) (h8 : TBok (Mr.1 10) (Mr.2.2 48) (Mr.2.2 49)) (h9 : WYS (Mc.1 8) (Mc.1 9) (Mc.1 10)) (h10 : MSD (Mc.1 10) (Mc.1 11) (Mc.2.2 43)) : Rel Mc Mr := ⟨h1, h2, h3, h4, h5, h6, h7, h8, h9, h10⟩
theorem tr_ok {q : Nat} (q0 : 0 < q) (q1 : q < 626) : TrR (nI q) (nI (szF q)) (nI (dcF q)) := ⟨q, q0, q1, rfl, rfl, rfl⟩
theorem tr_of {q n t : Nat} (q0 : 0 < q) (q1 : q < 626) (h1 : szF q = n) (h2 : dcF q = t) : TrR (nI q) (nI n) (nI t) := ⟨q, q0, q1, rfl, by rw [h1], by rw [h2]⟩
def shF (N : Nat → Int32) (j : Nat) : Nat → Int32 := fun i => if i < j then N (i + 1) else N i
theorem sh_0 (N : Nat → Int32) : shF N 0 = N := funext fun i => if_neg (by omega)
theorem sh_st (N : Nat → Int32) (j : Nat) : upd (shF N j) j (shF N j (1 + j)) = shF N (j + 1) := by
  funext i
  by_cases e : i = j
  · rw [e, upd_s]
    unfold shF
    rw [if_neg (by omega), if_pos (by omega), Nat.add_comm]
  · rw [upd_n e]
    unfold shF
    by_cases h : i < j
    · rw [if_pos h, if_pos (by omega)]
    · rw [if_neg h, if_neg (by omega)]
theorem sh_run {N T : Nat → Int32} {v1 v2 : Int32} : it (fX7_becomes_B28 v1 v2) FU (nI 1, N, T) = some (shF N 9, shF T 9) := by
  refine it_go (fun j => (nI (1 + j), shF N j, shF T j)) 9 ?_ (by omega) (fun j hj => ?_) ?_
  · show (nI 1, shF N 0, shF T 0) = _
    rw [sh_0, sh_0]
  · unfold fX7_becomes_B28
    simp (disch := omega) only [Option.bind_some, Sum.elim_inl, Sum.elim_inr, q_le, q_nle, q_lt, q_nlt, q_eq, q_ne, q_m1, q_m5, rd_n, wr_n, ixo_n, dvo_n, rmo_n, nI_add, pk_sub, pk_mul, if_true, if_false]
    rw [show 1 + j - 1 = j by omega, sh_st, sh_st]
    rfl
  · unfold fX7_becomes_B28
    simp (disch := omega) only [Option.bind_some, Sum.elim_inl, Sum.elim_inr, q_le, q_nle, q_lt, q_nlt, q_eq, q_ne, q_m1, q_m5, rd_n, wr_n, ixo_n, dvo_n, rmo_n, nI_add, pk_sub, pk_mul, if_true, if_false]
theorem bec_ok {q z : Nat} {A N T : Nat → Int32} {h1 h2 : Int32} (q0 : 0 < q) (q1 : q < 626) (z0 : 0 < z) (z1 : z < 626) (H : StR A N T h1 h2) : ∃ A' N' T' h1' h2', fX6_become A (nI q) h1 (nI z) = some (A', nI z, h1') ∧ fX7_becomes N T (nI (szF q)) (nI (dcF q)) h2 (nI (szF z)) (nI (dcF z)) = some (N', T', nI (szF z), nI (dcF z), h2') ∧ StR A' N' T' h1' h2' := by
  by_cases e : z = q
  · subst e
    refine ⟨A, N, T, h1, h2, ?_, ?_, H⟩
    · unfold fX6_become
      rw [if_pos rfl]
    · unfold fX7_becomes
      rw [if_pos rfl, if_pos rfl]
  · obtain ⟨h, h10, rfl, rfl, ht⟩ := H
    have c1 : fX6_become A (nI q) (nI h) (nI z) = (fX3_add A (nI h) (nI q)).bind fun r1 => some (r1.1, nI z, r1.2) := by
      unfold fX6_become
      rw [if_neg (fun e2 => e ((nI_eq (by omega) (by omega)).mp e2))]
    have s1 := sz_le q1
    have s2 := sz_le z1
    have d1 := dc_big q1
    have d2 := dc_big z1
    have m1 : fX7_becomes N T (nI (szF q)) (nI (dcF q)) (nI h) (nI (szF z)) (nI (dcF z)) = fX7_becomes_J17 N T (nI (szF q)) (nI (dcF q)) (nI h) (nI (szF z)) (nI (dcF z)) := by
      unfold fX7_becomes
      by_cases es : szF z = szF q
      · rw [if_pos (by rw [es]), if_neg (fun e2 => e (dc_inj z0 z1 q0 q1 es ((nI_eq (by omega) (by omega)).mp e2)))]
      · rw [if_neg (fun e2 => es ((nI_eq (by omega) (by omega)).mp e2))]
    by_cases e10 : h = 10
    · subst e10
      refine ⟨upd (va_cpy A A 1 0 9) 9 (nI q), upd (shF N 9) 9 (nI (szF q)), upd (shF T 9) 9 (nI (dcF q)), nI 10, nI 10, ?_, ?_, 10, Nat.le_refl _, rfl, rfl, ?_⟩
      · have hcp : cpo 10 10 A A (nI 1) (nI 0) (nI 9) = some (va_cpy A A 1 0 9) := rfl
        rw [c1]
        unfold fX3_add fX3_add_J30
        simp (disch := omega) only [Option.bind_some, Sum.elim_inl, Sum.elim_inr, q_le, q_nle, q_lt, q_nlt, q_eq, q_ne, q_m1, q_m5, rd_n, wr_n, ixo_n, dvo_n, rmo_n, nI_add, pk_sub, pk_mul, if_true, if_false, hcp]
      · rw [m1]
        unfold fX7_becomes_J17 fX7_becomes_J78
        simp (disch := omega) only [Option.bind_some, Sum.elim_inl, Sum.elim_inr, q_le, q_nle, q_lt, q_nlt, q_eq, q_ne, q_m1, q_m5, rd_n, wr_n, ixo_n, dvo_n, rmo_n, nI_add, pk_sub, pk_mul, if_true, if_false, sh_run]
      · intro i hi
        by_cases ei : i = 9
        · rw [ei, upd_s, upd_s, upd_s]
          exact tr_ok q0 q1
        · rw [upd_n ei, upd_n ei, upd_n ei]
          have a1 : va_cpy A A 1 0 9 i = A (i + 1) := by
            unfold va_cpy
            rw [if_pos (by omega), Nat.sub_zero, Nat.add_comm]
          have a2 : ∀ X : Nat → Int32, shF X 9 i = X (i + 1) := fun X => if_pos (by omega)
          rw [a1, a2, a2]
          exact ht (i + 1) (by omega)
    · refine ⟨upd A h (nI q), upd N h (nI (szF q)), upd T h (nI (dcF q)), nI (h + 1), nI (h + 1), ?_, ?_, h + 1, by omega, rfl, rfl, ?_⟩
      · rw [c1]
        unfold fX3_add fX3_add_J30
        simp (disch := omega) only [Option.bind_some, Sum.elim_inl, Sum.elim_inr, q_le, q_nle, q_lt, q_nlt, q_eq, q_ne, q_m1, q_m5, rd_n, wr_n, ixo_n, dvo_n, rmo_n, nI_add, pk_sub, pk_mul, if_true, if_false]
      · rw [m1]
        unfold fX7_becomes_J17 fX7_becomes_J78
        simp (disch := omega) only [Option.bind_some, Sum.elim_inl, Sum.elim_inr, q_le, q_nle, q_lt, q_nlt, q_eq, q_ne, q_m1, q_m5, rd_n, wr_n, ixo_n, dvo_n, rmo_n, nI_add, pk_sub, pk_mul, if_true, if_false]
      · intro i hi
        by_cases ei : i = h
        · rw [ei, upd_s, upd_s, upd_s]
          exact tr_ok q0 q1
        · rw [upd_n ei, upd_n ei, upd_n ei]
          exact ht i (by omega)
theorem m_which {q : Nat} {all : Nat → Int32} {many tb : Int32} (q0 : 0 < q) (q1 : q < 626) (h : TBok all many tb) : ∃ all' many', fX7_which all (nI (szF q)) (nI (dcF q)) many tb = some (nI (q - fstF (szF q)), all', many', nI (szF q)) ∧ TBn (szF q) all' many' := by
  obtain ⟨all', many', e, hT⟩ := m_numberOf q0 q1 h
  refine ⟨all', many', ?_, hT⟩
  unfold fX7_which
  rw [e]
  rfl
theorem tb_of {q : Nat} {all : Nat → Int32} {many : Int32} (q0 : 0 < q) (q1 : q < 626) (h : TBn (szF q) all many) : TBok all many (nI (szF q)) := tb_ok (sz_pos q1 q0).1 (by have := sz_le q1; omega) h
theorem tell_ok {q z n : Nat} {A N T all : Nat → Int32} {h1 h2 many tb : Int32} (q0 : 0 < q) (q1 : q < 626) (hq : szF q = n) (z0 : 0 < z) (z1 : z < 626) (hz : szF z = n) (H : StR A N T h1 h2) (hB : TBok all many tb) : ∃ A' N' T' h1' h2' all' many', fX6_becomeAndTell sF A (nI q) h1 (nI z) = some (nI (z - fstF n), A', nI z, h1') ∧ fX7_becomes N T (nI n) (nI (dcF q)) h2 (nI n) (nI (dcF z)) = some (N', T', nI n, nI (dcF z), h2') ∧ fX7_which all (nI n) (nI (dcF z)) many tb = some (nI (z - fstF n), all', many', nI n) ∧ StR A' N' T' h1' h2' ∧ TBok all' many' (nI n) := by
  obtain ⟨A', N', T', h1', h2', e1, e2, e3⟩ := bec_ok q0 q1 z0 z1 H
  obtain ⟨all', many', e4, e5⟩ := m_which z0 z1 hB
  have e6 := tb_of z0 z1 e5
  rw [hz] at e4 e2 e6
  rw [hq] at e2
  refine ⟨A', N', T', h1', h2', all', many', ?_, e2, e4, e3, e6⟩
  unfold fX6_becomeAndTell
  rw [e1, Option.bind_some]
  dsimp only
  rw [c_numberOf z0 z1, hz]
  rfl
theorem out_ne {v : Int32} {m j : Nat} (h : v < nI 0 ∨ ∃ k, m ≤ k ∧ k < 2147483648 ∧ v = nI k) (hj : j < m) (hm : m < 2147483648) : ¬ v = nI j := by
  rcases h with h | ⟨k, h1, h2, rfl⟩
  · exact neg_ne h (by omega)
  · exact fun e => by
      have := (nI_eq (by omega) (by omega)).mp e
      omega
theorem fst_dc : ∀ n, n < 8 → 0 < n → dcF (fstF n) = 0 ∧ szF (fstF n) = n ∧ 0 < fstF n ∧ fstF n < 626 := by decide +kernel
theorem al_nodes : Al_nodes Rel := by
  intro Mc Mr u1 h
  obtain ⟨⟨hc, hs⟩, htr, hsh, hst, hli, hta, him, htb, hwy, hms⟩ := h
  obtain ⟨q, q0, q1, eqq, en, et⟩ := id htr
  have q2 := (sz_pos q1 q0).1
  have q3 := sz_le q1
  rw [hs, eqq, en, et]
  rcases size_cases u1 with ⟨n, n0, n7, rfl⟩ | hn
  · have hf : fX6_nodes sF (nI q) (Mc.2.2 44) (nI n) = some (nI (szF q), nI (fstF n), nI 0) := by
      unfold fX6_nodes
      simp (disch := omega) only [Option.bind_some, Sum.elim_inl, Sum.elim_inr, q_le, q_nle, q_lt, q_nlt, q_eq, q_ne, q_m1, q_m5, rd_n, wr_n, ixo_n, dvo_n, rmo_n, nI_add, pk_sub, pk_mul, if_true, if_false, c_isSize n0 n7, c_size q1, c_firstOf n0 n7, fX3_clear]
    have hm : fX7_nodes (nI (szF q)) (nI (dcF q)) (Mr.2.2 42) (nI n) = some (nI (szF q), nI n, nI 0, nI 0) := by
      unfold fX7_nodes
      rw [in_y (a := 1) (b := 7) (by omega) rfl (by omega) rfl (by omega)]
      rfl
    obtain ⟨f1, f2, f3, f4⟩ := fst_dc n n7 n0
    exact ⟨_, _, hf, hm, rfl, rel_mk ⟨hc, hs⟩ (tr_of f3 f4 f2 f1) hsh ⟨0, by omega, rfl, rfl, fun i hi => absurd hi (by omega)⟩ hli hta him htb hwy hms⟩
  · have hf : fX6_nodes sF (nI q) (Mc.2.2 44) u1 = some ((-2 : Int32), nI q, Mc.2.2 44) := by
      unfold fX6_nodes
      rw [c_isSize_no hn]
      rfl
    have hm : fX7_nodes (nI (szF q)) (nI (dcF q)) (Mr.2.2 42) u1 = some ((-2 : Int32), nI (szF q), nI (dcF q), Mr.2.2 42) := by
      unfold fX7_nodes
      rw [in_x (a := 1) (b := 7) rfl rfl]
      · rfl
      · rcases hn with hn | hn
        · have := Int32.lt_iff_toInt_lt.mp hn
          rw [nI_toInt (by omega)] at this
          omega
        · have := Int32.lt_iff_toInt_lt.mp hn
          rw [nI_toInt (by omega)] at this
          omega
    exact ⟨_, _, hf, hm, rfl, rel_mk ⟨hc, hs⟩ (tr_ok q0 q1) hsh hst hli hta him htb hwy hms⟩
