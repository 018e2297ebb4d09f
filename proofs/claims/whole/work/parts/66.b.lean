theorem b_open {bt aw on rs : Nat → Int32} {len i o opd num : Nat} (hl : len ≤ 60) (hi : i < len) (hb : bt i = nI 40) (ho : o ≤ opd) (hopd : opd < 7) (h : opd = 0 ∨ (0 < o ∧ ¬ aw (o - 1) = nI 2)) : fX4_parse_B17 bt (nI len) (nI i, aw, on, rs, nI o, nI opd, nI num) = some (.inl (nI (i + 1), upd aw o (nI 0), on, rs, nI (o + 1), nI (opd + 1), nI num)) := by
  unfold fX4_parse_B17 fX4_accepts
  simp (disch := omega) only [Option.bind_some, Sum.elim_inl, Sum.elim_inr, q_le, q_nle, q_lt, q_nlt, q_eq, q_ne, q_m1, q_m5, rd_n, wr_n, ixo_n, dvo_n, rmo_n, nI_add, pk_sub, pk_mul, if_true, if_false, hb, c_open ho hopd h, zro_1]
theorem b_dot {bt aw on rs : Nat → Int32} {len i o opd num : Nat} (hl : len ≤ 60) (hi : i < len) (hb : bt i = nI 46) (ho0 : 0 < o) (ho : o ≤ 7) (hn : num < 100) (h : ¬ aw (o - 1) = nI 2) : fX4_parse_B17 bt (nI len) (nI i, aw, on, rs, nI o, nI opd, nI num) = some (.inl (nI (i + 1), (ES o aw on num).1, (ES o aw on num).2.1, rs, nI o, nI opd, nI (ES o aw on num).2.2)) := by
  have e : ¬ o = 0 := by omega
  have hs : fX4_staysNothing aw on (nI o) (nI num) = some (nI 1, (ES o aw on num).1, (ES o aw on num).2.1, nI (ES o aw on num).2.2) := by
    unfold fX4_staysNothing
    simp (disch := omega) only [Option.bind_some, Sum.elim_inl, Sum.elim_inr, q_le, q_nle, q_lt, q_nlt, q_eq, q_ne, q_m1, q_m5, rd_n, wr_n, ixo_n, dvo_n, rmo_n, nI_add, pk_sub, pk_mul, if_true, if_false, c_awNow ho, if_neg e, if_neg h, c_ES ho hn]
  unfold fX4_parse_B17 fX4_accepts
  simp (disch := omega) only [Option.bind_some, Sum.elim_inl, Sum.elim_inr, q_le, q_nle, q_lt, q_nlt, q_eq, q_ne, q_m1, q_m5, rd_n, wr_n, ixo_n, dvo_n, rmo_n, nI_add, pk_sub, pk_mul, if_true, if_false, hb, hs, zro_1]
theorem b_close {bt aw on rs : Nat → Int32} {len i o opd num g : Nat} (hl : len ≤ 60) (hi : i < len) (hb : bt i = nI 41) (ho0 : 0 < o) (ho : o ≤ 7) (hn : num < 100) (h : aw (o - 1) = nI 2) (hg : on (o - 1) = nI g) (hg7 : g < 7) (hgn : g < num) : fX4_parse_B17 bt (nI len) (nI i, aw, on, rs, nI o, nI opd, nI num) = some (.inl (nI (i + 1), (ES (o - 1) aw on num).1, (ES (o - 1) aw on num).2.1, upd rs g (nI (num - g - 1)), nI (o - 1), nI opd, nI (ES (o - 1) aw on num).2.2)) := by
  have hs : fX4_closesNode aw on rs (nI o) (nI num) = some (nI 1, (ES (o - 1) aw on num).1, (ES (o - 1) aw on num).2.1, upd rs g (nI (num - g - 1)), nI (o - 1), nI (ES (o - 1) aw on num).2.2) := by
    unfold fX4_closesNode fX4_closesNode_J77
    simp (disch := omega) only [Option.bind_some, Sum.elim_inl, Sum.elim_inr, q_le, q_nle, q_lt, q_nlt, q_eq, q_ne, q_m1, q_m5, rd_n, wr_n, ixo_n, dvo_n, rmo_n, nI_add, pk_sub, pk_mul, if_true, if_false, h, hg, c_ES (show o - 1 ≤ 7 by omega) hn]
  unfold fX4_parse_B17 fX4_accepts
  simp (disch := omega) only [Option.bind_some, Sum.elim_inl, Sum.elim_inr, q_le, q_nle, q_lt, q_nlt, q_eq, q_ne, q_m1, q_m5, rd_n, wr_n, ixo_n, dvo_n, rmo_n, nI_add, pk_sub, pk_mul, if_true, if_false, hb, hs, zro_1]
/-- the class stops at this place and says so -/
def FLT (bt : Nat → Int32) (len i : Nat) (x : Int32 × (Nat → Int32) × (Nat → Int32) × (Nat → Int32) × Int32 × Int32 × Int32) : Prop := (i < len ∧ ∃ w, fX4_parse_B17 bt (nI len) x = some (.inr (.inr (nI i, w)))) ∨ (i = len ∧ ∃ aw on rs o opd num, fX4_parse_B17 bt (nI len) x = some (.inr (.inl (aw, on, rs, nI o, nI opd, nI num))) ∧ (0 < o ∨ opd = 0) ∧ o ≤ 7 ∧ opd ≤ 7)
theorem f_end {bt aw on rs : Nat → Int32} {len o opd num : Nat} (hl : len ≤ 60) (ho : 0 < o ∨ opd = 0) (h1 : o ≤ 7) (h2 : opd ≤ 7) : FLT bt len len (nI len, aw, on, rs, nI o, nI opd, nI num) := by
  refine Or.inr ⟨rfl, aw, on, rs, o, opd, num, ?_, ho, h1, h2⟩
  unfold fX4_parse_B17
  simp (disch := omega) only [Option.bind_some, Sum.elim_inl, Sum.elim_inr, q_le, q_nle, q_lt, q_nlt, q_eq, q_ne, q_m1, q_m5, rd_n, wr_n, ixo_n, dvo_n, rmo_n, nI_add, pk_sub, pk_mul, if_true, if_false]
theorem f_no {bt aw on rs : Nat → Int32} {len i o opd num : Nat} (hl : len ≤ 60) (hi : i < len) (h : ∃ w, fX4_accepts aw on rs (nI o) (nI opd) (nI num) (bt i) = some (nI 0, w)) : FLT bt len i (nI i, aw, on, rs, nI o, nI opd, nI num) := by
  obtain ⟨w, hw⟩ := h
  refine Or.inl ⟨hi, w, ?_⟩
  unfold fX4_parse_B17
  simp (disch := omega) only [Option.bind_some, Sum.elim_inl, Sum.elim_inr, q_le, q_nle, q_lt, q_nlt, q_eq, q_ne, q_m1, q_m5, rd_n, wr_n, ixo_n, dvo_n, rmo_n, nI_add, pk_sub, pk_mul, if_true, if_false, hw]
/-- what a byte does where a part is awaited: only ( and . go on -/
theorem a_other {aw on rs : Nat → Int32} {o opd num : Nat} {v : Int32} (ho : o ≤ 7) (h1 : ¬ v = nI 40) (h2 : ¬ v = nI 46) (h3 : o = 0 ∨ ¬ aw (o - 1) = nI 2) : ∃ w, fX4_accepts aw on rs (nI o) (nI opd) (nI num) v = some (nI 0, w) := by
  unfold fX4_accepts
  rw [if_neg h1]
  by_cases h : v = nI 41
  · have hs : fX4_closesNode aw on rs (nI o) (nI num) = some (nI 0, aw, on, rs, nI o, nI num) := by
      unfold fX4_closesNode
      by_cases e : o = 0
      · rw [e]
        simp (disch := omega) only [Option.bind_some, Sum.elim_inl, Sum.elim_inr, q_le, q_nle, q_lt, q_nlt, q_eq, q_ne, q_m1, q_m5, rd_n, wr_n, ixo_n, dvo_n, rmo_n, nI_add, pk_sub, pk_mul, if_true, if_false]
      · simp (disch := omega) only [Option.bind_some, Sum.elim_inl, Sum.elim_inr, q_le, q_nle, q_lt, q_nlt, q_eq, q_ne, q_m1, q_m5, rd_n, wr_n, ixo_n, dvo_n, rmo_n, nI_add, pk_sub, pk_mul, if_true, if_false, if_neg (h3.resolve_left e)]
    rw [if_pos h, hs]
    exact ⟨_, rfl⟩
  · rw [if_neg h, if_neg h2]
    exact ⟨_, rfl⟩
theorem a_top2 {aw on rs : Nat → Int32} {o opd num : Nat} {v : Int32} (ho0 : 0 < o) (ho : o ≤ opd) (hopd : opd ≤ 7) (h1 : ¬ v = nI 41) (h3 : aw (o - 1) = nI 2) : ∃ w, fX4_accepts aw on rs (nI o) (nI opd) (nI num) v = some (nI 0, w) := by
  unfold fX4_accepts
  by_cases h : v = nI 40
  · rw [if_pos h, c_openNo ho hopd (by omega) (Or.inr h3)]
    exact ⟨_, rfl⟩
  · rw [if_neg h, if_neg h1]
    by_cases h2 : v = nI 46
    · have e : ¬ o = 0 := by omega
      have hs : fX4_staysNothing aw on (nI o) (nI num) = some (nI 0, aw, on, nI num) := by
        unfold fX4_staysNothing
        simp (disch := omega) only [Option.bind_some, Sum.elim_inl, Sum.elim_inr, q_le, q_nle, q_lt, q_nlt, q_eq, q_ne, q_m1, q_m5, rd_n, wr_n, ixo_n, dvo_n, rmo_n, nI_add, pk_sub, pk_mul, if_true, if_false, c_awNow (show o ≤ 7 by omega), if_neg e, h3]
      rw [if_pos h2, hs]
      exact ⟨_, rfl⟩
    · rw [if_neg h2]
      exact ⟨_, rfl⟩
/-- after the whole tree nothing is taken -/
theorem a_done {aw on rs : Nat → Int32} {opd num : Nat} {v : Int32} (h0 : 0 < opd) (hopd : opd ≤ 7) : ∃ w, fX4_accepts aw on rs (nI 0) (nI opd) (nI num) v = some (nI 0, w) := by
  unfold fX4_accepts
  by_cases h : v = nI 40
  · rw [if_pos h, c_openNo (Nat.zero_le _) hopd h0 (Or.inl rfl)]
    exact ⟨_, rfl⟩
  · rw [if_neg h]
    by_cases h1 : v = nI 41
    · have hs : fX4_closesNode aw on rs (nI 0) (nI num) = some (nI 0, aw, on, rs, nI 0, nI num) := by
        unfold fX4_closesNode
        simp (disch := omega) only [Option.bind_some, Sum.elim_inl, Sum.elim_inr, q_le, q_nle, q_lt, q_nlt, q_eq, q_ne, q_m1, q_m5, rd_n, wr_n, ixo_n, dvo_n, rmo_n, nI_add, pk_sub, pk_mul, if_true, if_false]
      rw [if_pos h1, hs]
      exact ⟨_, rfl⟩
    · rw [if_neg h1]
      by_cases h2 : v = nI 46
      · have hs : fX4_staysNothing aw on (nI 0) (nI num) = some (nI 0, aw, on, nI num) := by
          unfold fX4_staysNothing
          simp (disch := omega) only [Option.bind_some, Sum.elim_inl, Sum.elim_inr, q_le, q_nle, q_lt, q_nlt, q_eq, q_ne, q_m1, q_m5, rd_n, wr_n, ixo_n, dvo_n, rmo_n, nI_add, pk_sub, pk_mul, if_true, if_false, c_awNow (show 0 ≤ 7 by omega), if_true]
        rw [if_pos h2, hs]
        exact ⟨_, rfl⟩
      · rw [if_neg h2]
        exact ⟨_, rfl⟩
theorem m_sign {tp : Nat → Int32} {len i : Nat} (hl : len ≤ 60) (hi : i ≤ len) : fX7_sign tp (nI len) (nI i) = some (if len ≤ i then (-1 : Int32) else tp i) := by
  unfold fX7_sign
  by_cases h : len ≤ i
  · simp (disch := omega) only [Option.bind_some, Sum.elim_inl, Sum.elim_inr, q_le, q_nle, q_lt, q_nlt, q_eq, q_ne, q_m1, q_m5, rd_n, wr_n, ixo_n, dvo_n, rmo_n, nI_add, pk_sub, pk_mul, if_true, if_false]
    rw [if_pos h]
  · simp (disch := omega) only [Option.bind_some, Sum.elim_inl, Sum.elim_inr, q_le, q_nle, q_lt, q_nlt, q_eq, q_ne, q_m1, q_m5, rd_n, wr_n, ixo_n, dvo_n, rmo_n, nI_add, pk_sub, pk_mul, if_true, if_false]
    rw [if_neg h]
