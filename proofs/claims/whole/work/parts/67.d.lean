/-! alike: shelves, the order -/
theorem it_two1 {X Y X' Y' : Type} {B : X → Option (X ⊕ Y)} {B' : X' → Option (X' ⊕ Y')} (I : Nat → X → X' → Prop) (Q : Y → Y' → Prop) (k : Nat) (hs : ∀ j x x', j ≤ k → I j x x' → (∃ y y', B x = some (.inl y) ∧ B' x' = some (.inl y') ∧ j < k ∧ I (j + 1) y y') ∨ (∃ y y', B x = some (.inr y) ∧ B' x' = some (.inr y') ∧ Q y y')) : ∀ (n a : Nat) (x : X) (x' : X'), a ≤ k → k - a < n → I a x x' → ∃ y y', it B n x = some y ∧ it B' n x' = some y' ∧ Q y y'
  | 0, a, x, x', h1, h2, _ => by omega
  | n + 1, a, x, x', h1, h2, hI => by
    rcases hs a x x' h1 hI with ⟨y, y', e1, e2, hlt, hI'⟩ | ⟨y, y', e1, e2, hQ⟩
    · rw [it, it, e1, e2]
      exact it_two1 I Q k hs n (a + 1) y y' (by omega) (by omega) hI'
    · exact ⟨y, y', by rw [it, e1]; rfl, by rw [it, e2]; rfl, hQ⟩
theorem it_two {X Y X' Y' : Type} {B : X → Option (X ⊕ Y)} {B' : X' → Option (X' ⊕ Y')} {x0 : X} {x0' : X'} (I : Nat → X → X' → Prop) (Q : Y → Y' → Prop) (k : Nat) (hk : k < 1000) (h0 : I 0 x0 x0') (hs : ∀ j x x', j ≤ k → I j x x' → (∃ y y', B x = some (.inl y) ∧ B' x' = some (.inl y') ∧ j < k ∧ I (j + 1) y y') ∨ (∃ y y', B x = some (.inr y) ∧ B' x' = some (.inr y') ∧ Q y y')) : ∃ y y', it B FU x0 = some y ∧ it B' FU x0' = some y' ∧ Q y y' :=
  it_two1 I Q k hs FU 0 x0 x0' (Nat.zero_le _) (by unfold FU; omega) h0
theorem m1_0 : ¬ (-1 : Int32) = nI 0 := by decide
theorem m6_0 : ¬ (-6 : Int32) = nI 0 := by decide
theorem m7_0 : ¬ (-7 : Int32) = nI 0 := by decide
theorem m4_0 : ¬ (-4 : Int32) = nI 0 := by decide
/-- a shelf: none, empty, or with a tree -/
theorem shelf_c {C N T : Nat → Int32} (H : ShR C N T) (v : Int32) : (fX6_isShelf v = some (nI 0) ∧ fX7_isShelf v = some (nI 0) ∧ fX6_lack C v = some (-1 : Int32)) ∨ (∃ s, s < 4 ∧ v = nI s ∧ fX6_isShelf v = some (nI 1) ∧ fX7_isShelf v = some (nI 1) ∧ ((C s = nI 0 ∧ N s = nI 0 ∧ fX6_lack C v = some (-6 : Int32)) ∨ ∃ z, 0 < z ∧ z < 626 ∧ C s = nI z ∧ N s = nI (szF z) ∧ T s = nI (dcF z) ∧ fX6_lack C v = some (nI 0))) := by
  rcases rng_c v 4 with ⟨s, h4, rfl⟩ | ho
  · obtain ⟨s1, s2⟩ := sh_y s h4
    refine Or.inr ⟨s, h4, rfl, s1, s2, ?_⟩
    rcases H s h4 with ⟨e1, e2⟩ | ⟨z, z0, z1, e1, e2, e3⟩
    · refine Or.inl ⟨e1, e2, ?_⟩
      unfold fX6_lack
      simp (disch := omega) only [Option.bind_some, Sum.elim_inl, Sum.elim_inr, q_le, q_nle, q_lt, q_nlt, q_eq, q_ne, q_m1, q_m5, rd_n, wr_n, ixo_n, dvo_n, rmo_n, nI_add, pk_sub, pk_mul, if_true, if_false, s1, e1]
    · refine Or.inr ⟨z, z0, z1, e1, e2, e3, ?_⟩
      unfold fX6_lack
      simp (disch := omega) only [Option.bind_some, Sum.elim_inl, Sum.elim_inr, q_le, q_nle, q_lt, q_nlt, q_eq, q_ne, q_m1, q_m5, rd_n, wr_n, ixo_n, dvo_n, rmo_n, nI_add, pk_sub, pk_mul, if_true, if_false, s1, e1]
  · obtain ⟨s1, s2⟩ := sh_n ho
    refine Or.inl ⟨s1, s2, ?_⟩
    unfold fX6_lack
    simp (disch := omega) only [Option.bind_some, Sum.elim_inl, Sum.elim_inr, q_le, q_nle, q_lt, q_nlt, q_eq, q_ne, q_m1, q_m5, rd_n, wr_n, ixo_n, dvo_n, rmo_n, nI_add, pk_sub, pk_mul, if_true, if_false, s1]
theorem ref_2 {q : Nat} {C N T : Nat → Int32} (q1 : q < 626) (H : ShR C N T) (v : Int32) :
    (∃ r : Int32, ¬ r = nI 0 ∧ fX6_refusal sF C (nI q) v = some r ∧ ((fX7_isShelf v = some (nI 0) ∧ r = (-1 : Int32)) ∨ (fX7_isShelf v = some (nI 1) ∧ fX7_barOf N (nI (szF q)) v = some r)))
    ∨ (∃ s z, s < 4 ∧ v = nI s ∧ 0 < z ∧ z < 626 ∧ szF z = szF q ∧ C s = nI z ∧ N s = nI (szF q) ∧ T s = nI (dcF z) ∧ fX6_refusal sF C (nI q) v = some (nI 0) ∧ fX7_isShelf v = some (nI 1) ∧ fX7_barOf N (nI (szF q)) v = some (nI 0)) := by
  have q3 := sz_le q1
  rcases shelf_c H v with ⟨_, s2, s3⟩ | ⟨s, h4, rfl, _, s2, ⟨e1, e2, s3⟩ | ⟨z, z0, z1, e1, e2, e3, s3⟩⟩
  · refine Or.inl ⟨(-1 : Int32), m1_0, ?_, Or.inl ⟨s2, rfl⟩⟩
    unfold fX6_refusal
    rw [s3, Option.bind_some, if_neg m1_0]
  · refine Or.inl ⟨(-6 : Int32), m6_0, ?_, Or.inr ⟨s2, ?_⟩⟩
    · unfold fX6_refusal
      rw [s3, Option.bind_some, if_neg m6_0]
    · unfold fX7_barOf
      simp (disch := omega) only [Option.bind_some, Sum.elim_inl, Sum.elim_inr, q_le, q_nle, q_lt, q_nlt, q_eq, q_ne, q_m1, q_m5, rd_n, wr_n, ixo_n, dvo_n, rmo_n, nI_add, pk_sub, pk_mul, if_true, if_false, e2]
  · have z2 := (sz_pos z1 z0).1
    have z3 := sz_le z1
    by_cases hz : szF z = szF q
    · refine Or.inr ⟨s, z, h4, rfl, z0, z1, hz, e1, by rw [e2, hz], e3, ?_, s2, ?_⟩
      · unfold fX6_refusal
        simp (disch := omega) only [Option.bind_some, Sum.elim_inl, Sum.elim_inr, q_le, q_nle, q_lt, q_nlt, q_eq, q_ne, q_m1, q_m5, rd_n, wr_n, ixo_n, dvo_n, rmo_n, nI_add, pk_sub, pk_mul, if_true, if_false, s3, e1, c_sizeOf z1, c_size q1, hz]
      · unfold fX7_barOf
        simp (disch := omega) only [Option.bind_some, Sum.elim_inl, Sum.elim_inr, q_le, q_nle, q_lt, q_nlt, q_eq, q_ne, q_m1, q_m5, rd_n, wr_n, ixo_n, dvo_n, rmo_n, nI_add, pk_sub, pk_mul, if_true, if_false, e2, hz]
    · refine Or.inl ⟨(-7 : Int32), m7_0, ?_, Or.inr ⟨s2, ?_⟩⟩
      · unfold fX6_refusal
        simp (disch := omega) only [Option.bind_some, Sum.elim_inl, Sum.elim_inr, q_le, q_nle, q_lt, q_nlt, q_eq, q_ne, q_m1, q_m5, rd_n, wr_n, ixo_n, dvo_n, rmo_n, nI_add, pk_sub, pk_mul, if_true, if_false, s3, e1, c_sizeOf z1, c_size q1]
      · unfold fX7_barOf
        simp (disch := omega) only [Option.bind_some, Sum.elim_inl, Sum.elim_inr, q_le, q_nle, q_lt, q_nlt, q_eq, q_ne, q_m1, q_m5, rd_n, wr_n, ixo_n, dvo_n, rmo_n, nI_add, pk_sub, pk_mul, if_true, if_false, e2]
theorem ref_t {q : Nat} {C N T : Nat → Int32} (q1 : q < 626) (H : ShR C N T) (v w : Int32) :
    (∃ r : Int32, ¬ r = nI 0 ∧ fX6_refusalOfTwo sF C (nI q) v w = some r ∧ ((fX7_isShelf v = some (nI 0) ∧ r = (-1 : Int32)) ∨ (fX7_isShelf v = some (nI 1) ∧ fX7_in w.toInt64 (0 : Int64) (1 : Int64) = some (nI 0) ∧ r = (-1 : Int32)) ∨ (fX7_isShelf v = some (nI 1) ∧ fX7_in w.toInt64 (0 : Int64) (1 : Int64) = some (nI 1) ∧ fX7_barOf N (nI (szF q)) v = some r)))
    ∨ (∃ s z j, s < 4 ∧ v = nI s ∧ j < 2 ∧ w = nI j ∧ 0 < z ∧ z < 626 ∧ szF z = szF q ∧ C s = nI z ∧ N s = nI (szF q) ∧ T s = nI (dcF z) ∧ fX6_refusalOfTwo sF C (nI q) v w = some (nI 0) ∧ fX7_isShelf v = some (nI 1) ∧ fX7_in w.toInt64 (0 : Int64) (1 : Int64) = some (nI 1) ∧ fX7_barOf N (nI (szF q)) v = some (nI 0)) := by
  rcases rng_c w 2 with ⟨j, hj, rfl⟩ | ho
  · have hi : fX7_in (nI j).toInt64 (0 : Int64) (1 : Int64) = some (nI 1) := in_in (m := 2) rfl hj (by omega)
    have e : fX6_refusalOfTwo sF C (nI q) v (nI j) = fX6_refusal sF C (nI q) v := by
      unfold fX6_refusalOfTwo
      rw [if_neg (nI_nlt (by omega) (by omega)), if_pos (nI_le (by omega) (by omega))]
      cases fX6_refusal sF C (nI q) v <;> rfl
    rw [e]
    rcases ref_2 q1 H v with ⟨r, hr, e1, ⟨s2, er⟩ | ⟨s2, eb⟩⟩ | ⟨s, z, h4, rfl, z0, z1, hz, e1, e2, e3, er, s2, eb⟩
    · exact Or.inl ⟨r, hr, e1, Or.inl ⟨s2, er⟩⟩
    · exact Or.inl ⟨r, hr, e1, Or.inr (Or.inr ⟨s2, hi, eb⟩)⟩
    · exact Or.inr ⟨s, z, j, h4, rfl, hj, rfl, z0, z1, hz, e1, e2, e3, er, s2, hi, eb⟩
  · have hi : fX7_in w.toInt64 (0 : Int64) (1 : Int64) = some (nI 0) := in_out (m := 2) rfl ho
    have e : fX6_refusalOfTwo sF C (nI q) v w = some (-1 : Int32) := by
      unfold fX6_refusalOfTwo fX6_refusalOfTwo_J9
      rcases ho with h | ⟨k, h1, h2, rfl⟩
      · rw [if_pos h]
      · rw [if_neg (nI_nlt (by omega) (by omega)), if_neg (nI_ge (by omega) (by omega))]
    rw [e]
    rcases shelf_c H v with ⟨_, s2, _⟩ | ⟨s, h4, rfl, _, s2, _⟩
    · exact Or.inl ⟨_, m1_0, rfl, Or.inl ⟨s2, rfl⟩⟩
    · exact Or.inl ⟨_, m1_0, rfl, Or.inr (Or.inl ⟨s2, hi, rfl⟩)⟩
theorem bi_q (b : Bool) : (if bI b = nI 0 then some (nI 0) else some (nI 1)) = some (bI b) := by cases b <;> rfl
theorem al_below : Al_below Rel := by
  intro Mc Mr u1 u2 h
  have h' := h
  obtain ⟨⟨hc, hs⟩, htr, hsh, hst, hli, hta, him, htb, hwy, hms⟩ := h
  obtain ⟨q, q0, q1, eqq, en, et⟩ := id htr
  have q2 := (sz_pos q1 q0).1
  have q3 := sz_le q1
  rw [hc, hs, eqq, en, et]
  rcases ref_t q1 hsh u1 u2 with ⟨r, hr, e1, hm⟩ | ⟨s, z, j, h4, rfl, hj, rfl, z0, z1, hz, s1, s2, s3, e1, e2, e3, e4⟩
  · have hf : fX6_below cF sF (Mc.1 27) (nI q) u1 u2 = some r := by
      unfold fX6_below
      simp (disch := omega) only [Option.bind_some, Sum.elim_inl, Sum.elim_inr, q_le, q_nle, q_lt, q_nlt, q_eq, q_ne, q_m1, q_m5, rd_n, wr_n, ixo_n, dvo_n, rmo_n, nI_add, pk_sub, pk_mul, if_true, if_false, e1, if_neg hr]
    have hm : fX7_below (Mr.1 1) (Mr.1 2) (nI (szF q)) (nI (dcF q)) u1 u2 = some r := by
      unfold fX7_below
      rcases hm with ⟨m1, rfl⟩ | ⟨m1, m2, rfl⟩ | ⟨m1, m2, m3⟩
      · simp (disch := omega) only [Option.bind_some, Sum.elim_inl, Sum.elim_inr, q_le, q_nle, q_lt, q_nlt, q_eq, q_ne, q_m1, q_m5, rd_n, wr_n, ixo_n, dvo_n, rmo_n, nI_add, pk_sub, pk_mul, if_true, if_false, m1]
      · simp (disch := omega) only [Option.bind_some, Sum.elim_inl, Sum.elim_inr, q_le, q_nle, q_lt, q_nlt, q_eq, q_ne, q_m1, q_m5, rd_n, wr_n, ixo_n, dvo_n, rmo_n, nI_add, pk_sub, pk_mul, if_true, if_false, m1, m2]
      · simp (disch := omega) only [Option.bind_some, Sum.elim_inl, Sum.elim_inr, q_le, q_nle, q_lt, q_nlt, q_eq, q_ne, q_m1, q_m5, rd_n, wr_n, ixo_n, dvo_n, rmo_n, nI_add, pk_sub, pk_mul, if_true, if_false, m1, m2, m3, if_neg hr]
    exact ⟨_, _, hf, hm, rfl, h'⟩
  · by_cases j0 : j = 0
    · have hf : fX6_below cF sF (Mc.1 27) (nI q) (nI s) (nI j) = some (bI (belB q z)) := by
        unfold fX6_below fX6_below_J54
        simp (disch := omega) only [Option.bind_some, Sum.elim_inl, Sum.elim_inr, q_le, q_nle, q_lt, q_nlt, q_eq, q_ne, q_m1, q_m5, rd_n, wr_n, ixo_n, dvo_n, rmo_n, nI_add, pk_sub, pk_mul, if_true, if_false, e1, s1, c_isBelow q1 z1 hz, bi_q]
      have hm : fX7_below (Mr.1 1) (Mr.1 2) (nI (szF q)) (nI (dcF q)) (nI s) (nI j) = some (bI (belB q z)) := by
        unfold fX7_below fX7_below_J72
        simp (disch := omega) only [Option.bind_some, Sum.elim_inl, Sum.elim_inr, q_le, q_nle, q_lt, q_nlt, q_eq, q_ne, q_m1, q_m5, rd_n, wr_n, ixo_n, dvo_n, rmo_n, nI_add, pk_sub, pk_mul, if_true, if_false, e2, e3, e4, s3, m_bel q1 z1 rfl hz, bi_q]
      exact ⟨_, _, hf, hm, rfl, h'⟩
    · have hf : fX6_below cF sF (Mc.1 27) (nI q) (nI s) (nI j) = some (bI (belB z q)) := by
        unfold fX6_below fX6_below_J54
        simp (disch := omega) only [Option.bind_some, Sum.elim_inl, Sum.elim_inr, q_le, q_nle, q_lt, q_nlt, q_eq, q_ne, q_m1, q_m5, rd_n, wr_n, ixo_n, dvo_n, rmo_n, nI_add, pk_sub, pk_mul, if_true, if_false, e1, s1, c_isBelow z1 q1 hz.symm, bi_q]
      have hm : fX7_below (Mr.1 1) (Mr.1 2) (nI (szF q)) (nI (dcF q)) (nI s) (nI j) = some (bI (belB z q)) := by
        unfold fX7_below fX7_below_J72
        simp (disch := omega) only [Option.bind_some, Sum.elim_inl, Sum.elim_inr, q_le, q_nle, q_lt, q_nlt, q_eq, q_ne, q_m1, q_m5, rd_n, wr_n, ixo_n, dvo_n, rmo_n, nI_add, pk_sub, pk_mul, if_true, if_false, e2, e3, e4, s3, m_bel z1 q1 hz rfl, bi_q]
      exact ⟨_, _, hf, hm, rfl, h'⟩
/-- the bound of two, by both -/
theorem bound_ok {p q n j : Nat} {all : Nat → Int32} {many tb : Int32} (p0 : 0 < p) (p1 : p < 626) (pn : szF p = n) (q1 : q < 626) (qn : szF q = n) (hj : j < 2) (hB : TBok all many tb) : ∃ m all' many', 0 < m ∧ m < 626 ∧ szF m = n ∧ fX2_meetOrJoin cF sF (nI p) (nI q) (nI j) = some (nI m) ∧ fX7_bound all (nI n) many tb (nI (dcF p)) (nI (dcF q)) (nI (1 - j)) = some (nI (dcF m), all', many', nI n) ∧ TBn n all' many' := by
  by_cases j0 : j = 0
  · subst j0
    obtain ⟨m, hm, e⟩ := c_meetOf p0 p1 q1 (by omega)
    obtain ⟨all', many', e2, e3⟩ := m_bound_meet p0 p1 q1 pn qn hm hB
    refine ⟨m, all', many', hm.1, hm.2.1, by rw [hm.2.2.1, pn], ?_, e2, e3⟩
    unfold fX2_meetOrJoin
    simp (disch := omega) only [Option.bind_some, Sum.elim_inl, Sum.elim_inr, q_le, q_nle, q_lt, q_nlt, q_eq, q_ne, q_m1, q_m5, rd_n, wr_n, ixo_n, dvo_n, rmo_n, nI_add, pk_sub, pk_mul, if_true, if_false, e]
  · have j1 : j = 1 := by omega
    subst j1
    obtain ⟨m, hm, e⟩ := c_joinOf p0 p1 q1 (by omega)
    obtain ⟨all', many', e2, e3⟩ := m_bound_join p0 p1 q1 pn qn hm hB
    refine ⟨m, all', many', hm.1, hm.2.1, by rw [hm.2.2.1, pn], ?_, e2, e3⟩
    unfold fX2_meetOrJoin
    simp (disch := omega) only [Option.bind_some, Sum.elim_inl, Sum.elim_inr, q_le, q_nle, q_lt, q_nlt, q_eq, q_ne, q_m1, q_m5, rd_n, wr_n, ixo_n, dvo_n, rmo_n, nI_add, pk_sub, pk_mul, if_true, if_false, e]
theorem m_numP {p n : Nat} {all : Nat → Int32} {many : Int32} (p0 : 0 < p) (p1 : p < 626) (pn : szF p = n) (hT : TBn n all many) : ∃ all' many', fX7_numberOf all many (nI n) (nI (dcF p)) (nI n) = some (nI (p - fstF n), all', many', nI n) ∧ TBn n all' many' := by
  subst pn
  exact m_numberOf p0 p1 (tb_of p0 p1 hT)
theorem al_meet : Al_meet Rel := by
  intro Mc Mr u1 u2 h
  obtain ⟨⟨hc, hs⟩, htr, hsh, hst, hli, hta, him, htb, hwy, hms⟩ := h
  obtain ⟨q, q0, q1, eqq, en, et⟩ := id htr
  have q2 := (sz_pos q1 q0).1
  have q3 := sz_le q1
  rw [hc, hs, eqq, en, et]
  rcases ref_t q1 hsh u1 u2 with ⟨r, hr, e1, hm⟩ | ⟨s, z, j, h4, rfl, hj, rfl, z0, z1, hz, s1, s2, s3, e1, e2, e3, e4⟩
  · have hf : fX6_meet cF sF (Mc.1 27) (nI q) u1 u2 = some r := by
      unfold fX6_meet
      simp (disch := omega) only [Option.bind_some, Sum.elim_inl, Sum.elim_inr, q_le, q_nle, q_lt, q_nlt, q_eq, q_ne, q_m1, q_m5, rd_n, wr_n, ixo_n, dvo_n, rmo_n, nI_add, pk_sub, pk_mul, if_true, if_false, e1, if_neg hr]
    have hm : fX7_meet (Mr.1 1) (Mr.1 2) (Mr.1 10) (nI (szF q)) (nI (dcF q)) (Mr.2.2 48) (Mr.2.2 49) u1 u2 = some (r, Mr.1 10, Mr.2.2 48, Mr.2.2 49) := by
      unfold fX7_meet
      rcases hm with ⟨m1, rfl⟩ | ⟨m1, m2, rfl⟩ | ⟨m1, m2, m3⟩
      · simp (disch := omega) only [Option.bind_some, Sum.elim_inl, Sum.elim_inr, q_le, q_nle, q_lt, q_nlt, q_eq, q_ne, q_m1, q_m5, rd_n, wr_n, ixo_n, dvo_n, rmo_n, nI_add, pk_sub, pk_mul, if_true, if_false, m1]
      · simp (disch := omega) only [Option.bind_some, Sum.elim_inl, Sum.elim_inr, q_le, q_nle, q_lt, q_nlt, q_eq, q_ne, q_m1, q_m5, rd_n, wr_n, ixo_n, dvo_n, rmo_n, nI_add, pk_sub, pk_mul, if_true, if_false, m1, m2]
      · simp (disch := omega) only [Option.bind_some, Sum.elim_inl, Sum.elim_inr, q_le, q_nle, q_lt, q_nlt, q_eq, q_ne, q_m1, q_m5, rd_n, wr_n, ixo_n, dvo_n, rmo_n, nI_add, pk_sub, pk_mul, if_true, if_false, m1, m2, m3, if_neg hr]
    exact ⟨_, _, hf, hm, rfl, rel_mk ⟨hc, hs⟩ htr hsh hst hli hta him htb hwy hms⟩
  · obtain ⟨m, all', many', m0, m1, m2, b1, b2, b3⟩ := bound_ok q0 q1 rfl z1 hz hj htb
    obtain ⟨all2, many2, n1, n2⟩ := m_numP m0 m1 m2 b3
    have hf : fX6_meet cF sF (Mc.1 27) (nI q) (nI s) (nI j) = some (nI (m - fstF (szF q))) := by
      unfold fX6_meet fX6_meet_J41
      by_cases j0 : j = 0
      · subst j0
        simp (disch := omega) only [Option.bind_some, Sum.elim_inl, Sum.elim_inr, q_le, q_nle, q_lt, q_nlt, q_eq, q_ne, q_m1, q_m5, rd_n, wr_n, ixo_n, dvo_n, rmo_n, nI_add, pk_sub, pk_mul, if_true, if_false, e1, s1, b1, c_numberOf m0 m1, m2]
      · have j1 : j = 1 := by omega
        subst j1
        simp (disch := omega) only [Option.bind_some, Sum.elim_inl, Sum.elim_inr, q_le, q_nle, q_lt, q_nlt, q_eq, q_ne, q_m1, q_m5, rd_n, wr_n, ixo_n, dvo_n, rmo_n, nI_add, pk_sub, pk_mul, if_true, if_false, e1, s1, b1, c_numberOf m0 m1, m2]
    have hm : fX7_meet (Mr.1 1) (Mr.1 2) (Mr.1 10) (nI (szF q)) (nI (dcF q)) (Mr.2.2 48) (Mr.2.2 49) (nI s) (nI j) = some (nI (m - fstF (szF q)), all2, many2, nI (szF q)) := by
      unfold fX7_meet fX7_meet_J52
      by_cases j0 : j = 0
      · subst j0
        have b2' : fX7_bound (Mr.1 10) (nI (szF q)) (Mr.2.2 48) (Mr.2.2 49) (nI (dcF q)) (nI (dcF z)) (nI 1) = some (nI (dcF m), all', many', nI (szF q)) := b2
        simp (disch := omega) only [Option.bind_some, Sum.elim_inl, Sum.elim_inr, q_le, q_nle, q_lt, q_nlt, q_eq, q_ne, q_m1, q_m5, rd_n, wr_n, ixo_n, dvo_n, rmo_n, nI_add, pk_sub, pk_mul, if_true, if_false, e2, e3, e4, s3, b2', n1]
      · have j1 : j = 1 := by omega
        subst j1
        have b2' : fX7_bound (Mr.1 10) (nI (szF q)) (Mr.2.2 48) (Mr.2.2 49) (nI (dcF q)) (nI (dcF z)) (nI 0) = some (nI (dcF m), all', many', nI (szF q)) := b2
        simp (disch := omega) only [Option.bind_some, Sum.elim_inl, Sum.elim_inr, q_le, q_nle, q_lt, q_nlt, q_eq, q_ne, q_m1, q_m5, rd_n, wr_n, ixo_n, dvo_n, rmo_n, nI_add, pk_sub, pk_mul, if_true, if_false, e2, e3, e4, s3, b2', n1]
    exact ⟨_, _, hf, hm, rfl, rel_mk ⟨hc, hs⟩ htr hsh hst hli hta him (tb_of q0 q1 n2) hwy hms⟩
theorem sz_0 : szF 0 = 0 := by decide +kernel
theorem al_meetAll : Al_meetAll Rel := by
  intro Mc Mr u1 h
  obtain ⟨⟨hc, hs⟩, htr, hsh, hst, hli, hta, him, htb, hwy, hms⟩ := h
  obtain ⟨q, q0, q1, eqq, en, et⟩ := id htr
  have q2 := (sz_pos q1 q0).1
  have q3 := sz_le q1
  rw [hc, hs, eqq, en, et]
  rcases rng_c u1 2 with ⟨j, hj, rfl⟩ | ho
  · have hi : fX7_in (nI j).toInt64 (0 : Int64) (1 : Int64) = some (nI 1) := in_in (m := 2) rfl hj (by omega)
    obtain ⟨y, y', r1, r2, x, all', many', tb', x0, x1, x2, rfl, rfl, hB⟩ := it_two (B := fX6_meetAll_B28 cF sF (Mc.1 27) (nI q) (nI j) (nI 4)) (B' := fX7_meetAll_B19 (Mr.1 1) (Mr.1 2) (nI (szF q)) (nI j)) (x0 := (nI q, nI 0)) (x0' := (nI (dcF q), nI 0, Mr.1 10, Mr.2.2 48, Mr.2.2 49))
      (fun i y y' => ∃ x all many tb, 0 < x ∧ x < 626 ∧ szF x = szF q ∧ y = (nI x, nI i) ∧ y' = (nI (dcF x), nI i, all, many, tb) ∧ TBok all many tb)
      (fun y y' => ∃ x all many tb, 0 < x ∧ x < 626 ∧ szF x = szF q ∧ y = nI x ∧ y' = (nI (dcF x), all, many, tb) ∧ TBok all many tb) 4 (by omega)
      ⟨q, _, _, _, q0, q1, rfl, rfl, rfl, htb⟩ (by
        rintro i y y' hi4 ⟨x, all, many, tb, x0, x1, x2, rfl, rfl, hB⟩
        by_cases h4 : i = 4
        · subst h4
          refine Or.inr ⟨nI x, (nI (dcF x), all, many, tb), ?_, ?_, x, all, many, tb, x0, x1, x2, rfl, rfl, hB⟩
          · unfold fX6_meetAll_B28
            simp (disch := omega) only [Option.bind_some, Sum.elim_inl, Sum.elim_inr, q_le, q_nle, q_lt, q_nlt, q_eq, q_ne, q_m1, q_m5, rd_n, wr_n, ixo_n, dvo_n, rmo_n, nI_add, pk_sub, pk_mul, if_true, if_false]
          · unfold fX7_meetAll_B19
            simp (disch := omega) only [Option.bind_some, Sum.elim_inl, Sum.elim_inr, q_le, q_nle, q_lt, q_nlt, q_eq, q_ne, q_m1, q_m5, rd_n, wr_n, ixo_n, dvo_n, rmo_n, nI_add, pk_sub, pk_mul, if_true, if_false]
        · have i4 : i < 4 := by omega
          have skip : ∀ w, w < 626 → szF w ≠ szF q → Mc.1 27 i = nI w → Mr.1 1 i = nI (szF w) → fX6_meetAll_B28 cF sF (Mc.1 27) (nI q) (nI j) (nI 4) (nI x, nI i) = some (.inl (nI x, nI (i + 1))) ∧ fX7_meetAll_B19 (Mr.1 1) (Mr.1 2) (nI (szF q)) (nI j) (nI (dcF x), nI i, all, many, tb) = some (.inl (nI (dcF x), nI (i + 1), all, many, tb)) := by
            intro w w1 wn e1 e2
            have w3 := sz_le w1
            constructor
            · unfold fX6_meetAll_B28 fX6_meetAll_J78
              simp (disch := omega) only [Option.bind_some, Sum.elim_inl, Sum.elim_inr, q_le, q_nle, q_lt, q_nlt, q_eq, q_ne, q_m1, q_m5, rd_n, wr_n, ixo_n, dvo_n, rmo_n, nI_add, pk_sub, pk_mul, if_true, if_false, e1, c_sizeOf w1, c_size q1]
            · unfold fX7_meetAll_B19 fX7_meetAll_J58
              simp (disch := omega) only [Option.bind_some, Sum.elim_inl, Sum.elim_inr, q_le, q_nle, q_lt, q_nlt, q_eq, q_ne, q_m1, q_m5, rd_n, wr_n, ixo_n, dvo_n, rmo_n, nI_add, pk_sub, pk_mul, if_true, if_false, e2]
          rcases hsh i i4 with ⟨e1, e2⟩ | ⟨z, z0, z1, e1, e2, e3⟩
          · obtain ⟨k1, k2⟩ := skip 0 (by omega) (by rw [sz_0]; omega) e1 (by rw [sz_0]; exact e2)
            exact Or.inl ⟨_, _, k1, k2, i4, x, all, many, tb, x0, x1, x2, rfl, rfl, hB⟩
          · by_cases hz : szF z = szF q
            · obtain ⟨m, all', many', m0, m1, m2, b1, b2, b3⟩ := bound_ok x0 x1 x2 z1 hz hj hB
              rw [hz] at e2
              refine Or.inl ⟨(nI m, nI (i + 1)), (nI (dcF m), nI (i + 1), all', many', nI (szF q)), ?_, ?_, i4, m, all', many', nI (szF q), m0, m1, m2, rfl, rfl, tb_of q0 q1 b3⟩
              · unfold fX6_meetAll_B28 fX6_meetAll_J74 fX6_meetAll_J78
                by_cases j0 : j = 0
                · subst j0
                  simp (disch := omega) only [Option.bind_some, Sum.elim_inl, Sum.elim_inr, q_le, q_nle, q_lt, q_nlt, q_eq, q_ne, q_m1, q_m5, rd_n, wr_n, ixo_n, dvo_n, rmo_n, nI_add, pk_sub, pk_mul, if_true, if_false, e1, c_sizeOf z1, c_size q1, hz, b1]
                · have j1 : j = 1 := by omega
                  subst j1
                  simp (disch := omega) only [Option.bind_some, Sum.elim_inl, Sum.elim_inr, q_le, q_nle, q_lt, q_nlt, q_eq, q_ne, q_m1, q_m5, rd_n, wr_n, ixo_n, dvo_n, rmo_n, nI_add, pk_sub, pk_mul, if_true, if_false, e1, c_sizeOf z1, c_size q1, hz, b1]
              · unfold fX7_meetAll_B19 fX7_meetAll_J54 fX7_meetAll_J58
                by_cases j0 : j = 0
                · subst j0
                  have b2' : fX7_bound all (nI (szF q)) many tb (nI (dcF x)) (nI (dcF z)) (nI 1) = some (nI (dcF m), all', many', nI (szF q)) := b2
                  simp (disch := omega) only [Option.bind_some, Sum.elim_inl, Sum.elim_inr, q_le, q_nle, q_lt, q_nlt, q_eq, q_ne, q_m1, q_m5, rd_n, wr_n, ixo_n, dvo_n, rmo_n, nI_add, pk_sub, pk_mul, if_true, if_false, e2, e3, b2']
                · have j1 : j = 1 := by omega
                  subst j1
                  have b2' : fX7_bound all (nI (szF q)) many tb (nI (dcF x)) (nI (dcF z)) (nI 0) = some (nI (dcF m), all', many', nI (szF q)) := b2
                  simp (disch := omega) only [Option.bind_some, Sum.elim_inl, Sum.elim_inr, q_le, q_nle, q_lt, q_nlt, q_eq, q_ne, q_m1, q_m5, rd_n, wr_n, ixo_n, dvo_n, rmo_n, nI_add, pk_sub, pk_mul, if_true, if_false, e2, e3, b2']
            · obtain ⟨k1, k2⟩ := skip z z1 hz e1 e2
              exact Or.inl ⟨_, _, k1, k2, i4, x, all, many, tb, x0, x1, x2, rfl, rfl, hB⟩)
    obtain ⟨all2, many2, n1, n2⟩ := m_numberOf x0 x1 hB
    rw [x2] at n1 n2
    have hf : fX6_meetAll cF sF (Mc.1 27) (nI q) (nI j) = some (nI (x - fstF (szF q))) := by
      unfold fX6_meetAll
      simp (disch := omega) only [Option.bind_some, Sum.elim_inl, Sum.elim_inr, q_le, q_nle, q_lt, q_nlt, q_eq, q_ne, q_m1, q_m5, rd_n, wr_n, ixo_n, dvo_n, rmo_n, nI_add, pk_sub, pk_mul, if_true, if_false, r1, c_numberOf x0 x1, x2]
    have hm : fX7_meetAll (Mr.1 1) (Mr.1 2) (Mr.1 10) (nI (szF q)) (nI (dcF q)) (Mr.2.2 48) (Mr.2.2 49) (nI j) = some (nI (x - fstF (szF q)), all2, many2, nI (szF q)) := by
      unfold fX7_meetAll
      simp (disch := omega) only [Option.bind_some, Sum.elim_inl, Sum.elim_inr, q_le, q_nle, q_lt, q_nlt, q_eq, q_ne, q_m1, q_m5, rd_n, wr_n, ixo_n, dvo_n, rmo_n, nI_add, pk_sub, pk_mul, if_true, if_false, hi, r2, n1]
    exact ⟨_, _, hf, hm, rfl, rel_mk ⟨hc, hs⟩ htr hsh hst hli hta him (tb_of q0 q1 n2) hwy hms⟩
  · have hi : fX7_in u1.toInt64 (0 : Int64) (1 : Int64) = some (nI 0) := in_out (m := 2) rfl ho
    have hf : fX6_meetAll cF sF (Mc.1 27) (nI q) u1 = some (-1 : Int32) := by
      unfold fX6_meetAll
      rcases ho with h | ⟨k, h1, h2, rfl⟩
      · rw [if_pos h]
      · rw [if_neg (nI_nlt (by omega) (by omega)), if_neg (nI_ge (by omega) (by omega))]
    have hm : fX7_meetAll (Mr.1 1) (Mr.1 2) (Mr.1 10) (nI (szF q)) (nI (dcF q)) (Mr.2.2 48) (Mr.2.2 49) u1 = some ((-1 : Int32), Mr.1 10, Mr.2.2 48, Mr.2.2 49) := by
      unfold fX7_meetAll
      simp (disch := omega) only [Option.bind_some, Sum.elim_inl, Sum.elim_inr, q_le, q_nle, q_lt, q_nlt, q_eq, q_ne, q_m1, q_m5, rd_n, wr_n, ixo_n, dvo_n, rmo_n, nI_add, pk_sub, pk_mul, if_true, if_false, hi]
    exact ⟨_, _, hf, hm, rfl, rel_mk ⟨hc, hs⟩ htr hsh hst hli hta him htb hwy hms⟩
