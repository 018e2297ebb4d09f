/-! reading: to the end -/
theorem stp_far {X Y : Type} {B : X → Option (X ⊕ Y)} {k : Nat} {x y : X} {r : Y} (hk : k < 100000) (h : stp B k x = some y) (g : B y = some (.inr r)) : it B FU x = some r := by
  have e : FU = (FU - k - 1) + 1 + k := by unfold FU; omega
  rw [e]
  refine stp_it k _ x y h ?_
  rw [it, g]
  rfl
theorem rd_code {n : Nat} {rs : Nat → Int32} {g : Nat → Nat} (h7 : n < 8) (hT : TreeD n g) (hr : ∀ j, j < n → rs j = nI (g j)) : fX4_parsedCode rs (nI n) = some (nI (digN 16 ((List.range' 0 n).map g))) := by
  unfold fX4_parsedCode
  refine ob_i (it_go (fun j => (nI (digN 16 ((List.range' 0 j).map g) * 16 ^ (n - j)), nI j)) n ?_ (by omega) (fun j hj => ?_) (y := nI (digN 16 ((List.range' 0 n).map g))) ?_) rfl
  · show (nI (0 * 16 ^ (n - 0)), nI 0) = _
    rw [Nat.zero_mul]
  · unfold fX4_parsedCode_B4
    have hg := (hT j hj).1
    simp (disch := omega) only [Option.bind_some, Sum.elim_inl, Sum.elim_inr, q_le, q_nle, q_lt, q_nlt, q_eq, q_ne, q_m1, q_m5, rd_n, wr_n, ixo_n, dvo_n, rmo_n, nI_add, pk_sub, pk_mul, if_true, if_false, hr j hj, c_digitAt (show g j < 8 by omega) hj h7]
    have e : n - j = (n - (j + 1)) + 1 := by omega
    have e2 : n - 1 - j = n - (j + 1) := by omega
    have hx : 0 < 16 ^ (n - (j + 1)) := Nat.pow_pos (by omega)
    have hlt : g j * 16 ^ (n - 1 - j) < 16 ^ (n - j) := by
      rw [e, e2, Nat.pow_succ, Nat.mul_comm _ 16]
      exact Nat.mul_lt_mul_of_pos_right (by omega) hx
    rw [or_high _ _ _ hlt, rng_snoc, digN_snoc, e, e2, Nat.pow_succ, Nat.add_mul, Nat.mul_assoc _ 16, Nat.mul_comm 16]
  · unfold fX4_parsedCode_B4
    simp (disch := omega) only [Option.bind_some, Sum.elim_inl, Sum.elim_inr, q_le, q_nle, q_lt, q_nlt, q_eq, q_ne, q_m1, q_m5, rd_n, wr_n, ixo_n, dvo_n, rmo_n, nI_add, pk_sub, pk_mul, if_true, if_false]
    rw [Nat.sub_self, Nat.pow_zero, Nat.mul_one]
theorem rd_dec {n : Nat} {row : Nat → Int32} {g : Nat → Nat} (h7 : n < 8) (hr : ∀ j, j < n → row j = nI (g j)) : it (fX7_read_B61 row (nI n)) FU (nI 0, nI 0) = some (nI (digN 10 ((List.range' 0 n).map g))) := by
  refine it_go (fun j => (nI (digN 10 ((List.range' 0 j).map g)), nI j)) n rfl (by omega) (fun j hj => ?_) ?_
  · unfold fX7_read_B61
    simp (disch := omega) only [Option.bind_some, Sum.elim_inl, Sum.elim_inr, q_le, q_nle, q_lt, q_nlt, q_eq, q_ne, q_m1, q_m5, rd_n, wr_n, ixo_n, dvo_n, rmo_n, nI_add, pk_sub, pk_mul, if_true, if_false, hr j hj]
    rw [rng_snoc, digN_snoc, Nat.mul_comm 10]
  · unfold fX7_read_B61
    simp (disch := omega) only [Option.bind_some, Sum.elim_inl, Sum.elim_inr, q_le, q_nle, q_lt, q_nlt, q_eq, q_ne, q_m1, q_m5, rd_n, wr_n, ixo_n, dvo_n, rmo_n, nI_add, pk_sub, pk_mul, if_true, if_false]
theorem c_parse_no {bt aw on rs : Nat → Int32} {len aT k : Nat} {a b c : Int32} {x' : Int32 × (Nat → Int32) × (Nat → Int32) × (Nat → Int32) × Int32 × Int32 × Int32} (hk : k < 100000) (h : stp (fX4_parse_B17 bt (nI len)) k (nI 0, aw, on, rs, nI 0, nI 0, nI 0) = some x') (hf : FLT bt len aT x') : ∃ w, fX4_parse bt aw on rs (nI len) a b c = some (nI aT, w) := by
  unfold fX4_parse
  rcases hf with ⟨_, w, hw⟩ | ⟨ea, aw1, on1, rs1, o, opd, num, hw, ho, h1, h2⟩
  · rw [stp_far hk h hw]
    exact ⟨w, rfl⟩
  · rw [stp_far hk h hw]
    have hi : fX4_isWhole (nI o) (nI opd) = some (nI 0) := by
      unfold fX4_isWhole
      by_cases e : opd = 0
      · rw [e]
        simp (disch := omega) only [Option.bind_some, Sum.elim_inl, Sum.elim_inr, q_le, q_nle, q_lt, q_nlt, q_eq, q_ne, q_m1, q_m5, rd_n, wr_n, ixo_n, dvo_n, rmo_n, nI_add, pk_sub, pk_mul, if_true, if_false]
      · simp (disch := omega) only [Option.bind_some, Sum.elim_inl, Sum.elim_inr, q_le, q_nle, q_lt, q_nlt, q_eq, q_ne, q_m1, q_m5, rd_n, wr_n, ixo_n, dvo_n, rmo_n, nI_add, pk_sub, pk_mul, if_true, if_false]
    refine ⟨(aw1, on1, rs1, nI o, nI opd, nI num), ?_⟩
    simp (disch := omega) only [Option.bind_some, Sum.elim_inl, Sum.elim_inr, q_le, q_nle, q_lt, q_nlt, q_eq, q_ne, q_m1, q_m5, rd_n, wr_n, ixo_n, dvo_n, rmo_n, nI_add, pk_sub, pk_mul, if_true, if_false, hi]
    rw [ea]
theorem c_parse_ok {bt aw on rs aw1 on1 rs1 : Nat → Int32} {len opd num k : Nat} {a b c : Int32} (hl : len ≤ 60) (hk : k < 100000) (ho : 0 < opd) (ho7 : opd ≤ 7) (h : stp (fX4_parse_B17 bt (nI len)) k (nI 0, aw, on, rs, nI 0, nI 0, nI 0) = some (nI len, aw1, on1, rs1, nI 0, nI opd, nI num)) : fX4_parse bt aw on rs (nI len) a b c = some ((-1 : Int32), aw1, on1, rs1, nI 0, nI opd, nI num) := by
  have hB : fX4_parse_B17 bt (nI len) (nI len, aw1, on1, rs1, nI 0, nI opd, nI num) = some (.inr (.inl (aw1, on1, rs1, nI 0, nI opd, nI num))) := by
    unfold fX4_parse_B17
    simp (disch := omega) only [Option.bind_some, Sum.elim_inl, Sum.elim_inr, q_le, q_nle, q_lt, q_nlt, q_eq, q_ne, q_m1, q_m5, rd_n, wr_n, ixo_n, dvo_n, rmo_n, nI_add, pk_sub, pk_mul, if_true, if_false]
  unfold fX4_parse
  rw [stp_far hk h hB]
  have hi : fX4_isWhole (nI 0) (nI opd) = some (nI 1) := by
    unfold fX4_isWhole
    simp (disch := omega) only [Option.bind_some, Sum.elim_inl, Sum.elim_inr, q_le, q_nle, q_lt, q_nlt, q_eq, q_ne, q_m1, q_m5, rd_n, wr_n, ixo_n, dvo_n, rmo_n, nI_add, pk_sub, pk_mul, if_true, if_false]
  simp (disch := omega) only [Option.bind_some, Sum.elim_inl, Sum.elim_inr, q_le, q_nle, q_lt, q_nlt, q_eq, q_ne, q_m1, q_m5, rd_n, wr_n, ixo_n, dvo_n, rmo_n, nI_add, pk_sub, pk_mul, if_true, if_false, hi]
theorem read_ok {bt tp aw on rs row : Nat → Int32} {len : Nat} (hl : len ≤ 60) (hbt : ∀ i, i < len → bt i = tp i) (ctree cheld copn copd cnum mnodes mtree msteps matp mseen mopn mpart : Int32) :
    ∃ rc rm, fX6_read cF sF bt aw on rs ctree cheld (nI len) copn copd cnum = some rc ∧ fX7_read tp row mnodes mtree msteps (nI len) matp mseen mopn mpart = some rm ∧ rc.1 = rm.1 ∧ rc.2.2.2.2.2.2.1 = nI 0 ∧ rm.2.2.2.2.2.1 = nI 0 ∧ ((rc.2.2.2.2.1 = ctree ∧ rc.2.2.2.2.2.1 = cheld ∧ rm.2.2.1 = mnodes ∧ rm.2.2.2.1 = mtree ∧ rm.2.2.2.2.1 = msteps) ∨ ∃ p, 0 < p ∧ p < 626 ∧ rc.2.2.2.2.1 = nI p ∧ rc.2.2.2.2.2.1 = nI 0 ∧ rm.2.2.1 = nI (szF p) ∧ rm.2.2.2.1 = nI (dcF p) ∧ rm.2.2.2.2.1 = nI 0) := by
  obtain ⟨ok, aT, seen', opd', part', row', e, ha, hS, hF⟩ := sees_ok (bt := bt) (tp := tp) hl hbt 16 0 0 0 0 aw on rs row mpart false (by omega) (Nat.zero_le _) (Nat.le_refl _) (Nat.zero_le _) (Nat.le_refl _) (Or.inr ⟨rfl, rfl, rfl⟩)
  have e' : fX7_sees 16 tp row (nI len) (nI 0) (nI 0) (nI 0) mpart (nI 0) = some (bI ok, row', nI aT, nI seen', nI opd', part') := e
  -- both refuse at aT
  have fin : ∀ w : (Nat → Int32) × (Nat → Int32) × (Nat → Int32) × Int32 × Int32 × Int32, fX4_parse bt aw on rs (nI len) copn copd cnum = some (nI aT, w) → fX6_read cF sF bt aw on rs ctree cheld (nI len) copn copd cnum = some ((-100 : Int32) - nI aT, w.1, w.2.1, w.2.2.1, ctree, cheld, nI 0, w.2.2.2.1, w.2.2.2.2.1, w.2.2.2.2.2) := by
    intro w hw
    have hc : fX4_clear (nI len) = some (nI 0) := rfl
    unfold fX6_read
    simp (disch := omega) only [Option.bind_some, Sum.elim_inl, Sum.elim_inr, q_le, q_nle, q_lt, q_nlt, q_eq, q_ne, q_m1, q_m5, rd_n, wr_n, ixo_n, dvo_n, rmo_n, nI_add, pk_sub, pk_mul, if_true, if_false, hw, hc]
  cases ok with
  | false =>
    obtain ⟨f1, f2, k, x', f3, f4, f5⟩ := hF rfl
    obtain ⟨w, hw⟩ := c_parse_no (a := copn) (b := copd) (c := cnum) (by omega) f4 f5
    refine ⟨_, ((-100 : Int32) - nI aT, row', mnodes, mtree, msteps, nI 0, nI aT, nI seen', nI opd', part'), fin w hw, ?_, rfl, rfl, rfl, Or.inl ⟨rfl, rfl, rfl, rfl, rfl⟩⟩
    unfold fX7_read
    rw [e', Option.bind_some, if_pos (show bI false = nI 0 from rfl)]
    rfl
  | true =>
    obtain ⟨l1, l2, l3, l4, l5, k, aw1, on1, rs1, g, l6, l7, l8, l9, l10, l11⟩ := hS rfl
    have hs0 : 0 < seen' := l2.2 rfl
    have hop : opd' = seen' := by omega
    have l7' : stp (fX4_parse_B17 bt (nI len)) k (nI 0, aw, on, rs, nI 0, nI 0, nI 0) = some (nI aT, aw1, on1, rs1, nI 0, nI opd', nI seen') := l7
    by_cases hend : aT = len
    · rw [hend] at l7'
      have hT : TreeD seen' g := fun i hi => l11 i (Nat.zero_le _) hi
      have hp := c_parse_ok (a := copn) (b := copd) (c := cnum) hl (by omega) (by omega) l4 l7'
      obtain ⟨p, p0, p1, p2, p3, p4⟩ := place_of hs0 (by omega) hT
      have hc : fX4_clear (nI len) = some (nI 0) := rfl
      have h3 : fX3_clear cheld = some (nI 0) := rfl
      have hn : fX4_parsedNodes (nI seen') = some (nI seen') := rfl
      have hcd := rd_code (rs := rs1) (show seen' < 8 by omega) hT (fun j hj => (l10 j (Nat.zero_le _) hj).1)
      have hf := c_find' p0 p1 p2 p3
      have hsz : fX6_size sF (nI p) = some (nI (szF p)) := by
        unfold fX6_size
        rw [c_sizeOf p1]
        rfl
      refine ⟨(nI (szF p), aw1, on1, rs1, nI p, nI 0, nI 0, nI 0, nI opd', nI seen'), (nI (szF p), row', nI (szF p), nI (dcF p), nI 0, nI 0, nI aT, nI seen', nI opd', part'), ?_, ?_, rfl, rfl, rfl, Or.inr ⟨p, p0, p1, rfl, rfl, rfl, rfl, rfl⟩⟩
      · unfold fX6_read
        rw [hp]
        simp (disch := omega) only [Option.bind_some, Sum.elim_inl, Sum.elim_inr, q_le, q_nle, q_lt, q_nlt, q_eq, q_ne, q_m1, q_m5, rd_n, wr_n, ixo_n, dvo_n, rmo_n, nI_add, pk_sub, pk_mul, if_true, if_false, hc, h3, hn, hcd, hf, hsz]
      · unfold fX7_read fX7_read_J39
        rw [e', Option.bind_some, if_neg (show ¬ bI true = nI 0 by decide)]
        dsimp only
        rw [if_pos (by rw [hend]), if_neg (show ¬ nI 1 = nI 0 by decide), rd_dec (show seen' < 8 by omega) (fun j hj => (l10 j (Nat.zero_le _) hj).2), ← p4, p2]
        rfl
    · have hi : aT < len := by omega
      have hno := f_no (bt := bt) (aw := aw1) (on := on1) (rs := rs1) (o := 0) (opd := opd') (num := seen') hl hi (a_done (by omega) l4)
      obtain ⟨w, hw⟩ := c_parse_no (a := copn) (b := copd) (c := cnum) (by omega) l7' hno
      refine ⟨_, ((-100 : Int32) - nI aT, row', mnodes, mtree, msteps, nI 0, nI aT, nI seen', nI opd', part'), fin w hw, ?_, rfl, rfl, rfl, Or.inl ⟨rfl, rfl, rfl, rfl, rfl⟩⟩
      unfold fX7_read
      rw [e', Option.bind_some, if_neg (show ¬ bI true = nI 0 by decide)]
      dsimp only
      rw [if_neg (fun e => hend ((nI_eq (by omega) (by omega)).mp e))]
      rfl
