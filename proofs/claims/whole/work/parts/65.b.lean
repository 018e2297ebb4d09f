def fiC (n m l : Nat) : Prop := l < cntF n ∧ caF (fstF n + l) = m ∧ ∀ i, i < l → caF (fstF n + i) ≠ m
def laC (n m l : Nat) : Prop := l < cntF n ∧ caF (fstF n + l) = m ∧ ∀ i, l < i → i < cntF n → caF (fstF n + i) ≠ m
theorem m_canP {n k : Nat} (h0 : 0 < n) (h7 : n < 8) (hk : k < cntF n) : fX7_canopyOf (nI (dcF (fstF n + k))) (nI n) = some (nI (caF (fstF n + k))) := by
  obtain ⟨z0, z1, z2⟩ := pl_ok h0 h7 hk
  have := m_canopyOf z0 z1
  rw [z2] at this
  exact this
theorem m_inClass {n m : Nat} {all : Nat → Int32} {many v2 : Int32} (h0 : 0 < n) (h7 : n < 8) (hm : m < 2 ^ (n - 1)) (hm2 : m < 1000) (hT : TBn n all many) : ∃ a b, it (fX7_inClass_B56 all (nI n) many (nI m) v2) FU (nI 0, (-1 : Int32), (-1 : Int32), nI 0) = some (nI (cCa (fstF n) m (cntF n)), nI a, nI b) ∧ fiC n m a ∧ laC n m b := by
  have hc := cnt_le n h7
  obtain ⟨kx, hkx, ekx⟩ := ca_ex h0 h7 hm
  obtain ⟨y, hy, a, b, rfl, hab⟩ : ∃ y, it (fX7_inClass_B56 all (nI n) many (nI m) v2) FU (nI 0, (-1 : Int32), (-1 : Int32), nI 0) = some y ∧ ∃ a b, y = (nI (cCa (fstF n) m (cntF n)), nI a, nI b) ∧ fiC n m a ∧ laC n m b := by
    refine it_inv (fun k x => ∃ fI lI, x = (nI (cCa (fstF n) m k), fI, lI, nI k) ∧ ((∀ i, i < k → caF (fstF n + i) ≠ m) ∨ ∃ a b, fI = nI a ∧ lI = nI b ∧ a < k ∧ caF (fstF n + a) = m ∧ (∀ i, i < a → caF (fstF n + i) ≠ m) ∧ b < k ∧ caF (fstF n + b) = m ∧ ∀ i, b < i → i < k → caF (fstF n + i) ≠ m)) _ (cntF n) (by omega) ⟨(-1 : Int32), (-1 : Int32), rfl, Or.inl (fun i hi => absurd hi (Nat.not_lt_zero _))⟩ ?_
    rintro k x hk ⟨fI, lI, rfl, hinv⟩
    unfold fX7_inClass_B56
    rw [hT.1]
    rcases Nat.lt_or_ge k (cntF n) with hlt | hge
    · left
      have ea := hT.2 k hlt
      have ec := m_canP h0 h7 hlt
      have hcl := ca_lt (fstF n + k)
      have hle := cCa_le (fstF n) m k
      by_cases e : caF (fstF n + k) = m
      · rcases hinv with hno | ⟨a, b, rfl, rfl, a1, a2, a3, b1, b2, b3⟩
        · have e0 := cCa_0 (f := fstF n) (m := m) k hno
          refine ⟨(nI (cCa (fstF n) m (k + 1)), nI k, nI k, nI (k + 1)), ?_, hlt, nI k, nI k, rfl, Or.inr ⟨k, k, rfl, rfl, by omega, e, hno, by omega, e, fun i h1 h2 => by omega⟩⟩
          unfold fX7_inClass_J94 fX7_inClass_J101
          rw [cCa, if_pos e, e0]
          simp (disch := omega) only [Option.bind_some, Sum.elim_inl, Sum.elim_inr, q_le, q_nle, q_lt, q_nlt, q_eq, q_ne, q_m1, q_m5, rd_n, wr_n, ixo_n, dvo_n, rmo_n, nI_add, pk_sub, pk_mul, if_true, if_false, ea, ec]
        · have e0 := cCa_p (f := fstF n) k a1 a2
          refine ⟨(nI (cCa (fstF n) m (k + 1)), nI a, nI k, nI (k + 1)), ?_, hlt, nI a, nI k, rfl, Or.inr ⟨a, k, rfl, rfl, by omega, a2, a3, by omega, e, fun i h1 h2 => by omega⟩⟩
          unfold fX7_inClass_J94 fX7_inClass_J101
          rw [cCa, if_pos e]
          simp (disch := omega) only [Option.bind_some, Sum.elim_inl, Sum.elim_inr, q_le, q_nle, q_lt, q_nlt, q_eq, q_ne, q_m1, q_m5, rd_n, wr_n, ixo_n, dvo_n, rmo_n, nI_add, pk_sub, pk_mul, if_true, if_false, ea, ec]
      · refine ⟨(nI (cCa (fstF n) m (k + 1)), fI, lI, nI (k + 1)), ?_, hlt, fI, lI, rfl, ?_⟩
        · unfold fX7_inClass_J101
          rw [cCa, if_neg e]
          simp (disch := omega) only [Option.bind_some, Sum.elim_inl, Sum.elim_inr, q_le, q_nle, q_lt, q_nlt, q_eq, q_ne, q_m1, q_m5, rd_n, wr_n, ixo_n, dvo_n, rmo_n, nI_add, pk_sub, pk_mul, if_true, if_false, ea, ec]
          rfl
        · rcases hinv with hno | ⟨a, b, rfl, rfl, a1, a2, a3, b1, b2, b3⟩
          · left
            intro i hi
            rcases Nat.lt_or_ge i k with q | q
            · exact hno i q
            · rw [show i = k by omega]
              exact e
          · refine Or.inr ⟨a, b, rfl, rfl, by omega, a2, a3, by omega, b2, fun i h1 h2 => ?_⟩
            rcases Nat.lt_or_ge i k with q | q
            · exact b3 i h1 q
            · rw [show i = k by omega]
              exact e
    · right
      have ek : k = cntF n := by omega
      subst ek
      rcases hinv with hno | ⟨a, b, rfl, rfl, a1, a2, a3, b1, b2, b3⟩
      · exact absurd ekx (hno kx hkx)
      · refine ⟨_, ?_, a, b, rfl, ⟨a1, a2, a3⟩, ⟨b1, b2, b3⟩⟩
        simp (disch := omega) only [Option.bind_some, Sum.elim_inl, Sum.elim_inr, q_le, q_nle, q_lt, q_nlt, q_eq, q_ne, q_m1, q_m5, rd_n, wr_n, ixo_n, dvo_n, rmo_n, nI_add, pk_sub, pk_mul, if_true, if_false]
  exact ⟨a, b, hy, hab⟩
theorem c_howManyWith {n m : Nat} (h0 : 0 < n) (h7 : n < 8) (hm2 : m < 1000) : fX0_howManyWith cF sF (nI n) (nI m) = some (nI (cCa (fstF n) m (cntF n))) := by
  have hc := cnt_le n h7
  have hf := fst_lt n h7
  have key : it (fX0_howManyWith_B9 cF sF (nI n) (nI m)) FU (nI 0, nI (fstF n)) = some (nI (cCa (fstF n) m (cntF n))) := by
    refine it_go (fun k => (nI (cCa (fstF n) m k), nI (fstF n + k))) (cntF n) rfl (by omega) ?_ ?_
    · intro k hk
      obtain ⟨z0, z1, z2⟩ := pl_ok h0 h7 hk
      have hcl := ca_lt (fstF n + k)
      unfold fX0_howManyWith_B9 fX0_howManyWith_J32
      rw [cCa]
      by_cases e : caF (fstF n + k) = m
      · rw [if_pos e]
        simp (disch := omega) only [Option.bind_some, Sum.elim_inl, Sum.elim_inr, q_le, q_nle, q_lt, q_nlt, q_eq, q_ne, q_m1, q_m5, rd_n, wr_n, ixo_n, dvo_n, rmo_n, nI_add, pk_sub, pk_mul, if_true, if_false, c_lastOf h0 h7, c_withRightChild z1 z0]
        rfl
      · rw [if_neg e]
        simp (disch := omega) only [Option.bind_some, Sum.elim_inl, Sum.elim_inr, q_le, q_nle, q_lt, q_nlt, q_eq, q_ne, q_m1, q_m5, rd_n, wr_n, ixo_n, dvo_n, rmo_n, nI_add, pk_sub, pk_mul, if_true, if_false, c_lastOf h0 h7, c_withRightChild z1 z0]
        rfl
    · unfold fX0_howManyWith_B9
      simp (disch := omega) only [Option.bind_some, Sum.elim_inl, Sum.elim_inr, q_le, q_nle, q_lt, q_nlt, q_eq, q_ne, q_m1, q_m5, rd_n, wr_n, ixo_n, dvo_n, rmo_n, nI_add, pk_sub, pk_mul, if_true, if_false, c_lastOf h0 h7]
  unfold fX0_howManyWith
  rw [c_firstOf h0 h7, Option.bind_some, key]
  rfl
theorem c_leastWith {n m a : Nat} (h0 : 0 < n) (h7 : n < 8) (hm2 : m < 1000) (ha : fiC n m a) : fX0_leastWith cF sF (nI n) (nI m) = some (nI (fstF n + a)) := by
  have hc := cnt_le n h7
  have hf := fst_lt n h7
  obtain ⟨a1, a2, a3⟩ := ha
  have key : it (fX0_leastWith_B6 cF sF (nI n) (nI m)) FU (nI (fstF n)) = some (.inr (nI (fstF n + a))) := by
    refine it_go (fun k => nI (fstF n + k)) a rfl (by omega) ?_ ?_
    · intro k hk
      obtain ⟨z0, z1, z2⟩ := pl_ok h0 h7 (show k < cntF n by omega)
      have hcl := ca_lt (fstF n + k)
      have := a3 k hk
      unfold fX0_leastWith_B6
      simp (disch := omega) only [Option.bind_some, Sum.elim_inl, Sum.elim_inr, q_le, q_nle, q_lt, q_nlt, q_eq, q_ne, q_m1, q_m5, rd_n, wr_n, ixo_n, dvo_n, rmo_n, nI_add, pk_sub, pk_mul, if_true, if_false, c_lastOf h0 h7, c_withRightChild z1 z0]
      rfl
    · obtain ⟨z0, z1, z2⟩ := pl_ok h0 h7 a1
      unfold fX0_leastWith_B6
      simp (disch := omega) only [Option.bind_some, Sum.elim_inl, Sum.elim_inr, q_le, q_nle, q_lt, q_nlt, q_eq, q_ne, q_m1, q_m5, rd_n, wr_n, ixo_n, dvo_n, rmo_n, nI_add, pk_sub, pk_mul, if_true, if_false, c_lastOf h0 h7, c_withRightChild z1 z0]
  unfold fX0_leastWith
  rw [c_firstOf h0 h7, Option.bind_some, key]
  rfl
theorem c_greatestWith {n m b : Nat} (h0 : 0 < n) (h7 : n < 8) (hm2 : m < 1000) (hb : laC n m b) : fX0_greatestWith cF sF (nI n) (nI m) = some (nI (fstF n + b)) := by
  have hc := cnt_le n h7
  have hf := fst_lt n h7
  obtain ⟨a1, a2, a3⟩ := hb
  have key : it (fX0_greatestWith_B6 cF sF (nI n) (nI m)) FU (nI (fstF (n + 1) - 1)) = some (.inr (nI (fstF n + b))) := by
    refine it_go (fun k => nI (fstF (n + 1) - 1 - k)) (cntF n - 1 - b) rfl (by omega) ?_ ?_
    · intro k hk
      have ez : fstF (n + 1) - 1 - k = fstF n + (cntF n - 1 - k) := by omega
      obtain ⟨z0, z1, z2⟩ := pl_ok h0 h7 (show cntF n - 1 - k < cntF n by omega)
      have hcl := ca_lt (fstF n + (cntF n - 1 - k))
      have := a3 (cntF n - 1 - k) (by omega) (by omega)
      unfold fX0_greatestWith_B6
      rw [ez]
      simp (disch := omega) only [Option.bind_some, Sum.elim_inl, Sum.elim_inr, q_le, q_nle, q_lt, q_nlt, q_eq, q_ne, q_m1, q_m5, rd_n, wr_n, ixo_n, dvo_n, rmo_n, nI_add, pk_sub, pk_mul, if_true, if_false, c_firstOf h0 h7, c_withRightChild z1 z0]
      rw [add_m1, sub1 (by omega)]
      congr 3
      omega
    · have ez : fstF (n + 1) - 1 - (cntF n - 1 - b) = fstF n + b := by omega
      obtain ⟨z0, z1, z2⟩ := pl_ok h0 h7 a1
      unfold fX0_greatestWith_B6
      rw [ez]
      simp (disch := omega) only [Option.bind_some, Sum.elim_inl, Sum.elim_inr, q_le, q_nle, q_lt, q_nlt, q_eq, q_ne, q_m1, q_m5, rd_n, wr_n, ixo_n, dvo_n, rmo_n, nI_add, pk_sub, pk_mul, if_true, if_false, c_firstOf h0 h7, c_withRightChild z1 z0]
  unfold fX0_greatestWith
  rw [c_lastOf h0 h7, Option.bind_some, key]
  rfl
