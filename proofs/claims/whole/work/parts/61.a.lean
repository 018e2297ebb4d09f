/-! the class's methods on places and sizes -/
theorem fi_fst : ∀ n, n < 9 → fiF n = nI (fstF n) := by decide
theorem c_sizeOf {p : Nat} (hp : p < 626) : fX0_sizeOf sF (nI p) = some (nI (szF p)) := by
  unfold fX0_sizeOf
  simp (disch := omega) only [Option.bind_some, Sum.elim_inl, Sum.elim_inr, q_le, q_nle, q_lt, q_nlt, q_eq, q_ne, q_m1, q_m5, rd_n, wr_n, ixo_n, dvo_n, rmo_n, nI_add, pk_sub, pk_mul, if_true, if_false]
  rfl
theorem c_codeOf {p : Nat} (hp : p < 626) : fX0_codeOf cF (nI p) = some (nI (cdF p)) := by
  unfold fX0_codeOf
  simp (disch := omega) only [Option.bind_some, Sum.elim_inl, Sum.elim_inr, q_le, q_nle, q_lt, q_nlt, q_eq, q_ne, q_m1, q_m5, rd_n, wr_n, ixo_n, dvo_n, rmo_n, nI_add, pk_sub, pk_mul, if_true, if_false]
  rfl
theorem c_isSize {n : Nat} (h1 : 0 < n) (h2 : n < 8) : fX0_isSize (nI n) = some (nI 1) := by
  unfold fX0_isSize
  simp (disch := omega) only [Option.bind_some, Sum.elim_inl, Sum.elim_inr, q_le, q_nle, q_lt, q_nlt, q_eq, q_ne, q_m1, q_m5, rd_n, wr_n, ixo_n, dvo_n, rmo_n, nI_add, pk_sub, pk_mul, if_true, if_false]
theorem c_isSize_no {x : Int32} (h : x < nI 1 ∨ nI 7 < x) : fX0_isSize x = some (nI 0) := by
  unfold fX0_isSize
  by_cases h1 : x < nI 1
  · rw [if_pos h1]
  · rw [if_neg h1, if_pos (h.resolve_left h1)]
/-- a number is a size, or too small, or too great -/
theorem size_cases (x : Int32) : (∃ n, 0 < n ∧ n < 8 ∧ x = nI n) ∨ (x < nI 1 ∨ nI 7 < x) := by
  rcases i_cases x with ⟨k, hk, rfl⟩ | h
  · by_cases h1 : 0 < k
    · by_cases h2 : k < 8
      · exact Or.inl ⟨k, h1, h2, rfl⟩
      · exact Or.inr (Or.inr (nI_lt (by omega) (by omega)))
    · exact Or.inr (Or.inl (nI_lt (by omega) (by omega)))
  · exact Or.inr (Or.inl (neg_lt h (by omega)))
theorem c_firstOf {n : Nat} (h1 : 0 < n) (h2 : n < 8) : fX0_firstOf (nI n) = some (nI (fstF n)) := by
  unfold fX0_firstOf
  simp (disch := omega) only [Option.bind_some, Sum.elim_inl, Sum.elim_inr, q_le, q_nle, q_lt, q_nlt, q_eq, q_ne, q_m1, q_m5, rd_n, wr_n, ixo_n, dvo_n, rmo_n, nI_add, pk_sub, pk_mul, if_true, if_false, c_isSize h1 h2, fi_fst n (by omega)]
theorem c_lastOf {n : Nat} (h1 : 0 < n) (h2 : n < 8) : fX0_lastOf (nI n) = some (nI (fstF (n + 1) - 1)) := by
  unfold fX0_lastOf
  have := fst_lt n h2
  simp (disch := omega) only [Option.bind_some, Sum.elim_inl, Sum.elim_inr, q_le, q_nle, q_lt, q_nlt, q_eq, q_ne, q_m1, q_m5, rd_n, wr_n, ixo_n, dvo_n, rmo_n, nI_add, pk_sub, pk_mul, if_true, if_false, c_isSize h1 h2, fi_fst (n + 1) (by omega)]
theorem c_howMany {n : Nat} (h1 : 0 < n) (h2 : n < 8) : fX0_howMany (nI n) = some (nI (cntF n)) := by
  unfold fX0_howMany
  have := fst_lt n h2
  simp (disch := omega) only [Option.bind_some, Sum.elim_inl, Sum.elim_inr, q_le, q_nle, q_lt, q_nlt, q_eq, q_ne, q_m1, q_m5, rd_n, wr_n, ixo_n, dvo_n, rmo_n, nI_add, pk_sub, pk_mul, if_true, if_false, c_firstOf h1 h2, c_lastOf h1 h2]
  unfold cntF
  rw [show fstF (n + 1) - 1 - fstF n + 1 = fstF (n + 1) - fstF n by omega]
theorem c_numberOf {p : Nat} (h0 : 0 < p) (hp : p < 626) : fX0_numberOf sF (nI p) = some (nI (p - fstF (szF p))) := by
  unfold fX0_numberOf
  have h1 := sz_pos hp h0
  have h2 := sz_le hp
  simp (disch := omega) only [Option.bind_some, Sum.elim_inl, Sum.elim_inr, q_le, q_nle, q_lt, q_nlt, q_eq, q_ne, q_m1, q_m5, rd_n, wr_n, ixo_n, dvo_n, rmo_n, nI_add, pk_sub, pk_mul, if_true, if_false, c_sizeOf hp, c_firstOf h1.1 (by omega)]
theorem c_end {p i : Nat} (hp : p < 626) (hi : i < szF p) : fX0_end cF sF (nI p) (nI i) = some (nI (i + dgF p i)) := by
  unfold fX0_end
  have h2 := sz_le hp
  simp (disch := omega) only [Option.bind_some, Sum.elim_inl, Sum.elim_inr, q_le, q_nle, q_lt, q_nlt, q_eq, q_ne, q_m1, q_m5, rd_n, wr_n, ixo_n, dvo_n, rmo_n, nI_add, pk_sub, pk_mul, if_true, if_false, c_rightSize hp (show i < 7 by omega) hi]
/-- what find answers: nothing, or the place with that code -/
theorem c_find_any {n : Nat} (h1 : 0 < n) (h2 : n < 8) (x : Int32) : ∃ r, fX0_find cF (nI n) x = some (nI r) ∧ (r = 0 ∨ (0 < r ∧ r < 626 ∧ szF r = n ∧ nI (cdF r) = x)) := by
  have hf := fst_lt n h2
  unfold fX0_find
  simp (disch := omega) only [Option.bind_some, Sum.elim_inl, Sum.elim_inr, q_le, q_nle, q_lt, q_nlt, q_eq, q_ne, q_m1, q_m5, rd_n, wr_n, ixo_n, dvo_n, rmo_n, nI_add, pk_sub, pk_mul, if_true, if_false, c_firstOf h1 h2, c_lastOf h1 h2]
  obtain ⟨y, hy, k, hk1, hk2, rfl⟩ := it_inv (B := fX0_find_B18 cF x (nI (fstF (n + 1) - 1))) (x0 := (nI (fstF n), nI 256)) (fun j z => ∃ k s : Nat, fstF n ≤ k ∧ k < fstF (n + 1) ∧ z = (nI k, nI s) ∧ s < 2 ^ (9 - j)) (fun y => ∃ k : Nat, fstF n ≤ k ∧ k < fstF (n + 1) ∧ y = nI k) 9 (by omega) ⟨fstF n, 256, Nat.le_refl _, by omega, rfl, by decide⟩ (by
    intro j z hj ⟨k, s, hk1, hk2, hz, hs⟩
    subst hz
    have hs9 : s < 512 := Nat.lt_of_lt_of_le hs (Nat.le_trans (Nat.pow_le_pow_right (by omega) (show 9 - j ≤ 9 by omega)) (by decide))
    have hsh : nI s >>> (nI 1 &&& 31) = nI (s / 2) := pk_shrN (by omega) _ 1 (by decide)
    unfold fX0_find_B18 fX0_find_J52
    by_cases h0 : s = 0
    · subst h0
      right
      exact ⟨nI k, by simp (disch := omega) only [Option.bind_some, Sum.elim_inl, Sum.elim_inr, q_le, q_nle, q_lt, q_nlt, q_eq, q_ne, q_m1, q_m5, rd_n, wr_n, ixo_n, dvo_n, rmo_n, nI_add, pk_sub, pk_mul, if_true, if_false], k, hk1, hk2, rfl⟩
    · left
      have hj9 : j < 9 := by
        rcases Nat.lt_or_ge j 9 with q | q
        · exact q
        · rw [show 9 - j = 0 by omega] at hs
          omega
      have hs2 : s / 2 < 2 ^ (9 - (j + 1)) := by
        rw [show 9 - j = (9 - (j + 1)) + 1 by omega, Nat.pow_succ] at hs
        omega
      by_cases h3 : fstF (n + 1) - 1 < k + s
      · exact ⟨(nI k, nI (s / 2)), by simp (disch := omega) only [Option.bind_some, Sum.elim_inl, Sum.elim_inr, q_le, q_nle, q_lt, q_nlt, q_eq, q_ne, q_m1, q_m5, rd_n, wr_n, ixo_n, dvo_n, rmo_n, nI_add, pk_sub, pk_mul, if_true, if_false, hsh], hj9, k, s / 2, hk1, hk2, rfl, hs2⟩
      · by_cases h4 : x < nI (cdF (k + s))
        · exact ⟨(nI k, nI (s / 2)), by simp (disch := omega) only [Option.bind_some, Sum.elim_inl, Sum.elim_inr, q_le, q_nle, q_lt, q_nlt, q_eq, q_ne, q_m1, q_m5, rd_n, wr_n, ixo_n, dvo_n, rmo_n, nI_add, pk_sub, pk_mul, if_true, if_false, hsh, c_codeOf (show k + s < 626 by omega)]; rw [if_pos h4], hj9, k, s / 2, hk1, hk2, rfl, hs2⟩
        · exact ⟨(nI (k + s), nI (s / 2)), by simp (disch := omega) only [Option.bind_some, Sum.elim_inl, Sum.elim_inr, q_le, q_nle, q_lt, q_nlt, q_eq, q_ne, q_m1, q_m5, rd_n, wr_n, ixo_n, dvo_n, rmo_n, nI_add, pk_sub, pk_mul, if_true, if_false, hsh, c_codeOf (show k + s < 626 by omega)]; rw [if_neg h4], hj9, k + s, s / 2, by omega, by omega, rfl, hs2⟩)
  rw [hy]
  simp (disch := omega) only [Option.bind_some, Sum.elim_inl, Sum.elim_inr, q_le, q_nle, q_lt, q_nlt, q_eq, q_ne, q_m1, q_m5, rd_n, wr_n, ixo_n, dvo_n, rmo_n, nI_add, pk_sub, pk_mul, if_true, if_false, c_codeOf (show k < 626 by omega)]
  by_cases h5 : nI (cdF k) = x
  · exact ⟨k, by rw [if_pos h5], Or.inr ⟨by omega, by omega, sz_of h2 hk1 hk2 (by omega), h5⟩⟩
  · exact ⟨0, by rw [if_neg h5], Or.inl rfl⟩
theorem c_find' {p n c : Nat} (h0 : 0 < p) (hp : p < 626) (hn : szF p = n) (hc : cdF p = c) : fX0_find cF (nI n) (nI c) = some (nI p) := by
  rw [← hn, ← hc]
  exact c_find hp h0
