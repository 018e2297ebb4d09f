/-! the trees' tables, as the class makes them -/
def bs (n : Nat) : Nat → Nat
  | 0 => fstF n
  | r + 1 => bs n r + cntF r * cntF (n - 1 - r)
theorem bs_end : ∀ n, n < 8 → 0 < n → bs n n = fstF (n + 1) := by decide
theorem bs_le : ∀ n, n < 8 → ∀ r, r < 8 → r < n → fstF n ≤ bs n r ∧ bs n r + cntF r * cntF (n - 1 - r) ≤ 626 ∧ fstF (r + 1) ≤ fstF n ∧ fstF (n - 1 - r + 1) ≤ fstF n := by decide
def gwB (n r a b k : Nat) : Bool := decide (cF k = ((nI r <<< ((nI 4 * nI r) &&& 31) ||| cF a) <<< ((nI 4 * nI (n - 1 - r)) &&& 31)) ||| cF b) && decide (szF k = n)
theorem k_grow : (List.range 8).all (fun n => decide (n = 0) || (List.range n).all fun r => (List.range (cntF r)).all fun i => (List.range (cntF (n - 1 - r))).all fun j => gwB n r (fstF r + i) (fstF (n - 1 - r) + j) (bs n r + i * cntF (n - 1 - r) + j)) = true := by decide +kernel
theorem grow_at {n r i j : Nat} (h7 : n < 8) (hr : r < n) (hi : i < cntF r) (hj : j < cntF (n - 1 - r)) : cF (bs n r + i * cntF (n - 1 - r) + j) = ((nI r <<< ((nI 4 * nI r) &&& 31) ||| cF (fstF r + i)) <<< ((nI 4 * nI (n - 1 - r)) &&& 31)) ||| cF (fstF (n - 1 - r) + j) ∧ sF (bs n r + i * cntF (n - 1 - r) + j) = nI n := by
  have h := ra k_grow h7
  rw [decide_eq_false (by omega), Bool.false_or] at h
  have h2 := ra (ra (ra h hr) hi) hj
  unfold gwB at h2
  rw [Bool.and_eq_true, decide_eq_true_eq, decide_eq_true_eq] at h2
  refine ⟨h2.1, ?_⟩
  show nI (szF _) = nI n
  rw [h2.2]
def GI (k : Nat) (c s : Nat → Int32) : Prop := ∀ j, j < k → c j = cF j ∧ s j = sF j
theorem gi_up {k : Nat} {c s : Nat → Int32} {x y : Int32} (H : GI k c s) (h1 : x = cF k) (h2 : y = sF k) : GI (k + 1) (upd c k x) (upd s k y) := by
  intro j hj
  by_cases e : j = k
  · rw [e, upd_s, upd_s]
    exact ⟨h1, h2⟩
  · rw [upd_n e, upd_n e]
    exact H j (by omega)
theorem fi_at {n : Nat} (h : n < 9) : rd 9 fiF (nI n) = some (nI (fstF n)) := by rw [rd_n h (by omega), fi_fst n h]
theorem fst_626 : ∀ n, n < 9 → fstF n ≤ 626 := by decide
theorem gr_57 {n r i : Nat} {v3 v6 : Int32} {c s : Nat → Int32} (h7 : n < 8) (hr : r < n) (hi : i < cntF r) (H : GI (bs n r + i * cntF (n - 1 - r)) c s) : ∃ c' s', it (fX0_growAll_B57 (nI n) v3 (nI (n - 1 - r)) v6 ((nI r <<< ((nI 4 * nI r) &&& 31) ||| cF (fstF r + i)) <<< ((nI 4 * nI (n - 1 - r)) &&& 31))) FU (nI (bs n r + i * cntF (n - 1 - r)), nI (fstF (n - 1 - r)), c, s) = some (nI (bs n r + i * cntF (n - 1 - r) + cntF (n - 1 - r)), c', s') ∧ GI (bs n r + i * cntF (n - 1 - r) + cntF (n - 1 - r)) c' s' := by
  obtain ⟨b1, b2, b3, b4⟩ := bs_le n h7 r (by omega) hr
  obtain ⟨c1, c2, c3⟩ := cnt_le (n - 1 - r) (by omega)
  have hic : i * cntF (n - 1 - r) + cntF (n - 1 - r) ≤ cntF r * cntF (n - 1 - r) := by
    rw [← Nat.succ_mul]
    exact Nat.mul_le_mul_right _ hi
  have hfi := fi_at (n := n - 1 - r + 1) (by omega)
  have hf6 := fst_626 n (by omega)
  generalize hB : bs n r + i * cntF (n - 1 - r) = B at *
  obtain ⟨⟨y1, c', s'⟩, e, hy⟩ := it_inv (B := fX0_growAll_B57 (nI n) v3 (nI (n - 1 - r)) v6 ((nI r <<< ((nI 4 * nI r) &&& 31) ||| cF (fstF r + i)) <<< ((nI 4 * nI (n - 1 - r)) &&& 31))) (x0 := (nI B, nI (fstF (n - 1 - r)), c, s))
    (fun j x => ∃ c s, x = (nI (B + j), nI (fstF (n - 1 - r) + j), c, s) ∧ GI (B + j) c s)
    (fun y => ∃ c s, y = (nI (B + cntF (n - 1 - r)), c, s) ∧ GI (B + cntF (n - 1 - r)) c s) (cntF (n - 1 - r)) (by omega) ⟨c, s, rfl, H⟩ (by
      rintro j x hj ⟨c, s, rfl, hG⟩
      by_cases he : j = cntF (n - 1 - r)
      · subst he
        refine Or.inr ⟨(nI (B + cntF (n - 1 - r)), c, s), ?_, c, s, rfl, hG⟩
        unfold fX0_growAll_B57
        simp (disch := omega) only [Option.bind_some, Sum.elim_inl, Sum.elim_inr, q_le, q_nle, q_lt, q_nlt, q_eq, q_ne, q_m1, q_m5, rd_n, wr_n, ixo_n, dvo_n, rmo_n, nI_add, pk_sub, pk_mul, if_true, if_false, hfi]
      · have hj1 : j < cntF (n - 1 - r) := by omega
        have hg := grow_at h7 hr hi hj1
        rw [hB] at hg
        have hrd := (hG (fstF (n - 1 - r) + j) (by omega)).1
        refine Or.inl ⟨(nI (B + j + 1), nI (fstF (n - 1 - r) + j + 1), upd c (B + j) (cF (B + j)), upd s (B + j) (nI n)), ?_, hj1, _, _, rfl, gi_up hG rfl hg.2.symm⟩
        unfold fX0_growAll_B57
        simp (disch := omega) only [Option.bind_some, Sum.elim_inl, Sum.elim_inr, q_le, q_nle, q_lt, q_nlt, q_eq, q_ne, q_m1, q_m5, rd_n, wr_n, ixo_n, dvo_n, rmo_n, nI_add, pk_sub, pk_mul, if_true, if_false, hfi, hrd]
        rw [hg.1, pk_mul, pk_mul])
  obtain ⟨c2, s2, e2, hG⟩ := hy
  rw [e2] at e
  exact ⟨c2, s2, e, hG⟩
theorem gr_17 {n r : Nat} {c s : Nat → Int32} (h7 : n < 8) (hr : r < n) (H : GI (bs n r) c s) : ∃ c' s', fX0_growAll c s (nI (bs n r)) (nI n) (nI r) = some (nI (bs n (r + 1)), c', s') ∧ GI (bs n (r + 1)) c' s' := by
  obtain ⟨b1, b2, b3, b4⟩ := bs_le n h7 r (by omega) hr
  obtain ⟨c1, c2, c3⟩ := cnt_le r (by omega)
  have hf1 := fi_at (n := r) (by omega)
  have hf2 := fi_at (n := r + 1) (by omega)
  have hf3 := fi_at (n := n - 1 - r) (by omega)
  have hf6 := fst_626 n (by omega)
  obtain ⟨⟨y1, c', s'⟩, e, hy⟩ := it_inv (B := fX0_growAll_B17 (nI n) (nI r) (nI (n - 1 - r))) (x0 := (nI (bs n r), nI (fstF r), c, s))
    (fun i x => ∃ c s, x = (nI (bs n r + i * cntF (n - 1 - r)), nI (fstF r + i), c, s) ∧ GI (bs n r + i * cntF (n - 1 - r)) c s)
    (fun y => ∃ c s, y = (nI (bs n (r + 1)), c, s) ∧ GI (bs n (r + 1)) c s) (cntF r) (by omega) ⟨c, s, by rw [Nat.zero_mul]; rfl, by rw [Nat.zero_mul]; exact H⟩ (by
      rintro i x hi ⟨c, s, rfl, hG⟩
      by_cases he : i = cntF r
      · subst he
        refine Or.inr ⟨(nI (bs n (r + 1)), c, s), ?_, c, s, rfl, hG⟩
        unfold fX0_growAll_B17
        simp (disch := omega) only [Option.bind_some, Sum.elim_inl, Sum.elim_inr, q_le, q_nle, q_lt, q_nlt, q_eq, q_ne, q_m1, q_m5, rd_n, wr_n, ixo_n, dvo_n, rmo_n, nI_add, pk_sub, pk_mul, if_true, if_false, hf2]
        rfl
      · have hi1 : i < cntF r := by omega
        obtain ⟨c', s', e1, hG'⟩ := gr_57 (v3 := nI r) (v6 := nI (fstF r + i)) h7 hr hi1 hG
        have hrd := (hG (fstF r + i) (by have := Nat.zero_le (i * cntF (n - 1 - r)); omega)).1
        have eB : bs n r + i * cntF (n - 1 - r) + cntF (n - 1 - r) = bs n r + (i + 1) * cntF (n - 1 - r) := by
          rw [Nat.succ_mul, Nat.add_assoc]
        rw [eB] at e1 hG'
        refine Or.inl ⟨(nI (bs n r + (i + 1) * cntF (n - 1 - r)), nI (fstF r + (i + 1)), c', s'), ?_, hi1, c', s', rfl, hG'⟩
        unfold fX0_growAll_B17
        dsimp only
        rw [nI_add, hf2, Option.bind_some, if_neg (nI_ge (by omega) (by omega)), rd_n (by omega) (by omega), Option.bind_some, hrd, hf3, Option.bind_some, e1, Option.bind_some, nI_add]
        rfl)
  obtain ⟨c2, s2, e2, hG⟩ := hy
  rw [e2] at e
  refine ⟨c2, s2, ?_, hG⟩
  unfold fX0_growAll
  rw [hf1, Option.bind_some, pk_sub (by omega), pk_sub (by omega), e]
  rfl
theorem gr_n {n : Nat} {c s : Nat → Int32} (h0 : 0 < n) (h7 : n < 8) (H : GI (fstF n) c s) : ∃ c' s', it (fX0_init_B38 (nI n)) FU (nI (fstF n), nI 0, c, s) = some (nI (fstF (n + 1)), c', s') ∧ GI (fstF (n + 1)) c' s' := by
  obtain ⟨⟨y1, c', s'⟩, e, hy⟩ := it_inv (B := fX0_init_B38 (nI n)) (x0 := (nI (fstF n), nI 0, c, s))
    (fun r x => ∃ c s, x = (nI (bs n r), nI r, c, s) ∧ GI (bs n r) c s)
    (fun y => ∃ c s, y = (nI (fstF (n + 1)), c, s) ∧ GI (fstF (n + 1)) c s) n (by omega) ⟨c, s, rfl, H⟩ (by
      rintro r x hr ⟨c, s, rfl, hG⟩
      by_cases he : r = n
      · subst he
        have eb := bs_end r h7 h0
        rw [eb] at hG
        refine Or.inr ⟨(nI (fstF (r + 1)), c, s), ?_, c, s, rfl, hG⟩
        unfold fX0_init_B38
        simp (disch := omega) only [Option.bind_some, Sum.elim_inl, Sum.elim_inr, q_le, q_nle, q_lt, q_nlt, q_eq, q_ne, q_m1, q_m5, rd_n, wr_n, ixo_n, dvo_n, rmo_n, nI_add, pk_sub, pk_mul, if_true, if_false, eb]
      · obtain ⟨c', s', e1, hG'⟩ := gr_17 h7 (show r < n by omega) hG
        refine Or.inl ⟨(nI (bs n (r + 1)), nI (r + 1), c', s'), ?_, by omega, c', s', rfl, hG'⟩
        unfold fX0_init_B38
        simp (disch := omega) only [Option.bind_some, Sum.elim_inl, Sum.elim_inr, q_le, q_nle, q_lt, q_nlt, q_eq, q_ne, q_m1, q_m5, rd_n, wr_n, ixo_n, dvo_n, rmo_n, nI_add, pk_sub, pk_mul, if_true, if_false, e1])
  obtain ⟨c2, s2, e2, hG⟩ := hy
  rw [e2] at e
  exact ⟨c2, s2, e, hG⟩
theorem fev : FEv cF sF := by
  obtain ⟨⟨c', s'⟩, e, hy⟩ := it_inv (B := fX0_init_B30) (x0 := (nI 1, nI 1, (fun _ => nI 0), (fun _ => nI 0)))
    (fun n x => ∃ c s, x = (nI (fstF (n + 1)), nI (n + 1), c, s) ∧ GI (fstF (n + 1)) c s)
    (fun y => ∃ c s, y = (c, s) ∧ GI 626 c s) 7 (by omega) ⟨fun _ => nI 0, fun _ => nI 0, rfl, fun j hj => by
      have e : j = 0 := by
        have : fstF (0 + 1) = 1 := rfl
        omega
      subst e
      exact ⟨by decide +kernel, by decide +kernel⟩⟩ (by
      rintro n x hn ⟨c, s, rfl, hG⟩
      by_cases he : n = 7
      · subst he
        refine Or.inr ⟨(c, s), ?_, c, s, rfl, hG⟩
        unfold fX0_init_B30
        simp (disch := omega) only [Option.bind_some, Sum.elim_inl, Sum.elim_inr, q_le, q_nle, q_lt, q_nlt, q_eq, q_ne, q_m1, q_m5, rd_n, wr_n, ixo_n, dvo_n, rmo_n, nI_add, pk_sub, pk_mul, if_true, if_false]
      · obtain ⟨c', s', e1, hG'⟩ := gr_n (n := n + 1) (by omega) (by omega) hG
        refine Or.inl ⟨(nI (fstF (n + 1 + 1)), nI (n + 1 + 1), c', s'), ?_, by omega, c', s', rfl, hG'⟩
        unfold fX0_init_B30
        simp (disch := omega) only [Option.bind_some, Sum.elim_inl, Sum.elim_inr, q_le, q_nle, q_lt, q_nlt, q_eq, q_ne, q_m1, q_m5, rd_n, wr_n, ixo_n, dvo_n, rmo_n, nI_add, pk_sub, pk_mul, if_true, if_false, e1])
  obtain ⟨c2, s2, e2, hG⟩ := hy
  rw [e2] at e
  refine ⟨c2, s2, ?_, fun j hj => (hG j hj).1, fun j hj => (hG j hj).2⟩
  unfold fX0_init_J22
  rw [fi_at (by omega), Option.bind_some, show fstF 1 = 1 from rfl, e]
  rfl
