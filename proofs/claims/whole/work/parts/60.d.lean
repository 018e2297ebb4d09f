/-! facts of the tables, by the kernel -/
theorem k_sz : (List.range 626).all (fun p => decide (szF p ≤ 7) && (decide (p = 0) || (decide (0 < szF p) && decide (fstF (szF p) ≤ p) && decide (p < fstF (szF p + 1)))) && decide (cdF p < 16 ^ szF p) && decide (dcF p < 10 ^ szF p)) = true := by decide +kernel
theorem sz_le {p : Nat} (hp : p < 626) : szF p ≤ 7 := by
  have h := ra k_sz hp
  simp only [Bool.and_eq_true, decide_eq_true_eq] at h
  exact h.1.1.1
theorem sz_pos {p : Nat} (hp : p < 626) (h0 : 0 < p) : 0 < szF p ∧ fstF (szF p) ≤ p ∧ p < fstF (szF p + 1) := by
  have h := ra k_sz hp
  simp only [Bool.and_eq_true, Bool.or_eq_true, decide_eq_true_eq] at h
  rcases h.1.1.2 with q | q
  · omega
  · exact ⟨q.1.1, q.1.2, q.2⟩
theorem cd_lt {p : Nat} (hp : p < 626) : cdF p < 16 ^ szF p := by
  have h := ra k_sz hp
  simp only [Bool.and_eq_true, decide_eq_true_eq] at h
  exact h.1.2
theorem dc_lt {p : Nat} (hp : p < 626) : dcF p < 10 ^ szF p := by
  have h := ra k_sz hp
  simp only [Bool.and_eq_true, decide_eq_true_eq] at h
  exact h.2
theorem k_fst : ∀ n, n < 8 → (List.range 626).all (fun p => !(decide (fstF n ≤ p) && decide (p < fstF (n + 1))) || decide (szF p = n)) = true := by decide +kernel
theorem sz_of {n p : Nat} (hn : n < 8) (h1 : fstF n ≤ p) (h2 : p < fstF (n + 1)) (hp : p < 626) : szF p = n := by
  have h := ra (k_fst n hn) hp
  simpa [h1, h2] using h
theorem fst_lt : ∀ n, n < 8 → fstF n < fstF (n + 1) ∧ fstF (n + 1) ≤ 626 ∧ n ≤ fstF n := by decide
theorem k_dg : (List.range 626).all (fun p => (List.range 7).all fun i => !(decide (i < szF p)) || (decide (i + dgF p i < szF p) && (List.range 7).all fun j => !(decide (i < j) && decide (j ≤ i + dgF p i)) || decide (j + dgF p j ≤ i + dgF p i))) = true := by decide +kernel
theorem dg_lt {p i : Nat} (hp : p < 626) (hi : i < szF p) : i + dgF p i < szF p := by
  have h := ra (ra k_dg hp) (show i < 7 by have := sz_le hp; omega)
  simp only [hi, decide_true, Bool.not_true, Bool.false_or, Bool.and_eq_true, decide_eq_true_eq] at h
  exact h.1
theorem dg_in {p i j : Nat} (hp : p < 626) (hi : i < szF p) (h1 : i < j) (h2 : j ≤ i + dgF p i) : j + dgF p j ≤ i + dgF p i := by
  have h := ra (ra k_dg hp) (show i < 7 by have := sz_le hp; omega)
  simp only [hi, decide_true, Bool.not_true, Bool.false_or, Bool.and_eq_true, decide_eq_true_eq] at h
  have h3 := ra h.2 (show j < 7 by have := sz_le hp; have := dg_lt hp hi; omega)
  simpa [h1, h2] using h3
theorem sz_big {p : Nat} (hp : 626 ≤ p) (h : p < 1000) : szF p = 0 := by
  have h1 : ∀ q, q < 400 → szF (626 + q) = 0 := by decide +kernel
  have := h1 (p - 626) (by omega)
  rwa [show 626 + (p - 626) = p by omega] at this
