/-! the reference's numbers: tens, digits, rows -/
def P10 (k : Nat) : Nat := [1, 10, 100, 1000, 10000, 100000, 1000000, 10000000].getD k 1
def atN (t n i : Nat) : Nat := t / P10 (n - 1 - i) % 10
theorem p10_pos (k : Nat) : 0 < P10 k := by
  unfold P10
  match k with
  | 0 | 1 | 2 | 3 | 4 | 5 | 6 | 7 => decide
  | k + 8 => simp
theorem p10_lt (k : Nat) : P10 k < 10000001 := by
  unfold P10
  match k with
  | 0 | 1 | 2 | 3 | 4 | 5 | 6 | 7 => decide
  | k + 8 => simp
theorem p10_eq : ∀ k, k < 8 → P10 k = 10 ^ k := by decide
theorem m_ten : ∀ k, k < 8 → fX7_ten (nI k) = some (nI (P10 k)) := by decide +kernel
theorem at_lt (t n i : Nat) : atN t n i < 10 := Nat.mod_lt _ (by omega)
theorem m_at {t n i : Nat} (ht : t < 2147483648) (hi : i < n) (hn : n < 8) : fX7_at (nI t) (nI n) (nI i) = some (nI (atN t n i)) := by
  unfold fX7_at
  have h1 := p10_pos (n - 1 - i)
  have h2 := p10_lt (n - 1 - i)
  have h3 : t / P10 (n - 1 - i) < 2147483648 := Nat.lt_of_le_of_lt (Nat.div_le_self _ _) ht
  simp (disch := omega) only [Option.bind_some, Sum.elim_inl, Sum.elim_inr, q_le, q_nle, q_lt, q_nlt, q_eq, q_ne, q_m1, q_m5, rd_n, wr_n, ixo_n, dvo_n, rmo_n, nI_add, pk_sub, pk_mul, if_true, if_false, m_ten (n - 1 - i) (by omega)]
  rfl
theorem i_ring (t w a P : Nat) (h : a * P ≤ t + w * P) : nI t + (nI w - nI a) * nI P = nI (t + w * P - a * P) := by
  rw [← pk_sub h, ← nI_add, ← pk_mul, ← pk_mul, Int32.sub_mul, Int32.sub_eq_add_neg, Int32.sub_eq_add_neg, Int32.add_assoc]
theorem m_with {t n i w : Nat} (ht : t < 2147483648) (hi : i < n) (hn : n < 8) (h : atN t n i * P10 (n - 1 - i) ≤ t + w * P10 (n - 1 - i)) : fX7_with (nI t) (nI n) (nI i) (nI w) = some (nI (t + w * P10 (n - 1 - i) - atN t n i * P10 (n - 1 - i))) := by
  unfold fX7_with
  rw [m_at ht hi hn, Option.bind_some]
  simp (disch := omega) only [Option.bind_some, Sum.elim_inl, Sum.elim_inr, q_le, q_nle, q_lt, q_nlt, q_eq, q_ne, q_m1, q_m5, rd_n, wr_n, ixo_n, dvo_n, rmo_n, nI_add, pk_sub, pk_mul, if_true, if_false, m_ten (n - 1 - i) (by omega)]
  rw [i_ring _ _ _ _ h]
/-- a row of numbers is a tree's -/
def TreeD (n : Nat) (d : Nat → Nat) : Prop := ∀ i, i < n → i + d i < n ∧ ∀ j, i < j → j ≤ i + d i → j + d j ≤ i + d i
theorem rng_len (i k : Nat) (d : Nat → Nat) : ((List.range' i k).map d).length = k := by simp
theorem tree_list (n : Nat) (d : Nat → Nat) (h : TreeD n d) : ∀ k i, i + k = n → treeB ((List.range' i k).map d) = true
  | 0, i, _ => rfl
  | k + 1, i, hk => by
    rw [List.range'_succ, List.map_cons]
    have hi := h i (by omega)
    simp only [treeB, Bool.and_eq_true, decide_eq_true_eq]
    refine ⟨⟨by rw [rng_len]; omega, List.all_eq_true.mpr fun j hj => ?_⟩, tree_list n d h k (i + 1) (by omega)⟩
    have hj := List.mem_range.mp hj
    have e : ((List.range' (i + 1) k).map d).getD j 0 = d (i + 1 + j) := by
      rw [List.getD_eq_getElem?_getD, List.getElem?_map, List.getElem?_range' (show j < k by omega)]
      simp
    have h2 := hi.2 (i + 1 + j) (by omega) (by omega)
    simp only [decide_eq_true_eq]
    rw [e]
    omega
/-- every tree's row has a place -/
theorem place_of {n : Nat} {d : Nat → Nat} (h0 : 0 < n) (h7 : n < 8) (h : TreeD n d) : ∃ p, 0 < p ∧ p < 626 ∧ szF p = n ∧ cdF p = digN 16 ((List.range' 0 n).map d) ∧ dcF p = digN 10 ((List.range' 0 n).map d) := by
  obtain ⟨p, h1, h2, h3, h4, h5⟩ := enum_ok ((List.range' 0 n).map d) (by rw [rng_len]; omega) (by rw [rng_len]; omega) (tree_list n d h n 0 (by omega))
  rw [rng_len] at h3
  exact ⟨p, h1, h2, h3, h4, h5⟩
theorem n_cases {n : Nat} (h0 : 0 < n) (h7 : n < 8) : n = 1 ∨ n = 2 ∨ n = 3 ∨ n = 4 ∨ n = 5 ∨ n = 6 ∨ n = 7 := by omega
theorem dig_at {t n : Nat} (h0 : 0 < n) (h7 : n < 8) (ht : t < P10 n) : digN 10 ((List.range' 0 n).map (atN t n)) = t := by
  rcases n_cases h0 h7 with rfl | rfl | rfl | rfl | rfl | rfl | rfl <;>
    simp only [P10, List.getD_cons_succ, List.getD_cons_zero] at ht <;>
    simp only [List.range', List.map_cons, List.map_nil, digN, List.length_cons, List.length_nil, atN, P10, List.getD_cons_succ, List.getD_cons_zero, Nat.reduceSub, Nat.reduceAdd, Nat.reducePow] <;> omega
/-- the digits of a place's row, as the reference has them -/
theorem k_at : (List.range 626).all (fun p => (List.range 7).all fun i => !(decide (i < szF p)) || decide (atN (dcF p) (szF p) i = dgF p i)) = true := by decide +kernel
theorem at_dg {p i : Nat} (hp : p < 626) (hi : i < szF p) : atN (dcF p) (szF p) i = dgF p i := by
  have h := ra (ra k_at hp) (show i < 7 by have := sz_le hp; omega)
  simpa [hi] using h
theorem dc_big {p : Nat} (hp : p < 626) : dcF p < 10000000 := by
  have h1 := dc_lt hp
  have h2 := sz_le hp
  have h3 : (10 : Nat) ^ szF p ≤ 10 ^ 7 := Nat.pow_le_pow_right (by omega) h2
  have h4 : (10 : Nat) ^ 7 = 10000000 := by decide
  omega
theorem dc_p10 {p : Nat} (hp : p < 626) : dcF p < P10 (szF p) := by
  rw [p10_eq _ (by have := sz_le hp; omega)]
  exact dc_lt hp
theorem m_at' {p i : Nat} (hp : p < 626) (hi : i < szF p) : fX7_at (nI (dcF p)) (nI (szF p)) (nI i) = some (nI (dgF p i)) := by
  have := dc_big hp
  have := sz_le hp
  rw [m_at (by omega) hi (by omega), at_dg hp hi]
/-- a tree's number tells its place -/
theorem k_inj : (List.range 8).all (fun n => (List.range (cntF n)).all fun k => decide (k = 0) || decide (dcF (fstF n + k - 1) < dcF (fstF n + k))) = true := by decide +kernel
theorem dc_mono {n : Nat} (hn : n < 8) : ∀ k j, j < k → k < cntF n → dcF (fstF n + j) < dcF (fstF n + k)
  | 0, j, h, _ => absurd h (Nat.not_lt_zero _)
  | k + 1, j, h, hk => by
    have h1 := ra (ra k_inj hn) hk
    simp only [Bool.or_eq_true, decide_eq_true_eq] at h1
    rcases h1 with h1 | h1
    · omega
    · rw [show fstF n + (k + 1) - 1 = fstF n + k by omega] at h1
      rcases Nat.lt_or_ge j k with q | q
      · exact Nat.lt_trans (dc_mono hn k j q (by omega)) h1
      · rw [show j = k by omega]
        exact h1
theorem dc_inj {p q : Nat} (h0 : 0 < p) (hp : p < 626) (h1 : 0 < q) (hq : q < 626) (hs : szF p = szF q) (hd : dcF p = dcF q) : p = q := by
  have a := sz_pos hp h0
  have b := sz_pos hq h1
  have c := sz_le hp
  rw [← hs] at b
  have hm := @dc_mono (szF p) (by omega)
  unfold cntF at hm
  rcases Nat.lt_trichotomy p q with h | h | h
  · have := hm (q - fstF (szF p)) (p - fstF (szF p)) (by omega) (by omega)
    rw [show fstF (szF p) + (q - fstF (szF p)) = q by omega, show fstF (szF p) + (p - fstF (szF p)) = p by omega] at this
    omega
  · exact h
  · have := hm (p - fstF (szF p)) (q - fstF (szF p)) (by omega) (by omega)
    rw [show fstF (szF p) + (q - fstF (szF p)) = q by omega, show fstF (szF p) + (p - fstF (szF p)) = p by omega] at this
    omega
/-- a number of digits is a tree's just if some place has it -/
theorem tree_place {t n : Nat} (h0 : 0 < n) (h7 : n < 8) (ht : t < P10 n) : TreeD n (atN t n) ↔ ∃ p, 0 < p ∧ p < 626 ∧ szF p = n ∧ dcF p = t := by
  constructor
  · intro h
    obtain ⟨p, h1, h2, h3, h4, h5⟩ := place_of h0 h7 h
    exact ⟨p, h1, h2, h3, by rw [h5, dig_at h0 h7 ht]⟩
  · rintro ⟨p, h1, h2, rfl, rfl⟩
    intro i hi
    rw [at_dg h2 hi]
    refine ⟨dg_lt h2 hi, fun j hj1 hj2 => ?_⟩
    rw [at_dg h2 (by have := dg_lt h2 hi; omega)]
    exact dg_in h2 hi hj1 hj2
