/-! what the two hold alike: tests of a range, told rows -/
theorem in_I (x : Int32) (lo hi : Int64) : fX7_in x.toInt64 lo hi = some (if lo.toInt ≤ x.toInt ∧ x.toInt ≤ hi.toInt then nI 1 else nI 0) := by
  rw [in_ok]
  simp only [Int64.le_iff_toInt_le, Int32.toInt_toInt64]
theorem in_y {k : Nat} {lo hi : Int64} {a b : Int} (hk : k < 2147483648) (ha : lo.toInt = a) (h1 : a ≤ k) (hb : hi.toInt = b) (h2 : (k : Int) ≤ b) : fX7_in (nI k).toInt64 lo hi = some (nI 1) := by
  rw [in_I, nI_toInt (by omega), if_pos ⟨by omega, by omega⟩]
theorem in_x {x : Int32} {lo hi : Int64} {a b : Int} (ha : lo.toInt = a) (hb : hi.toInt = b) (h : x.toInt < a ∨ b < x.toInt) : fX7_in x.toInt64 lo hi = some (nI 0) := by
  rw [in_I, if_neg (by omega)]
theorem rng_c (v : Int32) (m : Nat) : (∃ s, s < m ∧ v = nI s) ∨ (v < nI 0 ∨ ∃ k, m ≤ k ∧ k < 2147483648 ∧ v = nI k) := by
  rcases i_cases v with ⟨k, hk, rfl⟩ | h
  · rcases Nat.lt_or_ge k m with q | q
    · exact Or.inl ⟨k, q, rfl⟩
    · exact Or.inr (Or.inr ⟨k, q, hk, rfl⟩)
  · exact Or.inr (Or.inl h)
theorem in_in {s m : Nat} {hi : Int64} (hh : hi.toInt = (m : Int) - 1) (h : s < m) (hm : m < 2147483648) : fX7_in (nI s).toInt64 (0 : Int64) hi = some (nI 1) := in_y (a := 0) (by omega) rfl (by omega) hh (by omega)
theorem in_out {v : Int32} {m : Nat} {hi : Int64} (hh : hi.toInt = (m : Int) - 1) (h : v < nI 0 ∨ ∃ k, m ≤ k ∧ k < 2147483648 ∧ v = nI k) : fX7_in v.toInt64 (0 : Int64) hi = some (nI 0) := by
  refine in_x (a := 0) rfl hh ?_
  rcases h with h | ⟨k, h1, h2, rfl⟩
  · exact Or.inl (neg_toInt h)
  · rw [nI_toInt (by omega)]
    omega
theorem hi_n {m : Nat} (h : m < 2147483648) : ((nI m - nI 1).toInt64).toInt = (m : Int) - 1 := by
  by_cases e : m = 0
  · rw [e]
    rfl
  · rw [pk_sub (by omega), nl_toInt (by omega)]
    omega
theorem lt_out {v : Int32} {m : Nat} (hm : m < 2147483648) (h : v < nI 0 ∨ ∃ k, m ≤ k ∧ k < 2147483648 ∧ v = nI k) {α : Type} {x y z : α} : (if v < nI 0 then x else if nI m ≤ v then x else z) = x := by
  rcases h with h | ⟨k, h1, h2, rfl⟩
  · rw [if_pos h]
  · rw [if_neg (nI_nlt (by omega) (by omega)), if_pos (nI_le h1 (by omega))]
theorem sh_y : ∀ s, s < 4 → fX6_isShelf (nI s) = some (nI 1) ∧ fX7_isShelf (nI s) = some (nI 1) := by decide
theorem sh_n {v : Int32} (h : v < nI 0 ∨ ∃ k, 4 ≤ k ∧ k < 2147483648 ∧ v = nI k) : fX6_isShelf v = some (nI 0) ∧ fX7_isShelf v = some (nI 0) := by
  constructor
  · unfold fX6_isShelf
    exact lt_out (y := some (nI 0)) (by omega) h
  · unfold fX7_isShelf
    rw [in_out (m := 4) rfl h]
    rfl
theorem li_y : ∀ s, s < 3 → fX1_isList (nI s) = some (nI 1) ∧ fX7_isList (nI s) = some (nI 1) := by decide
theorem li_n {v : Int32} (h : v < nI 0 ∨ ∃ k, 3 ≤ k ∧ k < 2147483648 ∧ v = nI k) : fX1_isList v = some (nI 0) ∧ fX7_isList v = some (nI 0) := by
  constructor
  · unfold fX1_isList
    exact lt_out (y := some (nI 0)) (by omega) h
  · unfold fX7_isList
    rw [in_out (m := 3) rfl h]
    rfl
theorem c_size {q : Nat} (hq : q < 626) : fX6_size sF (nI q) = some (nI (szF q)) := by
  unfold fX6_size
  rw [c_sizeOf hq]
  rfl
theorem nd_y {q c : Nat} (hq : q < 626) (hc : c < szF q) : fX6_isNode sF (nI q) (nI c) = some (nI 1) ∧ fX7_isNode (nI (szF q)) (nI c) = some (nI 1) := by
  have h7 := sz_le hq
  constructor
  · unfold fX6_isNode
    simp (disch := omega) only [Option.bind_some, Sum.elim_inl, Sum.elim_inr, q_le, q_nle, q_lt, q_nlt, q_eq, q_ne, q_m1, q_m5, rd_n, wr_n, ixo_n, dvo_n, rmo_n, nI_add, pk_sub, pk_mul, if_true, if_false, c_size hq]
  · unfold fX7_isNode
    rw [in_in (hi_n (by omega)) hc (by omega)]
    rfl
theorem nd_n {q : Nat} {v : Int32} (hq : q < 626) (h : v < nI 0 ∨ ∃ k, szF q ≤ k ∧ k < 2147483648 ∧ v = nI k) : fX6_isNode sF (nI q) v = some (nI 0) ∧ fX7_isNode (nI (szF q)) v = some (nI 0) := by
  have h7 := sz_le hq
  constructor
  · unfold fX6_isNode
    rw [c_size hq, Option.bind_some]
    exact lt_out (y := some (nI 0)) (by omega) h
  · unfold fX7_isNode
    rw [in_out (hi_n (by omega)) h]
    rfl
/-- the code that a number's digits tell -/
def hxN (t : Nat) : Nat → Nat
  | 0 => 0
  | j + 1 => hxN t j + t / 10 ^ j % 10 * 16 ^ j
theorem hx_lt (t : Nat) : ∀ j, hxN t j < 16 ^ j
  | 0 => Nat.one_pos
  | j + 1 => by
    have h := hx_lt t j
    have h2 : t / 10 ^ j % 10 < 10 := Nat.mod_lt _ (by omega)
    have h3 : t / 10 ^ j % 10 * 16 ^ j ≤ 15 * 16 ^ j := Nat.mul_le_mul_right _ (by omega)
    rw [hxN, Nat.pow_succ]
    omega
theorem hx_dig {t n : Nat} (h0 : 0 < n) (h7 : n < 8) : hxN t n = digN 16 ((List.range' 0 n).map (atN t n)) := by
  rcases n_cases h0 h7 with rfl | rfl | rfl | rfl | rfl | rfl | rfl <;>
    simp only [List.range', List.map_cons, List.map_nil, digN, List.length_cons, List.length_nil, atN, P10, List.getD_cons_succ, List.getD_cons_zero, Nat.reduceSub, Nat.reduceAdd, Nat.reducePow, hxN] <;> omega
theorem fd_run {t n : Nat} (h7 : n < 8) (ht : t < 2147483648) : it (fX0_findDigits_B14 (nI n)) FU (nI 0, nI t, nI 0) = some (nI (hxN t n), nI (t / 10 ^ n)) := by
  refine it_go (fun j => (nI (hxN t j), nI (t / 10 ^ j), nI j)) n ?_ (by omega) (fun j hj => ?_) ?_
  · show (nI 0, nI (t / 10 ^ 0), nI 0) = _
    rw [Nat.pow_zero, Nat.div_one]
  · unfold fX0_findDigits_B14
    have hd : t / 10 ^ j ≤ t := Nat.div_le_self _ _
    have hm : t / 10 ^ j % 10 < 10 := Nat.mod_lt _ (by omega)
    have e16 : (2 : Nat) ^ (4 * j) = 16 ^ j := by rw [Nat.pow_mul]
    have hp := p16_le (show j < 8 by omega)
    have hb : t / 10 ^ j % 10 * 2 ^ (4 * j) < 2 ^ 32 := by
      rw [e16]
      have : t / 10 ^ j % 10 * 16 ^ j ≤ 9 * 16 ^ 6 := Nat.mul_le_mul (by omega) (Nat.pow_le_pow_right (by omega) (by omega))
      omega
    simp (disch := omega) only [Option.bind_some, Sum.elim_inl, Sum.elim_inr, q_le, q_nle, q_lt, q_nlt, q_eq, q_ne, q_m1, q_m5, rd_n, wr_n, ixo_n, dvo_n, rmo_n, nI_add, pk_sub, pk_mul, if_true, if_false, shl_n (show 4 * j < 32 by omega) hb]
    rw [fa_or, Nat.or_comm, ← fa_or, e16, or_high _ _ _ (hx_lt t j), Nat.add_comm, hxN, Nat.div_div_eq_div_mul, Nat.pow_succ]
  · unfold fX0_findDigits_B14
    simp (disch := omega) only [Option.bind_some, Sum.elim_inl, Sum.elim_inr, q_le, q_nle, q_lt, q_nlt, q_eq, q_ne, q_m1, q_m5, rd_n, wr_n, ixo_n, dvo_n, rmo_n, nI_add, pk_sub, pk_mul, if_true, if_false]
theorem c_findDigits {t n : Nat} (h0 : 0 < n) (h7 : n < 8) (ht : t < 2147483648) : (t < P10 n ∧ TreeD n (atN t n) ∧ ∃ p, 0 < p ∧ p < 626 ∧ szF p = n ∧ dcF p = t ∧ fX0_findDigits cF (nI n) (nI t) = some (nI p)) ∨ ((P10 n ≤ t ∨ ¬ TreeD n (atN t n)) ∧ fX0_findDigits cF (nI n) (nI t) = some (nI 0)) := by
  have hr := fd_run h7 ht
  have hP := p10_eq n h7
  have hPp := p10_pos n
  have hle : t / 10 ^ n ≤ t := Nat.div_le_self _ _
  by_cases hb : t < P10 n
  · have e0 : t / 10 ^ n = 0 := Nat.div_eq_of_lt (by omega)
    rw [e0] at hr
    obtain ⟨r, e, hc⟩ := c_find_any h0 h7 (nI (hxN t n))
    have er : fX0_findDigits cF (nI n) (nI t) = some (nI r) := by
      unfold fX0_findDigits
      simp (disch := omega) only [Option.bind_some, Sum.elim_inl, Sum.elim_inr, q_le, q_nle, q_lt, q_nlt, q_eq, q_ne, q_m1, q_m5, rd_n, wr_n, ixo_n, dvo_n, rmo_n, nI_add, pk_sub, pk_mul, if_true, if_false, hr, e]
    by_cases hT : TreeD n (atN t n)
    · obtain ⟨p, p0, p1, p2, p3, p4⟩ := place_of h0 h7 hT
      rw [← hx_dig h0 h7] at p3
      rw [dig_at h0 h7 hb] at p4
      have ef := c_find' p0 p1 p2 p3
      rw [e] at ef
      rw [Option.some.inj ef] at er
      exact Or.inl ⟨hb, hT, p, p0, p1, p2, p4, er⟩
    · rcases hc with rfl | ⟨r0, r1, r2, r3⟩
      · exact Or.inr ⟨Or.inr hT, er⟩
      · refine absurd ?_ hT
        have hx := hx_lt t n
        have hp := p16_le h7
        have h16 := cd_16 r1
        have h3 : cdF r = hxN t n := (nI_eq (by omega) (by omega)).mp r3
        have hd : ∀ i, i < n → dgF r i = atN t n i := by
          intro i hi
          have e1 := digN_at ((List.range' 0 n).map (atN t n)) i (by rw [rng_len]; exact hi) (rng_all fun j _ hj => by have := at_lt t n j; omega)
          rw [rng_len, rng_get hi, ← hx_dig h0 h7, ← h3, Nat.zero_add, cd_dig r1, if_pos (by omega), r2, show n - 1 - (n - 1 - i) = i by omega] at e1
          exact e1
        intro i hi
        rw [← hd i hi]
        have g1 := dg_lt r1 (show i < szF r by omega)
        refine ⟨by omega, fun j h1 h2 => ?_⟩
        rw [← hd j (by omega)]
        exact dg_in r1 (by omega) h1 h2
  · have e0 : 0 < t / 10 ^ n := Nat.div_pos (by omega) (by omega)
    refine Or.inr ⟨Or.inl (by omega), ?_⟩
    unfold fX0_findDigits
    simp (disch := omega) only [Option.bind_some, Sum.elim_inl, Sum.elim_inr, q_le, q_nle, q_lt, q_nlt, q_eq, q_ne, q_m1, q_m5, rd_n, wr_n, ixo_n, dvo_n, rmo_n, nI_add, pk_sub, pk_mul, if_true, if_false, hr]
theorem c_findDigits_neg {x : Int32} {v : Int32} (h : x < nI 0) : fX0_findDigits cF v x = some (nI 0) := by
  unfold fX0_findDigits
  rw [if_neg (neg_nle h (by omega))]
