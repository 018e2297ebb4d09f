/-! the greatest below two, the least above two -/
theorem digN_lt : ∀ (l : List Nat), (∀ x ∈ l, x < 16) → digN 16 l < 16 ^ l.length
  | [], _ => by simp [digN]
  | d :: l, h => by
    have h1 := digN_lt l (fun x hx => h x (List.mem_cons_of_mem _ hx))
    have h2 := h d List.mem_cons_self
    have h3 : d * 16 ^ l.length ≤ 15 * 16 ^ l.length := Nat.mul_le_mul_right _ (by omega)
    simp only [digN, List.length_cons, Nat.pow_succ]
    omega
theorem digN_at : ∀ (l : List Nat) (i : Nat), i < l.length → (∀ x ∈ l, x < 16) → digN 16 l / 16 ^ (l.length - 1 - i) % 16 = l.getD i 0
  | [], i, h, _ => absurd h (Nat.not_lt_zero _)
  | d :: l, 0, _, hx => by
    have h1 := digN_lt l (fun x q => hx x (List.mem_cons_of_mem _ q))
    have h2 := hx d List.mem_cons_self
    have hp : 0 < 16 ^ l.length := Nat.pow_pos (by omega)
    simp only [digN, List.length_cons, List.getD_cons_zero]
    rw [show l.length + 1 - 1 - 0 = l.length by omega, Nat.mul_comm, Nat.mul_add_div hp, Nat.div_eq_of_lt h1, Nat.add_zero]
    exact Nat.mod_eq_of_lt h2
  | d :: l, i + 1, h, hx => by
    have hl : i < l.length := by simpa using h
    have ih := digN_at l i hl (fun x q => hx x (List.mem_cons_of_mem _ q))
    simp only [digN, List.length_cons, List.getD_cons_succ]
    rw [show l.length + 1 - 1 - (i + 1) = l.length - 1 - i by omega, ← ih]
    have e : (16 : Nat) ^ l.length = 16 ^ (l.length - 1 - i) * 16 ^ (i + 1) := by rw [← Nat.pow_add]; congr 1; omega
    have hp : 0 < 16 ^ (l.length - 1 - i) := Nat.pow_pos (by omega)
    rw [e, show d * (16 ^ (l.length - 1 - i) * 16 ^ (i + 1)) = 16 ^ (l.length - 1 - i) * (d * 16 ^ (i + 1)) by rw [Nat.mul_left_comm], Nat.mul_add_div hp, Nat.pow_succ, ← Nat.mul_assoc]
    omega
theorem rng_get {i k j : Nat} {d : Nat → Nat} (h : j < k) : ((List.range' i k).map d).getD j 0 = d (i + j) := by
  rw [List.getD_eq_getElem?_getD, List.getElem?_map, List.getElem?_range' h]
  simp
theorem rng_all {i k : Nat} {d : Nat → Nat} {P : Nat → Prop} (h : ∀ j, i ≤ j → j < i + k → P (d j)) : ∀ x ∈ (List.range' i k).map d, P x := by
  intro x hx
  obtain ⟨j, hj, rfl⟩ := List.mem_map.mp hx
  have := List.mem_range'_1.mp hj
  exact h j this.1 this.2
theorem place_dig {n : Nat} {d : Nat → Nat} (h0 : 0 < n) (h7 : n < 8) (h : TreeD n d) : ∃ p, 0 < p ∧ p < 626 ∧ szF p = n ∧ cdF p = digN 16 ((List.range' 0 n).map d) ∧ ∀ i, i < n → dgF p i = d i := by
  obtain ⟨p, h1, h2, h3, h4, h5⟩ := place_of h0 h7 h
  refine ⟨p, h1, h2, h3, h4, fun i hi => ?_⟩
  have e := digN_at ((List.range' 0 n).map d) i (by rw [rng_len]; exact hi) (rng_all fun j _ hj => by have := (h j (by omega)).1; omega)
  rw [rng_len, rng_get hi, ← h4, Nat.zero_add] at e
  unfold dgF
  rw [h3, Nat.shiftRight_eq_div_pow, Nat.pow_mul]
  exact e
theorem digN_snoc (b : Nat) : ∀ (l : List Nat) (x : Nat), digN b (l ++ [x]) = digN b l * b + x
  | [], x => by simp [digN]
  | d :: l, x => by
    rw [List.cons_append, digN, digN, digN_snoc b l x, List.length_append, List.length_singleton, Nat.pow_succ, Nat.add_mul, Nat.mul_assoc, Nat.add_assoc]
theorem rng_snoc (n : Nat) (d : Nat → Nat) : (List.range' 0 (n + 1)).map d = (List.range' 0 n).map d ++ [d n] := by
  rw [List.range'_concat]
  simp
theorem s_l : ∀ n, n < 32 → ((nI n &&& 31).toBitVec.smod 32).toNat = n := by decide
theorem shl_n {a k : Nat} (hk : k < 32) (h : a * 2 ^ k < 2 ^ 32) : nI a <<< (nI k &&& 31) = nI (a * 2 ^ k) := pk_shlN _ k (s_l k hk) h
theorem shr_n {a k : Nat} (hk : k < 32) (h : a < 2147483648) : nI a >>> (nI k &&& 31) = nI (a / 2 ^ k) := pk_shrN (by omega) _ k (s_l k hk)
theorem and_15 (a : Nat) : nI a &&& nI 15 = nI (a % 16) := by
  rw [fa_and, show (15 : Nat) = 2 ^ 4 - 1 from rfl, Nat.and_two_pow_sub_one_eq_mod]
theorem p16_le {k : Nat} (h : k < 8) : (16 : Nat) ^ k ≤ 268435456 := Nat.le_trans (Nat.pow_le_pow_right (by omega) (show k ≤ 7 by omega)) (by decide)
theorem c_digitAt {v n i : Nat} (hv : v < 8) (hi : i < n) (hn : n < 8) : fX0_digitAt (nI v) (nI n) (nI i) = some (nI (v * 16 ^ (n - 1 - i))) := by
  unfold fX0_digitAt
  have e : (2 : Nat) ^ (4 * (n - 1 - i)) = 16 ^ (n - 1 - i) := by rw [Nat.pow_mul]
  have h1 := p16_le (show n - 1 - i < 8 by omega)
  have h3 : v * 16 ^ (n - 1 - i) ≤ 7 * 16 ^ (n - 1 - i) := Nat.mul_le_mul_right _ (by omega)
  rw [pk_sub (show 1 ≤ n by omega), pk_sub (show i ≤ n - 1 by omega), pk_mul, shl_n (by omega) (by rw [e]; omega), e]
theorem c_digitOf {c n j : Nat} (hc : c < 268435456) (hi : j < n) (hn : n < 8) : fX0_digitOf (nI c) (nI n) (nI j) = some (nI (c / 16 ^ (n - 1 - j) % 16)) := by
  unfold fX0_digitOf
  have e : (2 : Nat) ^ (4 * (n - 1 - j)) = 16 ^ (n - 1 - j) := by rw [Nat.pow_mul]
  rw [pk_sub (show 1 ≤ n by omega), pk_sub (show j ≤ n - 1 by omega), pk_mul, shr_n (by omega) (by omega), e, and_15]
theorem or_high (k b a : Nat) (h : a < 16 ^ k) : nI (b * 16 ^ k) ||| nI a = nI (b * 16 ^ k + a) := by
  have e : (2 : Nat) ^ (4 * k) = 16 ^ k := by rw [Nat.pow_mul]
  rw [fa_or, ← e, Nat.mul_comm, Nat.two_pow_add_eq_or_of_lt (by rw [e]; exact h)]
/-- the greatest below both -/
def isMeet (p q m : Nat) : Prop := 0 < m ∧ m < 626 ∧ szF m = szF p ∧ belB m p = true ∧ belB m q = true ∧ ∀ z, 0 < z → z < 626 → szF z = szF p → belB z p = true → belB z q = true → belB z m = true
def isJoin (p q m : Nat) : Prop := 0 < m ∧ m < 626 ∧ szF m = szF p ∧ belB p m = true ∧ belB q m = true ∧ ∀ z, 0 < z → z < 626 → szF z = szF p → belB p z = true → belB q z = true → belB m z = true
theorem c_meetOf {p q : Nat} (h0 : 0 < p) (hp : p < 626) (hq : q < 626) (hs : szF q = szF p) : ∃ m, isMeet p q m ∧ fX2_meetOf cF sF (nI p) (nI q) = some (nI m) := by
  have hsz := sz_pos hp h0
  have h7 := sz_le hp
  have hd1 : ∀ i, i < szF p → i + dgF p i < szF p := fun i hi => dg_lt hp hi
  have hd2 : ∀ i, i < szF p → i + dgF q i < szF p := fun i hi => by have := dg_lt hq (show i < szF q by omega); omega
  obtain ⟨d, hd⟩ : ∃ d : Nat → Nat, ∀ i, d i = min (dgF p i) (dgF q i) := ⟨_, fun _ => rfl⟩
  have hT : TreeD (szF p) d := by
    intro i hi
    have a1 := hd1 i hi
    have e1 := hd i
    refine ⟨by omega, fun j h1 h2 => ?_⟩
    have b1 := dg_in hp hi h1 (by omega)
    have b2 := dg_in hq (show i < szF q by omega) h1 (by omega)
    have e2 := hd j
    omega
  obtain ⟨m, m0, m1, m2, m3, m4⟩ := place_dig hsz.1 (by omega) hT
  refine ⟨m, ⟨m0, m1, m2, bel_iff.mpr fun i hi => ?_, bel_iff.mpr fun i hi => ?_, fun z z0 z1 z2 z3 z4 => bel_iff.mpr fun i hi => ?_⟩, ?_⟩
  · rw [m4 i (by omega), hd]; omega
  · rw [m4 i (by omega), hd]; omega
  · rw [m4 i (by omega), hd]
    have := bel_iff.mp z3 i hi
    have := bel_iff.mp z4 i hi
    omega
  · unfold fX2_meetOf
    rw [c_sizeOf hp, Option.bind_some]
    have hit : it (fX2_meetOf_B15 cF sF (nI p) (nI q) (nI (szF p))) FU (nI 0, nI 0) = some (nI (cdF m)) := by
      refine it_go (fun i => (nI (digN 16 ((List.range' 0 i).map d) * 16 ^ (szF p - i)), nI i)) (szF p) (by simp [digN]) (by omega) (fun i hi => ?_) ?_
      · unfold fX2_meetOf_B15
        have a1 := hd1 i hi
        have a2 := hd2 i hi
        have e0 := hd i
        have hmin : (if nI (dgF q i) < nI (dgF p i) then nI (dgF q i) else nI (dgF p i)) = nI (d i) := by
          rw [hd]
          by_cases hc : dgF q i < dgF p i
          · rw [if_pos (nI_lt hc (by omega)), Nat.min_eq_right (by omega)]
          · rw [if_neg (nI_nlt (by omega) (by omega)), Nat.min_eq_left (by omega)]
        have e1 : (16 : Nat) ^ (szF p - i) = 16 * 16 ^ (szF p - 1 - i) := by rw [show szF p - i = (szF p - 1 - i) + 1 by omega, Nat.pow_succ, Nat.mul_comm]
        have hor := or_high (szF p - i) (digN 16 ((List.range' 0 i).map d)) (d i * 16 ^ (szF p - 1 - i)) (by
          rw [e1]
          exact Nat.mul_lt_mul_of_pos_right (by omega) (Nat.pow_pos (by omega)))
        simp (disch := omega) only [Option.bind_some, Sum.elim_inl, Sum.elim_inr, q_le, q_nle, q_lt, q_nlt, q_eq, q_ne, q_m1, q_m5, rd_n, wr_n, ixo_n, dvo_n, rmo_n, nI_add, pk_sub, pk_mul, if_true, if_false, c_rightSize hp (show i < 7 by omega) hi, c_rightSize hq (show i < 7 by omega) (show i < szF q by omega), hmin, c_digitAt (show d i < 8 by omega) hi (show szF p < 8 by omega), hor]
        rw [rng_snoc, digN_snoc, e1, Nat.add_mul, show szF p - (i + 1) = szF p - 1 - i by omega, Nat.mul_assoc]
      · unfold fX2_meetOf_B15
        simp (disch := omega) only [Option.bind_some, Sum.elim_inl, Sum.elim_inr, q_le, q_nle, q_lt, q_nlt, q_eq, q_ne, q_m1, q_m5, rd_n, wr_n, ixo_n, dvo_n, rmo_n, nI_add, pk_sub, pk_mul, if_true, if_false]
        rw [Nat.sub_self, Nat.pow_zero, Nat.mul_one, ← m3]
    rw [hit, Option.bind_some, c_find' m0 m1 m2 rfl]
    rfl
theorem sub1 {k : Nat} (h : 0 < k) : nI k - nI 1 = nI (k - 1) := pk_sub h
theorem add_m1 (x : Int32) : x + (-1) = x - nI 1 := by rw [Int32.sub_eq_add_neg]; rfl
theorem max_n {a b : Nat} (ha : a < 2147483648) (hb : b < 2147483648) : (if nI a < nI b then nI b else nI a) = nI (max a b) := by
  by_cases h : a < b
  · rw [if_pos (nI_lt h (by omega)), Nat.max_eq_right (by omega)]
  · rw [if_neg (nI_nlt (by omega) (by omega)), Nat.max_eq_left (by omega)]
theorem c_joinOf {p q : Nat} (h0 : 0 < p) (hp : p < 626) (hq : q < 626) (hs : szF q = szF p) : ∃ m, isJoin p q m ∧ fX2_joinOf cF sF (nI p) (nI q) = some (nI m) := by
  have hsz := sz_pos hp h0
  have h7 := sz_le hp
  have hd1 : ∀ i, i < szF p → i + dgF p i < szF p := fun i hi => dg_lt hp hi
  have hd2 : ∀ i, i < szF p → i + dgF q i < szF p := fun i hi => by have := dg_lt hq (show i < szF q by omega); omega
  -- the digits from place i on, as the loop makes them
  let Good : Nat → (Nat → Nat) → Prop := fun i d => (∀ k, i ≤ k → k < szF p → k + d k < szF p ∧ dgF p k ≤ d k ∧ dgF q k ≤ d k ∧ ∀ j, k < j → j ≤ k + d k → j + d j ≤ k + d k) ∧ ∀ z, 0 < z → z < 626 → szF z = szF p → belB p z = true → belB q z = true → ∀ k, i ≤ k → k < szF p → d k ≤ dgF z k
  obtain ⟨y, hy, d, hg, hyd⟩ : ∃ y, it (fX2_joinOf_B17 cF sF (nI p) (nI q) (nI (szF p))) FU (nI 0, nI (szF p) - nI 1) = some y ∧ ∃ d, Good 0 d ∧ y = nI (digN 16 ((List.range' 0 (szF p)).map d)) := by
    refine it_inv (fun j x => ∃ d, Good (szF p - j) d ∧ x = (nI (digN 16 ((List.range' (szF p - j) j).map d)), nI (szF p - j) - nI 1)) _ (szF p) (by omega) ⟨fun _ => 0, ⟨fun k h1 h2 => absurd h2 (by omega), fun z _ _ _ _ _ k h1 h2 => absurd h2 (by omega)⟩, by simp [digN]⟩ ?_
    rintro j x hj ⟨d, hg, rfl⟩
    unfold fX2_joinOf_B17
    rcases Nat.lt_or_ge j (szF p) with hlt | hge
    · left
      generalize hi : szF p - j - 1 = i
      have hij : szF p - j = i + 1 := by omega
      have hilt : i < szF p := by omega
      rw [hij] at hg ⊢
      rw [sub1 (show 0 < i + 1 by omega), Nat.add_sub_cancel]
      have hsmall : ∀ x ∈ (List.range' (i + 1) j).map d, x < 16 := rng_all fun k h1 h2 => by have := (hg.1 k h1 (by omega)).1; omega
      have hclt := digN_lt _ hsmall
      rw [rng_len] at hclt
      have h16 := p16_le (show j < 8 by omega)
      -- the inner loop
      obtain ⟨w, hw, e, he1, he2, he3, he4, he5⟩ : ∃ w, it (fX2_joinOf_B53 (nI p) (nI q) (nI (szF p)) (nI (digN 16 ((List.range' (i + 1) j).map d))) (nI i)) FU (nI (max (i + dgF p i) (i + dgF q i)), nI (i + 1)) = some w ∧ ∃ e, w = nI e ∧ e < szF p ∧ max (i + dgF p i) (i + dgF q i) ≤ e ∧ (∀ k, i < k → k ≤ e → k + d k ≤ e) ∧ ∀ z, 0 < z → z < 626 → szF z = szF p → belB p z = true → belB q z = true → e ≤ i + dgF z i := by
        refine it_inv (fun m x => ∃ e, x = (nI e, nI (i + 1 + m)) ∧ i + 1 + m ≤ szF p ∧ e < szF p ∧ max (i + dgF p i) (i + dgF q i) ≤ e ∧ (∀ k, i < k → k < i + 1 + m → k + d k ≤ e) ∧ ∀ z, 0 < z → z < 626 → szF z = szF p → belB p z = true → belB q z = true → e ≤ i + dgF z i) _ j (by omega) ⟨_, rfl, by omega, by have := hd1 i hilt; have := hd2 i hilt; omega, Nat.le_refl _, fun k h1 h2 => absurd h2 (by omega), fun z z0 z1 z2 z3 z4 => by
          have := bel_iff.mp z3 i hilt
          have := bel_iff.mp z4 i (by omega)
          omega⟩ ?_
        rintro m x hm ⟨e, rfl, hm2, he1, he2, he3, he4⟩
        unfold fX2_joinOf_B53
        rcases Nat.lt_or_ge (i + 1 + m) (szF p) with hjl | hjl
        · rcases Nat.lt_or_ge e (i + 1 + m) with hx | hx
          · right
            exact ⟨nI e, by simp (disch := omega) only [Option.bind_some, Sum.elim_inl, Sum.elim_inr, q_le, q_nle, q_lt, q_nlt, q_eq, q_ne, q_m1, q_m5, rd_n, wr_n, ixo_n, dvo_n, rmo_n, nI_add, pk_sub, pk_mul, if_true, if_false], e, rfl, he1, he2, fun k h1 h2 => he3 k h1 (by omega), he4⟩
          · left
            have hdk := (hg.1 (i + 1 + m) (by omega) hjl).1
            have hdig : digN 16 ((List.range' (i + 1) j).map d) / 16 ^ (szF p - 1 - (i + 1 + m)) % 16 = d (i + 1 + m) := by
              have := digN_at ((List.range' (i + 1) j).map d) m (by rw [rng_len]; omega) hsmall
              rwa [rng_len, rng_get (by omega), show j - 1 - m = szF p - 1 - (i + 1 + m) by omega] at this
            refine ⟨(nI (max e (i + 1 + m + d (i + 1 + m))), nI (i + 1 + (m + 1))), ?_, by omega, _, rfl, by omega, by omega, by omega, fun k h1 h2 => ?_, fun z z0 z1 z2 z3 z4 => ?_⟩
            · simp (disch := omega) only [Option.bind_some, Sum.elim_inl, Sum.elim_inr, q_le, q_nle, q_lt, q_nlt, q_eq, q_ne, q_m1, q_m5, rd_n, wr_n, ixo_n, dvo_n, rmo_n, nI_add, pk_sub, pk_mul, if_true, if_false, c_digitOf (show digN 16 ((List.range' (i + 1) j).map d) < 268435456 by omega) hjl (show szF p < 8 by omega), hdig, max_n (show e < 2147483648 by omega) (show i + 1 + m + d (i + 1 + m) < 2147483648 by omega)]
              rfl
            · rcases Nat.lt_or_ge k (i + 1 + m) with c | c
              · have := he3 k h1 c
                omega
              · rw [show k = i + 1 + m by omega]
                omega
            · have a1 := he4 z z0 z1 z2 z3 z4
              have a2 := dg_in z1 (show i < szF z by omega) (show i < i + 1 + m by omega) (by omega)
              have a3 := hg.2 z z0 z1 z2 z3 z4 (i + 1 + m) (by omega) hjl
              omega
        · right
          exact ⟨nI e, by simp (disch := omega) only [Option.bind_some, Sum.elim_inl, Sum.elim_inr, q_le, q_nle, q_lt, q_nlt, q_eq, q_ne, q_m1, q_m5, rd_n, wr_n, ixo_n, dvo_n, rmo_n, nI_add, pk_sub, pk_mul, if_true, if_false], e, rfl, he1, he2, fun k h1 h2 => he3 k h1 (by omega), he4⟩
      subst he1
      have a1 := hd1 i hilt
      have a2 := hd2 i hilt
      have c1 := c_end hp hilt
      have c2 := c_end hq (show i < szF q by omega)
      have hord : nI (digN 16 ((List.range' (i + 1) j).map d)) ||| nI ((e - i) * 16 ^ (szF p - 1 - i)) = nI ((e - i) * 16 ^ j + digN 16 ((List.range' (i + 1) j).map d)) := by
        rw [show szF p - 1 - i = j by omega, ← or_high j (e - i) _ hclt, fa_or, fa_or, Nat.or_comm]
      refine ⟨(nI (digN 16 ((List.range' i (j + 1)).map (fun k => if k = i then e - i else d k))), nI i - nI 1), ?_, hlt, fun k => if k = i then e - i else d k, ?_, ?_⟩
      · simp (disch := omega) only [Option.bind_some, Sum.elim_inl, Sum.elim_inr, q_le, q_nle, q_lt, q_nlt, q_eq, q_ne, q_m1, q_m5, rd_n, wr_n, ixo_n, dvo_n, rmo_n, nI_add, pk_sub, pk_mul, if_true, if_false, c1, c2, max_n (show i + dgF p i < 2147483648 by omega) (show i + dgF q i < 2147483648 by omega), hw, c_digitAt (show e - i < 8 by omega) hilt (show szF p < 8 by omega), hord, add_m1]
        rw [List.range'_succ, List.map_cons, digN, rng_len, if_pos rfl]
        congr 5
        apply congrArg
        apply List.map_congr_left
        intro k hk
        have := (List.mem_range'_1.mp hk).1
        rw [if_neg (by omega)]
      · refine ⟨fun k h1 h2 => ?_, fun z z0 z1 z2 z3 z4 k h1 h2 => ?_⟩
        · by_cases hk : k = i
          · subst hk
            simp only [if_true]
            refine ⟨by omega, by omega, by omega, fun l h3 h4 => ?_⟩
            rw [if_neg (by omega)]
            have := he4 l h3 (by omega)
            omega
          · have g := hg.1 k (by omega) h2
            simp only [if_neg hk]
            refine ⟨g.1, g.2.1, g.2.2.1, fun l h3 h4 => ?_⟩
            rw [if_neg (by omega)]
            exact g.2.2.2 l h3 h4
        · by_cases hk : k = i
          · subst hk
            simp only [if_true]
            have := he5 z z0 z1 z2 z3 z4
            omega
          · simp only [if_neg hk]
            exact hg.2 z z0 z1 z2 z3 z4 k (by omega) h2
      · rfl
    · right
      have e0 : szF p - j = 0 := by omega
      have ej : j = szF p := by omega
      rw [e0] at hg ⊢
      subst ej
      exact ⟨_, if_pos (show nI 0 - nI 1 < nI 0 by decide), d, hg, rfl⟩
  have hT : TreeD (szF p) d := fun i hi => ⟨(hg.1 i (Nat.zero_le _) hi).1, (hg.1 i (Nat.zero_le _) hi).2.2.2⟩
  obtain ⟨m, m0, m1, m2, m3, m4⟩ := place_dig hsz.1 (by omega) hT
  refine ⟨m, ⟨m0, m1, m2, bel_iff.mpr fun i hi => ?_, bel_iff.mpr fun i hi => ?_, fun z z0 z1 z2 z3 z4 => bel_iff.mpr fun i hi => ?_⟩, ?_⟩
  · rw [m4 i hi]; exact (hg.1 i (Nat.zero_le _) hi).2.1
  · rw [m4 i (by omega)]; exact (hg.1 i (Nat.zero_le _) (by omega)).2.2.1
  · rw [m4 i (by omega)]; exact hg.2 z z0 z1 z2 z3 z4 i (Nat.zero_le _) (by omega)
  · unfold fX2_joinOf
    rw [c_sizeOf hp, Option.bind_some, hy, Option.bind_some, hyd, ← m3, c_find' m0 m1 m2 rfl]
    rfl
