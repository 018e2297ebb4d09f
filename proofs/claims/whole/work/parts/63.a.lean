/-! the order: below -/
theorem fa_and (a b : Nat) : nI a &&& nI b = nI (a &&& b) := by
  apply Int32.toBitVec_inj.1
  show BitVec.ofNat 32 a &&& BitVec.ofNat 32 b = BitVec.ofNat 32 (a &&& b)
  apply BitVec.eq_of_getLsbD_eq
  intro i hi
  simp [hi]
theorem fa_or (a b : Nat) : nI a ||| nI b = nI (a ||| b) := by
  apply Int32.toBitVec_inj.1
  show BitVec.ofNat 32 a ||| BitVec.ofNat 32 b = BitVec.ofNat 32 (a ||| b)
  apply BitVec.eq_of_getLsbD_eq
  intro i hi
  simp [hi]
/-- each b of the first no more than that of the second -/
def belB (p q : Nat) : Bool := (List.range (szF p)).all fun i => decide (dgF p i ≤ dgF q i)
theorem bel_iff {p q : Nat} : belB p q = true ↔ ∀ i, i < szF p → dgF p i ≤ dgF q i := by
  unfold belB
  rw [List.all_eq_true]
  constructor
  · intro h i hi
    have := h i (List.mem_range.mpr hi)
    simpa using this
  · intro h i hi
    simpa using h i (List.mem_range.mp hi)
theorem bel_rf (p : Nat) : belB p p = true := bel_iff.mpr fun _ _ => Nat.le_refl _
theorem bel_tr {p q r : Nat} (h : szF p = szF q) (h1 : belB p q = true) (h2 : belB q r = true) : belB p r = true := bel_iff.mpr fun i hi => Nat.le_trans (bel_iff.mp h1 i hi) (bel_iff.mp h2 i (by omega))
def bI (b : Bool) : Int32 := if b then nI 1 else nI 0
theorem bI_0 {b : Bool} : (bI b = nI 0) ↔ b = false := by cases b <;> decide
theorem zro_b (b : Bool) : zro (bI b) = some (bI b) := by cases b <;> decide
theorem q_b {α : Type} {b : Bool} {x y : α} : (if bI b = nI 0 then x else y) = if b then y else x := by cases b <;> rfl
theorem m_isBelow {p q : Nat} (hp : p < 626) (hq : q < 626) (hs : szF q = szF p) : fX7_isBelow (nI (dcF p)) (nI (dcF q)) (nI (szF p)) = some (bI (belB p q)) := by
  have h7 := sz_le hp
  obtain ⟨y, hy, hq2⟩ : ∃ y, it (fX7_isBelow_B2 (nI (dcF p)) (nI (dcF q)) (nI (szF p))) FU (nI 0) = some y ∧ ((y = .inl () ∧ belB p q = true) ∨ (y = .inr (nI 0) ∧ belB p q = false)) := by
    refine it_inv (fun i x => x = nI i ∧ i ≤ szF p ∧ ∀ k, k < i → dgF p k ≤ dgF q k) _ (szF p) (by omega) ⟨rfl, Nat.zero_le _, fun k hk => absurd hk (Nat.not_lt_zero _)⟩ ?_
    rintro i x hi ⟨rfl, hin, hok⟩
    unfold fX7_isBelow_B2
    rcases Nat.lt_or_ge i (szF p) with hlt | hge
    · have e2 : fX7_at (nI (dcF q)) (nI (szF p)) (nI i) = some (nI (dgF q i)) := by rw [← hs]; exact m_at' hq (by omega)
      have d1 := dg_lt hp hlt
      have d2 := dg_lt hq (show i < szF q by omega)
      by_cases hc : dgF p i ≤ dgF q i
      · left
        refine ⟨nI (i + 1), ?_, hlt, rfl, hlt, fun k hk => ?_⟩
        · simp (disch := omega) only [Option.bind_some, Sum.elim_inl, Sum.elim_inr, q_le, q_nle, q_lt, q_nlt, q_eq, q_ne, q_m1, q_m5, rd_n, wr_n, ixo_n, dvo_n, rmo_n, nI_add, pk_sub, pk_mul, if_true, if_false, m_at' hp hlt, e2]
        · rcases Nat.lt_or_ge k i with z | z
          · exact hok k z
          · rw [show k = i by omega]; exact hc
      · right
        refine ⟨.inr (nI 0), ?_, Or.inr ⟨rfl, ?_⟩⟩
        · simp (disch := omega) only [Option.bind_some, Sum.elim_inl, Sum.elim_inr, q_le, q_nle, q_lt, q_nlt, q_eq, q_ne, q_m1, q_m5, rd_n, wr_n, ixo_n, dvo_n, rmo_n, nI_add, pk_sub, pk_mul, if_true, if_false, m_at' hp hlt, e2]
        · cases hb : belB p q with
          | false => rfl
          | true => exact absurd (bel_iff.mp hb i hlt) hc
    · right
      refine ⟨.inl (), ?_, Or.inl ⟨rfl, bel_iff.mpr fun k hk => hok k (by omega)⟩⟩
      simp (disch := omega) only [Option.bind_some, Sum.elim_inl, Sum.elim_inr, q_le, q_nle, q_lt, q_nlt, q_eq, q_ne, q_m1, q_m5, rd_n, wr_n, ixo_n, dvo_n, rmo_n, nI_add, pk_sub, pk_mul, if_true, if_false]
  unfold fX7_isBelow
  rw [hy]
  rcases hq2 with ⟨rfl, h⟩ | ⟨rfl, h⟩ <;> rw [h] <;> rfl
/-- numbers of hexadecimal digits, all less than 8 -/
theorem or16 (x y r s : Nat) (hr : r < 16) (hs : s < 16) : (16 * x + r) ||| (16 * y + s) = 16 * (x ||| y) + (r ||| s) := by
  have h1 : ((16 * x + r) ||| (16 * y + s)) % 2 ^ 4 = (r ||| s) := by
    rw [Nat.or_mod_two_pow, show (16 * x + r) % 2 ^ 4 = r by omega, show (16 * y + s) % 2 ^ 4 = s by omega]
  have h2 : ((16 * x + r) ||| (16 * y + s)) >>> 4 = (x ||| y) := by
    rw [Nat.shiftRight_or_distrib, Nat.shiftRight_eq_div_pow, Nat.shiftRight_eq_div_pow, show (16 * x + r) / 2 ^ 4 = x by omega, show (16 * y + s) / 2 ^ 4 = y by omega]
  rw [Nat.shiftRight_eq_div_pow] at h2
  omega
theorem and16 (x y r s : Nat) (hr : r < 16) (hs : s < 16) : (16 * x + r) &&& (16 * y + s) = 16 * (x &&& y) + (r &&& s) := by
  have h1 : ((16 * x + r) &&& (16 * y + s)) % 2 ^ 4 = (r &&& s) := by
    rw [Nat.and_mod_two_pow, show (16 * x + r) % 2 ^ 4 = r by omega, show (16 * y + s) % 2 ^ 4 = s by omega]
  have h2 : ((16 * x + r) &&& (16 * y + s)) >>> 4 = (x &&& y) := by
    rw [Nat.shiftRight_and_distrib, Nat.shiftRight_eq_div_pow, Nat.shiftRight_eq_div_pow, show (16 * x + r) / 2 ^ 4 = x by omega, show (16 * y + s) / 2 ^ 4 = y by omega]
  rw [Nat.shiftRight_eq_div_pow] at h2
  omega
def F8 : Nat → Nat
  | 0 => 0
  | k + 1 => 16 * F8 k + 8
theorem or8 : ∀ a, a < 8 → a ||| 8 = a + 8 := by decide
theorem and8 : ∀ a, a < 16 → (a &&& 8 = 8 ↔ 8 ≤ a) ∧ a &&& 8 ≤ 8 := by decide
theorem nm_nat : ∀ (k u l : Nat), (∀ j, u / 16 ^ j % 16 < 8) → (∀ j, l / 16 ^ j % 16 < 8) → u < 16 ^ k → l < 16 ^ k → l ≤ (u ||| F8 k) ∧ (((u ||| F8 k) - l) &&& F8 k = F8 k ↔ ∀ j, l / 16 ^ j % 16 ≤ u / 16 ^ j % 16) ∧ (u ||| F8 k) < 16 ^ k
  | 0, u, l, _, _, h1, h2 => by
    have e1 : u = 0 := by simpa using h1
    have e2 : l = 0 := by simpa using h2
    subst e1 e2
    simp [F8]
  | k + 1, u, l, hu, hl, h1, h2 => by
    have hu0 : u % 16 < 8 := by simpa using hu 0
    have hl0 : l % 16 < 8 := by simpa using hl 0
    rw [Nat.pow_succ] at h1 h2
    have sh : ∀ z j : Nat, z / 16 / 16 ^ j = z / 16 ^ (j + 1) := fun z j => by rw [Nat.div_div_eq_div_mul, Nat.pow_succ, Nat.mul_comm]
    obtain ⟨i1, i2, i3⟩ := nm_nat k (u / 16) (l / 16) (fun j => by rw [sh]; exact hu (j + 1)) (fun j => by rw [sh]; exact hl (j + 1)) (by omega) (by omega)
    have eu : u = 16 * (u / 16) + u % 16 := by omega
    have el : l = 16 * (l / 16) + l % 16 := by omega
    have e1 : (u ||| F8 (k + 1)) = 16 * (u / 16 ||| F8 k) + (u % 16 + 8) := by
      rw [eu, F8, or16 _ _ _ _ (by omega) (by omega), or8 _ (by omega), ← eu]
    have e2 : (u ||| F8 (k + 1)) - l = 16 * ((u / 16 ||| F8 k) - l / 16) + (u % 16 + 8 - l % 16) := by omega
    have h8 := and8 (u % 16 + 8 - l % 16) (by omega)
    refine ⟨by omega, ?_, by rw [Nat.pow_succ]; omega⟩
    rw [e2, F8, and16 _ _ _ _ (by omega) (by omega)]
    constructor
    · intro h
      have ha : (u % 16 + 8 - l % 16) &&& 8 = 8 := by omega
      have hb : (((u / 16 ||| F8 k) - l / 16) &&& F8 k) = F8 k := by omega
      have hc := i2.mp hb
      have hd := h8.1.mp ha
      intro j
      cases j with
      | zero => simp; omega
      | succ j => rw [← sh, ← sh]; exact hc j
    · intro h
      have hb := i2.mpr (fun j => by rw [sh, sh]; exact h (j + 1))
      have h00 := h 0
      simp at h00
      have ha := h8.1.mpr (by omega)
      rw [hb, ha]
theorem F8_7 : F8 7 = 143165576 := rfl
theorem cd_16 {p : Nat} (hp : p < 626) : cdF p < 16 ^ 7 := Nat.lt_of_lt_of_le (cd_lt hp) (Nat.pow_le_pow_right (by omega) (sz_le hp))
/-- the digit j from the end -/
theorem cd_dig {p : Nat} (hp : p < 626) (j : Nat) : cdF p / 16 ^ j % 16 = if j < szF p then dgF p (szF p - 1 - j) else 0 := by
  have e16 : ∀ k : Nat, (16 : Nat) ^ k = 2 ^ (4 * k) := fun k => by rw [Nat.pow_mul]
  by_cases h : j < szF p
  · rw [if_pos h]
    unfold dgF
    rw [Nat.shiftRight_eq_div_pow, e16, show szF p - 1 - (szF p - 1 - j) = j by omega]
  · rw [if_neg h]
    have h1 := cd_lt hp
    have h2 : (16 : Nat) ^ szF p ≤ 16 ^ j := Nat.pow_le_pow_right (by omega) (by omega)
    rw [Nat.div_eq_of_lt (by omega)]
theorem cd_lt8 {p : Nat} (hp : p < 626) (j : Nat) : cdF p / 16 ^ j % 16 < 8 := by
  rw [cd_dig hp]
  split
  · next h =>
    have h1 := dg_lt hp (show szF p - 1 - j < szF p by omega)
    have h2 := sz_le hp
    omega
  · omega
theorem c_noMore {p q : Nat} (hp : p < 626) (hq : q < 626) (hs : szF q = szF p) : fX2_noMore (nI (cdF p)) (nI (cdF q)) = some (bI (belB p q)) := by
  obtain ⟨h1, h2, h3⟩ := nm_nat 7 (cdF q) (cdF p) (cd_lt8 hq) (cd_lt8 hp) (cd_16 hq) (cd_16 hp)
  rw [F8_7] at h1 h2 h3
  have hlit : (143165576 : Int32) = nI 143165576 := rfl
  have h4 : ((cdF q ||| 143165576) - cdF p) &&& 143165576 ≤ 143165576 := Nat.and_le_right
  unfold fX2_noMore
  rw [hlit, fa_or, pk_sub h1, fa_and]
  have key : (((cdF q ||| 143165576) - cdF p) &&& 143165576 = 143165576) ↔ belB p q = true := by
    rw [h2, bel_iff]
    constructor
    · intro h i hi
      have := h (szF p - 1 - i)
      rw [cd_dig hp, cd_dig hq, if_pos (by omega), if_pos (by omega), hs, show szF p - 1 - (szF p - 1 - i) = i by omega] at this
      exact this
    · intro h j
      rw [cd_dig hp, cd_dig hq, hs]
      split
      · exact h _ (by omega)
      · exact Nat.le_refl _
  cases hb : belB p q with
  | true => rw [key.mpr hb, if_pos rfl]; rfl
  | false =>
    rw [if_neg]
    · rfl
    · intro e
      have := (nI_eq (by omega) (by omega)).mp e
      rw [key.mp this] at hb
      cases hb
theorem c_isBelow {p q : Nat} (hp : p < 626) (hq : q < 626) (hs : szF q = szF p) : fX2_isBelow cF (nI p) (nI q) = some (bI (belB p q)) := by
  unfold fX2_isBelow
  simp (disch := omega) only [Option.bind_some, Sum.elim_inl, Sum.elim_inr, q_le, q_nle, q_lt, q_nlt, q_eq, q_ne, q_m1, q_m5, rd_n, wr_n, ixo_n, dvo_n, rmo_n, nI_add, pk_sub, pk_mul, if_true, if_false, c_codeOf hp, c_codeOf hq, c_noMore hp hq hs, zro_b]
/-- what is below another has no greater number -/
theorem k_cdm : (List.range 8).all (fun n => (List.range (cntF n)).all fun k => decide (k = 0) || decide (cdF (fstF n + k - 1) < cdF (fstF n + k))) = true := by decide +kernel
theorem cd_mono {n : Nat} (hn : n < 8) : ∀ k j, j < k → k < cntF n → cdF (fstF n + j) < cdF (fstF n + k)
  | 0, j, h, _ => absurd h (Nat.not_lt_zero _)
  | k + 1, j, h, hk => by
    have h1 := ra (ra k_cdm hn) hk
    simp only [Bool.or_eq_true, decide_eq_true_eq] at h1
    rcases h1 with h1 | h1
    · omega
    · rw [show fstF n + (k + 1) - 1 = fstF n + k by omega] at h1
      rcases Nat.lt_or_ge j k with q | q
      · exact Nat.lt_trans (cd_mono hn k j q (by omega)) h1
      · rw [show j = k by omega]
        exact h1
theorem hex_le : ∀ (k u l : Nat), u < 16 ^ k → (∀ j, l / 16 ^ j % 16 ≤ u / 16 ^ j % 16) → l < 16 ^ k → l ≤ u
  | 0, u, l, h1, _, h2 => by
    have e2 : l = 0 := by simpa using h2
    omega
  | k + 1, u, l, h1, h, h2 => by
    rw [Nat.pow_succ] at h1 h2
    have sh : ∀ z j : Nat, z / 16 / 16 ^ j = z / 16 ^ (j + 1) := fun z j => by rw [Nat.div_div_eq_div_mul, Nat.pow_succ, Nat.mul_comm]
    have i1 := hex_le k (u / 16) (l / 16) (by omega) (fun j => by rw [sh, sh]; exact h (j + 1)) (by omega)
    have h00 := h 0
    simp at h00
    omega
theorem bel_le {p q : Nat} (h0 : 0 < p) (hp : p < 626) (h1 : 0 < q) (hq : q < 626) (hs : szF q = szF p) (hb : belB p q = true) : p ≤ q := by
  have hle : cdF p ≤ cdF q := by
    refine hex_le 7 _ _ (cd_16 hq) (fun j => ?_) (cd_16 hp)
    rw [cd_dig hp, cd_dig hq, hs]
    split
    · exact bel_iff.mp hb _ (by omega)
    · exact Nat.le_refl _
  have a := sz_pos hp h0
  have b := sz_pos hq h1
  have c := sz_le hp
  rw [hs] at b
  rcases Nat.lt_or_ge q p with h | h
  · have := cd_mono (show szF p < 8 by omega) (p - fstF (szF p)) (q - fstF (szF p)) (by omega) (by unfold cntF; omega)
    rw [show fstF (szF p) + (q - fstF (szF p)) = q by omega, show fstF (szF p) + (p - fstF (szF p)) = p by omega] at this
    omega
  · exact h
theorem bel_as {p q : Nat} (h0 : 0 < p) (hp : p < 626) (h1 : 0 < q) (hq : q < 626) (hs : szF q = szF p) (hb : belB p q = true) (hb2 : belB q p = true) : p = q := Nat.le_antisymm (bel_le h0 hp h1 hq hs hb) (bel_le h1 hq h0 hp hs.symm hb2)
