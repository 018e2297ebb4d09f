/-! the farthest -/
def vaD (D : Nat → Option Nat) (k : Nat) : Nat := (D k).getD 0
def mxD (D : Nat → Option Nat) : Nat → Nat
  | 0 => 0
  | k + 1 => max (mxD D k) (vaD D k)
def cE (D : Nat → Option Nat) (v : Nat) : Nat → Nat
  | 0 => 0
  | k + 1 => cE D v k + (if vaD D k = v then 1 else 0)
theorem va_of {n k : Nat} {D : Nat → Option Nat} (hD : DST n D) (hk : k < cntF n) : vaD D k < 429 ∧ D k = some (vaD D k) := by
  obtain ⟨m, hm, e⟩ := hD k hk
  unfold vaD
  rw [e]
  exact ⟨hm, rfl⟩
theorem mx_lt {n : Nat} {D : Nat → Option Nat} (hD : DST n D) : ∀ k, k ≤ cntF n → mxD D k < 429
  | 0, _ => by rw [mxD]; omega
  | k + 1, h => by
    have := mx_lt hD k (by omega)
    have := (va_of hD (show k < cntF n by omega)).1
    rw [mxD]
    omega
theorem va_le {D : Nat → Option Nat} : ∀ k i, i < k → vaD D i ≤ mxD D k
  | 0, i, h => absurd h (Nat.not_lt_zero _)
  | k + 1, i, h => by
    rw [mxD]
    rcases Nat.lt_or_ge i k with z | z
    · have := va_le (D := D) k i z
      omega
    · rw [show i = k by omega]
      omega
theorem cE_0 {D : Nat → Option Nat} {v : Nat} : ∀ k, (∀ i, i < k → vaD D i ≠ v) → cE D v k = 0
  | 0, _ => rfl
  | k + 1, h => by rw [cE, cE_0 k (fun i hi => h i (by omega)), if_neg (h k (by omega))]
theorem cE_le {D : Nat → Option Nat} {v : Nat} : ∀ k, cE D v k ≤ k
  | 0 => Nat.le_refl _
  | k + 1 => by
    have := cE_le (D := D) (v := v) k
    rw [cE]
    split <;> omega
/-- the reference's loop -/
theorem m_far {n : Nat} {d : Nat → Int32} {D : Nat → Option Nat} {v1 : Int32} (h7 : n < 8) (hd : ∀ k, k < cntF n → d k = oI (D k)) (hD : DST n D) : ∃ l, it (fX7_far_B33 d (nI (cntF n)) v1) FU (nI 0, nI 0, (-1 : Int32), nI 0) = some (nI (mxD D (cntF n)), nI (cE D (mxD D (cntF n)) (cntF n)), nI l) ∧ l < cntF n ∧ vaD D l = mxD D (cntF n) ∧ ∀ i, i < l → vaD D i ≠ mxD D (cntF n) := by
  have hc := cnt_le n h7
  obtain ⟨y, hy, l, rfl, hl⟩ : ∃ y, it (fX7_far_B33 d (nI (cntF n)) v1) FU (nI 0, nI 0, (-1 : Int32), nI 0) = some y ∧ ∃ l, y = (nI (mxD D (cntF n)), nI (cE D (mxD D (cntF n)) (cntF n)), nI l) ∧ l < cntF n ∧ vaD D l = mxD D (cntF n) ∧ ∀ i, i < l → vaD D i ≠ mxD D (cntF n) := by
    refine it_inv (fun k x => ∃ lI, x = (nI (mxD D k), nI (cE D (mxD D k) k), lI, nI k) ∧ ((k = 0 ∧ lI = (-1 : Int32)) ∨ ∃ l, lI = nI l ∧ l < k ∧ vaD D l = mxD D k ∧ ∀ i, i < l → vaD D i ≠ mxD D k)) _ (cntF n) (by omega) ⟨(-1 : Int32), rfl, Or.inl ⟨rfl, rfl⟩⟩ ?_
    rintro k x hk ⟨lI, rfl, hl⟩
    have hm := mx_lt hD k hk
    have hce := cE_le (D := D) (v := mxD D k) k
    unfold fX7_far_B33
    rcases Nat.lt_or_ge k (cntF n) with hlt | hge
    · left
      obtain ⟨hv, eD⟩ := va_of hD hlt
      have ed : d k = nI (vaD D k) := by rw [hd k hlt, eD]; rfl
      rcases Nat.lt_trichotomy (mxD D k) (vaD D k) with z | z | z
      · have emx : mxD D (k + 1) = vaD D k := by rw [mxD]; omega
        refine ⟨(nI (vaD D k), nI 1, nI k, nI (k + 1)), ?_, hlt, nI k, ?_, Or.inr ⟨k, rfl, Nat.lt_succ_self _, emx.symm, fun i hi => ?_⟩⟩
        · unfold fX7_far_J73 fX7_far_J87 fX7_far_J90
          simp (disch := omega) only [Option.bind_some, Sum.elim_inl, Sum.elim_inr, q_le, q_nle, q_lt, q_nlt, q_eq, q_ne, q_m1, q_m5, rd_n, wr_n, ixo_n, dvo_n, rmo_n, nI_add, pk_sub, pk_mul, if_true, if_false, ed]
        · rw [emx, cE, cE_0 k (fun i hi => by have := va_le (D := D) k i hi; omega), if_pos rfl]
        · have := va_le (D := D) k i hi
          omega
      · have emx : mxD D (k + 1) = mxD D k := by rw [mxD]; omega
        rcases hl with ⟨hk0, rfl⟩ | ⟨l, rfl, l1, l2, l3⟩
        · subst hk0
          refine ⟨(nI (vaD D 0), nI 1, nI 0, nI 1), ?_, hlt, nI 0, ?_, Or.inr ⟨0, rfl, Nat.lt_succ_self _, by rw [emx]; exact z.symm, fun i hi => absurd hi (Nat.not_lt_zero _)⟩⟩
          · unfold fX7_far_J73 fX7_far_J87 fX7_far_J90
            simp (disch := omega) only [Option.bind_some, Sum.elim_inl, Sum.elim_inr, q_le, q_nle, q_lt, q_nlt, q_eq, q_ne, q_m1, q_m5, rd_n, wr_n, ixo_n, dvo_n, rmo_n, nI_add, pk_sub, pk_mul, if_true, if_false, ed]
          · rw [emx, z, cE, if_pos rfl]
            rfl
        · refine ⟨(nI (mxD D k), nI (cE D (mxD D k) k + 1), nI l, nI (k + 1)), ?_, hlt, nI l, ?_, Or.inr ⟨l, rfl, by omega, by rw [emx]; exact l2, fun i hi => by rw [emx]; exact l3 i hi⟩⟩
          · unfold fX7_far_J87 fX7_far_J90
            simp (disch := omega) only [Option.bind_some, Sum.elim_inl, Sum.elim_inr, q_le, q_nle, q_lt, q_nlt, q_eq, q_ne, q_m1, q_m5, rd_n, wr_n, ixo_n, dvo_n, rmo_n, nI_add, pk_sub, pk_mul, if_true, if_false, ed]
          · rw [emx, cE, if_pos z.symm]
      · have emx : mxD D (k + 1) = mxD D k := by rw [mxD]; omega
        refine ⟨(nI (mxD D k), nI (cE D (mxD D k) k), lI, nI (k + 1)), ?_, hlt, lI, ?_, Or.inr ?_⟩
        · unfold fX7_far_J90
          simp (disch := omega) only [Option.bind_some, Sum.elim_inl, Sum.elim_inr, q_le, q_nle, q_lt, q_nlt, q_eq, q_ne, q_m1, q_m5, rd_n, wr_n, ixo_n, dvo_n, rmo_n, nI_add, pk_sub, pk_mul, if_true, if_false, ed]
        · have ec : cE D (mxD D k) (k + 1) = cE D (mxD D k) k := by
            rw [cE, if_neg (show ¬ vaD D k = mxD D k by omega)]
            rfl
          rw [emx, ec]
        · rcases hl with ⟨hk0, rfl⟩ | ⟨l, rfl, l1, l2, l3⟩
          · subst hk0
            rw [mxD] at z
            exact absurd z (Nat.not_lt_zero _)
          · exact ⟨l, rfl, by omega, by rw [emx]; exact l2, fun i hi => by rw [emx]; exact l3 i hi⟩
    · right
      have ek : k = cntF n := by omega
      subst ek
      rcases hl with ⟨hk0, _⟩ | ⟨l, rfl, l1⟩
      · omega
      · refine ⟨_, ?_, l, rfl, l1⟩
        simp (disch := omega) only [Option.bind_some, Sum.elim_inl, Sum.elim_inr, q_le, q_nle, q_lt, q_nlt, q_eq, q_ne, q_m1, q_m5, rd_n, wr_n, ixo_n, dvo_n, rmo_n, nI_add, pk_sub, pk_mul, if_true, if_false]
  exact ⟨l, hy, hl⟩
/-- the class's array of turns -/
def TUR (n : Nat) (t : Nat → Int32) (D : Nat → Option Nat) : Prop := (∀ k, k < cntF n → t (fstF n + k) = oI (D k)) ∧ ∀ z, z < 626 → (z < fstF n ∨ fstF n + cntF n ≤ z) → t z = (-1 : Int32)
theorem tur_at {n z : Nat} {t : Nat → Int32} {D : Nat → Option Nat} (hD : DST n D) (H : TUR n t D) (hz : z < 626) : (fstF n ≤ z ∧ z < fstF n + cntF n ∧ z - fstF n < cntF n ∧ t z = nI (vaD D (z - fstF n))) ∨ ((z < fstF n ∨ fstF n + cntF n ≤ z) ∧ t z = (-1 : Int32)) := by
  by_cases h : z < fstF n ∨ fstF n + cntF n ≤ z
  · exact Or.inr ⟨h, H.2 z hz h⟩
  · refine Or.inl ⟨by omega, by omega, by omega, ?_⟩
    have := H.1 (z - fstF n) (by omega)
    rw [show fstF n + (z - fstF n) = z by omega] at this
    rw [this, (va_of hD (show z - fstF n < cntF n by omega)).2]
    unfold vaD
    cases D (z - fstF n) <;> rfl
theorem m1_nlt {a : Nat} (h : a < 2147483648) : ¬ nI a < (-1 : Int32) := by
  rw [Int32.lt_iff_toInt_lt, nI_toInt (by omega), m1_toInt]
  omega
theorem c_farthest {n : Nat} {t : Nat → Int32} {D : Nat → Option Nat} (h7 : n < 8) (hD : DST n D) (H : TUR n t D) : fX5_farthest t = some (nI (mxD D (cntF n))) := by
  have hc := cnt_le n h7
  have hf := fst_lt n h7
  have key : it (fX5_farthest_B4 t) FU (nI 0, nI 0) = some (nI (mxD D (cntF n))) := by
    refine it_go (fun z => (nI (mxD D (min (z - fstF n) (cntF n))), nI z)) 626 (by simp [mxD]) (by omega) ?_ ?_
    · intro z hz
      have hm := mx_lt hD (min (z - fstF n) (cntF n)) (by omega)
      unfold fX5_farthest_B4
      rcases tur_at hD H hz with ⟨h1, h2, h3, h4⟩ | ⟨h1, h2⟩
      · have hv := (va_of hD h3).1
        simp (disch := omega) only [Option.bind_some, Sum.elim_inl, Sum.elim_inr, q_le, q_nle, q_lt, q_nlt, q_eq, q_ne, q_m1, q_m5, rd_n, wr_n, ixo_n, dvo_n, rmo_n, nI_add, pk_sub, pk_mul, if_true, if_false, h4]
        rw [max_n (by omega) (by omega), show min (z - fstF n) (cntF n) = z - fstF n by omega, show min (z + 1 - fstF n) (cntF n) = z - fstF n + 1 by omega]
        rfl
      · simp (disch := omega) only [Option.bind_some, Sum.elim_inl, Sum.elim_inr, q_le, q_nle, q_lt, q_nlt, q_eq, q_ne, q_m1, q_m5, rd_n, wr_n, ixo_n, dvo_n, rmo_n, nI_add, pk_sub, pk_mul, if_true, if_false, h2]
        rw [if_neg (m1_nlt (by omega)), show min (z + 1 - fstF n) (cntF n) = min (z - fstF n) (cntF n) by omega]
    · unfold fX5_farthest_B4
      simp (disch := omega) only [Option.bind_some, Sum.elim_inl, Sum.elim_inr, q_le, q_nle, q_lt, q_nlt, q_eq, q_ne, q_m1, q_m5, rd_n, wr_n, ixo_n, dvo_n, rmo_n, nI_add, pk_sub, pk_mul, if_true, if_false]
      rw [show min (626 - fstF n) (cntF n) = cntF n by omega]
  unfold fX5_farthest
  rw [key]
  rfl
theorem c_howManyF {n : Nat} {t : Nat → Int32} {D : Nat → Option Nat} (h7 : n < 8) (hD : DST n D) (H : TUR n t D) : fX5_howManyFarthest t = some (nI (cE D (mxD D (cntF n)) (cntF n))) := by
  have hc := cnt_le n h7
  have hf := fst_lt n h7
  have hm := mx_lt hD (cntF n) (Nat.le_refl _)
  have key : it (fX5_howManyFarthest_B9 t (nI (mxD D (cntF n)))) FU (nI 0, nI 0) = some (nI (cE D (mxD D (cntF n)) (cntF n))) := by
    refine it_go (fun z => (nI (cE D (mxD D (cntF n)) (min (z - fstF n) (cntF n))), nI z)) 626 (by simp [cE]) (by omega) ?_ ?_
    · intro z hz
      unfold fX5_howManyFarthest_B9 fX5_howManyFarthest_J29
      rcases tur_at hD H hz with ⟨h1, h2, h3, h4⟩ | ⟨h1, h2⟩
      · have hv := (va_of hD h3).1
        rw [show min (z - fstF n) (cntF n) = z - fstF n by omega, show min (z + 1 - fstF n) (cntF n) = z - fstF n + 1 by omega, cE]
        by_cases e : vaD D (z - fstF n) = mxD D (cntF n)
        · rw [if_pos e]
          simp (disch := omega) only [Option.bind_some, Sum.elim_inl, Sum.elim_inr, q_le, q_nle, q_lt, q_nlt, q_eq, q_ne, q_m1, q_m5, rd_n, wr_n, ixo_n, dvo_n, rmo_n, nI_add, pk_sub, pk_mul, if_true, if_false, h4]
        · rw [if_neg e]
          simp (disch := omega) only [Option.bind_some, Sum.elim_inl, Sum.elim_inr, q_le, q_nle, q_lt, q_nlt, q_eq, q_ne, q_m1, q_m5, rd_n, wr_n, ixo_n, dvo_n, rmo_n, nI_add, pk_sub, pk_mul, if_true, if_false, h4]
          rfl
      · rw [show min (z + 1 - fstF n) (cntF n) = min (z - fstF n) (cntF n) by omega]
        simp (disch := omega) only [Option.bind_some, Sum.elim_inl, Sum.elim_inr, q_le, q_nle, q_lt, q_nlt, q_eq, q_ne, q_m1, q_m5, rd_n, wr_n, ixo_n, dvo_n, rmo_n, nI_add, pk_sub, pk_mul, if_true, if_false, h2]
        rw [if_neg (fun e => nI_nm1 (show mxD D (cntF n) < 2147483648 by omega) e.symm)]
    · unfold fX5_howManyFarthest_B9
      simp (disch := omega) only [Option.bind_some, Sum.elim_inl, Sum.elim_inr, q_le, q_nle, q_lt, q_nlt, q_eq, q_ne, q_m1, q_m5, rd_n, wr_n, ixo_n, dvo_n, rmo_n, nI_add, pk_sub, pk_mul, if_true, if_false]
      rw [show min (626 - fstF n) (cntF n) = cntF n by omega]
  unfold fX5_howManyFarthest
  rw [c_farthest h7 hD H, Option.bind_some, key]
  rfl
theorem c_leastF {n l : Nat} {t : Nat → Int32} {D : Nat → Option Nat} (h7 : n < 8) (hD : DST n D) (H : TUR n t D) (l1 : l < cntF n) (l2 : vaD D l = mxD D (cntF n)) (l3 : ∀ i, i < l → vaD D i ≠ mxD D (cntF n)) : fX5_leastFarthest t = some (nI (fstF n + l)) := by
  have hc := cnt_le n h7
  have hf := fst_lt n h7
  have hm := mx_lt hD (cntF n) (Nat.le_refl _)
  have key : it (fX5_leastFarthest_B7 t (nI (mxD D (cntF n)))) FU (nI 0) = some (.inr (nI (fstF n + l))) := by
    refine it_go (fun z => nI z) (fstF n + l) rfl (by omega) ?_ ?_
    · intro z hz
      unfold fX5_leastFarthest_B7
      rcases tur_at hD H (show z < 626 by omega) with ⟨h1, h2, h3, h4⟩ | ⟨h1, h2⟩
      · have hv := (va_of hD h3).1
        have := l3 (z - fstF n) (by omega)
        simp (disch := omega) only [Option.bind_some, Sum.elim_inl, Sum.elim_inr, q_le, q_nle, q_lt, q_nlt, q_eq, q_ne, q_m1, q_m5, rd_n, wr_n, ixo_n, dvo_n, rmo_n, nI_add, pk_sub, pk_mul, if_true, if_false, h4]
      · simp (disch := omega) only [Option.bind_some, Sum.elim_inl, Sum.elim_inr, q_le, q_nle, q_lt, q_nlt, q_eq, q_ne, q_m1, q_m5, rd_n, wr_n, ixo_n, dvo_n, rmo_n, nI_add, pk_sub, pk_mul, if_true, if_false, h2]
        rw [if_neg (fun e => nI_nm1 (show mxD D (cntF n) < 2147483648 by omega) e.symm)]
    · unfold fX5_leastFarthest_B7
      rcases tur_at hD H (show fstF n + l < 626 by omega) with ⟨h1, h2, h3, h4⟩ | ⟨h1, h2⟩
      · rw [show fstF n + l - fstF n = l by omega, l2] at h4
        simp (disch := omega) only [Option.bind_some, Sum.elim_inl, Sum.elim_inr, q_le, q_nle, q_lt, q_nlt, q_eq, q_ne, q_m1, q_m5, rd_n, wr_n, ixo_n, dvo_n, rmo_n, nI_add, pk_sub, pk_mul, if_true, if_false, h4]
      · omega
  unfold fX5_leastFarthest
  rw [c_farthest h7 hD H, Option.bind_some, key]
  rfl
