/-! the reference: which numbers are trees, the table of a size -/
theorem m_isTree {t n : Nat} (h0 : 0 < n) (h7 : n < 8) (ht : t < P10 n) : (TreeD n (atN t n) ∧ fX7_isTree (nI t) (nI n) = some (nI 1)) ∨ (¬ TreeD n (atN t n) ∧ fX7_isTree (nI t) (nI n) = some (nI 0)) := by
  have hP := p10_lt n
  have hPp := p10_pos n
  have key : ∃ y, it (fX7_isTree_B20 (nI t) (nI n)) FU (nI 0) = some y ∧ ((y = .inl () ∧ TreeD n (atN t n)) ∨ (y = .inr (nI 0) ∧ ¬ TreeD n (atN t n))) := by
    refine it_inv (fun i x => x = nI i ∧ i ≤ n ∧ ∀ k, k < i → k + atN t n k < n ∧ ∀ j, k < j → j ≤ k + atN t n k → j + atN t n j ≤ k + atN t n k) _ n (by omega) ⟨rfl, Nat.zero_le _, fun k hk => absurd hk (Nat.not_lt_zero _)⟩ ?_
    rintro i x hi ⟨rfl, hin, hok⟩
    unfold fX7_isTree_B20
    rcases Nat.lt_or_ge i n with hlt | hge
    · have ha := at_lt t n i
      rcases Nat.lt_or_ge (n - 1 - i) (atN t n i) with hb | hb
      · right
        refine ⟨.inr (nI 0), ?_, Or.inr ⟨rfl, fun h => ?_⟩⟩
        · simp (disch := omega) only [Option.bind_some, Sum.elim_inl, Sum.elim_inr, q_le, q_nle, q_lt, q_nlt, q_eq, q_ne, q_m1, q_m5, rd_n, wr_n, ixo_n, dvo_n, rmo_n, nI_add, pk_sub, pk_mul, if_true, if_false, m_at (show t < 2147483648 by omega) hlt h7]
        · have := (h i hlt).1
          omega
      · obtain ⟨y, hy, hq⟩ : ∃ y, it (fX7_isTree_B48 (nI t) (nI n) (nI i) (nI (atN t n i))) FU (nI (i + 1)) = some y ∧ ((y = .inl () ∧ ∀ j, i < j → j ≤ i + atN t n i → j + atN t n j ≤ i + atN t n i) ∨ (y = .inr (nI 0) ∧ ∃ j, i < j ∧ j ≤ i + atN t n i ∧ ¬ j + atN t n j ≤ i + atN t n i)) := by
          refine it_inv (fun k x => x = nI (i + 1 + k) ∧ k ≤ atN t n i ∧ ∀ j, i < j → j < i + 1 + k → j + atN t n j ≤ i + atN t n i) _ (atN t n i) (by omega) ⟨rfl, Nat.zero_le _, fun j h1 h2 => absurd h2 (by omega)⟩ ?_
          rintro k x hk ⟨rfl, hk2, hall⟩
          unfold fX7_isTree_B48
          rcases Nat.lt_or_ge k (atN t n i) with hk3 | hk3
          · have ha2 := at_lt t n (i + 1 + k)
            by_cases hc : i + 1 + k + atN t n (i + 1 + k) ≤ i + atN t n i
            · left
              refine ⟨nI (i + 1 + (k + 1)), ?_, hk3, rfl, hk3, fun j h1 h2 => ?_⟩
              · simp (disch := omega) only [Option.bind_some, Sum.elim_inl, Sum.elim_inr, q_le, q_nle, q_lt, q_nlt, q_eq, q_ne, q_m1, q_m5, rd_n, wr_n, ixo_n, dvo_n, rmo_n, nI_add, pk_sub, pk_mul, if_true, if_false, m_at (show t < 2147483648 by omega) (show i + 1 + k < n by omega) h7]
                rfl
              · rcases Nat.lt_or_ge j (i + 1 + k) with q | q
                · exact hall j h1 q
                · rw [show j = i + 1 + k by omega]
                  exact hc
            · right
              refine ⟨.inr (nI 0), ?_, Or.inr ⟨rfl, i + 1 + k, by omega, by omega, hc⟩⟩
              simp (disch := omega) only [Option.bind_some, Sum.elim_inl, Sum.elim_inr, q_le, q_nle, q_lt, q_nlt, q_eq, q_ne, q_m1, q_m5, rd_n, wr_n, ixo_n, dvo_n, rmo_n, nI_add, pk_sub, pk_mul, if_true, if_false, m_at (show t < 2147483648 by omega) (show i + 1 + k < n by omega) h7]
          · right
            refine ⟨.inl (), ?_, Or.inl ⟨rfl, fun j h1 h2 => hall j h1 (by omega)⟩⟩
            simp (disch := omega) only [Option.bind_some, Sum.elim_inl, Sum.elim_inr, q_le, q_nle, q_lt, q_nlt, q_eq, q_ne, q_m1, q_m5, rd_n, wr_n, ixo_n, dvo_n, rmo_n, nI_add, pk_sub, pk_mul, if_true, if_false]
        rcases hq with ⟨rfl, hq⟩ | ⟨rfl, j, hj1, hj2, hj3⟩
        · left
          refine ⟨nI (i + 1), ?_, hlt, rfl, hlt, fun k hk => ?_⟩
          · simp (disch := omega) only [Option.bind_some, Sum.elim_inl, Sum.elim_inr, q_le, q_nle, q_lt, q_nlt, q_eq, q_ne, q_m1, q_m5, rd_n, wr_n, ixo_n, dvo_n, rmo_n, nI_add, pk_sub, pk_mul, if_true, if_false, m_at (show t < 2147483648 by omega) hlt h7, hy]
          · rcases Nat.lt_or_ge k i with q | q
            · exact hok k q
            · rw [show k = i by omega]
              exact ⟨by omega, hq⟩
        · right
          refine ⟨.inr (nI 0), ?_, Or.inr ⟨rfl, fun h => hj3 ((h i hlt).2 j hj1 hj2)⟩⟩
          simp (disch := omega) only [Option.bind_some, Sum.elim_inl, Sum.elim_inr, q_le, q_nle, q_lt, q_nlt, q_eq, q_ne, q_m1, q_m5, rd_n, wr_n, ixo_n, dvo_n, rmo_n, nI_add, pk_sub, pk_mul, if_true, if_false, m_at (show t < 2147483648 by omega) hlt h7, hy]
    · right
      refine ⟨.inl (), ?_, Or.inl ⟨rfl, fun k hk => hok k (by omega)⟩⟩
      simp (disch := omega) only [Option.bind_some, Sum.elim_inl, Sum.elim_inr, q_le, q_nle, q_lt, q_nlt, q_eq, q_ne, q_m1, q_m5, rd_n, wr_n, ixo_n, dvo_n, rmo_n, nI_add, pk_sub, pk_mul, if_true, if_false]
  obtain ⟨y, hy, hq⟩ := key
  have hin : fX7_in (nI t).toInt64 (0 : Int64) (nI (P10 n - 1)).toInt64 = some (nI 1) := by
    rw [in_ok, if_pos]
    rw [Int64.le_iff_toInt_le, Int64.le_iff_toInt_le, nl_toInt (by omega), nl_toInt (by omega)]
    exact ⟨by simp, by omega⟩
  have hrun : fX7_isTree (nI t) (nI n) = y.elim (fun _ => some (nI 1)) some := by
    unfold fX7_isTree
    simp (disch := omega) only [Option.bind_some, Sum.elim_inl, Sum.elim_inr, q_le, q_nle, q_lt, q_nlt, q_eq, q_ne, q_m1, q_m5, rd_n, wr_n, ixo_n, dvo_n, rmo_n, nI_add, pk_sub, pk_mul, if_true, if_false, m_ten n h7, hin, hy]
  rcases hq with ⟨rfl, h⟩ | ⟨rfl, h⟩
  · exact Or.inl ⟨h, hrun⟩
  · exact Or.inr ⟨h, hrun⟩
theorem m_isTree_no {x : Int32} {n : Nat} (h7 : n < 8) (h : x < nI 0 ∨ nI (P10 n) ≤ x) : fX7_isTree x (nI n) = some (nI 0) := by
  have hP := p10_lt n
  have hPp := p10_pos n
  have hin : fX7_in x.toInt64 (0 : Int64) (nI (P10 n - 1)).toInt64 = some (nI 0) := by
    rw [in_ok, if_neg]
    rw [Int64.le_iff_toInt_le, Int64.le_iff_toInt_le, nl_toInt (by omega), Int32.toInt_toInt64]
    rintro ⟨h1, h2⟩
    rcases h with h | h
    · have := neg_toInt h
      have h0 : (0 : Int64).toInt = 0 := rfl
      omega
    · rw [Int32.le_iff_toInt_le, nI_toInt (by omega)] at h
      omega
  unfold fX7_isTree
  simp (disch := omega) only [Option.bind_some, Sum.elim_inl, Sum.elim_inr, q_le, q_nle, q_lt, q_nlt, q_eq, q_ne, q_m1, q_m5, rd_n, wr_n, ixo_n, dvo_n, rmo_n, nI_add, pk_sub, pk_mul, if_true, if_false, m_ten n h7, hin]
theorem skip_ar (P t u : Nat) (hP : 0 < P) (h1 : t ≤ u) (h2 : u < t + (P * (10 - t / P % 10) - t % P)) : t / P % 10 ≤ u / P % 10 ∧ t % P < P * (10 - t / P % 10) := by
  have hd : t / P % 10 < 10 := Nat.mod_lt _ (by omega)
  have hm : t % P < P := Nat.mod_lt _ hP
  have e1 : P * (t / P) + t % P = t := Nat.div_add_mod t P
  have e2 : P * (u / P) + u % P = u := Nat.div_add_mod u P
  have hm2 : u % P < P := Nat.mod_lt _ hP
  have hge : P ≤ P * (10 - t / P % 10) := by
    have : 1 ≤ 10 - t / P % 10 := by omega
    calc P = P * 1 := (Nat.mul_one P).symm
      _ ≤ _ := Nat.mul_le_mul_left P this
  refine ⟨?_, by omega⟩
  -- u / P lies between t / P and t / P + (9 - digit)
  have ha : t / P ≤ u / P := Nat.div_le_div_right h1
  have hb : u / P < t / P + (10 - t / P % 10) := by
    apply (Nat.div_lt_iff_lt_mul hP).mpr
    rw [Nat.add_mul, Nat.mul_comm (t / P) P, Nat.mul_comm (10 - t / P % 10) P]
    omega
  omega
theorem skip_no {t u n i : Nat} (hi : i < n) (h : n - 1 - i < atN t n i) (h1 : t ≤ u) (h2 : u < t + (P10 (n - 1 - i) * (10 - atN t n i) - t % P10 (n - 1 - i))) : ¬ TreeD n (atN u n) := by
  intro hT
  have hb := (hT i hi).1
  have := (skip_ar (P10 (n - 1 - i)) t u (p10_pos _) h1 h2).1
  unfold atN at h hb
  omega
theorem skip_le {t n i : Nat} (h0 : 0 < n) (h7 : n < 8) (hi : i < n) (ht : t < P10 n) : t + (P10 (n - 1 - i) * (10 - atN t n i) - t % P10 (n - 1 - i)) ≤ P10 n := by
  rcases n_cases h0 h7 with rfl | rfl | rfl | rfl | rfl | rfl | rfl <;>
    (have hi7 : i = 0 ∨ i = 1 ∨ i = 2 ∨ i = 3 ∨ i = 4 ∨ i = 5 ∨ i = 6 := by omega) <;>
    rcases hi7 with rfl | rfl | rfl | rfl | rfl | rfl | rfl <;>
    first
      | omega
      | (simp only [P10, List.getD_cons_succ, List.getD_cons_zero, atN, Nat.reduceSub, Nat.reduceAdd] at ht ⊢; omega)
/-- the table of a size stands -/
def TBn (n : Nat) (all : Nat → Int32) (many : Int32) : Prop := many = nI (cntF n) ∧ ∀ k, k < cntF n → all k = nI (dcF (fstF n + k))
def TBok (all : Nat → Int32) (many tb : Int32) : Prop := tb = nI 0 ∨ ∃ n, 0 < n ∧ n < 8 ∧ tb = nI n ∧ TBn n all many
theorem cnt_le : ∀ n, n < 8 → cntF n ≤ 429 ∧ 0 < cntF n ∧ fstF n + cntF n = fstF (n + 1) := by decide
theorem m_inner {t n : Nat} (h0 : 0 < n) (h7 : n < 8) (ht : t < P10 n) : ∃ y, it (fX7_table_B37 (nI n) (nI t)) FU (nI 1, nI 0, nI 0) = some y ∧ (y.1 = nI 1 ∨ (y.1 = nI 0 ∧ ∃ i, i < n ∧ n - 1 - i < atN t n i ∧ y.2 = nI (P10 (n - 1 - i) * (10 - atN t n i) - t % P10 (n - 1 - i)))) := by
  have hP := p10_lt n
  refine it_inv (fun i x => i ≤ n ∧ (x = (nI 1, nI 0, nI i) ∨ (∃ k, x.1 = nI 0 ∧ x.2.2 = nI k ∧ k ≤ n ∧ ∃ i, i < n ∧ n - 1 - i < atN t n i ∧ x.2.1 = nI (P10 (n - 1 - i) * (10 - atN t n i) - t % P10 (n - 1 - i))))) _ (n + 1) (by omega) ⟨Nat.zero_le _, Or.inl rfl⟩ ?_
  rintro i x hi ⟨hin, rfl | ⟨k, hx1, hx2, hkn, i0, hi0, hb, hx3⟩⟩
  · unfold fX7_table_B37 fX7_table_J102
    rcases Nat.lt_or_ge i n with hlt | hge
    · left
      have ha := at_lt t n i
      have hp := p10_pos (n - 1 - i)
      have hp2 := p10_lt (n - 1 - i)
      rcases Nat.lt_or_ge (n - 1 - i) (atN t n i) with hb | hb
      · have hs := (skip_ar (P10 (n - 1 - i)) t t hp (Nat.le_refl _) (by
          have : t % P10 (n - 1 - i) < P10 (n - 1 - i) := Nat.mod_lt _ hp
          have h1 : 1 ≤ 10 - t / P10 (n - 1 - i) % 10 := by unfold atN at ha; omega
          have : P10 (n - 1 - i) * 1 ≤ P10 (n - 1 - i) * (10 - t / P10 (n - 1 - i) % 10) := Nat.mul_le_mul_left _ h1
          omega)).2
        refine ⟨(nI 0, nI (P10 (n - 1 - i) * (10 - atN t n i) - t % P10 (n - 1 - i)), nI (i + 1)), ?_, by omega, hlt, Or.inr ⟨i + 1, rfl, rfl, hlt, i, hlt, hb, rfl⟩⟩
        have hs2 : t % P10 (n - 1 - i) ≤ P10 (n - 1 - i) * (10 - atN t n i) := Nat.le_of_lt hs
        simp (disch := omega) only [Option.bind_some, Sum.elim_inl, Sum.elim_inr, q_le, q_nle, q_lt, q_nlt, q_eq, q_ne, q_m1, q_m5, rd_n, wr_n, ixo_n, dvo_n, rmo_n, nI_add, pk_sub, pk_mul, if_true, if_false, m_at (show t < 2147483648 by omega) hlt h7, m_ten (n - 1 - i) (by omega), pk_sub hs2]
      · refine ⟨(nI 1, nI 0, nI (i + 1)), ?_, by omega, hlt, Or.inl rfl⟩
        simp (disch := omega) only [Option.bind_some, Sum.elim_inl, Sum.elim_inr, q_le, q_nle, q_lt, q_nlt, q_eq, q_ne, q_m1, q_m5, rd_n, wr_n, ixo_n, dvo_n, rmo_n, nI_add, pk_sub, pk_mul, if_true, if_false, m_at (show t < 2147483648 by omega) hlt h7]
    · right
      refine ⟨(nI 1, nI 0), ?_, Or.inl rfl⟩
      simp (disch := omega) only [Option.bind_some, Sum.elim_inl, Sum.elim_inr, q_le, q_nle, q_lt, q_nlt, q_eq, q_ne, q_m1, q_m5, rd_n, wr_n, ixo_n, dvo_n, rmo_n, nI_add, pk_sub, pk_mul, if_true, if_false]
  · right
    obtain ⟨x1, x2, x3⟩ := x
    simp only at hx1 hx2 hx3
    subst hx1 hx2
    refine ⟨(nI 0, x2), ?_, Or.inr ⟨rfl, i0, hi0, hb, hx3⟩⟩
    unfold fX7_table_B37
    rcases Nat.lt_or_ge k n with q | q
    · simp (disch := omega) only [Option.bind_some, Sum.elim_inl, Sum.elim_inr, q_le, q_nle, q_lt, q_nlt, q_eq, q_ne, q_m1, q_m5, rd_n, wr_n, ixo_n, dvo_n, rmo_n, nI_add, pk_sub, pk_mul, if_true, if_false]
    · simp (disch := omega) only [Option.bind_some, Sum.elim_inl, Sum.elim_inr, q_le, q_nle, q_lt, q_nlt, q_eq, q_ne, q_m1, q_m5, rd_n, wr_n, ixo_n, dvo_n, rmo_n, nI_add, pk_sub, pk_mul, if_true, if_false]
theorem m_table {n : Nat} (h0 : 0 < n) (h7 : n < 8) {all : Nat → Int32} {many tb : Int32} (h : TBok all many tb) : ∃ all' many', fX7_table all many tb (nI n) = some (all', many', nI n) ∧ TBn n all' many' := by
  have hP := p10_lt n
  have hPp := p10_pos n
  have hc := cnt_le n h7
  have hf := fst_lt n h7
  unfold fX7_table
  by_cases htb : tb = nI n
  · subst htb
    rcases h with h | ⟨k, hk0, hk7, hk, hT⟩
    · exact absurd ((nI_eq (by omega) (by omega)).mp h) (by omega)
    · have e := (nI_eq (a := n) (b := k) (by omega) (by omega)).mp hk
      subst e
      exact ⟨all, many, by rw [if_pos rfl], hT⟩
  · rw [if_neg htb]
    have hsz : ∀ k, k < cntF n → fstF n + k < 626 ∧ szF (fstF n + k) = n := fun k hk => ⟨by omega, sz_of h7 (by omega) (by omega) (by omega)⟩
    have hlt10 : ∀ k, k < cntF n → dcF (fstF n + k) < P10 n := fun k hk => by
      have h1 := dc_p10 (hsz k hk).1
      rwa [(hsz k hk).2] at h1
    obtain ⟨y, hy, hq⟩ : ∃ y, it (fX7_table_B21 (nI n)) FU (nI 0, all, nI 0) = some y ∧ TBn n y.1 y.2 := by
      refine it_inv (fun j x => ∃ t m : Nat, x.1 = nI t ∧ x.2.2 = nI m ∧ j ≤ t ∧ t ≤ P10 n ∧ m ≤ cntF n ∧ (∀ k, k < m → dcF (fstF n + k) < t) ∧ (∀ k, m ≤ k → k < cntF n → t ≤ dcF (fstF n + k)) ∧ ∀ k, k < m → x.2.1 k = nI (dcF (fstF n + k))) _ (P10 n) (by omega) ⟨0, 0, rfl, rfl, Nat.le_refl _, Nat.zero_le _, Nat.zero_le _, fun k hk => absurd hk (Nat.not_lt_zero _), fun k _ _ => Nat.zero_le _, fun k hk => absurd hk (Nat.not_lt_zero _)⟩ ?_
      rintro j ⟨x1, xa, x2⟩ hj ⟨t, m, hx1, hx2, hjt, htP, hmc, hlo, hhi, hall⟩
      simp only at hx1 hx2 hall
      subst hx1 hx2
      unfold fX7_table_B21 fX7_table_J147
      rcases Nat.lt_or_ge t (P10 n) with htlt | htge
      · left
        obtain ⟨z, hz, hzq⟩ := m_inner h0 h7 htlt
        -- no tree at u with t ≤ u < v: the number of trees below stays
        have none_in : ∀ v, (∀ u, t ≤ u → u < v → u < P10 n → ¬ TreeD n (atN u n)) → ∀ k, m ≤ k → k < cntF n → v ≤ dcF (fstF n + k) := by
          intro v hv k hk1 hk2
          rcases Nat.lt_or_ge (dcF (fstF n + k)) v with q | q
          · exact absurd ((tree_place h0 h7 (hlt10 k hk2)).mpr ⟨fstF n + k, by omega, (hsz k hk2).1, (hsz k hk2).2, rfl⟩) (hv _ (hhi k hk1 hk2) q (hlt10 k hk2))
          · exact q
        rcases hzq with hz1 | ⟨hz1, i, hi, hb, hz2⟩
        · rcases m_isTree h0 h7 htlt with ⟨hT, hr⟩ | ⟨hT, hr⟩
          · -- a tree: it is the next of the list
            obtain ⟨p, hp0, hp, hps, hpd⟩ := (tree_place h0 h7 htlt).mp hT
            have hpp := sz_pos hp hp0
            rw [hps] at hpp
            have hm : m = p - fstF n := by
              rcases Nat.lt_trichotomy m (p - fstF n) with q | q | q
              · have h1 := hhi m (Nat.le_refl _) (by unfold cntF; omega)
                have h2 := dc_mono h7 (p - fstF n) m q (by unfold cntF; omega)
                rw [show fstF n + (p - fstF n) = p by omega, hpd] at h2
                omega
              · exact q
              · have h1 := hlo (p - fstF n) q
                rw [show fstF n + (p - fstF n) = p by omega, hpd] at h1
                omega
            have hmlt : m < cntF n := by unfold cntF; omega
            have hdm : dcF (fstF n + m) = t := by rw [hm, show fstF n + (p - fstF n) = p by omega, hpd]
            refine ⟨(nI (t + 1), upd xa m (nI t), nI (m + 1)), ?_, by omega, t + 1, m + 1, rfl, rfl, by omega, by omega, by omega, fun k hk => ?_, fun k hk1 hk2 => ?_, fun k hk => ?_⟩
            · simp (disch := omega) only [Option.bind_some, Sum.elim_inl, Sum.elim_inr, q_le, q_nle, q_lt, q_nlt, q_eq, q_ne, q_m1, q_m5, rd_n, wr_n, ixo_n, dvo_n, rmo_n, nI_add, pk_sub, pk_mul, if_true, if_false, m_ten n h7, hz, hz1, hr]
            · rcases Nat.lt_or_ge k m with q | q
              · exact Nat.lt_succ_of_lt (hlo k q)
              · rw [show k = m by omega, hdm]
                omega
            · have := dc_mono h7 k m (by omega) hk2
              omega
            · show upd xa m (nI t) k = _
              rcases Nat.lt_or_ge k m with q | q
              · rw [upd_n (by omega)]
                exact hall k q
              · rw [show k = m by omega, upd_s, hdm]
          · refine ⟨(nI (t + 1), xa, nI m), ?_, by omega, t + 1, m, rfl, rfl, by omega, by omega, hmc, fun k hk => Nat.lt_succ_of_lt (hlo k hk), none_in (t + 1) (fun u h1 h2 _ => by rw [show u = t by omega]; exact hT), hall⟩
            simp (disch := omega) only [Option.bind_some, Sum.elim_inl, Sum.elim_inr, q_le, q_nle, q_lt, q_nlt, q_eq, q_ne, q_m1, q_m5, rd_n, wr_n, ixo_n, dvo_n, rmo_n, nI_add, pk_sub, pk_mul, if_true, if_false, m_ten n h7, hz, hz1, hr]
        · obtain ⟨z1, z2⟩ := z
          simp only at hz1 hz2
          subst hz1 hz2
          have hle := skip_le h0 h7 hi htlt
          have hpos : 1 ≤ P10 (n - 1 - i) * (10 - atN t n i) - t % P10 (n - 1 - i) := by
            have hp := p10_pos (n - 1 - i)
            have h1 : t % P10 (n - 1 - i) < P10 (n - 1 - i) := Nat.mod_lt _ hp
            have ha := at_lt t n i
            have h2 : P10 (n - 1 - i) * 1 ≤ P10 (n - 1 - i) * (10 - atN t n i) := Nat.mul_le_mul_left _ (by omega)
            omega
          refine ⟨(nI (t + (P10 (n - 1 - i) * (10 - atN t n i) - t % P10 (n - 1 - i))), xa, nI m), ?_, by omega, _, m, rfl, rfl, by omega, hle, hmc, fun k hk => by have := hlo k hk; omega, none_in _ (fun u h1 h2 _ => skip_no hi hb h1 h2), hall⟩
          generalize P10 (n - 1 - i) * (10 - atN t n i) - t % P10 (n - 1 - i) = sk at hle hpos hz ⊢
          simp (disch := omega) only [Option.bind_some, Sum.elim_inl, Sum.elim_inr, q_le, q_nle, q_lt, q_nlt, q_eq, q_ne, q_m1, q_m5, rd_n, wr_n, ixo_n, dvo_n, rmo_n, nI_add, pk_sub, pk_mul, if_true, if_false, m_ten n h7, hz]
          rw [show t + (sk - 1) + 1 = t + sk by omega]
      · right
        refine ⟨(xa, nI m), ?_, ?_, fun k hk => ?_⟩
        · simp (disch := omega) only [Option.bind_some, Sum.elim_inl, Sum.elim_inr, q_le, q_nle, q_lt, q_nlt, q_eq, q_ne, q_m1, q_m5, rd_n, wr_n, ixo_n, dvo_n, rmo_n, nI_add, pk_sub, pk_mul, if_true, if_false, m_ten n h7]
        · show nI m = nI (cntF n)
          rcases Nat.lt_or_ge m (cntF n) with q | q
          · have h1 := hhi m (Nat.le_refl _) q
            have h2 := hlt10 m q
            omega
          · rw [show m = cntF n by omega]
        · rcases Nat.lt_or_ge m (cntF n) with q | q
          · have h1 := hhi m (Nat.le_refl _) q
            have h2 := hlt10 m q
            omega
          · exact hall k (by omega)
    exact ⟨y.1, y.2, by rw [hy]; rfl, hq⟩
theorem m_numberOf {p : Nat} (h0 : 0 < p) (hp : p < 626) {all : Nat → Int32} {many tb : Int32} (h : TBok all many tb) : ∃ all' many', fX7_numberOf all many tb (nI (dcF p)) (nI (szF p)) = some (nI (p - fstF (szF p)), all', many', nI (szF p)) ∧ TBn (szF p) all' many' := by
  have h1 := sz_pos hp h0
  have h2 := sz_le hp
  obtain ⟨all', many', ht, hT⟩ := m_table h1.1 (by omega) h
  refine ⟨all', many', ?_, hT⟩
  have hc := cnt_le (szF p) (by omega)
  have hm := hT.1
  have hdb := dc_big hp
  unfold fX7_numberOf
  rw [ht, Option.bind_some]
  have hit : it (fX7_numberOf_B7 all' many' (nI (szF p)) (nI (dcF p))) FU (nI 0) = some (.inr (nI (p - fstF (szF p)), all', many', nI (szF p))) := by
    refine it_go (fun j => nI j) (p - fstF (szF p)) rfl (by omega) (fun j hj => ?_) ?_
    · unfold fX7_numberOf_B7
      rw [hm]
      have hne : dcF (fstF (szF p) + j) ≠ dcF p := by
        have := dc_mono (show szF p < 8 by omega) (p - fstF (szF p)) j hj (by unfold cntF; omega)
        rw [show fstF (szF p) + (p - fstF (szF p)) = p by omega] at this
        omega
      have hb : dcF (fstF (szF p) + j) < 10000000 := dc_big (by omega)
      simp (disch := omega) only [Option.bind_some, Sum.elim_inl, Sum.elim_inr, q_le, q_nle, q_lt, q_nlt, q_eq, q_ne, q_m1, q_m5, rd_n, wr_n, ixo_n, dvo_n, rmo_n, nI_add, pk_sub, pk_mul, if_true, if_false, hT.2 j (by unfold cntF; omega)]
    · unfold fX7_numberOf_B7
      rw [hm]
      simp (disch := omega) only [Option.bind_some, Sum.elim_inl, Sum.elim_inr, q_le, q_nle, q_lt, q_nlt, q_eq, q_ne, q_m1, q_m5, rd_n, wr_n, ixo_n, dvo_n, rmo_n, nI_add, pk_sub, pk_mul, if_true, if_false, hT.2 (p - fstF (szF p)) (by unfold cntF; omega)]
      rw [show fstF (szF p) + (p - fstF (szF p)) = p by omega, if_pos rfl]
  rw [hit]
  rfl
