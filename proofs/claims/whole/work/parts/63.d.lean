/-! between: how many, the nth; pairs -/
theorem pl_bt {p q n j : Nat} (hp : p < 626) (h0 : 0 < p) (hq : q < 626) (hq0 : 0 < q) (hpn : szF p = n) (hqn : szF q = n) (hj : p + j ≤ q) : 0 < p + j ∧ p + j < 626 ∧ szF (p + j) = n := by
  have h1 := sz_pos hp h0
  have h2 := sz_pos hq hq0
  have h7 := sz_le hp
  rw [hpn] at h1 h7
  rw [hqn] at h2
  exact ⟨by omega, by omega, sz_of (by omega) (by omega) (by omega) (by omega)⟩
theorem q_bl {p q : Nat} (h0 : 0 < p) (hp : p < 626) (hpn : szF p = szF q) : fstF (szF q) ≤ p ∧ p < fstF (szF q) + cntF (szF q) := by
  have h1 := sz_pos hp h0
  have h7 := sz_le hp
  rw [hpn] at h1 h7
  have hc := cnt_le (szF q) (by omega)
  omega
theorem cbw_mid {p q n : Nat} (h0 : 0 < p) (hp : p < 626) (hq0 : 0 < q) (hq : q < 626) (hpn : szF p = n) (hqn : szF q = n) {j : Nat} (hj : fstF n + j ≤ 626) (hj2 : fstF n + j ≤ fstF n + cntF n) (h : fstF n + j ≤ p ∨ q < p) : cbw p q (fstF n) j = 0 := by
  have hn0 : 0 < n := by have := (sz_pos hp h0).1; omega
  have hn7 : n < 8 := by have := sz_le hp; omega
  apply cbw_0
  intro i hi
  obtain ⟨z0, z1, z2⟩ := pl_ok hn0 hn7 (show i < cntF n by omega)
  exact wi_out h0 hp hq0 hq hpn hqn z0 z1 z2 (by omega)
theorem cbw_pq {p q n : Nat} (h0 : 0 < p) (hp : p < 626) (hq0 : 0 < q) (hq : q < 626) (hpn : szF p = n) (hqn : szF q = n) : cbw p q p (q + 1 - p) = cbw p q (fstF n) (cntF n) := by
  have hn0 : 0 < n := by have := (sz_pos hp h0).1; omega
  have hn7 : n < 8 := by have := sz_le hp; omega
  have hc := cnt_le n hn7
  have hf := fst_lt n hn7
  have b1 := q_bl h0 hp (hpn.trans hqn.symm)
  have b2 := q_bl hq0 hq rfl
  rw [hqn] at b1 b2
  rcases Nat.lt_or_ge q p with hlt | hge
  · rw [cbw_mid h0 hp hq0 hq hpn hqn (by omega) (Nat.le_refl _) (Or.inr hlt), show q + 1 - p = 0 by omega]
    rfl
  · have e1 : cntF n = (p - fstF n) + ((q + 1 - p) + (fstF n + cntF n - (q + 1))) := by omega
    rw [e1, cbw_app, cbw_app, cbw_mid h0 hp hq0 hq hpn hqn (by omega) (by omega) (Or.inl (by omega)), show fstF n + (p - fstF n) = p by omega, cbw_0 p q (p + (q + 1 - p))]
    · omega
    · intro i hi
      obtain ⟨z0, z1, z2⟩ := pl_ok hn0 hn7 (show q + 1 + i - fstF n < cntF n by omega)
      have ez : p + (q + 1 - p) + i = fstF n + (q + 1 + i - fstF n) := by omega
      rw [ez]
      exact wi_out h0 hp hq0 hq hpn hqn z0 z1 z2 (by omega)
theorem c_howManyBetween {p q n : Nat} (h0 : 0 < p) (hp : p < 626) (hq0 : 0 < q) (hq : q < 626) (hpn : szF p = n) (hqn : szF q = n) : fX2_howManyBetween cF (nI p) (nI q) = some (nI (cbw p q (fstF n) (cntF n))) := by
  rw [← cbw_pq h0 hp hq0 hq hpn hqn]
  unfold fX2_howManyBetween
  rw [c_codeOf hp, c_codeOf hq]
  have key : it (fX2_howManyBetween_B25 cF (nI q) (nI (cdF p)) (nI (cdF q))) FU (nI 0, nI p) = some (nI (cbw p q p (q + 1 - p))) := by
    refine it_go (fun j => (nI (cbw p q p j), nI (p + j))) (q + 1 - p) rfl (by omega) ?_ ?_
    · intro j hj
      obtain ⟨z0, z1, z2⟩ := pl_bt hp h0 hq hq0 hpn hqn (show p + j ≤ q by omega)
      have hw := c_isWithin hp z1 hq (by omega) (by omega)
      unfold fX2_howManyBetween_B25 fX2_howManyBetween_J52
      rw [cbw]
      cases hb : wiB p (p + j) q <;> rw [hb] at hw <;> simp (disch := omega) only [Option.bind_some, Sum.elim_inl, Sum.elim_inr, q_le, q_nle, q_lt, q_nlt, q_eq, q_ne, q_m1, q_m5, rd_n, wr_n, ixo_n, dvo_n, rmo_n, nI_add, pk_sub, pk_mul, if_true, if_false, c_codeOf z1, hw, q_bt, q_bf, Bool.false_eq_true] <;> rfl
    · unfold fX2_howManyBetween_B25
      simp (disch := omega) only [Option.bind_some, Sum.elim_inl, Sum.elim_inr, q_le, q_nle, q_lt, q_nlt, q_eq, q_ne, q_m1, q_m5, rd_n, wr_n, ixo_n, dvo_n, rmo_n, nI_add, pk_sub, pk_mul, if_true, if_false]
  rw [Option.bind_some, Option.bind_some, key]
  rfl
theorem be_step {p q n k : Nat} (h0 : 0 < p) (hp : p < 626) (hq0 : 0 < q) (hq : q < 626) (hpn : szF p = n) (hqn : szF q = n) {sT all : Nat → Int32} {many tb v1 v2 c : Int32} (hT : TBn n all many) (hs : rd 4 sT v1 = some (nI (dcF q))) (hk : k < cntF n) : fX7_between_B40 sT all (nI n) (nI (dcF p)) many tb v1 v2 (c, nI k) = if wiB p (fstF n + k) q then (if c = v2 then some (.inr (.inr (nI k, all, many, tb))) else some (.inl (c + nI 1, nI (k + 1)))) else some (.inl (c, nI (k + 1))) := by
  have hn0 : 0 < n := by have := (sz_pos hp h0).1; omega
  have hn7 : n < 8 := by have := sz_le hp; omega
  have hc := cnt_le n hn7
  obtain ⟨z0, z1, z2⟩ := pl_ok hn0 hn7 hk
  have hb := m_isBetween hp z1 hq hpn z2 hqn
  have ha := hT.2 k hk
  unfold fX7_between_B40 fX7_between_J88
  rw [hT.1]
  cases hw : wiB p (fstF n + k) q <;> rw [hw] at hb <;> simp (disch := omega) only [Option.bind_some, Sum.elim_inl, Sum.elim_inr, q_le, q_nle, q_lt, q_nlt, q_eq, q_ne, q_m1, q_m5, rd_n, wr_n, ixo_n, dvo_n, rmo_n, nI_add, pk_sub, pk_mul, if_true, if_false, ha, hs, hb, q_bt, q_bf, Bool.false_eq_true]
theorem be_m {p q n : Nat} (h0 : 0 < p) (hp : p < 626) (hq0 : 0 < q) (hq : q < 626) (hpn : szF p = n) (hqn : szF q = n) {sT all : Nat → Int32} {many tb v1 : Int32} (hT : TBn n all many) (hs : rd 4 sT v1 = some (nI (dcF q))) : it (fX7_between_B40 sT all (nI n) (nI (dcF p)) many tb v1 (-1 : Int32)) FU (nI 0, nI 0) = some (.inl (nI (cbw p q (fstF n) (cntF n)))) := by
  have hn7 : n < 8 := by have := sz_le hp; omega
  have hc := cnt_le n hn7
  refine it_go (fun j => (nI (cbw p q (fstF n) j), nI j)) (cntF n) rfl (by omega) ?_ ?_
  · intro j hj
    rw [be_step h0 hp hq0 hq hpn hqn hT hs hj, cbw]
    have := cbw_le p q (fstF n) j
    cases wiB p (fstF n + j) q
    · rfl
    · simp (disch := omega) only [Option.bind_some, Sum.elim_inl, Sum.elim_inr, q_le, q_nle, q_lt, q_nlt, q_eq, q_ne, q_m1, q_m5, rd_n, wr_n, ixo_n, dvo_n, rmo_n, nI_add, pk_sub, pk_mul, if_true, if_false]
  · unfold fX7_between_B40
    rw [hT.1]
    simp (disch := omega) only [Option.bind_some, Sum.elim_inl, Sum.elim_inr, q_le, q_nle, q_lt, q_nlt, q_eq, q_ne, q_m1, q_m5, rd_n, wr_n, ixo_n, dvo_n, rmo_n, nI_add, pk_sub, pk_mul, if_true, if_false]
theorem cbw_un {p q f m : Nat} {a b : Nat} (ha : wiB p (f + a) q = true) (h1 : cbw p q f a = m) (h2 : cbw p q f b = m) : ¬ a < b := fun h => by
  have e := cbw_app p q f (a + 1) (b - (a + 1))
  rw [show a + 1 + (b - (a + 1)) = b by omega, cbw, ha, if_pos rfl] at e
  omega
/-- the nth between: both find the same one, or none -/
theorem be_n {p q n m : Nat} (h0 : 0 < p) (hp : p < 626) (hq0 : 0 < q) (hq : q < 626) (hpn : szF p = n) (hqn : szF q = n) (hm : m < 2147483648) {sT all : Nat → Int32} {many tb v1 : Int32} (hT : TBn n all many) (hs : rd 4 sT v1 = some (nI (dcF q))) : (fX2_nthBetween cF (nI p) (nI q) (nI m) = some (nI 0) ∧ ∃ c, it (fX7_between_B40 sT all (nI n) (nI (dcF p)) many tb v1 (nI m)) FU (nI 0, nI 0) = some (.inl c)) ∨ ∃ k, k < cntF n ∧ fX2_nthBetween cF (nI p) (nI q) (nI m) = some (nI (fstF n + k)) ∧ it (fX7_between_B40 sT all (nI n) (nI (dcF p)) many tb v1 (nI m)) FU (nI 0, nI 0) = some (.inr (nI k, all, many, tb)) := by
  have hn0 : 0 < n := by have := (sz_pos hp h0).1; omega
  have hn7 : n < 8 := by have := sz_le hp; omega
  have hc := cnt_le n hn7
  have b1 := q_bl h0 hp (hpn.trans hqn.symm)
  have b2 := q_bl hq0 hq rfl
  rw [hqn] at b1 b2
  obtain ⟨y, hy, hQ⟩ : ∃ y, it (fX7_between_B40 sT all (nI n) (nI (dcF p)) many tb v1 (nI m)) FU (nI 0, nI 0) = some y ∧ ((∃ c, y = .inl c) ∧ (∀ i, i < cntF n → wiB p (fstF n + i) q = true → cbw p q (fstF n) i ≠ m) ∨ ∃ k, k < cntF n ∧ y = .inr (nI k, all, many, tb) ∧ wiB p (fstF n + k) q = true ∧ cbw p q (fstF n) k = m) := by
    refine it_inv (fun j x => x = (nI (cbw p q (fstF n) j), nI j) ∧ ∀ i, i < j → wiB p (fstF n + i) q = true → cbw p q (fstF n) i ≠ m) _ (cntF n) (by omega) ⟨rfl, fun i hi => absurd hi (Nat.not_lt_zero _)⟩ ?_
    rintro j x hj ⟨rfl, hall⟩
    rcases Nat.lt_or_ge j (cntF n) with hlt | hge
    · rw [be_step h0 hp hq0 hq hpn hqn hT hs hlt]
      have hle := cbw_le p q (fstF n) j
      cases hw : wiB p (fstF n + j) q
      · left
        refine ⟨_, rfl, hlt, ?_, fun i hi hwi => ?_⟩
        · rw [cbw, hw]
          rfl
        · rcases Nat.lt_or_ge i j with z | z
          · exact hall i z hwi
          · rw [show i = j by omega, hw] at hwi
            cases hwi
      · by_cases he : cbw p q (fstF n) j = m
        · right
          refine ⟨.inr (nI j, all, many, tb), ?_, Or.inr ⟨j, hlt, rfl, hw, he⟩⟩
          simp (disch := omega) only [Option.bind_some, Sum.elim_inl, Sum.elim_inr, q_le, q_nle, q_lt, q_nlt, q_eq, q_ne, q_m1, q_m5, rd_n, wr_n, ixo_n, dvo_n, rmo_n, nI_add, pk_sub, pk_mul, if_true, if_false]
        · left
          refine ⟨(nI (cbw p q (fstF n) (j + 1)), nI (j + 1)), ?_, hlt, rfl, fun i hi hwi => ?_⟩
          · rw [cbw, hw]
            simp (disch := omega) only [Option.bind_some, Sum.elim_inl, Sum.elim_inr, q_le, q_nle, q_lt, q_nlt, q_eq, q_ne, q_m1, q_m5, rd_n, wr_n, ixo_n, dvo_n, rmo_n, nI_add, pk_sub, pk_mul, if_true, if_false]
          · rcases Nat.lt_or_ge i j with z | z
            · exact hall i z hwi
            · rw [show i = j by omega]
              exact he
    · right
      refine ⟨.inl (nI (cbw p q (fstF n) j)), ?_, Or.inl ⟨⟨_, rfl⟩, fun i hi => hall i (by omega)⟩⟩
      unfold fX7_between_B40
      rw [hT.1]
      simp (disch := omega) only [Option.bind_some, Sum.elim_inl, Sum.elim_inr, q_le, q_nle, q_lt, q_nlt, q_eq, q_ne, q_m1, q_m5, rd_n, wr_n, ixo_n, dvo_n, rmo_n, nI_add, pk_sub, pk_mul, if_true, if_false]
  have key : ∃ y, it (fX2_nthBetween_B26 cF (nI q) (nI m) (nI (cdF p)) (nI (cdF q))) FU (nI 0, nI p) = some y ∧ (y = .inl () ∧ (∀ i, p + i ≤ q → wiB p (p + i) q = true → cbw p q p i ≠ m) ∨ ∃ j, p + j ≤ q ∧ y = .inr (nI (p + j)) ∧ wiB p (p + j) q = true ∧ cbw p q p j = m) := by
    refine it_inv (fun j x => x = (nI (cbw p q p j), nI (p + j)) ∧ ∀ i, i < j → wiB p (p + i) q = true → cbw p q p i ≠ m) _ (q + 1 - p) (by omega) ⟨rfl, fun i hi => absurd hi (Nat.not_lt_zero _)⟩ ?_
    rintro j x hj ⟨rfl, hall⟩
    unfold fX2_nthBetween_B26 fX2_nthBetween_J63
    rcases Nat.lt_or_ge j (q + 1 - p) with hlt | hge
    · have hle := cbw_le p q p j
      obtain ⟨z0, z1, z2⟩ := pl_bt hp h0 hq hq0 hpn hqn (show p + j ≤ q by omega)
      have hw0 := c_isWithin hp z1 hq (by omega) (by omega)
      cases hw : wiB p (p + j) q <;> rw [hw] at hw0
      · left
        refine ⟨(nI (cbw p q p (j + 1)), nI (p + (j + 1))), ?_, hlt, rfl, fun i hi hwi => ?_⟩
        · rw [cbw, hw]
          simp (disch := omega) only [Option.bind_some, Sum.elim_inl, Sum.elim_inr, q_le, q_nle, q_lt, q_nlt, q_eq, q_ne, q_m1, q_m5, rd_n, wr_n, ixo_n, dvo_n, rmo_n, nI_add, pk_sub, pk_mul, if_true, if_false, c_codeOf z1, hw0, q_bt, q_bf, Bool.false_eq_true]
          rfl
        · rcases Nat.lt_or_ge i j with z | z
          · exact hall i z hwi
          · rw [show i = j by omega, hw] at hwi
            cases hwi
      · by_cases he : cbw p q p j = m
        · right
          refine ⟨.inr (nI (p + j)), ?_, Or.inr ⟨j, by omega, rfl, hw, he⟩⟩
          simp (disch := omega) only [Option.bind_some, Sum.elim_inl, Sum.elim_inr, q_le, q_nle, q_lt, q_nlt, q_eq, q_ne, q_m1, q_m5, rd_n, wr_n, ixo_n, dvo_n, rmo_n, nI_add, pk_sub, pk_mul, if_true, if_false, c_codeOf z1, hw0, q_bt, q_bf]
        · left
          refine ⟨(nI (cbw p q p (j + 1)), nI (p + (j + 1))), ?_, hlt, rfl, fun i hi hwi => ?_⟩
          · rw [cbw, hw]
            simp (disch := omega) only [Option.bind_some, Sum.elim_inl, Sum.elim_inr, q_le, q_nle, q_lt, q_nlt, q_eq, q_ne, q_m1, q_m5, rd_n, wr_n, ixo_n, dvo_n, rmo_n, nI_add, pk_sub, pk_mul, if_true, if_false, c_codeOf z1, hw0, q_bt, q_bf]
            rfl
          · rcases Nat.lt_or_ge i j with z | z
            · exact hall i z hwi
            · rw [show i = j by omega]
              exact he
    · right
      refine ⟨.inl (), ?_, Or.inl ⟨rfl, fun i hi => hall i (by omega)⟩⟩
      simp (disch := omega) only [Option.bind_some, Sum.elim_inl, Sum.elim_inr, q_le, q_nle, q_lt, q_nlt, q_eq, q_ne, q_m1, q_m5, rd_n, wr_n, ixo_n, dvo_n, rmo_n, nI_add, pk_sub, pk_mul, if_true, if_false]
  obtain ⟨y', hy', hQ'⟩ := key
  have hfun : fX2_nthBetween cF (nI p) (nI q) (nI m) = y'.elim (fun _ => some (nI 0)) some := by
    unfold fX2_nthBetween
    rw [c_codeOf hp, c_codeOf hq, Option.bind_some, Option.bind_some, hy']
    rfl
  have tr : ∀ j, p + j ≤ q → cbw p q (fstF n) (p - fstF n + j) = cbw p q p j := fun j hj => by
    rw [cbw_app, cbw_mid h0 hp hq0 hq hpn hqn (by omega) (by omega) (Or.inl (by omega)), show fstF n + (p - fstF n) = p by omega, Nat.zero_add]
  have inn : ∀ k, k < cntF n → wiB p (fstF n + k) q = true → p ≤ fstF n + k ∧ fstF n + k ≤ q := fun k hk hw => by
    obtain ⟨z0, z1, z2⟩ := pl_ok hn0 hn7 hk
    rcases Nat.lt_or_ge (fstF n + k) p with h | h
    · rw [wi_out h0 hp hq0 hq hpn hqn z0 z1 z2 (Or.inl h)] at hw
      cases hw
    · rcases Nat.lt_or_ge q (fstF n + k) with h' | h'
      · rw [wi_out h0 hp hq0 hq hpn hqn z0 z1 z2 (Or.inr h')] at hw
        cases hw
      · exact ⟨h, h'⟩
  rcases hQ with ⟨⟨c, rfl⟩, hno⟩ | ⟨k, hk, rfl, hw, hcm⟩
  · rcases hQ' with ⟨rfl, _⟩ | ⟨j, hj, rfl, hw', hcm'⟩
    · exact Or.inl ⟨hfun, c, hy⟩
    · exact absurd ((tr j hj).trans hcm') (hno (p - fstF n + j) (by omega) (by rw [show fstF n + (p - fstF n + j) = p + j by omega]; exact hw'))
  · obtain ⟨i1, i2⟩ := inn k hk hw
    rcases hQ' with ⟨rfl, hno⟩ | ⟨j, hj, rfl, hw', hcm'⟩
    · have e := tr (fstF n + k - p) (by omega)
      rw [show p - fstF n + (fstF n + k - p) = k by omega] at e
      exact absurd (e.symm.trans hcm) (hno (fstF n + k - p) (by omega) (by rw [show p + (fstF n + k - p) = fstF n + k by omega]; exact hw))
    · refine Or.inr ⟨k, hk, ?_, hy⟩
      have e := tr j hj
      have hw2 : wiB p (fstF n + (p - fstF n + j)) q = true := by rw [show fstF n + (p - fstF n + j) = p + j by omega]; exact hw'
      have u1 := cbw_un hw hcm (e.trans hcm')
      have u2 := cbw_un hw2 (e.trans hcm') hcm
      rw [hfun, show p + j = fstF n + k by omega]
      rfl
/-! pairs -/
def cpi (z : Nat) : Nat → Nat
  | 0 => 0
  | j + 1 => cpi z j + (if belB z (z + j) then 1 else 0)
def cpr (f c : Nat) : Nat → Nat
  | 0 => 0
  | a + 1 => cpr f c a + cpi (f + a) (c - a)
theorem c_pairs {n : Nat} (h0 : 0 < n) (h7 : n < 8) : fX2_howManyPairs cF (nI n) = some (nI (cpr (fstF n) (cntF n) (cntF n))) := by
  have hc := cnt_le n h7
  have hf := fst_lt n h7
  unfold fX2_howManyPairs
  rw [c_lastOf h0 h7, c_firstOf h0 h7, Option.bind_some, Option.bind_some]
  have key : it (fX2_howManyPairs_B21 cF (nI (fstF (n + 1) - 1))) FU (nI 0, nI (fstF n)) = some (nI (cpr (fstF n) (cntF n) (cntF n))) := by
    refine it_go (fun a => (nI (cpr (fstF n) (cntF n) a), nI (fstF n + a))) (cntF n) rfl (by omega) ?_ ?_
    · intro a ha
      obtain ⟨z0, z1, z2⟩ := pl_ok h0 h7 ha
      have inner : it (fX2_howManyPairs_B42 cF (nI (fstF (n + 1) - 1)) (nI (fstF n + a)) (nI (cdF (fstF n + a)))) FU (nI (cpr (fstF n) (cntF n) a), nI (fstF n + a)) = some (nI (cpr (fstF n) (cntF n) (a + 1))) := by
        refine it_go (fun j => (nI (cpr (fstF n) (cntF n) a + cpi (fstF n + a) j), nI (fstF n + a + j))) (cntF n - a) rfl (by omega) ?_ ?_
        · intro j hj
          obtain ⟨w0, w1, w2⟩ := pl_ok h0 h7 (show a + j < cntF n by omega)
          rw [← Nat.add_assoc] at w0 w1 w2
          have hb := c_noMore z1 w1 (by omega)
          unfold fX2_howManyPairs_B42 fX2_howManyPairs_J68
          rw [cpi]
          cases hw : belB (fstF n + a) (fstF n + a + j) <;> rw [hw] at hb <;> simp (disch := omega) only [Option.bind_some, Sum.elim_inl, Sum.elim_inr, q_le, q_nle, q_lt, q_nlt, q_eq, q_ne, q_m1, q_m5, rd_n, wr_n, ixo_n, dvo_n, rmo_n, nI_add, pk_sub, pk_mul, if_true, if_false, c_codeOf w1, hb, q_bt, q_bf, Bool.false_eq_true] <;> rfl
        · unfold fX2_howManyPairs_B42
          simp (disch := omega) only [Option.bind_some, Sum.elim_inl, Sum.elim_inr, q_le, q_nle, q_lt, q_nlt, q_eq, q_ne, q_m1, q_m5, rd_n, wr_n, ixo_n, dvo_n, rmo_n, nI_add, pk_sub, pk_mul, if_true, if_false]
          rfl
      unfold fX2_howManyPairs_B21
      simp (disch := omega) only [Option.bind_some, Sum.elim_inl, Sum.elim_inr, q_le, q_nle, q_lt, q_nlt, q_eq, q_ne, q_m1, q_m5, rd_n, wr_n, ixo_n, dvo_n, rmo_n, nI_add, pk_sub, pk_mul, if_true, if_false, c_codeOf z1, inner]
      rfl
    · unfold fX2_howManyPairs_B21
      simp (disch := omega) only [Option.bind_some, Sum.elim_inl, Sum.elim_inr, q_le, q_nle, q_lt, q_nlt, q_eq, q_ne, q_m1, q_m5, rd_n, wr_n, ixo_n, dvo_n, rmo_n, nI_add, pk_sub, pk_mul, if_true, if_false]
  rw [key]
  rfl
theorem m_pairs {n : Nat} (h0 : 0 < n) (h7 : n < 8) {all : Nat → Int32} {many : Int32} (hT : TBn n all many) : it (fX7_pairs_B24 all many (nI n)) FU (nI 0, nI 0) = some (nI (cpr (fstF n) (cntF n) (cntF n))) := by
  have hc := cnt_le n h7
  have hf := fst_lt n h7
  rw [hT.1]
  refine it_go (fun a => (nI (cpr (fstF n) (cntF n) a), nI a)) (cntF n) rfl (by omega) ?_ ?_
  · intro a ha
    obtain ⟨z0, z1, z2⟩ := pl_ok h0 h7 ha
    have ea := hT.2 a ha
    have inner : it (fX7_pairs_B35 all (nI (cntF n)) (nI n) (nI a)) FU (nI (cpr (fstF n) (cntF n) a), nI a) = some (nI (cpr (fstF n) (cntF n) (a + 1))) := by
      refine it_go (fun j => (nI (cpr (fstF n) (cntF n) a + cpi (fstF n + a) j), nI (a + j))) (cntF n - a) rfl (by omega) ?_ ?_
      · intro j hj
        obtain ⟨w0, w1, w2⟩ := pl_ok h0 h7 (show a + j < cntF n by omega)
        have eb := hT.2 (a + j) (by omega)
        have hb := m_bel z1 w1 z2 w2
        unfold fX7_pairs_B35 fX7_pairs_J67
        rw [cpi, Nat.add_assoc (fstF n) a j]
        cases hw : belB (fstF n + a) (fstF n + (a + j)) <;> rw [hw] at hb <;> simp (disch := omega) only [Option.bind_some, Sum.elim_inl, Sum.elim_inr, q_le, q_nle, q_lt, q_nlt, q_eq, q_ne, q_m1, q_m5, rd_n, wr_n, ixo_n, dvo_n, rmo_n, nI_add, pk_sub, pk_mul, if_true, if_false, ea, eb, hb, q_bt, q_bf, Bool.false_eq_true] <;> rfl
      · unfold fX7_pairs_B35
        simp (disch := omega) only [Option.bind_some, Sum.elim_inl, Sum.elim_inr, q_le, q_nle, q_lt, q_nlt, q_eq, q_ne, q_m1, q_m5, rd_n, wr_n, ixo_n, dvo_n, rmo_n, nI_add, pk_sub, pk_mul, if_true, if_false]
        rfl
    unfold fX7_pairs_B24
    simp (disch := omega) only [Option.bind_some, Sum.elim_inl, Sum.elim_inr, q_le, q_nle, q_lt, q_nlt, q_eq, q_ne, q_m1, q_m5, rd_n, wr_n, ixo_n, dvo_n, rmo_n, nI_add, pk_sub, pk_mul, if_true, if_false, inner]
  · unfold fX7_pairs_B24
    simp (disch := omega) only [Option.bind_some, Sum.elim_inl, Sum.elim_inr, q_le, q_nle, q_lt, q_nlt, q_eq, q_ne, q_m1, q_m5, rd_n, wr_n, ixo_n, dvo_n, rmo_n, nI_add, pk_sub, pk_mul, if_true, if_false]
