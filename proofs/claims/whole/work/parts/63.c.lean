/-! bounds, between, pairs: the reference's loops over all trees, the class's over places -/
theorem q_bt {α : Type} {x y : α} : (if bI true = nI 0 then x else y) = y := rfl
theorem q_bf {α : Type} {x y : α} : (if bI false = nI 0 then x else y) = x := rfl
/-- the k-th place of a size -/
theorem pl_ok {n k : Nat} (h0 : 0 < n) (h7 : n < 8) (hk : k < cntF n) : 0 < fstF n + k ∧ fstF n + k < 626 ∧ szF (fstF n + k) = n := by
  have hc := cnt_le n h7
  have hf := fst_lt n h7
  exact ⟨by omega, by omega, sz_of h7 (by omega) (by omega) (by omega)⟩
theorem pl_ix {p : Nat} (h0 : 0 < p) (hp : p < 626) : p - fstF (szF p) < cntF (szF p) ∧ fstF (szF p) + (p - fstF (szF p)) = p := by
  have h1 := sz_pos hp h0
  unfold cntF
  omega
theorem m_bel {p q n : Nat} (hp : p < 626) (hq : q < 626) (h1 : szF p = n) (h2 : szF q = n) : fX7_isBelow (nI (dcF p)) (nI (dcF q)) (nI n) = some (bI (belB p q)) := by
  rw [← h1]
  exact m_isBelow hp hq (by omega)
def fdI : Option Nat → Int32
  | none => (-1 : Int32)
  | some f => nI (dcF f)
def okO (n : Nat) : Option Nat → Prop
  | none => True
  | some f => 0 < f ∧ f < 626 ∧ szF f = n
def oB (o : Option Nat) (g : Nat → Bool) : Bool := match o with
  | none => true
  | some f => g f
def nxM (p q z : Nat) (o : Option Nat) : Option Nat := if belB z p && (belB z q && oB o (fun f => belB f z)) then some z else o
def nxJ (p q z : Nat) (o : Option Nat) : Option Nat := if belB p z && (belB q z && oB o (fun f => belB z f)) then some z else o
theorem ok_ite {n z : Nat} {o : Option Nat} {c : Bool} (ho : okO n o) (hz : 0 < z ∧ z < 626 ∧ szF z = n) : okO n (if c then some z else o) := by
  cases c
  · exact ho
  · exact hz
theorem nx_ok {n p q z : Nat} {o : Option Nat} (ho : okO n o) (hz : 0 < z ∧ z < 626 ∧ szF z = n) : okO n (nxM p q z o) ∧ okO n (nxJ p q z o) := by
  exact ⟨ok_ite ho hz, ok_ite ho hz⟩
theorem bd_m {all : Nat → Int32} {many : Int32} {n p q k : Nat} {o : Option Nat} (hn0 : 0 < n) (hn7 : n < 8) (hp : p < 626) (hq : q < 626) (hpn : szF p = n) (hqn : szF q = n) (hT : TBn n all many) (ho : okO n o) (hk : k < cntF n) : fX7_bound_B14 all (nI n) many (nI (dcF p)) (nI (dcF q)) (nI 1) (fdI o, nI k) = some (.inl (fdI (nxM p q (fstF n + k) o), nI (k + 1))) := by
  have hc := cnt_le n hn7
  obtain ⟨z0, z1, z2⟩ := pl_ok hn0 hn7 hk
  have eall := hT.2 k hk
  have b1 := m_bel z1 hp z2 hpn
  have b2 := m_bel z1 hq z2 hqn
  have hzb := dc_big z1
  unfold fX7_bound_B14 fX7_bound_J100 fX7_bound_J66 fX7_bound_J101 fX7_bound_J149 fX7_bound_J153 nxM
  rw [hT.1]
  generalize fstF n + k = z at *
  cases o with
  | none =>
    cases hb1 : belB z p <;> cases hb2 : belB z q <;> rw [hb1] at b1 <;> rw [hb2] at b2 <;> simp (disch := omega) only [Option.bind_some, Sum.elim_inl, Sum.elim_inr, q_le, q_nle, q_lt, q_nlt, q_eq, q_ne, q_m1, q_m5, rd_n, wr_n, ixo_n, dvo_n, rmo_n, nI_add, pk_sub, pk_mul, if_true, if_false, eall, b1, b2, q_bt, q_bf, fdI, oB, Bool.and_true, Bool.and_false, Bool.false_eq_true, Bool.true_and, Bool.false_and] <;> rfl
  | some f =>
    have b3 := m_bel ho.2.1 z1 ho.2.2 z2
    have hfb := dc_big ho.2.1
    cases hb1 : belB z p <;> cases hb2 : belB z q <;> cases hb3 : belB f z <;> rw [hb1] at b1 <;> rw [hb2] at b2 <;> rw [hb3] at b3 <;> simp (disch := omega) only [Option.bind_some, Sum.elim_inl, Sum.elim_inr, q_le, q_nle, q_lt, q_nlt, q_eq, q_ne, q_m1, q_m5, rd_n, wr_n, ixo_n, dvo_n, rmo_n, nI_add, pk_sub, pk_mul, if_true, if_false, hb3, eall, b1, b2, b3, q_bt, q_bf, fdI, oB, Bool.and_true, Bool.and_false, Bool.false_eq_true, Bool.true_and, Bool.false_and] <;> rfl
theorem bd_j {all : Nat → Int32} {many : Int32} {n p q k : Nat} {o : Option Nat} (hn0 : 0 < n) (hn7 : n < 8) (hp : p < 626) (hq : q < 626) (hpn : szF p = n) (hqn : szF q = n) (hT : TBn n all many) (ho : okO n o) (hk : k < cntF n) : fX7_bound_B14 all (nI n) many (nI (dcF p)) (nI (dcF q)) (nI 0) (fdI o, nI k) = some (.inl (fdI (nxJ p q (fstF n + k) o), nI (k + 1))) := by
  have hc := cnt_le n hn7
  obtain ⟨z0, z1, z2⟩ := pl_ok hn0 hn7 hk
  have eall := hT.2 k hk
  have b1 := m_bel hp z1 hpn z2
  have b2 := m_bel hq z1 hqn z2
  have hzb := dc_big z1
  unfold fX7_bound_B14 fX7_bound_J100 fX7_bound_J66 fX7_bound_J101 fX7_bound_J149 fX7_bound_J153 nxJ
  rw [hT.1]
  generalize fstF n + k = z at *
  cases o with
  | none =>
    cases hb1 : belB p z <;> cases hb2 : belB q z <;> rw [hb1] at b1 <;> rw [hb2] at b2 <;> simp (disch := omega) only [Option.bind_some, Sum.elim_inl, Sum.elim_inr, q_le, q_nle, q_lt, q_nlt, q_eq, q_ne, q_m1, q_m5, rd_n, wr_n, ixo_n, dvo_n, rmo_n, nI_add, pk_sub, pk_mul, if_true, if_false, eall, b1, b2, q_bt, q_bf, fdI, oB, Bool.and_true, Bool.and_false, Bool.false_eq_true, Bool.true_and, Bool.false_and] <;> rfl
  | some f =>
    have b3 := m_bel z1 ho.2.1 z2 ho.2.2
    have hfb := dc_big ho.2.1
    cases hb1 : belB p z <;> cases hb2 : belB q z <;> cases hb3 : belB z f <;> rw [hb1] at b1 <;> rw [hb2] at b2 <;> rw [hb3] at b3 <;> simp (disch := omega) only [Option.bind_some, Sum.elim_inl, Sum.elim_inr, q_le, q_nle, q_lt, q_nlt, q_eq, q_ne, q_m1, q_m5, rd_n, wr_n, ixo_n, dvo_n, rmo_n, nI_add, pk_sub, pk_mul, if_true, if_false, hb3, eall, b1, b2, b3, q_bt, q_bf, fdI, oB, Bool.and_true, Bool.and_false, Bool.false_eq_true, Bool.true_and, Bool.false_and] <;> rfl
theorem bd_run {all : Nat → Int32} {many : Int32} {n m : Nat} {v1 v2 v3 : Int32} (nx : Nat → Option Nat → Option Nat) (hn7 : n < 8) (hT : TBn n all many) (hs : ∀ k o, okO n o → k < cntF n → fX7_bound_B14 all (nI n) many v1 v2 v3 (fdI o, nI k) = some (.inl (fdI (nx (fstF n + k) o), nI (k + 1))) ∧ okO n (nx (fstF n + k) o)) (I : Nat → Option Nat → Prop) (h0 : I 0 none) (hI : ∀ k o, okO n o → k < cntF n → I k o → I (k + 1) (nx (fstF n + k) o)) (he : ∀ o, okO n o → I (cntF n) o → o = some m) : it (fX7_bound_B14 all (nI n) many v1 v2 v3) FU ((-1 : Int32), nI 0) = some (nI (dcF m)) := by
  have hc := cnt_le n hn7
  obtain ⟨y, hy, rfl⟩ : ∃ y, it (fX7_bound_B14 all (nI n) many v1 v2 v3) FU ((-1 : Int32), nI 0) = some y ∧ y = nI (dcF m) := by
    refine it_inv (fun k x => ∃ o, x = (fdI o, nI k) ∧ okO n o ∧ k ≤ cntF n ∧ I k o) _ (cntF n) (by omega) ⟨none, rfl, trivial, Nat.zero_le _, h0⟩ ?_
    rintro k x hk ⟨o, rfl, ho, hk2, hi⟩
    rcases Nat.lt_or_ge k (cntF n) with hlt | hge
    · left
      have h1 := hs k o ho hlt
      exact ⟨_, h1.1, hlt, _, rfl, h1.2, hlt, hI k o ho hlt hi⟩
    · right
      have e : k = cntF n := by omega
      subst e
      have := he o ho hi
      subst this
      refine ⟨_, ?_, rfl⟩
      unfold fX7_bound_B14
      rw [hT.1]
      simp (disch := omega) only [Option.bind_some, Sum.elim_inl, Sum.elim_inr, q_le, q_nle, q_lt, q_nlt, q_eq, q_ne, q_m1, q_m5, rd_n, wr_n, ixo_n, dvo_n, rmo_n, nI_add, pk_sub, pk_mul, if_true, if_false]
      rfl
  exact hy
theorem m_bound_meet {p q m n : Nat} (h0 : 0 < p) (hp : p < 626) (hq : q < 626) (hpn : szF p = n) (hqn : szF q = n) (hm : isMeet p q m) {all : Nat → Int32} {many tb : Int32} (h : TBok all many tb) : ∃ all' many', fX7_bound all (nI n) many tb (nI (dcF p)) (nI (dcF q)) (nI 1) = some (nI (dcF m), all', many', nI n) ∧ TBn n all' many' := by
  have hn0 : 0 < n := by have := (sz_pos hp h0).1; omega
  have hn7 : n < 8 := by have := sz_le hp; omega
  obtain ⟨all', many', ht, hT⟩ := m_table hn0 hn7 h
  refine ⟨all', many', ?_, hT⟩
  obtain ⟨m0, m1, m2, m3, m4, m5⟩ := hm
  rw [hpn] at m2 m5
  have hmk := pl_ix m0 m1
  rw [m2] at hmk
  unfold fX7_bound
  rw [ht, Option.bind_some, bd_run (m := m) (nxM p q) hn7 hT (fun k o ho hk => ⟨bd_m hn0 hn7 hp hq hpn hqn hT ho hk, (nx_ok ho (pl_ok hn0 hn7 hk)).1⟩) (fun k o => (k ≤ m - fstF n ∧ ∀ f, o = some f → belB f p = true ∧ belB f q = true) ∨ (m - fstF n < k ∧ o = some m)) (Or.inl ⟨Nat.zero_le _, fun f h => by cases h⟩) ?_ ?_]
  · rfl
  · intro k o ho hk hi
    obtain ⟨z0, z1, z2⟩ := pl_ok hn0 hn7 hk
    unfold nxM
    rcases hi with ⟨hkm, hf⟩ | ⟨hkm, rfl⟩
    · by_cases hkm2 : k = m - fstF n
      · right
        have ez : fstF n + k = m := by omega
        rw [ez, m3, m4]
        refine ⟨by omega, ?_⟩
        cases o with
        | none => rfl
        | some f => simp [oB, m5 f ho.1 ho.2.1 ho.2.2 (hf f rfl).1 (hf f rfl).2]
      · left
        refine ⟨by omega, fun f hfe => ?_⟩
        split at hfe
        · next hc =>
          cases hfe
          simp only [Bool.and_eq_true] at hc
          exact ⟨hc.1, hc.2.1⟩
        · exact hf f hfe
    · right
      refine ⟨by omega, ?_⟩
      split
      · next hc =>
        simp only [Bool.and_eq_true] at hc
        have e1 := m5 _ z0 z1 z2 hc.1 hc.2.1
        have := bel_as m0 m1 z0 z1 (by omega) hc.2.2 e1
        omega
      · rfl
  · rintro o ho (⟨hk, -⟩ | ⟨-, h⟩)
    · omega
    · exact h
theorem m_bound_join {p q m n : Nat} (h0 : 0 < p) (hp : p < 626) (hq : q < 626) (hpn : szF p = n) (hqn : szF q = n) (hm : isJoin p q m) {all : Nat → Int32} {many tb : Int32} (h : TBok all many tb) : ∃ all' many', fX7_bound all (nI n) many tb (nI (dcF p)) (nI (dcF q)) (nI 0) = some (nI (dcF m), all', many', nI n) ∧ TBn n all' many' := by
  have hn0 : 0 < n := by have := (sz_pos hp h0).1; omega
  have hn7 : n < 8 := by have := sz_le hp; omega
  obtain ⟨all', many', ht, hT⟩ := m_table hn0 hn7 h
  refine ⟨all', many', ?_, hT⟩
  obtain ⟨m0, m1, m2, m3, m4, m5⟩ := hm
  rw [hpn] at m2 m5
  have hmk := pl_ix m0 m1
  rw [m2] at hmk
  unfold fX7_bound
  rw [ht, Option.bind_some, bd_run (m := m) (nxJ p q) hn7 hT (fun k o ho hk => ⟨bd_j hn0 hn7 hp hq hpn hqn hT ho hk, (nx_ok ho (pl_ok hn0 hn7 hk)).2⟩) (fun k o => (k ≤ m - fstF n ∧ o = none) ∨ (m - fstF n < k ∧ o = some m)) (Or.inl ⟨Nat.zero_le _, rfl⟩) ?_ ?_]
  · rfl
  · intro k o ho hk hi
    obtain ⟨z0, z1, z2⟩ := pl_ok hn0 hn7 hk
    unfold nxJ
    rcases hi with ⟨hkm, rfl⟩ | ⟨hkm, rfl⟩
    · by_cases hkm2 : k = m - fstF n
      · right
        have ez : fstF n + k = m := by omega
        rw [ez, m3, m4]
        exact ⟨by omega, rfl⟩
      · left
        refine ⟨by omega, ?_⟩
        split
        · next hc =>
          simp only [Bool.and_eq_true] at hc
          have e1 := m5 _ z0 z1 z2 hc.1 hc.2.1
          have := bel_le m0 m1 z0 z1 (by omega) e1
          omega
        · rfl
    · right
      refine ⟨by omega, ?_⟩
      split
      · next hc =>
        simp only [Bool.and_eq_true] at hc
        have e1 := m5 _ z0 z1 z2 hc.1 hc.2.1
        have := bel_as z0 z1 m0 m1 (by omega) hc.2.2 e1
        omega
      · rfl
  · rintro o ho (⟨hk, -⟩ | ⟨-, h⟩)
    · omega
    · exact h
/-! between -/
def wiB (p z q : Nat) : Bool := belB p z && belB z q
theorem c_isWithin {p z q : Nat} (hp : p < 626) (hz : z < 626) (hq : q < 626) (h1 : szF z = szF p) (h2 : szF q = szF p) : fX2_isWithin (nI (cdF p)) (nI (cdF z)) (nI (cdF q)) = some (bI (wiB p z q)) := by
  unfold fX2_isWithin wiB
  rw [c_noMore hp hz h1, c_noMore hz hq (by omega)]
  cases belB p z <;> cases belB z q <;> rfl
theorem m_isBetween {p z q n : Nat} (hp : p < 626) (hz : z < 626) (hq : q < 626) (hpn : szF p = n) (h1 : szF z = n) (h2 : szF q = n) : fX7_isBetween (nI n) (nI (dcF z)) (nI (dcF p)) (nI (dcF q)) = some (bI (wiB p z q)) := by
  unfold fX7_isBetween wiB
  rw [m_bel hp hz hpn h1, m_bel hz hq h1 h2]
  cases belB p z <;> cases belB z q <;> rfl
/-- how many of the first j places of a size are between -/
def cbw (p q f : Nat) : Nat → Nat
  | 0 => 0
  | j + 1 => cbw p q f j + (if wiB p (f + j) q then 1 else 0)
theorem cbw_le (p q f : Nat) : ∀ j, cbw p q f j ≤ j
  | 0 => Nat.le_refl _
  | j + 1 => by
    have := cbw_le p q f j
    unfold cbw
    split <;> omega
theorem cbw_app (p q f a : Nat) : ∀ b, cbw p q f (a + b) = cbw p q f a + cbw p q (f + a) b
  | 0 => rfl
  | b + 1 => by
    rw [← Nat.add_assoc, cbw, cbw, cbw_app p q f a b, Nat.add_assoc f a b, Nat.add_assoc]
theorem cbw_0 (p q f : Nat) : ∀ j, (∀ i, i < j → wiB p (f + i) q = false) → cbw p q f j = 0
  | 0, _ => rfl
  | j + 1, h => by
    rw [cbw, cbw_0 p q f j (fun i hi => h i (by omega)), h j (by omega)]
    rfl
theorem wi_out {p z q n : Nat} (h0 : 0 < p) (hp : p < 626) (hq0 : 0 < q) (hq : q < 626) (hpn : szF p = n) (hqn : szF q = n) (hz0 : 0 < z) (hz : z < 626) (hzn : szF z = n) (h : z < p ∨ q < z) : wiB p z q = false := by
  unfold wiB
  cases h1 : belB p z with
  | false => rfl
  | true =>
    cases h2 : belB z q with
    | false => rfl
    | true =>
      have := bel_le h0 hp hz0 hz (by omega) h1
      have := bel_le hz0 hz hq0 hq (by omega) h2
      omega
