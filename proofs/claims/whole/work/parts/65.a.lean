/-! mirror, canopy, which may turn -/
def mrN (p : Nat) : Nat → Nat
  | 0 => 0
  | k + 1 => 10 * mrN p k + f4 lsB p (szF p - 1 - k)
theorem k_mir : (List.range 626).all (fun p => decide (p = 0) || (decide (mrN p (szF p) = dcF (miF p)) && decide (0 < miF p) && decide (miF p < 626) && decide (szF (miF p) = szF p))) = true := by decide +kernel
theorem mir_at {p : Nat} (h0 : 0 < p) (hp : p < 626) : mrN p (szF p) = dcF (miF p) ∧ 0 < miF p ∧ miF p < 626 ∧ szF (miF p) = szF p := by
  have h := ra k_mir hp
  simp only [Bool.or_eq_true, Bool.and_eq_true, decide_eq_true_eq] at h
  rcases h with h | ⟨⟨⟨h1, h2⟩, h3⟩, h4⟩
  · omega
  · exact ⟨h1, h2, h3, h4⟩
theorem m_mirrored {p : Nat} (h0 : 0 < p) (hp : p < 626) (P L R S A : Nat → Int32) (rdv : Int32) : ∃ P' L' R' S' A' rdv', fX7_mirrored P L R S A rdv (nI (dcF p)) (nI (szF p)) = some (nI (dcF (miF p)), P', L', R', S', A', rdv') := by
  obtain ⟨P', L', R', S', A', e, hL⟩ := m_looks h0 hp P L R S A rdv
  have h7 := sz_le hp
  have key : it (fX7_mirrored_B11 S' (nI (szF p))) FU (nI 0, nI 0) = some (nI (mrN p (szF p))) := by
    refine it_go (fun k => (nI (mrN p k), nI k)) (szF p) rfl (by omega) ?_ ?_
    · intro k hk
      have es := (hL (szF p - 1 - k) (by omega)).2.2.2.1
      unfold fX7_mirrored_B11
      simp (disch := omega) only [Option.bind_some, Sum.elim_inl, Sum.elim_inr, q_le, q_nle, q_lt, q_nlt, q_eq, q_ne, q_m1, q_m5, rd_n, wr_n, ixo_n, dvo_n, rmo_n, nI_add, pk_sub, pk_mul, if_true, if_false, es]
      rfl
    · unfold fX7_mirrored_B11
      simp (disch := omega) only [Option.bind_some, Sum.elim_inl, Sum.elim_inr, q_le, q_nle, q_lt, q_nlt, q_eq, q_ne, q_m1, q_m5, rd_n, wr_n, ixo_n, dvo_n, rmo_n, nI_add, pk_sub, pk_mul, if_true, if_false]
  refine ⟨P', L', R', S', A', nI (roF p), ?_⟩
  unfold fX7_mirrored
  rw [e, Option.bind_some, key, (mir_at h0 hp).1]
  rfl
theorem k_can : (List.range 626).all (fun p => decide (p = 0) || decide (fX7_canopyOf (nI (dcF p)) (nI (szF p)) = some (nI (caF p)))) = true := by decide +kernel
theorem m_canopyOf {p : Nat} (h0 : 0 < p) (hp : p < 626) : fX7_canopyOf (nI (dcF p)) (nI (szF p)) = some (nI (caF p)) := by
  have h := ra k_can hp
  simp only [Bool.or_eq_true, decide_eq_true_eq] at h
  rcases h with h | h
  · omega
  · exact h
def mkN (W : Nat → Nat) : Nat → Int32
  | 0 => nI 0
  | c + 1 => if W c = 0 then mkN W c else mkN W c ||| (nI 1 <<< (nI c &&& 31))
theorem k_may : (List.range 626).all (fun p => decide (p = 0) || (decide (mkN (upF p) (szF p) = nI (lfF p)) && decide (mkN (bkF p) (szF p) = nI (caF p)))) = true := by decide +kernel
theorem may_at {p : Nat} (h0 : 0 < p) (hp : p < 626) : mkN (upF p) (szF p) = nI (lfF p) ∧ mkN (bkF p) (szF p) = nI (caF p) := by
  have h := ra k_may hp
  simp only [Bool.or_eq_true, Bool.and_eq_true, decide_eq_true_eq] at h
  rcases h with h | h
  · omega
  · exact h
theorem m_may {b : Bool} {p : Nat} {v1 : Int32} (h0 : 0 < p) (hp : p < 626) (hv : rmo v1 (nI 2) = some (bI b)) (P L R S A : Nat → Int32) (rdv : Int32) : ∃ P' L' R' S' A' rdv', it (fX7_mayTurn_B18 (nI (szF p)) (nI (dcF p)) v1) FU (nI 0, nI 0, P, L, R, S, A, rdv) = some (mkN (dirW b p) (szF p), P', L', R', S', A', rdv') := by
  have h7 := sz_le hp
  obtain ⟨y, hy, P', L', R', S', A', rdv', rfl⟩ : ∃ y, it (fX7_mayTurn_B18 (nI (szF p)) (nI (dcF p)) v1) FU (nI 0, nI 0, P, L, R, S, A, rdv) = some y ∧ ∃ P' L' R' S' A' rdv', y = (mkN (dirW b p) (szF p), P', L', R', S', A', rdv') := by
    refine it_inv (fun c x => ∃ P' L' R' S' A' rdv', x = (mkN (dirW b p) c, nI c, P', L', R', S', A', rdv')) _ (szF p) (by omega) ⟨P, L, R, S, A, rdv, rfl⟩ ?_
    rintro c x hc ⟨P', L', R', S', A', rdv', rfl⟩
    rcases Nat.lt_or_ge c (szF p) with hlt | hge
    · left
      have hj : ∃ P2 L2 R2 S2 A2 rdv2, fX7_mayTurn_B18 (nI (szF p)) (nI (dcF p)) v1 (mkN (dirW b p) c, nI c, P', L', R', S', A', rdv') = fX7_mayTurn_J61 P2 L2 R2 S2 A2 (nI (szF p)) (nI (dcF p)) rdv2 v1 (mkN (dirW b p) c) (nI c) (gtI (dirW b p c)) := by
        unfold fX7_mayTurn_B18
        cases b
        · obtain ⟨P2, L2, R2, S2, A2, e⟩ := m_up h0 hp hlt P' L' R' S' A' rdv'
          refine ⟨P2, L2, R2, S2, A2, nI (roF p), ?_⟩
          simp (disch := omega) only [Option.bind_some, Sum.elim_inl, Sum.elim_inr, q_le, q_nle, q_lt, q_nlt, q_eq, q_ne, q_m1, q_m5, rd_n, wr_n, ixo_n, dvo_n, rmo_n, nI_add, pk_sub, pk_mul, if_true, if_false, hv, e, q_bf]
          rfl
        · obtain ⟨P2, L2, R2, S2, A2, e⟩ := m_down h0 hp hlt P' L' R' S' A' rdv'
          refine ⟨P2, L2, R2, S2, A2, nI (roF p), ?_⟩
          simp (disch := omega) only [Option.bind_some, Sum.elim_inl, Sum.elim_inr, q_le, q_nle, q_lt, q_nlt, q_eq, q_ne, q_m1, q_m5, rd_n, wr_n, ixo_n, dvo_n, rmo_n, nI_add, pk_sub, pk_mul, if_true, if_false, hv, e, q_bt]
          rfl
      obtain ⟨P2, L2, R2, S2, A2, rdv2, hj⟩ := hj
      refine ⟨(mkN (dirW b p) (c + 1), nI (c + 1), P2, L2, R2, S2, A2, rdv2), ?_, hlt, P2, L2, R2, S2, A2, rdv2, rfl⟩
      rw [hj]
      unfold fX7_mayTurn_J61 fX7_mayTurn_J72
      rw [mkN]
      by_cases hw0 : dirW b p c = 0
      · rw [hw0, gt_0, if_pos rfl, if_pos rfl, nI_add]
      · have hw : okW (szF p) (dirW b p c) := by
          cases b
          · exact ok_up h0 hp rfl hlt
          · exact ok_bk h0 hp rfl hlt
        have hdb : dcF (dirW b p c) < 10000000 := dc_big (by rcases hw with h | h <;> omega)
        rw [gt_n hw0, if_neg (nI_nm5 (by omega)), if_neg hw0, nI_add]
    · right
      have ec : c = szF p := by omega
      subst ec
      refine ⟨_, ?_, P', L', R', S', A', rdv', rfl⟩
      unfold fX7_mayTurn_B18
      simp (disch := omega) only [Option.bind_some, Sum.elim_inl, Sum.elim_inr, q_le, q_nle, q_lt, q_nlt, q_eq, q_ne, q_m1, q_m5, rd_n, wr_n, ixo_n, dvo_n, rmo_n, nI_add, pk_sub, pk_mul, if_true, if_false]
  exact ⟨P', L', R', S', A', rdv', hy⟩
/-! the trees of one canopy -/
def cCa (f m : Nat) : Nat → Nat
  | 0 => 0
  | k + 1 => cCa f m k + (if caF (f + k) = m then 1 else 0)
theorem cCa_le (f m : Nat) : ∀ k, cCa f m k ≤ k
  | 0 => Nat.le_refl _
  | k + 1 => by
    have := cCa_le f m k
    rw [cCa]
    split <;> omega
theorem cCa_0 {f m : Nat} : ∀ k, (∀ i, i < k → caF (f + i) ≠ m) → cCa f m k = 0
  | 0, _ => rfl
  | k + 1, h => by rw [cCa, cCa_0 k (fun i hi => h i (by omega)), if_neg (h k (by omega))]
theorem cCa_p {f m i : Nat} : ∀ k, i < k → caF (f + i) = m → 0 < cCa f m k
  | 0, h, _ => absurd h (Nat.not_lt_zero _)
  | k + 1, h, e => by
    rw [cCa]
    rcases Nat.lt_or_ge i k with q | q
    · have := cCa_p (f := f) k q e
      omega
    · rw [show k = i by omega, if_pos e]
      omega
theorem ca_lt (p : Nat) : caF p < 256 := Nat.mod_lt _ (by omega)
theorem k_caex : (List.range 8).all (fun n => decide (n = 0) || (List.range (2 ^ (n - 1))).all fun m => (List.range (cntF n)).any fun k => decide (caF (fstF n + k) = m)) = true := by decide +kernel
theorem ca_ex {n m : Nat} (h0 : 0 < n) (h7 : n < 8) (hm : m < 2 ^ (n - 1)) : ∃ k, k < cntF n ∧ caF (fstF n + k) = m := by
  have h := ra k_caex h7
  rw [Bool.or_eq_true] at h
  rcases h with h | h
  · have := of_decide_eq_true h
    omega
  · have h := ra h hm
    simp only [List.any_eq_true, List.mem_range, decide_eq_true_eq] at h
    exact h
