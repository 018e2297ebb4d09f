/-! both programs go through the trees so -/
def mI (most : Bool) : Int32 := if most then nI 1 else nI 0
def CT (n : Nat) (t : Nat → Int32) (T : Nat → Option Nat) : Prop := ∀ k, k < cntF n → t (fstF n + k) = oI (T k)
theorem c_improve {most : Bool} {n v w x : Nat} {t : Nat → Int32} {T : Nat → Option Nat} (hw : okW n w) (hx : T v = some x) (hxl : x < 429) (hT : ∀ w m, T w = some m → m < 430) (C : CT n t T) : ∃ t', fX5_improve t (nI w) (nI (x + 1)) (mI most) = some t' ∧ CT n t' (imp most (fstF n) v w T) := by
  unfold fX5_improve fX5_improve_J41 imp
  by_cases hw0 : w = 0
  · refine ⟨t, ?_, ?_⟩
    · rw [hw0, c_isT0]
      rfl
    · rw [if_pos hw0]
      exact C
  · have hi := ok_ix hw hw0
    rcases hw with hw | ⟨w0, w1, w2⟩
    · exact absurd hw hw0
    · have et := C _ hi.1
      rw [hi.2] at et
      rw [if_neg hw0, hx]
      have set1 : ∀ m, CT n (upd t w (nI m)) (updO T (w - fstF n) (some m)) := fun m k hk => by
        by_cases e : k = w - fstF n
        · rw [e, hi.2, upd_s, uo_s]
          rfl
        · rw [upd_n (by omega), uo_n e]
          exact C k hk
      have keep : ∀ m, T (w - fstF n) = some m → CT n t (updO T (w - fstF n) (some m)) := fun m hm k hk => by
        by_cases e : k = w - fstF n
        · rw [e, uo_s, ← hm]
          exact C _ hi.1
        · rw [uo_n e]
          exact C k hk
      cases hT0 : T (w - fstF n) with
      | none =>
        rw [hT0] at et
        have et' : t w = (-1 : Int32) := et
        refine ⟨upd t w (nI (x + 1)), ?_, set1 _⟩
        simp (disch := omega) only [Option.bind_some, Sum.elim_inl, Sum.elim_inr, q_le, q_nle, q_lt, q_nlt, q_eq, q_ne, q_m1, q_m5, rd_n, wr_n, ixo_n, dvo_n, rmo_n, nI_add, pk_sub, pk_mul, if_true, if_false, c_isT w0 w1, et']
      | some u =>
        rw [hT0] at et
        have et' : t w = nI u := et
        have hu := hT _ _ hT0
        cases most with
        | false =>
          show ∃ t', _ ∧ CT n t' (updO T (w - fstF n) (if u ≤ x + 1 then some u else some (x + 1)))
          by_cases e : u ≤ x + 1
          · rw [if_pos e]
            refine ⟨t, ?_, keep u hT0⟩
            show ((fX5_isTree (nI w)).bind fun r1 => _) = _
            simp (disch := omega) only [Option.bind_some, Sum.elim_inl, Sum.elim_inr, q_le, q_nle, q_lt, q_nlt, q_eq, q_ne, q_m1, q_m5, rd_n, wr_n, ixo_n, dvo_n, rmo_n, nI_add, pk_sub, pk_mul, if_true, if_false, c_isT w0 w1, et', mI, Bool.false_eq_true]
          · rw [if_neg e]
            refine ⟨upd t w (nI (x + 1)), ?_, set1 _⟩
            simp (disch := omega) only [Option.bind_some, Sum.elim_inl, Sum.elim_inr, q_le, q_nle, q_lt, q_nlt, q_eq, q_ne, q_m1, q_m5, rd_n, wr_n, ixo_n, dvo_n, rmo_n, nI_add, pk_sub, pk_mul, if_true, if_false, c_isT w0 w1, et', mI, Bool.false_eq_true]
        | true =>
          show ∃ t', _ ∧ CT n t' (updO T (w - fstF n) (if x + 1 ≤ u then some u else some (x + 1)))
          by_cases e : x + 1 ≤ u
          · rw [if_pos e]
            refine ⟨t, ?_, keep u hT0⟩
            simp (disch := omega) only [Option.bind_some, Sum.elim_inl, Sum.elim_inr, q_le, q_nle, q_lt, q_nlt, q_eq, q_ne, q_m1, q_m5, rd_n, wr_n, ixo_n, dvo_n, rmo_n, nI_add, pk_sub, pk_mul, if_true, if_false, c_isT w0 w1, et', mI]
          · rw [if_neg e]
            refine ⟨upd t w (nI (x + 1)), ?_, set1 _⟩
            simp (disch := omega) only [Option.bind_some, Sum.elim_inl, Sum.elim_inr, q_le, q_nle, q_lt, q_nlt, q_eq, q_ne, q_m1, q_m5, rd_n, wr_n, ixo_n, dvo_n, rmo_n, nI_add, pk_sub, pk_mul, if_true, if_false, c_isT w0 w1, et', mI]
theorem imn_lt {most : Bool} {n k x c : Nat} {T : Nat → Option Nat} (h0 : 0 < n) (h7 : n < 8) (hk : k < cntF n) (hx : T k = some x) (hxl : x < 429) (hT : ∀ w m, T w = some m → m < 430) (hc : c ≤ n) : ∀ w m, impN most (fstF n) k T c w = some m → m < 430 := fun w m hm => by
  rcases (imi_ok (most := most) h0 h7 hk hx c hc).2.1 w m hm with e | ⟨e, _⟩
  · exact hT w m e
  · omega
theorem c_dpStep {most : Bool} {n k : Nat} {u b t : Nat → Int32} {T : Nat → Option Nat} {v2 : Int32} (h0 : 0 < n) (h7 : n < 8) (hk : k < cntF n) (hW : WYn n u b) (hT : ∀ w m, T w = some m → m ≤ k) (C : CT n t T) : ∃ t', it (fX5_turnsUpAlone_B60 u v2 (mI most) (nI n) (nI (fstF n + k))) FU (nI 0, t) = some t' ∧ CT n t' (dpS most n k T) := by
  have hc := cnt_le n h7
  obtain ⟨z0, z1, z2⟩ := pl_ok h0 h7 hk
  have et := C k hk
  unfold dpS
  cases hx : T k with
  | none =>
    rw [hx] at et
    have et' : t (fstF n + k) = (-1 : Int32) := et
    refine ⟨t, ?_, ?_⟩
    · refine it_go (fun _ => (nI 0, t)) 0 rfl (by omega) (fun j hj => absurd hj (Nat.not_lt_zero _)) ?_
      unfold fX5_turnsUpAlone_B60
      simp (disch := omega) only [Option.bind_some, Sum.elim_inl, Sum.elim_inr, q_le, q_nle, q_lt, q_nlt, q_eq, q_ne, q_m1, q_m5, rd_n, wr_n, ixo_n, dvo_n, rmo_n, nI_add, pk_sub, pk_mul, if_true, if_false, et']
    · rw [if_pos rfl]
      exact C
  | some x =>
    have hxk := hT k x hx
    rw [if_neg (fun h => by cases h)]
    have hT' : ∀ w m, T w = some m → m < 430 := fun w m h => by have := hT w m h; omega
    refine it_inv (fun c s => ∃ t', s = (nI c, t') ∧ CT n t' (impN most (fstF n) k T c)) _ n (by omega) ⟨t, rfl, C⟩ ?_
    rintro c s hcn ⟨t', rfl, C'⟩
    unfold fX5_turnsUpAlone_B60
    rcases Nat.lt_or_ge c n with hlt | hge
    · left
      have I := imi_ok (most := most) h0 h7 hk hx c hcn
      have hUk : impN most (fstF n) k T c k = some x := (I.1 k (Nat.le_refl _)).trans hx
      have et' : t' (fstF n + k) = nI x := by rw [C' k hk, hUk]; rfl
      obtain ⟨t2, e2, C2⟩ := c_improve (most := most) (v := k) (ok_up z0 z1 z2 hlt) hUk (by omega) (imn_lt h0 h7 hk hx (by omega) hT' hcn) C'
      have eu := (hW _ c z0 z1 z2 hlt).1
      refine ⟨(nI (c + 1), t2), ?_, hlt, t2, rfl, C2⟩
      simp (disch := omega) only [Option.bind_some, Sum.elim_inl, Sum.elim_inr, q_le, q_nle, q_lt, q_nlt, q_eq, q_ne, q_m1, q_m5, rd_n, wr_n, ixo_n, dvo_n, rmo_n, nI_add, pk_sub, pk_mul, if_true, if_false, et', c_tp, eu, e2]
    · right
      have ec : c = n := by omega
      subst ec
      refine ⟨t', ?_, C'⟩
      simp (disch := omega) only [Option.bind_some, Sum.elim_inl, Sum.elim_inr, q_le, q_nle, q_lt, q_nlt, q_eq, q_ne, q_m1, q_m5, rd_n, wr_n, ixo_n, dvo_n, rmo_n, nI_add, pk_sub, pk_mul, if_true, if_false]
/-- the class's turns up alone -/
theorem c_alone {most : Bool} {p q n : Nat} {u b l tu : Nat → Int32} (h0 : 0 < p) (hp : p < 626) (hq0 : 0 < q) (hq : q < 626) (hpn : szF p = n) (hqn : szF q = n) (hpq : p ≤ q) (HW : WYS u b l) : ∃ u' b' l' tu', fX5_turnsUpAlone cF sF u b l tu (nI p) (nI q) (mI most) = some (oI (dp most n (p - fstF n) (cntF n) (q - fstF n)), u', b', l', tu') ∧ WYS u' b' l' ∧ ∀ m, l m = nI 1 → l' m = nI 1 := by
  have hs := sz_pos hp h0
  have h7 := sz_le hp
  have hpx := pl_ix h0 hp
  have hqx := pl_ix hq0 hq
  rw [hpn] at hs h7 hpx
  rw [hqn] at hqx
  have hc := cnt_le n (by omega)
  obtain ⟨u', b', l', e1, HW', hWn, _, hll⟩ := c_learn hs.1 (by omega) HW
  have hC : CT n (upd (fillF 626 (-1 : Int32) tu) p (nI 0)) (dp most n (p - fstF n) (p - fstF n)) := by
    rw [dp_a _ (Nat.le_refl _)]
    intro k hk
    show _ = oI (updO (fun _ => none) (p - fstF n) (some 0) k)
    have hk2 := pl_ok hs.1 (by omega) hk
    by_cases e : k = p - fstF n
    · rw [e, hpx.2, upd_s, uo_s]
      rfl
    · rw [upd_n (by omega), uo_n e]
      exact if_pos hk2.2.1
  obtain ⟨y, hy, hC'⟩ : ∃ y, it (fX5_turnsUpAlone_B51 u' (nI q) (mI most) (nI n)) FU (nI p, upd (fillF 626 (-1 : Int32) tu) p (nI 0)) = some y ∧ CT n y (dp most n (p - fstF n) (q - fstF n)) := by
    refine it_inv (fun j s => ∃ t', s = (nI (p + j), t') ∧ CT n t' (dp most n (p - fstF n) (p - fstF n + j))) _ (q - p) (by omega) ⟨_, rfl, hC⟩ ?_
    rintro j s hj ⟨t', rfl, C'⟩
    unfold fX5_turnsUpAlone_B51
    rcases Nat.lt_or_ge j (q - p) with hlt | hge
    · left
      obtain ⟨t2, e2, C2⟩ := c_dpStep (v2 := nI q) hs.1 (by omega) (show p - fstF n + j < cntF n by omega) hWn (dpi_ok (most := most) (a := p - fstF n) hs.1 (by omega) (p - fstF n + j) (by omega)).1 C'
      rw [show fstF n + (p - fstF n + j) = p + j by omega] at e2
      refine ⟨(nI (p + (j + 1)), t2), ?_, hlt, t2, rfl, C2⟩
      simp (disch := omega) only [Option.bind_some, Sum.elim_inl, Sum.elim_inr, q_le, q_nle, q_lt, q_nlt, q_eq, q_ne, q_m1, q_m5, rd_n, wr_n, ixo_n, dvo_n, rmo_n, nI_add, pk_sub, pk_mul, if_true, if_false, e2]
      rfl
    · right
      refine ⟨t', ?_, ?_⟩
      · simp (disch := omega) only [Option.bind_some, Sum.elim_inl, Sum.elim_inr, q_le, q_nle, q_lt, q_nlt, q_eq, q_ne, q_m1, q_m5, rd_n, wr_n, ixo_n, dvo_n, rmo_n, nI_add, pk_sub, pk_mul, if_true, if_false]
      · rw [show q - fstF n = p - fstF n + j by omega]
        exact C'
  have ey := hC' _ hqx.1
  rw [hqx.2] at ey
  refine ⟨u', b', l', y, ?_, HW', hll⟩
  unfold fX5_turnsUpAlone
  have es : fX0_sizeOf sF (nI p) = some (nI n) := by rw [c_sizeOf hp, hpn]
  simp (disch := omega) only [Option.bind_some, Sum.elim_inl, Sum.elim_inr, q_le, q_nle, q_lt, q_nlt, q_eq, q_ne, q_m1, q_m5, rd_n, wr_n, ixo_n, dvo_n, rmo_n, nI_add, pk_sub, pk_mul, if_true, if_false, c_isT h0 hp, c_isT hq0 hq, es, e1, hy, ey]
  rw [dp_st hs.1 (by omega) (cntF n) (by omega) (Nat.le_refl _)]
/-! the reference's longest -/
def RT (n : Nat) (t : Nat → Int32) (T : Nat → Option Nat) : Prop := ∀ k, k < cntF n → t k = oI (T k)
theorem r_65 {n k x c : Nat} {all P L R S A q : Nat → Int32} {many rdv v1 : Int32} {T : Nat → Option Nat} (h0 : 0 < n) (h7 : n < 8) (hk : k < cntF n) (hcn : c < n) (hx : T k = some x) (hxl : x < 429) (hT : ∀ w m, T w = some m → m < 430) (hB : TBn n all many) (C : RT n q T) : ∃ all' P' L' R' S' A' q' many' rdv', fX7_longest_B65 (nI n) v1 (nI k) (nI c, all, P, L, R, S, A, q, many, nI n, rdv) = some (.inl (nI (c + 1), all', P', L', R', S', A', q', many', nI n, rdv')) ∧ TBn n all' many' ∧ RT n q' (imp true (fstF n) k (upF (fstF n + k) c) T) := by
  have hc := cnt_le n h7
  obtain ⟨z0, z1, z2⟩ := pl_ok h0 h7 hk
  have ea := hB.2 k hk
  obtain ⟨P1, L1, R1, S1, A1, eu⟩ := m_up z0 z1 (show c < szF (fstF n + k) by omega) P L R S A rdv
  rw [z2] at eu
  have hw := ok_up z0 z1 z2 hcn
  have ex : q k = nI x := by rw [C k hk, hx]; rfl
  unfold fX7_longest_B65 fX7_longest_J137 imp
  by_cases hw0 : upF (fstF n + k) c = 0
  · rw [if_pos hw0]
    refine ⟨all, P1, L1, R1, S1, A1, q, many, nI (roF (fstF n + k)), ?_, hB, C⟩
    rw [hw0, gt_0] at eu
    simp (disch := omega) only [Option.bind_some, Sum.elim_inl, Sum.elim_inr, q_le, q_nle, q_lt, q_nlt, q_eq, q_ne, q_m1, q_m5, rd_n, wr_n, ixo_n, dvo_n, rmo_n, nI_add, pk_sub, pk_mul, if_true, if_false, ea, eu]
  · have hi := ok_ix hw hw0
    rw [if_neg hw0, hx]
    obtain ⟨all2, many2, en, hB2⟩ := m_num h0 h7 hi.1 hB
    rw [hi.2] at en
    have hdb : dcF (upF (fstF n + k) c) < 10000000 := dc_big (by rcases hw with h | h <;> omega)
    rw [gt_n hw0] at eu
    have et := C _ hi.1
    have val : ∃ m, imv true x (T (upF (fstF n + k) c - fstF n)) = some m ∧ (if q (upF (fstF n + k) c - fstF n) < nI (x + 1) then nI (x + 1) else q (upF (fstF n + k) c - fstF n)) = nI m := by
      cases hT0 : T (upF (fstF n + k) c - fstF n) with
      | none =>
        rw [hT0] at et
        have et' : q (upF (fstF n + k) c - fstF n) = (-1 : Int32) := et
        refine ⟨x + 1, rfl, ?_⟩
        rw [et', if_pos]
        rw [Int32.lt_iff_toInt_lt, nI_toInt (by omega), m1_toInt]
        omega
      | some t =>
        have ht := hT _ _ hT0
        rw [hT0] at et
        have et' : q (upF (fstF n + k) c - fstF n) = nI t := et
        rw [et', max_n (by omega) (by omega)]
        refine ⟨max t (x + 1), ?_, rfl⟩
        show (if x + 1 ≤ t then some t else some (x + 1)) = _
        split
        · congr 1
          omega
        · congr 1
          omega
    obtain ⟨m, v1', v2'⟩ := val
    rw [show (some x : Option Nat).getD 0 = x from rfl, v1']
    refine ⟨all2, P1, L1, R1, S1, A1, upd q (upF (fstF n + k) c - fstF n) (nI m), many2, nI (roF (fstF n + k)), ?_, hB2, fun j hj => ?_⟩
    · simp (disch := omega) only [Option.bind_some, Sum.elim_inl, Sum.elim_inr, q_le, q_nle, q_lt, q_nlt, q_eq, q_ne, q_m1, q_m5, rd_n, wr_n, ixo_n, dvo_n, rmo_n, nI_add, pk_sub, pk_mul, if_true, if_false, ea, eu, en, ex, v2']
    · by_cases e : j = upF (fstF n + k) c - fstF n
      · rw [e, upd_s, uo_s]
        rfl
      · rw [upd_n e, uo_n e]
        exact C j hj
theorem m_longest {p q n : Nat} {all P L R S A qu : Nat → Int32} {many rdv : Int32} (h0 : 0 < p) (hp : p < 626) (hq0 : 0 < q) (hq : q < 626) (hpn : szF p = n) (hqn : szF q = n) (hB : TBn n all many) : ∃ all' P' L' R' S' A' qu' many' rdv', fX7_longest all P L R S A qu (nI n) (nI (dcF p)) many (nI n) rdv (nI (dcF q)) = some (oI (dp true n (p - fstF n) (cntF n) (q - fstF n)), all', P', L', R', S', A', qu', many', nI n, rdv') ∧ TBn n all' many' := by
  have hs := sz_pos hp h0
  have h7 := sz_le hp
  have hpx := pl_ix h0 hp
  have hqx := pl_ix hq0 hq
  rw [hpn] at hs h7 hpx
  rw [hqn] at hqx
  have hc := cnt_le n (by omega)
  have e1 : ∃ q1, it (fX7_longest_B2 all (nI (dcF p)) many (nI (dcF q))) FU (nI 0, qu) = some q1 ∧ RT n q1 (dp true n (p - fstF n) 0) := by
    refine it_inv (fun k x => x.1 = nI k ∧ ∀ j, j < k → x.2 j = oI (dp true n (p - fstF n) 0 j)) _ (cntF n) (by omega) ⟨rfl, fun j hj => absurd hj (Nat.not_lt_zero _)⟩ ?_
    rintro k ⟨x1, m0⟩ hk ⟨e1, hall⟩
    have e1' : x1 = nI k := e1
    subst e1'
    have hall' : ∀ j, j < k → m0 j = oI (dp true n (p - fstF n) 0 j) := hall
    unfold fX7_longest_B2 fX7_longest_J33
    rw [hB.1]
    rcases Nat.lt_or_ge k (cntF n) with hlt | hge
    · left
      obtain ⟨z0, z1, z2⟩ := pl_ok hs.1 (by omega) hlt
      have ea := hB.2 k hlt
      have d1 := dc_big z1
      have d2 := dc_big hp
      have fin : ∀ v, v = oI (dp true n (p - fstF n) 0 k) → ∀ j, j < k + 1 → upd m0 k v j = oI (dp true n (p - fstF n) 0 j) := fun v hv j hj => by
        by_cases e : j = k
        · rw [e, upd_s]
          exact hv
        · rw [upd_n e]
          exact hall' j (by omega)
      by_cases e : fstF n + k = p
      · have hd : dcF (fstF n + k) = dcF p := by rw [e]
        refine ⟨(nI (k + 1), upd m0 k (nI 0)), ?_, hlt, rfl, fin _ ?_⟩
        · simp (disch := omega) only [Option.bind_some, Sum.elim_inl, Sum.elim_inr, q_le, q_nle, q_lt, q_nlt, q_eq, q_ne, q_m1, q_m5, rd_n, wr_n, ixo_n, dvo_n, rmo_n, nI_add, pk_sub, pk_mul, if_true, if_false, ea, hd]
        · show _ = oI (updO (fun _ => none) (p - fstF n) (some 0) k)
          rw [show k = p - fstF n by omega, uo_s]
          rfl
      · have hd : dcF (fstF n + k) ≠ dcF p := fun e2 => e (dc_inj z0 z1 h0 hp (by omega) e2)
        refine ⟨(nI (k + 1), upd m0 k (-1 : Int32)), ?_, hlt, rfl, fin _ ?_⟩
        · simp (disch := omega) only [Option.bind_some, Sum.elim_inl, Sum.elim_inr, q_le, q_nle, q_lt, q_nlt, q_eq, q_ne, q_m1, q_m5, rd_n, wr_n, ixo_n, dvo_n, rmo_n, nI_add, pk_sub, pk_mul, if_true, if_false, ea]
        · show _ = oI (updO (fun _ => none) (p - fstF n) (some 0) k)
          rw [uo_n (by omega)]
          rfl
    · right
      refine ⟨m0, ?_, fun j hj => hall' j (by omega)⟩
      simp (disch := omega) only [Option.bind_some, Sum.elim_inl, Sum.elim_inr, q_le, q_nle, q_lt, q_nlt, q_eq, q_ne, q_m1, q_m5, rd_n, wr_n, ixo_n, dvo_n, rmo_n, nI_add, pk_sub, pk_mul, if_true, if_false]
  obtain ⟨q1, e1, C1⟩ := e1
  obtain ⟨y, hy, all', P', L', R', S', A', qu', many', rdv', rfl, hB', C'⟩ : ∃ y, it (fX7_longest_B42 (nI n) (nI (dcF q))) FU (nI 0, all, P, L, R, S, A, q1, many, nI n, rdv) = some y ∧ ∃ all' P' L' R' S' A' qu' many' rdv', y = (all', P', L', R', S', A', qu', many', nI n, rdv') ∧ TBn n all' many' ∧ RT n qu' (dp true n (p - fstF n) (cntF n)) := by
    refine it_inv (fun k x => ∃ all' P' L' R' S' A' qu' many' rdv', x = (nI k, all', P', L', R', S', A', qu', many', nI n, rdv') ∧ TBn n all' many' ∧ RT n qu' (dp true n (p - fstF n) k)) _ (cntF n) (by omega) ⟨all, P, L, R, S, A, q1, many, rdv, rfl, hB, C1⟩ ?_
    rintro k x hk ⟨all', P', L', R', S', A', qu', many', rdv', rfl, hB', C'⟩
    unfold fX7_longest_B42 fX7_longest_J143
    have hI := dpi_ok (most := true) (a := p - fstF n) hs.1 (by omega) k hk
    rcases Nat.lt_or_ge k (cntF n) with hlt | hge
    · left
      have et := C' k hlt
      have em := hB'.1
      cases hx : dp true n (p - fstF n) k k with
      | none =>
        rw [hx] at et
        have et' : qu' k = (-1 : Int32) := et
        refine ⟨(nI (k + 1), all', P', L', R', S', A', qu', many', nI n, rdv'), ?_, hlt, all', P', L', R', S', A', qu', many', rdv', rfl, hB', ?_⟩
        · rw [em]
          simp (disch := omega) only [Option.bind_some, Sum.elim_inl, Sum.elim_inr, q_le, q_nle, q_lt, q_nlt, q_eq, q_ne, q_m1, q_m5, rd_n, wr_n, ixo_n, dvo_n, rmo_n, nI_add, pk_sub, pk_mul, if_true, if_false, et']
        · show RT n qu' (dpS true n k (dp true n (p - fstF n) k))
          unfold dpS
          rw [if_pos hx]
          exact C'
      | some x =>
        have hxk := hI.1 k x hx
        rw [hx] at et
        have et' : qu' k = nI x := et
        have hT' : ∀ w m, dp true n (p - fstF n) k w = some m → m < 430 := fun w m h => by have := hI.1 w m h; omega
        obtain ⟨y2, hy2, all2, P2, L2, R2, S2, A2, q2, many2, rdv2, rfl, hB2, C2⟩ : ∃ y2, it (fX7_longest_B65 (nI n) (nI (dcF q)) (nI k)) FU (nI 0, all', P', L', R', S', A', qu', many', nI n, rdv') = some y2 ∧ ∃ all2 P2 L2 R2 S2 A2 q2 many2 rdv2, y2 = (all2, P2, L2, R2, S2, A2, q2, many2, nI n, rdv2) ∧ TBn n all2 many2 ∧ RT n q2 (impN true (fstF n) k (dp true n (p - fstF n) k) n) := by
          refine it_inv (fun c s => ∃ all2 P2 L2 R2 S2 A2 q2 many2 rdv2, s = (nI c, all2, P2, L2, R2, S2, A2, q2, many2, nI n, rdv2) ∧ TBn n all2 many2 ∧ RT n q2 (impN true (fstF n) k (dp true n (p - fstF n) k) c)) _ n (by omega) ⟨all', P', L', R', S', A', qu', many', rdv', rfl, hB', C'⟩ ?_
          rintro c s hcn ⟨all2, P2, L2, R2, S2, A2, q2, many2, rdv2, rfl, hB2, C2⟩
          rcases Nat.lt_or_ge c n with hl | hg
          · left
            have I := imi_ok (most := true) hs.1 (by omega) hlt hx c hcn
            have hUk : impN true (fstF n) k (dp true n (p - fstF n) k) c k = some x := (I.1 k (Nat.le_refl _)).trans hx
            obtain ⟨all3, P3, L3, R3, S3, A3, q3, many3, rdv3, e3, hB3, C3⟩ := r_65 (P := P2) (L := L2) (R := R2) (S := S2) (A := A2) (rdv := rdv2) (v1 := nI (dcF q)) hs.1 (by omega) hlt hl hUk (by omega) (imn_lt hs.1 (by omega) hlt hx (by omega) hT' hcn) hB2 C2
            exact ⟨_, e3, hl, all3, P3, L3, R3, S3, A3, q3, many3, rdv3, rfl, hB3, C3⟩
          · right
            have ec : c = n := by omega
            subst ec
            refine ⟨_, ?_, all2, P2, L2, R2, S2, A2, q2, many2, rdv2, rfl, hB2, C2⟩
            unfold fX7_longest_B65
            simp (disch := omega) only [Option.bind_some, Sum.elim_inl, Sum.elim_inr, q_le, q_nle, q_lt, q_nlt, q_eq, q_ne, q_m1, q_m5, rd_n, wr_n, ixo_n, dvo_n, rmo_n, nI_add, pk_sub, pk_mul, if_true, if_false]
        refine ⟨(nI (k + 1), all2, P2, L2, R2, S2, A2, q2, many2, nI n, rdv2), ?_, hlt, all2, P2, L2, R2, S2, A2, q2, many2, rdv2, rfl, hB2, ?_⟩
        · rw [em]
          rw [em] at hy2
          simp (disch := omega) only [Option.bind_some, Sum.elim_inl, Sum.elim_inr, q_le, q_nle, q_lt, q_nlt, q_eq, q_ne, q_m1, q_m5, rd_n, wr_n, ixo_n, dvo_n, rmo_n, nI_add, pk_sub, pk_mul, if_true, if_false, et', hy2]
        · show RT n q2 (dpS true n k (dp true n (p - fstF n) k))
          unfold dpS
          rw [if_neg (fun h => by rw [hx] at h; cases h)]
          exact C2
    · right
      have ek : k = cntF n := by omega
      subst ek
      refine ⟨_, ?_, all', P', L', R', S', A', qu', many', rdv', rfl, hB', C'⟩
      rw [hB'.1]
      simp (disch := omega) only [Option.bind_some, Sum.elim_inl, Sum.elim_inr, q_le, q_nle, q_lt, q_nlt, q_eq, q_ne, q_m1, q_m5, rd_n, wr_n, ixo_n, dvo_n, rmo_n, nI_add, pk_sub, pk_mul, if_true, if_false]
  obtain ⟨all2, many2, en, hB2⟩ := m_num hs.1 (by omega) hqx.1 hB'
  rw [hqx.2] at en
  have ey := C' _ hqx.1
  refine ⟨all2, P', L', R', S', A', qu', many2, rdv', ?_, hB2⟩
  unfold fX7_longest
  simp (disch := omega) only [Option.bind_some, Sum.elim_inl, Sum.elim_inr, q_le, q_nle, q_lt, q_nlt, q_eq, q_ne, q_m1, q_m5, rd_n, wr_n, ixo_n, dvo_n, rmo_n, nI_add, pk_sub, pk_mul, if_true, if_false, e1, hy, en, ey]
