/-! marks -/
def sumW (p f x : Nat) (M : Nat → Int32) : Nat → Int32
  | 0 => nI 0
  | w + 1 => sumW p f x M w + (if wiB p (f + w) (f + x) then M w else nI 0)
def mval (p q f : Nat) (M : Nat → Int32) (x : Nat) : Int32 := if f + x = p then nI 1 else if wiB p (f + x) q then 0 - sumW p f x M x else nI 0
def muA (p q f : Nat) : Nat → (Nat → Int32)
  | 0 => fun _ => nI 0
  | k + 1 => upd (muA p q f k) k (mval p q f (muA p q f k) k)
def mu (p q f x : Nat) : Int32 := muA p q f (x + 1) x
theorem sumW_c {p f x : Nat} {M N : Nat → Int32} : ∀ w, (∀ j, j < w → M j = N j) → sumW p f x M w = sumW p f x N w
  | 0, _ => rfl
  | w + 1, h => by rw [sumW, sumW, sumW_c w (fun j hj => h j (by omega)), h w (by omega)]
theorem mval_c {p q f x : Nat} {M N : Nat → Int32} (h : ∀ j, j < x → M j = N j) : mval p q f M x = mval p q f N x := by
  unfold mval
  rw [sumW_c x h]
theorem muA_lt {p q f : Nat} : ∀ k j, j < k → muA p q f k j = mu p q f j
  | 0, j, h => absurd h (Nat.not_lt_zero _)
  | k + 1, j, h => by
    rcases Nat.lt_or_ge j k with z | z
    · rw [muA, upd_n (by omega)]
      exact muA_lt k j z
    · rw [show j = k by omega]
      rfl
theorem mu_eq (p q f x : Nat) : mu p q f x = mval p q f (mu p q f) x := by
  show upd (muA p q f x) x (mval p q f (muA p q f x) x) x = _
  rw [upd_s]
  exact mval_c (fun j hj => muA_lt x j hj)
theorem upd_u {f : Nat → Int32} {k : Nat} {a b : Int32} : upd (upd f k a) k b = upd f k b := by
  funext j
  by_cases h : j = k
  · rw [h, upd_s, upd_s]
  · rw [upd_n h, upd_n h, upd_n h]
theorem r_sub (s m : Int32) : 0 - s - m = 0 - (s + m) := by
  simp only [Int32.sub_eq_add_neg, Int32.neg_add, Int32.zero_add]
theorem r_0 : (0 : Int32) - nI 0 = nI 0 := by decide
theorem r_a0 (s : Int32) : s + nI 0 = s := Int32.add_zero s
/-- the reference's marks -/
theorem m_mark {p q n : Nat} (h0 : 0 < p) (hp : p < 626) (hq0 : 0 < q) (hq : q < 626) (hpn : szF p = n) (hqn : szF q = n) {all mk0 : Nat → Int32} {many : Int32} (hT : TBn n all many) : ∃ mk', it (fX7_mark_B61 all (nI n) (nI (dcF p)) many (nI (dcF q))) FU (nI 0, mk0) = some mk' ∧ ∀ j, j < cntF n → mk' j = mu p q (fstF n) j := by
  have hn0 : 0 < n := by have := (sz_pos hp h0).1; omega
  have hn7 : n < 8 := by have := sz_le hp; omega
  have hc := cnt_le n hn7
  refine it_inv (fun k x => x.1 = nI k ∧ ∀ j, j < k → x.2 j = mu p q (fstF n) j) _ (cntF n) (by omega) ⟨rfl, fun j hj => absurd hj (Nat.not_lt_zero _)⟩ ?_
  rintro k ⟨x1, m0⟩ hk ⟨e1, hall⟩
  have e1' : x1 = nI k := e1
  subst e1'
  have hall' : ∀ j, j < k → m0 j = mu p q (fstF n) j := hall
  unfold fX7_mark_B61
  rw [hT.1]
  rcases Nat.lt_or_ge k (cntF n) with hlt | hge
  · left
    obtain ⟨z0, z1, z2⟩ := pl_ok hn0 hn7 hlt
    have ha := hT.2 k hlt
    have hbz := dc_big z1
    have hbp := dc_big hp
    have fin : ∀ v, v = mu p q (fstF n) k → ∀ j, j < k + 1 → upd m0 k v j = mu p q (fstF n) j := fun v hv j hj => by
      rcases Nat.lt_or_ge j k with z | z
      · rw [upd_n (by omega)]
        exact hall' j z
      · rw [show j = k by omega, upd_s]
        exact hv
    by_cases hzp : fstF n + k = p
    · have hd : dcF (fstF n + k) = dcF p := by rw [hzp]
      refine ⟨(nI (k + 1), upd m0 k (nI 1)), ?_, hlt, rfl, fin _ ?_⟩
      · unfold fX7_mark_J95 fX7_mark_J190
        simp (disch := omega) only [Option.bind_some, Sum.elim_inl, Sum.elim_inr, q_le, q_nle, q_lt, q_nlt, q_eq, q_ne, q_m1, q_m5, rd_n, wr_n, ixo_n, dvo_n, rmo_n, nI_add, pk_sub, pk_mul, if_true, if_false, ha, hd]
      · rw [mu_eq, mval, if_pos hzp]
    · have hd : dcF (fstF n + k) ≠ dcF p := fun e => hzp (dc_inj z0 z1 h0 hp (by omega) e)
      have hb := m_isBetween hp z1 hq hpn z2 hqn
      cases hw : wiB p (fstF n + k) q <;> rw [hw] at hb
      · refine ⟨(nI (k + 1), upd m0 k (nI 0)), ?_, hlt, rfl, fin _ ?_⟩
        · unfold fX7_mark_J95 fX7_mark_J190
          simp (disch := omega) only [Option.bind_some, Sum.elim_inl, Sum.elim_inr, q_le, q_nle, q_lt, q_nlt, q_eq, q_ne, q_m1, q_m5, rd_n, wr_n, ixo_n, dvo_n, rmo_n, nI_add, pk_sub, pk_mul, if_true, if_false, ha, hb, q_bf]
        · rw [mu_eq, mval, if_neg hzp, hw]
          rfl
      · have inner : it (fX7_mark_B135 all (nI n) (nI (dcF p)) (nI (dcF q)) (nI k)) FU (nI 0, upd m0 k (nI 0)) = some (upd m0 k (0 - sumW p (fstF n) k m0 k)) := by
          refine it_go (fun w => (nI w, upd m0 k (0 - sumW p (fstF n) k m0 w))) k ?_ (by omega) ?_ ?_
          · show (nI 0, upd m0 k (0 - nI 0)) = _
            rw [r_0]
          · intro w hwk
            obtain ⟨w0, w1, w2⟩ := pl_ok hn0 hn7 (show w < cntF n by omega)
            have hbw := m_isBetween hp w1 z1 hpn w2 z2
            have haw := hT.2 w (by omega)
            unfold fX7_mark_B135 fX7_mark_J184
            rw [sumW]
            cases hww : wiB p (fstF n + w) (fstF n + k) <;> rw [hww] at hbw
            · simp (disch := omega) only [Option.bind_some, Sum.elim_inl, Sum.elim_inr, q_le, q_nle, q_lt, q_nlt, q_eq, q_ne, q_m1, q_m5, rd_n, wr_n, ixo_n, dvo_n, rmo_n, nI_add, pk_sub, pk_mul, if_true, if_false, ha, haw, hbw, q_bf, r_a0, Bool.false_eq_true]
            · simp (disch := omega) only [Option.bind_some, Sum.elim_inl, Sum.elim_inr, q_le, q_nle, q_lt, q_nlt, q_eq, q_ne, q_m1, q_m5, rd_n, wr_n, ixo_n, dvo_n, rmo_n, nI_add, pk_sub, pk_mul, if_true, if_false, ha, haw, hbw, q_bt]
              rw [upd_s, upd_n (by omega), r_sub, upd_u]
          · unfold fX7_mark_B135
            simp (disch := omega) only [Option.bind_some, Sum.elim_inl, Sum.elim_inr, q_le, q_nle, q_lt, q_nlt, q_eq, q_ne, q_m1, q_m5, rd_n, wr_n, ixo_n, dvo_n, rmo_n, nI_add, pk_sub, pk_mul, if_true, if_false]
        refine ⟨(nI (k + 1), upd m0 k (0 - sumW p (fstF n) k m0 k)), ?_, hlt, rfl, fin _ ?_⟩
        · unfold fX7_mark_J95 fX7_mark_J190
          simp (disch := omega) only [Option.bind_some, Sum.elim_inl, Sum.elim_inr, q_le, q_nle, q_lt, q_nlt, q_eq, q_ne, q_m1, q_m5, rd_n, wr_n, ixo_n, dvo_n, rmo_n, nI_add, pk_sub, pk_mul, if_true, if_false, ha, hb, q_bt, inner]
        · rw [mu_eq, mval, if_neg hzp, hw, sumW_c k hall']
          rfl
  · right
    have ek : k = cntF n := by omega
    subst ek
    refine ⟨m0, ?_, hall'⟩
    simp (disch := omega) only [Option.bind_some, Sum.elim_inl, Sum.elim_inr, q_le, q_nle, q_lt, q_nlt, q_eq, q_ne, q_m1, q_m5, rd_n, wr_n, ixo_n, dvo_n, rmo_n, nI_add, pk_sub, pk_mul, if_true, if_false]
/-! the class's marks -/
def sumE (e : Nat → Nat) (mk : Nat → Int32) (z : Nat) : Nat → Int32
  | 0 => nI 0
  | i + 1 => sumE e mk z i + (if belB (e i) z then mk i else nI 0)
def sumQ (p q f z : Nat) (M : Nat → Int32) : Nat → Int32
  | 0 => nI 0
  | w + 1 => sumQ p q f z M w + (if wiB p (f + w) q && belB (f + w) z then M w else nI 0)
theorem sumE_c {e e' : Nat → Nat} {mk mk' : Nat → Int32} {z : Nat} : ∀ h, (∀ i, i < h → e i = e' i ∧ mk i = mk' i) → sumE e mk z h = sumE e' mk' z h
  | 0, _ => rfl
  | h + 1, H => by rw [sumE, sumE, sumE_c h (fun i hi => H i (by omega)), (H h (by omega)).1, (H h (by omega)).2]
theorem sumQ_0 {p q f z : Nat} {M : Nat → Int32} : ∀ x, (∀ w, w < x → wiB p (f + w) q = false) → sumQ p q f z M x = nI 0
  | 0, _ => rfl
  | x + 1, h => by
    rw [sumQ, sumQ_0 x (fun w hw => h w (by omega)), h x (by omega)]
    rfl
theorem c_sumBelow {n z h : Nat} {mc mk : Nat → Int32} {e : Nat → Nat} (hz : z < 626) (hzn : szF z = n) (hh : h ≤ 429) (he : ∀ i, i < h → e i < 626 ∧ szF (e i) = n ∧ mc i = nI (cdF (e i))) : fX2_sumBelow mc mk (nI (cdF z)) (nI h) = some (sumE e mk z h) := by
  have key : it (fX2_sumBelow_B5 mc mk (nI (cdF z)) (nI h)) FU (nI 0, nI 0) = some (sumE e mk z h) := by
    refine it_go (fun i => (sumE e mk z i, nI i)) h rfl (by omega) ?_ ?_
    · intro i hi
      obtain ⟨e1, e2, e3⟩ := he i hi
      have hb := c_noMore e1 hz (by omega)
      unfold fX2_sumBelow_B5 fX2_sumBelow_J43
      rw [sumE]
      cases hw : belB (e i) z <;> rw [hw] at hb <;> simp (disch := omega) only [Option.bind_some, Sum.elim_inl, Sum.elim_inr, q_le, q_nle, q_lt, q_nlt, q_eq, q_ne, q_m1, q_m5, rd_n, wr_n, ixo_n, dvo_n, rmo_n, nI_add, pk_sub, pk_mul, if_true, if_false, e3, hb, q_bt, q_bf, r_a0, Bool.false_eq_true]
    · unfold fX2_sumBelow_B5
      simp (disch := omega) only [Option.bind_some, Sum.elim_inl, Sum.elim_inr, q_le, q_nle, q_lt, q_nlt, q_eq, q_ne, q_m1, q_m5, rd_n, wr_n, ixo_n, dvo_n, rmo_n, nI_add, pk_sub, pk_mul, if_true, if_false]
  unfold fX2_sumBelow
  rw [key]
  rfl
theorem sumQW {p q n x : Nat} (h0 : 0 < p) (hp : p < 626) (hpn : szF p = n) (hx : x < cntF n) (hw : wiB p (fstF n + x) q = true) {M : Nat → Int32} : ∀ w, w ≤ x → sumQ p q (fstF n) (fstF n + x) M w = sumW p (fstF n) x M w
  | 0, _ => rfl
  | w + 1, h => by
    have hn0 : 0 < n := by have := (sz_pos hp h0).1; omega
    have hn7 : n < 8 := by have := sz_le hp; omega
    obtain ⟨w0, w1, w2⟩ := pl_ok hn0 hn7 (show w < cntF n by omega)
    obtain ⟨z0, z1, z2⟩ := pl_ok hn0 hn7 hx
    rw [sumQ, sumW, sumQW h0 hp hpn hx hw w (by omega)]
    have e : (wiB p (fstF n + w) q && belB (fstF n + w) (fstF n + x)) = wiB p (fstF n + w) (fstF n + x) := by
      unfold wiB at *
      cases h1 : belB (fstF n + w) (fstF n + x) with
      | false => simp
      | true =>
        simp only [Bool.and_eq_true] at hw
        rw [bel_tr (by omega) h1 hw.2]
        cases belB p (fstF n + w) <;> rfl
    rw [e]
theorem c_mark {p q n : Nat} (h0 : 0 < p) (hp : p < 626) (hq0 : 0 < q) (hq : q < 626) (hpn : szF p = n) (hqn : szF q = n) (hb : belB p q = true) (mc0 mk0 : Nat → Int32) : ∃ mc mk, fX2_markOf cF mc0 mk0 (nI p) (nI q) = some (mu p q (fstF n) (q - fstF n), mc, mk) := by
  have hn0 : 0 < n := by have := (sz_pos hp h0).1; omega
  have hn7 : n < 8 := by have := sz_le hp; omega
  have hc := cnt_le n hn7
  have b1 := q_bl h0 hp (hpn.trans hqn.symm)
  have b2 := q_bl hq0 hq rfl
  rw [hqn] at b1 b2
  have hpq := bel_le h0 hp hq0 hq (by omega) hb
  obtain ⟨y, hy, hQ⟩ : ∃ y, it (fX2_markOf_B28 cF (nI p) (nI q) (nI (cdF p)) (nI (cdF q))) FU (nI 0, nI 0, nI p, mc0, mk0) = some y ∧ y.1 = mu p q (fstF n) (q - fstF n) := by
    refine it_inv (fun j x => ∃ h v mc mk e, x = (nI h, v, nI (p + j), mc, mk) ∧ h ≤ j ∧ (p + j = q + 1 → v = mu p q (fstF n) (q - fstF n)) ∧ (∀ i, i < h → e i < 626 ∧ szF (e i) = n ∧ mc i = nI (cdF (e i))) ∧ ∀ z, sumE e mk z h = sumQ p q (fstF n) z (mu p q (fstF n)) (p - fstF n + j)) _ (q + 1 - p) (by omega) ⟨0, nI 0, mc0, mk0, fun _ => 0, rfl, Nat.le_refl _, fun h => by omega, fun i hi => absurd hi (Nat.not_lt_zero _), fun z => ?_⟩ ?_
    · symm
      apply sumQ_0
      intro w hw
      obtain ⟨w0, w1, w2⟩ := pl_ok hn0 hn7 (show w < cntF n by omega)
      exact wi_out h0 hp hq0 hq hpn hqn w0 w1 w2 (by omega)
    rintro j x hj ⟨h, v, mc, mk, e, rfl, hh, hv, he, hs⟩
    unfold fX2_markOf_B28
    rcases Nat.lt_or_ge j (q + 1 - p) with hlt | hge
    · left
      obtain ⟨z0, z1, z2⟩ := pl_bt hp h0 hq hq0 hpn hqn (show p + j ≤ q by omega)
      have hw0 := c_isWithin hp z1 hq (by omega) (by omega)
      have ez : fstF n + (p - fstF n + j) = p + j := by omega
      cases hw : wiB p (p + j) q <;> rw [hw] at hw0
      · refine ⟨(nI h, v, nI (p + (j + 1)), mc, mk), ?_, hlt, h, v, mc, mk, e, rfl, by omega, fun hx => ?_, he, fun z => ?_⟩
        · unfold fX2_markOf_J114
          simp (disch := omega) only [Option.bind_some, Sum.elim_inl, Sum.elim_inr, q_le, q_nle, q_lt, q_nlt, q_eq, q_ne, q_m1, q_m5, rd_n, wr_n, ixo_n, dvo_n, rmo_n, nI_add, pk_sub, pk_mul, if_true, if_false, c_codeOf z1, hw0, q_bf]
          rfl
        · have eq : p + j = q := by omega
          rw [eq] at hw
          unfold wiB at hw
          rw [hb, bel_rf] at hw
          cases hw
        · rw [hs z, show p - fstF n + (j + 1) = p - fstF n + j + 1 by omega, sumQ, ez, hw]
          exact (r_a0 _).symm
      · have hmu : mu p q (fstF n) (p - fstF n + j) = if p + j = p then nI 1 else 0 - sumE e mk (p + j) h := by
          rw [mu_eq, mval, ez, hs (p + j), hw]
          by_cases hj0 : p + j = p
          · rw [if_pos hj0, if_pos hj0]
          · rw [if_neg hj0, if_neg hj0, if_pos rfl]
            have := sumQW h0 hp hpn (show p - fstF n + j < cntF n by omega) (by rw [ez]; exact hw) (M := mu p q (fstF n)) (p - fstF n + j) (Nat.le_refl _)
            rw [ez] at this
            rw [this]
        have hstep : fX2_markOf_J78 cF mc mk (nI p) (nI q) (nI (cdF p)) (nI (cdF q)) (nI h) (nI (p + j)) (nI (cdF (p + j))) (mu p q (fstF n) (p - fstF n + j)) = (if v2 : mu p q (fstF n) (p - fstF n + j) = nI 0 then some (.inl (nI h, mu p q (fstF n) (p - fstF n + j), nI (p + (j + 1)), mc, mk)) else some (.inl (nI (h + 1), mu p q (fstF n) (p - fstF n + j), nI (p + (j + 1)), upd mc h (nI (cdF (p + j))), upd mk h (mu p q (fstF n) (p - fstF n + j))))) := by
          unfold fX2_markOf_J78 fX2_markOf_J114
          by_cases hm : mu p q (fstF n) (p - fstF n + j) = nI 0
          · rw [if_pos hm, dif_pos hm, nI_add]
            rfl
          · rw [if_neg hm, dif_neg hm]
            simp (disch := omega) only [Option.bind_some, Sum.elim_inl, Sum.elim_inr, q_le, q_nle, q_lt, q_nlt, q_eq, q_ne, q_m1, q_m5, rd_n, wr_n, ixo_n, dvo_n, rmo_n, nI_add, pk_sub, pk_mul, if_true, if_false]
            rfl
        have hgo : (if nI q < nI (p + j) then some (.inr (v, mc, mk)) else (fX0_codeOf cF (nI (p + j))).bind fun r1 => (fX2_isWithin (nI (cdF p)) r1 (nI (cdF q))).bind fun r2 => if r2 = nI 0 then fX2_markOf_J114 cF mc mk (nI p) (nI q) (nI (cdF p)) (nI (cdF q)) (nI h) v (nI (p + j)) else if nI (p + j) = nI p then fX2_markOf_J78 cF mc mk (nI p) (nI q) (nI (cdF p)) (nI (cdF q)) (nI h) (nI (p + j)) r1 (nI 1) else (fX2_sumBelow mc mk r1 (nI h)).bind fun r3 => fX2_markOf_J78 cF mc mk (nI p) (nI q) (nI (cdF p)) (nI (cdF q)) (nI h) (nI (p + j)) r1 (0 - r3)) = fX2_markOf_J78 cF mc mk (nI p) (nI q) (nI (cdF p)) (nI (cdF q)) (nI h) (nI (p + j)) (nI (cdF (p + j))) (mu p q (fstF n) (p - fstF n + j)) := by
          rw [hmu]
          by_cases hj0 : p + j = p
          · rw [if_pos hj0]
            simp (disch := omega) only [Option.bind_some, Sum.elim_inl, Sum.elim_inr, q_le, q_nle, q_lt, q_nlt, q_eq, q_ne, q_m1, q_m5, rd_n, wr_n, ixo_n, dvo_n, rmo_n, nI_add, pk_sub, pk_mul, if_true, if_false, c_codeOf z1, hw0, q_bt]
          · rw [if_neg hj0]
            simp (disch := omega) only [Option.bind_some, Sum.elim_inl, Sum.elim_inr, q_le, q_nle, q_lt, q_nlt, q_eq, q_ne, q_m1, q_m5, rd_n, wr_n, ixo_n, dvo_n, rmo_n, nI_add, pk_sub, pk_mul, if_true, if_false, c_codeOf z1, hw0, q_bt, c_sumBelow z1 z2 (show h ≤ 429 by omega) he]
        by_cases hm : mu p q (fstF n) (p - fstF n + j) = nI 0
        · refine ⟨(nI h, mu p q (fstF n) (p - fstF n + j), nI (p + (j + 1)), mc, mk), ?_, hlt, h, _, mc, mk, e, rfl, by omega, fun hx => ?_, he, fun z => ?_⟩
          · exact hgo.trans (hstep.trans (dif_pos hm))
          · rw [show p - fstF n + j = q - fstF n by omega]
          · rw [hs z, show p - fstF n + (j + 1) = p - fstF n + j + 1 by omega, sumQ, hm]
            split <;> exact (r_a0 _).symm
        · refine ⟨(nI (h + 1), mu p q (fstF n) (p - fstF n + j), nI (p + (j + 1)), upd mc h (nI (cdF (p + j))), upd mk h (mu p q (fstF n) (p - fstF n + j))), ?_, hlt, h + 1, _, _, _, fun i => if i = h then p + j else e i, rfl, by omega, fun hx => ?_, fun i hi => ?_, fun z => ?_⟩
          · exact hgo.trans (hstep.trans (dif_neg hm))
          · rw [show p - fstF n + j = q - fstF n by omega]
          · by_cases hih : i = h
            · subst hih
              dsimp only
              rw [upd_s, if_pos rfl]
              exact ⟨z1, z2, rfl⟩
            · dsimp only
              rw [upd_n hih, if_neg hih]
              exact he i (by omega)
          · rw [sumE, upd_s, if_pos rfl, show p - fstF n + (j + 1) = p - fstF n + j + 1 by omega, sumQ, ez, hw, ← hs z]
            congr 1
            apply sumE_c
            intro i hi
            rw [if_neg (by omega), upd_n (by omega)]
            exact ⟨rfl, rfl⟩
    · right
      refine ⟨(v, mc, mk), ?_, hv (by omega)⟩
      simp (disch := omega) only [Option.bind_some, Sum.elim_inl, Sum.elim_inr, q_le, q_nle, q_lt, q_nlt, q_eq, q_ne, q_m1, q_m5, rd_n, wr_n, ixo_n, dvo_n, rmo_n, nI_add, pk_sub, pk_mul, if_true, if_false]
  refine ⟨y.2.1, y.2.2, ?_⟩
  unfold fX2_markOf
  rw [c_codeOf hp, c_codeOf hq, Option.bind_some, Option.bind_some, hy, Option.bind_some, hQ]
