/-! the class's search is that search -/
theorem oI_n {m : Nat} (h : m < 2147483648) : ¬ oI (some m) = (-1 : Int32) := nI_nm1 h
def CS (n : Nat) (t q : Nat → Int32) (h : Int32) (s : (Nat → Option Nat) × (Nat → Nat) × Nat) : Prop := h = nI s.2.2 ∧ (∀ k, k < cntF n → t (fstF n + k) = oI (s.1 k)) ∧ (∀ z, z < 626 → (z < fstF n ∨ fstF n + cntF n ≤ z) → t z = (-1 : Int32)) ∧ ∀ j, j < s.2.2 → q j = nI (fstF n + s.2.1 j)
theorem c_reach {full : Bool} {n a i w m v : Nat} {s : (Nat → Option Nat) × (Nat → Nat) × Nat} {t q : Nat → Int32} {h : Int32} (h0 : 0 < n) (h7 : n < 8) (H : BI full n a s.1 s.2.1 s.2.2) (H7 : BI7 s.1 s.2.1 s.2.2 i) (hv : s.2.1 i = v) (hm : s.1 v = some m) (hw : w = 0 ∨ nbr full n v w) (C : CS n t q h s) : ∃ t' q' h', fX5_reach t q h (nI w) (nI (m + 1)) = some (t', q', h') ∧ CS n t' q' h' (vis (fstF n) v w s) := by
  subst hv
  have hc := cnt_le n h7
  have hf := fst_lt n h7
  have V := vis_ok h0 h7 H H7 hw
  obtain ⟨C1, C2, C3, C4⟩ := C
  have hb1 := H.b1
  unfold fX5_reach
  by_cases hw0 : w = 0
  · refine ⟨t, q, h, ?_, ?_⟩
    · rw [hw0, c_isT0]
      simp (disch := omega) only [Option.bind_some, Sum.elim_inl, Sum.elim_inr, q_le, q_nle, q_lt, q_nlt, q_eq, q_ne, q_m1, q_m5, rd_n, wr_n, ixo_n, dvo_n, rmo_n, nI_add, pk_sub, pk_mul, if_true, if_false]
    · rw [show vis (fstF n) (s.2.1 i) w s = s from if_pos hw0]
      exact ⟨C1, C2, C3, C4⟩
  · obtain ⟨x, hx, rfl, w1, w2, w3⟩ := nb_ok h0 h7 (H.b2 i H7.1).1 (hw.resolve_left hw0) hw0
    have ex : fstF n + x - fstF n = x := by omega
    have et := C2 x hx
    have hT := c_isT w1 w2
    by_cases hD : s.1 x = none
    · have hh : s.2.2 < cntF n := (V.2.2.2.2 hw0 (by rw [ex]; exact hD)).1
      rw [hD] at et
      have et' : t (fstF n + x) = (-1 : Int32) := et
      refine ⟨upd t (fstF n + x) (nI (m + 1)), upd q s.2.2 (nI (fstF n + x)), nI (s.2.2 + 1), ?_, ?_⟩
      · rw [C1]
        simp (disch := omega) only [Option.bind_some, Sum.elim_inl, Sum.elim_inr, q_le, q_nle, q_lt, q_nlt, q_eq, q_ne, q_m1, q_m5, rd_n, wr_n, ixo_n, dvo_n, rmo_n, nI_add, pk_sub, pk_mul, if_true, if_false, hT, et']
      · have ev : vis (fstF n) (s.2.1 i) (fstF n + x) s = (updO s.1 x (some (m + 1)), updN s.2.1 s.2.2 x, s.2.2 + 1) := by
          unfold vis
          rw [if_neg hw0, ex, if_pos hD, hm]
          rfl
        rw [ev]
        refine ⟨rfl, fun k hk => ?_, fun z hz hz2 => ?_, fun j hj => ?_⟩
        · dsimp only
          by_cases e : k = x
          · rw [e, upd_s, uo_s]
            rfl
          · rw [upd_n (by omega), uo_n e]
            exact C2 k hk
        · rw [upd_n (by omega)]
          exact C3 z hz hz2
        · dsimp only at hj ⊢
          by_cases e : j = s.2.2
          · rw [e, upd_s, un_s]
          · rw [upd_n e, un_n e]
            exact C4 j (by omega)
    · cases hDx : s.1 x with
      | none => exact absurd hDx hD
      | some l =>
        obtain ⟨j, hj, hq⟩ := H.b3 x hx l hDx
        obtain ⟨_, l', hl', hDl⟩ := H.b2 j hj
        rw [hq, hDx] at hDl
        have el := Option.some.inj hDl
        rw [hDx] at et
        have et' : t (fstF n + x) = nI l := et
        refine ⟨t, q, h, ?_, ?_⟩
        · simp (disch := omega) only [Option.bind_some, Sum.elim_inl, Sum.elim_inr, q_le, q_nle, q_lt, q_nlt, q_eq, q_ne, q_m1, q_m5, rd_n, wr_n, ixo_n, dvo_n, rmo_n, nI_add, pk_sub, pk_mul, if_true, if_false, hT, et']
        · have ev : vis (fstF n) (s.2.1 i) (fstF n + x) s = s := by
            unfold vis
            rw [if_neg hw0, ex, if_neg hD]
          rw [ev]
          exact ⟨C1, C2, C3, C4⟩
theorem c_meas_in {n a i v c : Nat} {s : (Nat → Option Nat) × (Nat → Nat) × Nat} {u b t q : Nat → Int32} {h v1 v3 : Int32} (h0 : 0 < n) (h7 : n < 8) (hW : WYn n u b) (H : BI true n a s.1 s.2.1 s.2.2) (H7 : BI7 s.1 s.2.1 s.2.2 i) (hv : s.2.1 i = v) (hcn : c < n) (C : CS n t q h s) : ∃ t' q' h', fX5_measure_B77 u b v1 (nI n) v3 (nI (fstF n + v)) (nI c, t, q, h) = some (.inl (nI (c + 1), t', q', h')) ∧ CS n t' q' h' (vis2 true (fstF n) v c s) := by
  have hc := cnt_le n h7
  have hf := fst_lt n h7
  obtain ⟨hvc, m, hmi, hm⟩ := H.b2 i H7.1
  rw [hv] at hvc hm
  obtain ⟨z0, z1, z2⟩ := pl_ok h0 h7 hvc
  obtain ⟨w1, w2⟩ := hW _ c z0 z1 z2 hcn
  have hb1 := H.b1
  have hi := H7.1
  have V := vis_ok (w := upF (fstF n + v) c) h0 h7 H H7 (Or.inr ⟨c, hcn, Or.inl (by rw [hv])⟩)
  rw [hv] at V
  obtain ⟨V1, V2, V3, V4, -⟩ := V
  have et : t (fstF n + v) = nI m := by rw [C.2.1 v hvc, hm]; rfl
  obtain ⟨t1, q1, h1, e1, C1⟩ := c_reach h0 h7 H H7 hv hm (Or.inr ⟨c, hcn, Or.inl rfl⟩) C (w := upF (fstF n + v) c)
  have hm1 := V3.1 v m hm
  have et1 : t1 (fstF n + v) = nI m := by rw [C1.2.1 v hvc, hm1]; rfl
  obtain ⟨t2, q2, h2, e2, C2⟩ := c_reach h0 h7 V1 V2 ((V3.2.1 i H7.1).trans hv) hm1 (Or.inr ⟨c, hcn, Or.inr ⟨rfl, rfl⟩⟩) C1 (w := bkF (fstF n + v) c)
  refine ⟨t2, q2, h2, ?_, C2⟩
  unfold fX5_measure_B77
  simp (disch := omega) only [Option.bind_some, Sum.elim_inl, Sum.elim_inr, q_le, q_nle, q_lt, q_nlt, q_eq, q_ne, q_m1, q_m5, rd_n, wr_n, ixo_n, dvo_n, rmo_n, nI_add, pk_sub, pk_mul, if_true, if_false, c_tp, w1, w2, et, e1, et1, e2]
/-- the class's measure, made anew -/
theorem c_meas_run {n a : Nat} {u b t q : Nat → Int32} {h v1 : Int32} (h0 : 0 < n) (h7 : n < 8) (ha : a < cntF n) (hW : WYn n u b) (C : CS n t q h (bf true n a 0)) : ∃ t' q' h' i, it (fX5_measure_B51 u b v1 (nI n)) FU (nI 0, t, q, h) = some (t', q', h') ∧ BFE true n a i ∧ CS n t' q' h' (bf true n a i) := by
  have hc := cnt_le n h7
  obtain ⟨y, hy, i, hi, hC⟩ : ∃ y, it (fX5_measure_B51 u b v1 (nI n)) FU (nI 0, t, q, h) = some y ∧ ∃ i, BFE true n a i ∧ CS n y.1 y.2.1 y.2.2 (bf true n a i) := by
    refine it_inv (fun i x => ∃ t' q' h', x = (nI i, t', q', h') ∧ (∀ j, j < i → j < (bf true n a j).2.2) ∧ CS n t' q' h' (bf true n a i)) _ (cntF n) (by omega) ⟨t, q, h, rfl, fun j hj => absurd hj (Nat.not_lt_zero _), C⟩ ?_
    rintro i x hi ⟨t', q', h', rfl, hall, C'⟩
    obtain ⟨A1, A2, A3, A4⟩ := bf_ok h0 h7 ha i hall
    have hb1 := A1.b1
    have eh := C'.1
    unfold fX5_measure_B51
    rcases Nat.lt_or_ge i (bf true n a i).2.2 with hlt | hge
    · left
      have eq := C'.2.2.2 i hlt
      obtain ⟨y2, hy2, hC2⟩ : ∃ y2, it (fX5_measure_B77 u b v1 (nI n) (nI i) (nI (fstF n + (bf true n a i).2.1 i))) FU (nI 0, t', q', h') = some y2 ∧ CS n y2.1 y2.2.1 y2.2.2 (bf true n a (i + 1)) := by
        refine it_inv (fun c x => ∃ t2 q2 h2, x = (nI c, t2, q2, h2) ∧ CS n t2 q2 h2 (visN true (fstF n) ((bf true n a i).2.1 i) (bf true n a i) c)) _ n (by omega) ⟨t', q', h', rfl, C'⟩ ?_
        rintro c x hcn ⟨t2, q2, h2, rfl, CC⟩
        rcases Nat.lt_or_ge c n with hl | hg
        · left
          obtain ⟨B1, B2, B3, B4⟩ := visN_ok h0 h7 A1 (A2 hlt) rfl c (by omega)
          obtain ⟨t3, q3, h3, e3, C3⟩ := c_meas_in (v1 := v1) (v3 := nI i) h0 h7 hW B1 B2 (B3.2.1 i hlt) hl CC
          exact ⟨_, e3, hl, t3, q3, h3, rfl, C3⟩
        · right
          have ec : c = n := by omega
          subst ec
          refine ⟨(t2, q2, h2), ?_, CC⟩
          unfold fX5_measure_B77
          simp (disch := omega) only [Option.bind_some, Sum.elim_inl, Sum.elim_inr, q_le, q_nle, q_lt, q_nlt, q_eq, q_ne, q_m1, q_m5, rd_n, wr_n, ixo_n, dvo_n, rmo_n, nI_add, pk_sub, pk_mul, if_true, if_false]
      refine ⟨(nI (i + 1), y2.1, y2.2.1, y2.2.2), ?_, by omega, y2.1, y2.2.1, y2.2.2, rfl, fun j hj => ?_, hC2⟩
      · rw [eh]
        rw [eh] at hy2
        simp (disch := omega) only [Option.bind_some, Sum.elim_inl, Sum.elim_inr, q_le, q_nle, q_lt, q_nlt, q_eq, q_ne, q_m1, q_m5, rd_n, wr_n, ixo_n, dvo_n, rmo_n, nI_add, pk_sub, pk_mul, if_true, if_false, eq, hy2]
      · rcases Nat.lt_or_ge j i with z | z
        · exact hall j z
        · rw [show j = i by omega]
          exact hlt
    · right
      refine ⟨(t', q', h'), ?_, i, ⟨hall, hge⟩, C'⟩
      rw [eh]
      simp (disch := omega) only [Option.bind_some, Sum.elim_inl, Sum.elim_inr, q_le, q_nle, q_lt, q_nlt, q_eq, q_ne, q_m1, q_m5, rd_n, wr_n, ixo_n, dvo_n, rmo_n, nI_add, pk_sub, pk_mul, if_true, if_false]
  exact ⟨y.1, y.2.1, y.2.2, i, hy, hi, hC⟩
/-- what is kept of the last measure -/
def MSD (l t : Nat → Int32) (ms : Int32) : Prop := ms = nI 0 ∨ ∃ p i, 0 < p ∧ p < 626 ∧ ms = nI p ∧ l (szF p) = nI 1 ∧ BFE true (szF p) (p - fstF (szF p)) i ∧ (∀ k, k < cntF (szF p) → t (fstF (szF p) + k) = oI ((bf true (szF p) (p - fstF (szF p)) i).1 k)) ∧ ∀ z, z < 626 → (z < fstF (szF p) ∨ fstF (szF p) + cntF (szF p) ≤ z) → t z = (-1 : Int32)
theorem c_measure {p : Nat} {u b l t q : Nat → Int32} {h ms : Int32} (h0 : 0 < p) (hp : p < 626) (HW : WYS u b l) (HM : MSD l t ms) : ∃ u' b' l' t' q' h' i, fX5_measure cF sF u b l t q h ms (nI p) = some (u', b', l', t', q', h', nI p) ∧ WYS u' b' l' ∧ MSD l' t' (nI p) ∧ WYn (szF p) u' b' ∧ BFE true (szF p) (p - fstF (szF p)) i ∧ (∀ k, k < cntF (szF p) → t' (fstF (szF p) + k) = oI ((bf true (szF p) (p - fstF (szF p)) i).1 k)) ∧ ∀ z, z < 626 → (z < fstF (szF p) ∨ fstF (szF p) + cntF (szF p) ≤ z) → t' z = (-1 : Int32) := by
  have hs := sz_pos hp h0
  have h7 := sz_le hp
  unfold fX5_measure
  by_cases hm : nI p = ms
  · refine ⟨u, b, l, t, q, h, ?_⟩
    rw [if_pos hm, ← hm]
    rcases HM with e | ⟨p', i, p0, p1, e, hl, hi, h1, h2⟩
    · rw [← hm] at e
      have := (nI_eq (by omega) (by omega)).mp e
      omega
    · rw [← hm] at e
      have ep := (nI_eq (by omega) (by omega)).mp e
      subst ep
      refine ⟨i, rfl, HW, Or.inr ⟨p, i, p0, p1, rfl, hl, hi, h1, h2⟩, ?_, hi, h1, h2⟩
      rcases HW _ hs.1 (by omega) with ⟨g, _⟩ | ⟨_, g⟩
      · rw [hl] at g
        exact absurd g (by decide)
      · exact g
  · obtain ⟨u', b', l', e1, HW', hWn, hl1, -⟩ := c_learn hs.1 (by omega) HW
    have hpx := pl_ix h0 hp
    have hC : CS (szF p) (upd (fillF 626 (-1 : Int32) t) p (nI 0)) (upd q 0 (nI p)) (nI 1) (bf true (szF p) (p - fstF (szF p)) 0) := by
      have ff : ∀ z, z < 626 → fillF 626 (-1 : Int32) t z = (-1 : Int32) := fun z hz => by
        unfold fillF
        exact if_pos hz
      refine ⟨rfl, fun k hk => ?_, fun z hz hz2 => ?_, fun j hj => ?_⟩
      · show _ = oI (updO (fun _ => none) (p - fstF (szF p)) (some 0) k)
        by_cases e : k = p - fstF (szF p)
        · rw [e, hpx.2, upd_s, uo_s]
          rfl
        · have hk2 := pl_ok hs.1 (by omega) hk
          rw [upd_n (by omega), uo_n e, ff _ hk2.2.1]
          rfl
      · rw [upd_n (by omega), ff z hz]
      · show upd q 0 (nI p) j = nI (fstF (szF p) + (p - fstF (szF p)))
        have ej : j = 0 := Nat.lt_one_iff.mp hj
        rw [ej, upd_s, hpx.2]
    obtain ⟨t', q', h', i, e2, hi, hC'⟩ := c_meas_run (v1 := nI p) hs.1 (by omega) hpx.1 hWn hC
    have e3 : fX5_reach (fillF 626 (-1 : Int32) t) q (nI 0) (nI p) (nI 0) = some (upd (fillF 626 (-1 : Int32) t) p (nI 0), upd q 0 (nI p), nI 1) := by
      have ff : fillF 626 (-1 : Int32) t p = (-1 : Int32) := by
        unfold fillF
        exact if_pos hp
      unfold fX5_reach
      simp (disch := omega) only [Option.bind_some, Sum.elim_inl, Sum.elim_inr, q_le, q_nle, q_lt, q_nlt, q_eq, q_ne, q_m1, q_m5, rd_n, wr_n, ixo_n, dvo_n, rmo_n, nI_add, pk_sub, pk_mul, if_true, if_false, c_isT h0 hp, ff]
    refine ⟨u', b', l', t', q', h', i, ?_, HW', Or.inr ⟨p, i, h0, hp, rfl, hl1, hi, hC'.2.1, hC'.2.2.1⟩, hWn, hi, hC'.2.1, hC'.2.2.1⟩
    rw [if_neg hm]
    simp (disch := omega) only [Option.bind_some, Sum.elim_inl, Sum.elim_inr, q_le, q_nle, q_lt, q_nlt, q_eq, q_ne, q_m1, q_m5, rd_n, wr_n, ixo_n, dvo_n, rmo_n, nI_add, pk_sub, pk_mul, if_true, if_false, c_isT h0 hp, c_sizeOf hp, e1, e3, e2]
