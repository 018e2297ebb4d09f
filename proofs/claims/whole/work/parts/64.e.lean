/-! the reference's search is that search too -/
def RS (n : Nat) (d q : Nat → Int32) (h : Int32) (s : (Nat → Option Nat) × (Nat → Nat) × Nat) : Prop := h = nI s.2.2 ∧ (∀ k, k < cntF n → d k = oI (s.1 k)) ∧ ∀ j, j < s.2.2 → q j = nI (s.2.1 j)
theorem tb_ok {n : Nat} {all : Nat → Int32} {many : Int32} (h0 : 0 < n) (h7 : n < 8) (hT : TBn n all many) : TBok all many (nI n) := Or.inr ⟨n, h0, h7, rfl, hT⟩
theorem m_num {n x : Nat} {all : Nat → Int32} {many : Int32} (h0 : 0 < n) (h7 : n < 8) (hx : x < cntF n) (hT : TBn n all many) : ∃ all' many', fX7_numberOf all many (nI n) (nI (dcF (fstF n + x))) (nI n) = some (nI x, all', many', nI n) ∧ TBn n all' many' := by
  obtain ⟨z0, z1, z2⟩ := pl_ok h0 h7 hx
  obtain ⟨a1, m1, e1, h1⟩ := m_numberOf z0 z1 (tb_ok h0 h7 hT)
  rw [z2, show fstF n + x - fstF n = x by omega] at e1
  rw [z2] at h1
  exact ⟨a1, m1, e1, h1⟩
theorem gt_0 : gtI 0 = (-5 : Int32) := rfl
theorem gt_n {w : Nat} (h : w ≠ 0) : gtI w = nI (dcF w) := if_neg h
theorem m_148 {full : Bool} {n a i w v : Nat} {s : (Nat → Option Nat) × (Nat → Nat) × Nat} {all P L R S A d q : Nat → Int32} {many h rdv v2 v5 v7 v8 : Int32} (h0 : 0 < n) (h7 : n < 8) (H : BI full n a s.1 s.2.1 s.2.2) (H7 : BI7 s.1 s.2.1 s.2.2 i) (hv : s.2.1 i = v) (hw : w = 0 ∨ nbr full n v w) (hT : TBn n all many) (C : RS n d q h s) : ∃ all' many' d' q' h', fX7_measure_J148 all P L R S A d q (nI n) many (nI n) rdv v2 h v5 (nI v) v7 v8 (gtI w) = some (.inl (h', v8 + nI 1, all', P, L, R, S, A, d', q', many', nI n, rdv)) ∧ TBn n all' many' ∧ RS n d' q' h' (vis (fstF n) v w s) := by
  subst hv
  have hc := cnt_le n h7
  have hf := fst_lt n h7
  have V := vis_ok h0 h7 H H7 hw
  obtain ⟨C1, C2, C3⟩ := C
  have hb1 := H.b1
  obtain ⟨hvc, m, hmi, hm⟩ := H.b2 i H7.1
  have hi := H7.1
  unfold fX7_measure_J148
  by_cases hw0 : w = 0
  · refine ⟨all, many, d, q, h, ?_, hT, ?_⟩
    · rw [hw0, gt_0, if_pos rfl]
      unfold fX7_measure_J171 fX7_measure_J221
      rw [if_pos rfl]
    · rw [show vis (fstF n) (s.2.1 i) w s = s from if_pos hw0]
      exact ⟨C1, C2, C3⟩
  · obtain ⟨x, hx, rfl, w1, w2, w3⟩ := nb_ok h0 h7 hvc (hw.resolve_left hw0) hw0
    have ex : fstF n + x - fstF n = x := by omega
    have et := C2 x hx
    have ev : d (s.2.1 i) = nI m := by rw [C2 _ hvc, hm]; rfl
    have hdb := dc_big w2
    obtain ⟨all', many', en, hT'⟩ := m_num h0 h7 hx hT
    rw [gt_n hw0]
    by_cases hD : s.1 x = none
    · have hh : s.2.2 < cntF n := (V.2.2.2.2 hw0 (by rw [ex]; exact hD)).1
      rw [hD] at et
      have et' : d x = (-1 : Int32) := et
      refine ⟨all', many', upd d x (nI (m + 1)), upd q s.2.2 (nI x), nI (s.2.2 + 1), ?_, hT', ?_⟩
      · unfold fX7_measure_J171 fX7_measure_J221
        rw [C1]
        simp (disch := omega) only [Option.bind_some, Sum.elim_inl, Sum.elim_inr, q_le, q_nle, q_lt, q_nlt, q_eq, q_ne, q_m1, q_m5, rd_n, wr_n, ixo_n, dvo_n, rmo_n, nI_add, pk_sub, pk_mul, if_true, if_false, en, et', ev]
      · have evs : vis (fstF n) (s.2.1 i) (fstF n + x) s = (updO s.1 x (some (m + 1)), updN s.2.1 s.2.2 x, s.2.2 + 1) := by
          unfold vis
          rw [if_neg hw0, ex, if_pos hD, hm]
          rfl
        rw [evs]
        refine ⟨rfl, fun k hk => ?_, fun j hj => ?_⟩
        · dsimp only
          by_cases e : k = x
          · rw [e, upd_s, uo_s]
            rfl
          · rw [upd_n e, uo_n e]
            exact C2 k hk
        · dsimp only at hj ⊢
          by_cases e : j = s.2.2
          · rw [e, upd_s, un_s]
          · rw [upd_n e, un_n e]
            exact C3 j (by omega)
    · cases hDx : s.1 x with
      | none => exact absurd hDx hD
      | some l =>
        obtain ⟨j, hj, hq⟩ := H.b3 x hx l hDx
        obtain ⟨_, l', hl', hDl⟩ := H.b2 j hj
        rw [hq, hDx] at hDl
        have el := Option.some.inj hDl
        rw [hDx] at et
        have et' : d x = nI l := et
        refine ⟨all', many', d, q, h, ?_, hT', ?_⟩
        · unfold fX7_measure_J171 fX7_measure_J221
          simp (disch := omega) only [Option.bind_some, Sum.elim_inl, Sum.elim_inr, q_le, q_nle, q_lt, q_nlt, q_eq, q_ne, q_m1, q_m5, rd_n, wr_n, ixo_n, dvo_n, rmo_n, nI_add, pk_sub, pk_mul, if_true, if_false, en, et']
        · have evs : vis (fstF n) (s.2.1 i) (fstF n + x) s = s := by
            unfold vis
            rw [if_neg hw0, ex, if_neg hD]
          rw [evs]
          exact ⟨C1, C2, C3⟩
def fuI (full : Bool) : Int32 := if full then nI 0 else nI 1
/-- one node, both turns of it -/
theorem m_92 {full : Bool} {n a i v c : Nat} {s : (Nat → Option Nat) × (Nat → Nat) × Nat} {all P L R S A d q : Nat → Int32} {many h rdv v5 : Int32} (h0 : 0 < n) (h7 : n < 8) (H : BI full n a s.1 s.2.1 s.2.2) (H7 : BI7 s.1 s.2.1 s.2.2 i) (hv : s.2.1 i = v) (hcn : c < n) (hT : TBn n all many) (C : RS n d q h s) : ∃ all' P' L' R' S' A' d' q' many' h' rdv', it (fX7_measure_B92 (nI n) (fuI full) v5 (nI v) (nI c)) FU (h, nI 0, all, P, L, R, S, A, d, q, many, nI n, rdv) = some (h', all', P', L', R', S', A', d', q', many', nI n, rdv') ∧ TBn n all' many' ∧ RS n d' q' h' (vis2 full (fstF n) v c s) := by
  have hvc := (H.b2 i H7.1).1
  rw [hv] at hvc
  obtain ⟨z0, z1, z2⟩ := pl_ok h0 h7 hvc
  obtain ⟨P1, L1, R1, S1, A1, eu⟩ := m_up z0 z1 (show c < szF (fstF n + v) by omega) P L R S A rdv
  rw [z2] at eu
  obtain ⟨all1, many1, d1, q1, h1, e1, hT1, C1⟩ := m_148 (P := P1) (L := L1) (R := R1) (S := S1) (A := A1) (rdv := nI (roF (fstF n + v))) (v2 := fuI full) (v5 := v5) (v7 := nI c) (v8 := nI 0) h0 h7 H H7 hv (Or.inr ⟨c, hcn, Or.inl rfl⟩) hT C (w := upF (fstF n + v) c)
  have V := vis_ok (w := upF (fstF n + v) c) h0 h7 H H7 (Or.inr ⟨c, hcn, Or.inl (by rw [hv])⟩)
  rw [hv] at V
  obtain ⟨V1, V2, V3, V4, -⟩ := V
  have ea := hT.2 v hvc
  have hc := cnt_le n h7
  cases full with
  | false =>
    refine ⟨all1, P1, L1, R1, S1, A1, d1, q1, many1, h1, nI (roF (fstF n + v)), ?_, hT1, C1⟩
    refine it_go (fun k => if k = 0 then (h, nI 0, all, P, L, R, S, A, d, q, many, nI n, rdv) else (h1, nI 1, all1, P1, L1, R1, S1, A1, d1, q1, many1, nI n, nI (roF (fstF n + v)))) 1 rfl (by omega) ?_ ?_
    · intro k hk
      have ek : k = 0 := by omega
      subst ek
      unfold fX7_measure_B92 fX7_measure_J103
      show (if nI 1 = nI 0 then _ else _) = _
      simp (disch := omega) only [Option.bind_some, Sum.elim_inl, Sum.elim_inr, q_le, q_nle, q_lt, q_nlt, q_eq, q_ne, q_m1, q_m5, rd_n, wr_n, ixo_n, dvo_n, rmo_n, nI_add, pk_sub, pk_mul, if_true, if_false, ea, eu, e1]
      rfl
    · unfold fX7_measure_B92 fX7_measure_J103
      show (if nI 1 = nI 0 then _ else _) = _
      simp (disch := omega) only [Option.bind_some, Sum.elim_inl, Sum.elim_inr, q_le, q_nle, q_lt, q_nlt, q_eq, q_ne, q_m1, q_m5, rd_n, wr_n, ixo_n, dvo_n, rmo_n, nI_add, pk_sub, pk_mul, if_true, if_false]
      rfl
  | true =>
    obtain ⟨P2, L2, R2, S2, A2, ed⟩ := m_down z0 z1 (show c < szF (fstF n + v) by omega) P1 L1 R1 S1 A1 (nI (roF (fstF n + v)))
    rw [z2] at ed
    have ea1 := hT1.2 v hvc
    obtain ⟨all2, many2, d2, q2, h2, e2, hT2, C2⟩ := m_148 (P := P2) (L := L2) (R := R2) (S := S2) (A := A2) (rdv := nI (roF (fstF n + v))) (v2 := fuI true) (v5 := v5) (v7 := nI c) (v8 := nI 1) h0 h7 V1 V2 ((V3.2.1 i H7.1).trans hv) (Or.inr ⟨c, hcn, Or.inr ⟨rfl, rfl⟩⟩) hT1 C1 (w := bkF (fstF n + v) c)
    refine ⟨all2, P2, L2, R2, S2, A2, d2, q2, many2, h2, nI (roF (fstF n + v)), ?_, hT2, C2⟩
    refine it_go (fun k => if k = 0 then (h, nI 0, all, P, L, R, S, A, d, q, many, nI n, rdv) else if k = 1 then (h1, nI 1, all1, P1, L1, R1, S1, A1, d1, q1, many1, nI n, nI (roF (fstF n + v))) else (h2, nI 2, all2, P2, L2, R2, S2, A2, d2, q2, many2, nI n, nI (roF (fstF n + v)))) 2 rfl (by omega) ?_ ?_
    · intro k hk
      rcases (show k = 0 ∨ k = 1 by omega) with rfl | rfl
      · unfold fX7_measure_B92 fX7_measure_J103
        show (if nI 0 = nI 0 then _ else _) = _
        simp (disch := omega) only [Option.bind_some, Sum.elim_inl, Sum.elim_inr, q_le, q_nle, q_lt, q_nlt, q_eq, q_ne, q_m1, q_m5, rd_n, wr_n, ixo_n, dvo_n, rmo_n, nI_add, pk_sub, pk_mul, if_true, if_false, ea, eu, e1]
        rfl
      · show fX7_measure_B92 (nI n) (nI 0) v5 (nI v) (nI c) (h1, nI 1, all1, P1, L1, R1, S1, A1, d1, q1, many1, nI n, nI (roF (fstF n + v))) = some (.inl (h2, nI 2, all2, P2, L2, R2, S2, A2, d2, q2, many2, nI n, nI (roF (fstF n + v))))
        have e2' : fX7_measure_J148 all1 P2 L2 R2 S2 A2 d1 q1 (nI n) many1 (nI n) (nI (roF (fstF n + v))) (nI 0) h1 v5 (nI v) (nI c) (nI 1) (gtI (bkF (fstF n + v) c)) = some (.inl (h2, nI 1 + nI 1, all2, P2, L2, R2, S2, A2, d2, q2, many2, nI n, nI (roF (fstF n + v)))) := e2
        unfold fX7_measure_B92 fX7_measure_J103
        simp (disch := omega) only [Option.bind_some, Sum.elim_inl, Sum.elim_inr, q_le, q_nle, q_lt, q_nlt, q_eq, q_ne, q_m1, q_m5, rd_n, wr_n, ixo_n, dvo_n, rmo_n, nI_add, pk_sub, pk_mul, if_true, if_false, ea1, ed, e2']
    · unfold fX7_measure_B92 fX7_measure_J103
      show (if nI 0 = nI 0 then _ else _) = _
      simp (disch := omega) only [Option.bind_some, Sum.elim_inl, Sum.elim_inr, q_le, q_nle, q_lt, q_nlt, q_eq, q_ne, q_m1, q_m5, rd_n, wr_n, ixo_n, dvo_n, rmo_n, nI_add, pk_sub, pk_mul, if_true, if_false]
      rfl
theorem m_meas_run {full : Bool} {n a : Nat} {all P L R S A d q : Nat → Int32} {many h rdv : Int32} (h0 : 0 < n) (h7 : n < 8) (ha : a < cntF n) (hT : TBn n all many) (C : RS n d q h (bf full n a 0)) : ∃ all' P' L' R' S' A' d' q' many' rdv' i, it (fX7_measure_B61 (nI n) (fuI full)) FU (h, nI 0, all, P, L, R, S, A, d, q, many, nI n, rdv) = some (all', P', L', R', S', A', d', q', many', nI n, rdv') ∧ TBn n all' many' ∧ BFE full n a i ∧ ∀ k, k < cntF n → d' k = oI ((bf full n a i).1 k) := by
  have hc := cnt_le n h7
  obtain ⟨y, hy, all', P', L', R', S', A', d', q', many', rdv', i, rfl, hQ⟩ : ∃ y, it (fX7_measure_B61 (nI n) (fuI full)) FU (h, nI 0, all, P, L, R, S, A, d, q, many, nI n, rdv) = some y ∧ ∃ all' P' L' R' S' A' d' q' many' rdv' i, y = (all', P', L', R', S', A', d', q', many', nI n, rdv') ∧ TBn n all' many' ∧ BFE full n a i ∧ ∀ k, k < cntF n → d' k = oI ((bf full n a i).1 k) := by
    refine it_inv (fun i x => ∃ all' P' L' R' S' A' d' q' many' h' rdv', x = (h', nI i, all', P', L', R', S', A', d', q', many', nI n, rdv') ∧ TBn n all' many' ∧ (∀ j, j < i → j < (bf full n a j).2.2) ∧ RS n d' q' h' (bf full n a i)) _ (cntF n) (by omega) ⟨all, P, L, R, S, A, d, q, many, h, rdv, rfl, hT, fun j hj => absurd hj (Nat.not_lt_zero _), C⟩ ?_
    rintro i x hi ⟨all', P', L', R', S', A', d', q', many', h', rdv', rfl, hT', hall, C'⟩
    obtain ⟨I1, I2, I3, I4⟩ := bf_ok h0 h7 ha i hall
    have hb1 := I1.b1
    have eh := C'.1
    unfold fX7_measure_B61
    rcases Nat.lt_or_ge i (bf full n a i).2.2 with hlt | hge
    · left
      have eq := C'.2.2 i hlt
      obtain ⟨y2, hy2, all3, P3, L3, R3, S3, A3, d3, q3, many3, h3, rdv3, rfl, hT3, C3⟩ : ∃ y2, it (fX7_measure_B80 (nI n) (fuI full) (nI i) (nI ((bf full n a i).2.1 i))) FU (h', nI 0, all', P', L', R', S', A', d', q', many', nI n, rdv') = some y2 ∧ ∃ all' P' L' R' S' A' d' q' many' h' rdv', y2 = (h', all', P', L', R', S', A', d', q', many', nI n, rdv') ∧ TBn n all' many' ∧ RS n d' q' h' (bf full n a (i + 1)) := by
        refine it_inv (fun c x => ∃ all' P' L' R' S' A' d' q' many' h' rdv', x = (h', nI c, all', P', L', R', S', A', d', q', many', nI n, rdv') ∧ TBn n all' many' ∧ RS n d' q' h' (visN full (fstF n) ((bf full n a i).2.1 i) (bf full n a i) c)) _ n (by omega) ⟨all', P', L', R', S', A', d', q', many', h', rdv', rfl, hT', C'⟩ ?_
        rintro c x hcn ⟨all2, P2, L2, R2, S2, A2, d2, q2, many2, h2, rdv2, rfl, hT2, C2⟩
        unfold fX7_measure_B80
        rcases Nat.lt_or_ge c n with hl | hg
        · left
          obtain ⟨B1, B2, B3, B4⟩ := visN_ok h0 h7 I1 (I2 hlt) rfl c (by omega)
          obtain ⟨all4, P4, L4, R4, S4, A4, d4, q4, many4, h4, rdv4, e4, hT4, C4⟩ := m_92 (P := P2) (L := L2) (R := R2) (S := S2) (A := A2) (rdv := rdv2) (v5 := nI i) h0 h7 B1 B2 (B3.2.1 i hlt) hl hT2 C2
          refine ⟨(h4, nI (c + 1), all4, P4, L4, R4, S4, A4, d4, q4, many4, nI n, rdv4), ?_, hl, all4, P4, L4, R4, S4, A4, d4, q4, many4, h4, rdv4, rfl, hT4, C4⟩
          simp (disch := omega) only [Option.bind_some, Sum.elim_inl, Sum.elim_inr, q_le, q_nle, q_lt, q_nlt, q_eq, q_ne, q_m1, q_m5, rd_n, wr_n, ixo_n, dvo_n, rmo_n, nI_add, pk_sub, pk_mul, if_true, if_false, e4]
        · right
          have ec : c = n := by omega
          subst ec
          refine ⟨_, ?_, all2, P2, L2, R2, S2, A2, d2, q2, many2, h2, rdv2, rfl, hT2, C2⟩
          simp (disch := omega) only [Option.bind_some, Sum.elim_inl, Sum.elim_inr, q_le, q_nle, q_lt, q_nlt, q_eq, q_ne, q_m1, q_m5, rd_n, wr_n, ixo_n, dvo_n, rmo_n, nI_add, pk_sub, pk_mul, if_true, if_false]
      refine ⟨(h3, nI (i + 1), all3, P3, L3, R3, S3, A3, d3, q3, many3, nI n, rdv3), ?_, by omega, all3, P3, L3, R3, S3, A3, d3, q3, many3, h3, rdv3, rfl, hT3, fun j hj => ?_, C3⟩
      · rw [eh]
        rw [eh] at hy2
        simp (disch := omega) only [Option.bind_some, Sum.elim_inl, Sum.elim_inr, q_le, q_nle, q_lt, q_nlt, q_eq, q_ne, q_m1, q_m5, rd_n, wr_n, ixo_n, dvo_n, rmo_n, nI_add, pk_sub, pk_mul, if_true, if_false, eq, hy2]
      · rcases Nat.lt_or_ge j i with z | z
        · exact hall j z
        · rw [show j = i by omega]
          exact hlt
    · right
      refine ⟨_, ?_, all', P', L', R', S', A', d', q', many', rdv', i, rfl, hT', ⟨hall, hge⟩, C'.2.1⟩
      rw [eh]
      simp (disch := omega) only [Option.bind_some, Sum.elim_inl, Sum.elim_inr, q_le, q_nle, q_lt, q_nlt, q_eq, q_ne, q_m1, q_m5, rd_n, wr_n, ixo_n, dvo_n, rmo_n, nI_add, pk_sub, pk_mul, if_true, if_false]
  exact ⟨all', P', L', R', S', A', d', q', many', rdv', i, hy, hQ⟩
/-- the reference's measure from the tree p -/
theorem m_measure {full : Bool} {p n : Nat} {all P L R S A d q : Nat → Int32} {many tb rdv : Int32} (h0 : 0 < p) (hp : p < 626) (hn : szF p = n) (hT : TBok all many tb) : ∃ all' P' L' R' S' A' d' q' many' rdv' i, fX7_measure all P L R S A d q (nI n) many tb rdv (nI (dcF p)) (fuI full) = some (all', P', L', R', S', A', d', q', many', nI n, rdv') ∧ TBn n all' many' ∧ BFE full n (p - fstF n) i ∧ ∀ k, k < cntF n → d' k = oI ((bf full n (p - fstF n) i).1 k) := by
  have hs := sz_pos hp h0
  have h7 := sz_le hp
  have hpx := pl_ix h0 hp
  rw [hn] at hs h7 hpx
  have hc := cnt_le n (by omega)
  obtain ⟨all1, many1, e1, hT1⟩ := m_table hs.1 (by omega) hT
  have e2 : ∃ d1, it (fX7_measure_B10 many1 (nI (dcF p)) (fuI full)) FU (nI 0, d) = some d1 ∧ ∀ k, k < cntF n → d1 k = (-1 : Int32) := by
    refine it_inv (fun k x => x.1 = nI k ∧ ∀ j, j < k → x.2 j = (-1 : Int32)) _ (cntF n) (by omega) ⟨rfl, fun j hj => absurd hj (Nat.not_lt_zero _)⟩ ?_
    rintro k ⟨x1, m0⟩ hk ⟨e1, hall⟩
    have e1' : x1 = nI k := e1
    subst e1'
    unfold fX7_measure_B10
    rw [hT1.1]
    rcases Nat.lt_or_ge k (cntF n) with hlt | hge
    · left
      refine ⟨(nI (k + 1), upd m0 k (-1 : Int32)), ?_, hlt, rfl, fun j hj => ?_⟩
      · simp (disch := omega) only [Option.bind_some, Sum.elim_inl, Sum.elim_inr, q_le, q_nle, q_lt, q_nlt, q_eq, q_ne, q_m1, q_m5, rd_n, wr_n, ixo_n, dvo_n, rmo_n, nI_add, pk_sub, pk_mul, if_true, if_false]
      · by_cases e : j = k
        · rw [e]
          exact upd_s
        · show upd m0 k (-1 : Int32) j = _
          rw [upd_n e]
          exact hall j (by omega)
    · right
      refine ⟨m0, ?_, fun j hj => hall j (by omega)⟩
      simp (disch := omega) only [Option.bind_some, Sum.elim_inl, Sum.elim_inr, q_le, q_nle, q_lt, q_nlt, q_eq, q_ne, q_m1, q_m5, rd_n, wr_n, ixo_n, dvo_n, rmo_n, nI_add, pk_sub, pk_mul, if_true, if_false]
  obtain ⟨d1, e2, hd1⟩ := e2
  obtain ⟨all2, many2, e3, hT2⟩ := m_num hs.1 (by omega) hpx.1 hT1
  rw [hpx.2] at e3
  have hC : RS n (upd d1 (p - fstF n) (nI 0)) (upd q 0 (nI (p - fstF n))) (nI 1) (bf full n (p - fstF n) 0) := by
    refine ⟨rfl, fun k hk => ?_, fun j hj => ?_⟩
    · show _ = oI (updO (fun _ => none) (p - fstF n) (some 0) k)
      by_cases e : k = p - fstF n
      · rw [e, upd_s, uo_s]
        rfl
      · rw [upd_n e, uo_n e, hd1 k hk]
        rfl
    · show upd q 0 (nI (p - fstF n)) j = nI (p - fstF n)
      have ej : j = 0 := Nat.lt_one_iff.mp hj
      rw [ej, upd_s]
  obtain ⟨all', P', L', R', S', A', d', q', many', rdv', i, e4, hT4, hi, hd⟩ := m_meas_run (P := P) (L := L) (R := R) (S := S) (A := A) (rdv := rdv) hs.1 (by omega) hpx.1 hT2 hC
  refine ⟨all', P', L', R', S', A', d', q', many', rdv', i, ?_, hT4, hi, hd⟩
  unfold fX7_measure
  simp (disch := omega) only [Option.bind_some, Sum.elim_inl, Sum.elim_inr, q_le, q_nle, q_lt, q_nlt, q_eq, q_ne, q_m1, q_m5, rd_n, wr_n, ixo_n, dvo_n, rmo_n, nI_add, pk_sub, pk_mul, if_true, if_false, e1, e2, e3, e4]
