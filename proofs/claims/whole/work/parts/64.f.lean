/-! the first turn of a way -/
/-- the trees of a size and how far they are -/
def DST (n : Nat) (D : Nat → Option Nat) : Prop := ∀ k, k < cntF n → ∃ m, m < 429 ∧ D k = some m
def hitP (n l : Nat) (D : Nat → Option Nat) (w : Nat) : Prop := w ≠ 0 ∧ D (w - fstF n) = some l
def okW (n w : Nat) : Prop := w = 0 ∨ (0 < w ∧ w < 626 ∧ szF w = n)
theorem ok_up {z c n : Nat} (z0 : 0 < z) (z1 : z < 626) (hn : szF z = n) (hc : c < n) : okW n (upF z c) := by
  by_cases h : upF z c = 0
  · exact Or.inl h
  · have := up_ok z0 z1 (by omega) h
    exact Or.inr ⟨by omega, by omega, by omega⟩
theorem ok_bk {z c n : Nat} (z0 : 0 < z) (z1 : z < 626) (hn : szF z = n) (hc : c < n) : okW n (bkF z c) := by
  by_cases h : bkF z c = 0
  · exact Or.inl h
  · have := bk_ok z0 z1 (by omega) h
    exact Or.inr ⟨by omega, by omega, by omega⟩
theorem ok_ix {n w : Nat} (h : okW n w) (hw : w ≠ 0) : w - fstF n < cntF n ∧ fstF n + (w - fstF n) = w := by
  rcases h with h | ⟨h0, h1, h2⟩
  · exact absurd h hw
  · have := pl_ix h0 h1
    rw [h2] at this
    exact this
theorem c_tf {n w : Nat} {t : Nat → Int32} {D : Nat → Option Nat} (ht : ∀ k, k < cntF n → t (fstF n + k) = oI (D k)) (hw : okW n w) : fX5_turnsFrom t (nI w) = some (if w = 0 then (-1 : Int32) else oI (D (w - fstF n))) := by
  unfold fX5_turnsFrom
  by_cases h : w = 0
  · rw [h, c_isT0]
    rfl
  · have hx := ok_ix hw h
    rcases hw with hw | ⟨w0, w1, w2⟩
    · exact absurd hw h
    · have := ht _ hx.1
      rw [hx.2] at this
      simp (disch := omega) only [Option.bind_some, Sum.elim_inl, Sum.elim_inr, q_le, q_nle, q_lt, q_nlt, q_eq, q_ne, q_m1, q_m5, rd_n, wr_n, ixo_n, dvo_n, rmo_n, nI_add, pk_sub, pk_mul, if_true, if_false, c_isT w0 w1, this]
      rw [if_neg h]
theorem hit_q {n l w : Nat} {D : Nat → Option Nat} (hD : DST n D) (hl : l < 429) (hw : okW n w) : ((if w = 0 then (-1 : Int32) else oI (D (w - fstF n))) = nI l) ↔ hitP n l D w := by
  unfold hitP
  by_cases h : w = 0
  · rw [if_pos h]
    constructor
    · intro e
      exact absurd e.symm (nI_nm1 (by omega))
    · intro e
      exact absurd h e.1
  · rw [if_neg h]
    obtain ⟨m, hm, e⟩ := hD _ (ok_ix hw h).1
    rw [e]
    constructor
    · intro e2
      have e3 : nI m = nI l := e2
      rw [(nI_eq (by omega) (by omega)).mp e3]
      exact ⟨h, rfl⟩
    · intro e2
      have := Option.some.inj e2.2
      rw [this]
      rfl
/-- what the search for a first turn ends with -/
def FST (n l : Nat) (D : Nat → Option Nat) (W : Nat → Nat) (o : Option Nat) : Prop := match o with
  | none => ∀ c, c < n → ¬ hitP n l D (W c)
  | some c => c < n ∧ hitP n l D (W c) ∧ ∀ c', c' < c → ¬ hitP n l D (W c')
theorem fst_un {n l : Nat} {D : Nat → Option Nat} {W : Nat → Nat} {o o' : Option Nat} (h : FST n l D W o) (h' : FST n l D W o') : o = o' := by
  cases o with
  | none =>
    cases o' with
    | none => rfl
    | some c => exact absurd h'.2.1 (h c h'.1)
  | some c =>
    cases o' with
    | none => exact absurd h.2.1 (h' c h.1)
    | some c' =>
      rcases Nat.lt_trichotomy c c' with z | z | z
      · exact absurd h.2.1 (h'.2.2 c z)
      · rw [z]
      · exact absurd h'.2.1 (h.2.2 c' z)
theorem c_f40 {z n l : Nat} {u t : Nat → Int32} {D : Nat → Option Nat} (z0 : 0 < z) (z1 : z < 626) (hn : szF z = n) (hu : ∀ c, c < n → u (z * 7 + c) = nI (upF z c)) (ht : ∀ k, k < cntF n → t (fstF n + k) = oI (D k)) (hD : DST n D) (hl : l < 429) : ∃ o, it (fX5_firstTurn_B40 u t (nI z) (nI l) (nI n)) FU (nI 0) = some (match o with | none => .inl () | some c => .inr (nI c)) ∧ FST n l D (upF z) o := by
  have h7 := sz_le z1
  obtain ⟨y, hy, o, rfl, ho⟩ : ∃ y, it (fX5_firstTurn_B40 u t (nI z) (nI l) (nI n)) FU (nI 0) = some y ∧ ∃ o : Option Nat, y = (match o with | none => .inl () | some c => .inr (nI c)) ∧ FST n l D (upF z) o := by
    refine it_inv (fun c x => x = nI c ∧ ∀ c', c' < c → ¬ hitP n l D (upF z c')) _ n (by omega) ⟨rfl, fun c hc => absurd hc (Nat.not_lt_zero _)⟩ ?_
    rintro c x hc ⟨rfl, hall⟩
    unfold fX5_firstTurn_B40
    rcases Nat.lt_or_ge c n with hlt | hge
    · have hw := ok_up z0 z1 hn hlt
      have e1 := c_tf ht hw
      have hq := hit_q hD hl hw
      have eu := hu c hlt
      by_cases hh : hitP n l D (upF z c)
      · right
        refine ⟨.inr (nI c), ?_, some c, rfl, hlt, hh, hall⟩
        simp (disch := omega) only [Option.bind_some, Sum.elim_inl, Sum.elim_inr, q_le, q_nle, q_lt, q_nlt, q_eq, q_ne, q_m1, q_m5, rd_n, wr_n, ixo_n, dvo_n, rmo_n, nI_add, pk_sub, pk_mul, if_true, if_false, c_tp, eu, e1, if_pos (hq.mpr hh)]
      · left
        refine ⟨nI (c + 1), ?_, hlt, rfl, fun c' hc' => ?_⟩
        · simp (disch := omega) only [Option.bind_some, Sum.elim_inl, Sum.elim_inr, q_le, q_nle, q_lt, q_nlt, q_eq, q_ne, q_m1, q_m5, rd_n, wr_n, ixo_n, dvo_n, rmo_n, nI_add, pk_sub, pk_mul, if_true, if_false, c_tp, eu, e1, if_neg (fun h => hh (hq.mp h))]
        · rcases Nat.lt_or_ge c' c with q | q
          · exact hall c' q
          · rw [show c' = c by omega]
            exact hh
    · right
      refine ⟨.inl (), ?_, none, rfl, fun c' h => hall c' (by omega)⟩
      simp (disch := omega) only [Option.bind_some, Sum.elim_inl, Sum.elim_inr, q_le, q_nle, q_lt, q_nlt, q_eq, q_ne, q_m1, q_m5, rd_n, wr_n, ixo_n, dvo_n, rmo_n, nI_add, pk_sub, pk_mul, if_true, if_false]
  exact ⟨o, hy, ho⟩
theorem c_f77 {z n l : Nat} {u t : Nat → Int32} {D : Nat → Option Nat} (z0 : 0 < z) (z1 : z < 626) (hn : szF z = n) (hu : ∀ c, c < n → u (z * 7 + c) = nI (bkF z c)) (ht : ∀ k, k < cntF n → t (fstF n + k) = oI (D k)) (hD : DST n D) (hl : l < 429) : ∃ o, it (fX5_firstTurn_B77 u t (nI z) (nI l) (nI n)) FU (nI 0) = some (match o with | none => .inl () | some c => .inr ((-1 : Int32) - nI c)) ∧ FST n l D (bkF z) o := by
  have h7 := sz_le z1
  obtain ⟨y, hy, o, rfl, ho⟩ : ∃ y, it (fX5_firstTurn_B77 u t (nI z) (nI l) (nI n)) FU (nI 0) = some y ∧ ∃ o : Option Nat, y = (match o with | none => .inl () | some c => .inr ((-1 : Int32) - nI c)) ∧ FST n l D (bkF z) o := by
    refine it_inv (fun c x => x = nI c ∧ ∀ c', c' < c → ¬ hitP n l D (bkF z c')) _ n (by omega) ⟨rfl, fun c hc => absurd hc (Nat.not_lt_zero _)⟩ ?_
    rintro c x hc ⟨rfl, hall⟩
    unfold fX5_firstTurn_B77
    rcases Nat.lt_or_ge c n with hlt | hge
    · have hw := ok_bk z0 z1 hn hlt
      have e1 := c_tf ht hw
      have hq := hit_q hD hl hw
      have eu := hu c hlt
      by_cases hh : hitP n l D (bkF z c)
      · right
        refine ⟨.inr ((-1 : Int32) - nI c), ?_, some c, rfl, hlt, hh, hall⟩
        simp (disch := omega) only [Option.bind_some, Sum.elim_inl, Sum.elim_inr, q_le, q_nle, q_lt, q_nlt, q_eq, q_ne, q_m1, q_m5, rd_n, wr_n, ixo_n, dvo_n, rmo_n, nI_add, pk_sub, pk_mul, if_true, if_false, c_tp, eu, e1, if_pos (hq.mpr hh)]
      · left
        refine ⟨nI (c + 1), ?_, hlt, rfl, fun c' hc' => ?_⟩
        · simp (disch := omega) only [Option.bind_some, Sum.elim_inl, Sum.elim_inr, q_le, q_nle, q_lt, q_nlt, q_eq, q_ne, q_m1, q_m5, rd_n, wr_n, ixo_n, dvo_n, rmo_n, nI_add, pk_sub, pk_mul, if_true, if_false, c_tp, eu, e1, if_neg (fun h => hh (hq.mp h))]
        · rcases Nat.lt_or_ge c' c with q | q
          · exact hall c' q
          · rw [show c' = c by omega]
            exact hh
    · right
      refine ⟨.inl (), ?_, none, rfl, fun c' h => hall c' (by omega)⟩
      simp (disch := omega) only [Option.bind_some, Sum.elim_inl, Sum.elim_inr, q_le, q_nle, q_lt, q_nlt, q_eq, q_ne, q_m1, q_m5, rd_n, wr_n, ixo_n, dvo_n, rmo_n, nI_add, pk_sub, pk_mul, if_true, if_false]
  exact ⟨o, hy, ho⟩
def soO {X Y : Type} (o : Option Nat) (a : X) (g : Nat → Y) : X ⊕ Y := match o with
  | none => .inl a
  | some c => .inr (g c)
/-- the reference's: turns up (v3 = 0) or down (v3 = 1) -/
def dirW (b : Bool) (z : Nat) : Nat → Nat := if b then bkF z else upF z
theorem m_f32 {b : Bool} {z n l : Nat} {all P L R S A d : Nat → Int32} {many rdv : Int32} {D : Nat → Option Nat} (z0 : 0 < z) (z1 : z < 626) (hn : szF z = n) (hT : TBn n all many) (hd : ∀ k, k < cntF n → d k = oI (D k)) (hD : DST n D) (hl : l < 429) : ∃ o all' P' L' R' S' A' many' rdv', it (fX7_firstTurn_B32 d (nI n) (nI (dcF z)) (nI (l + 1)) (bI b)) FU (nI 0, all, P, L, R, S, A, many, nI n, rdv) = some (soO o (all', P', L', R', S', A', many', nI n, rdv') (fun c => (nI 100 * bI b + nI c, all', P', L', R', S', A', many', nI n, rdv'))) ∧ FST n l D (dirW b z) o ∧ TBn n all' many' := by
  have h7 := sz_le z1
  have hs := sz_pos z1 z0
  have hc := cnt_le n (by omega)
  obtain ⟨y, hy, o, all', P', L', R', S', A', many', rdv', rfl, ho⟩ : ∃ y, it (fX7_firstTurn_B32 d (nI n) (nI (dcF z)) (nI (l + 1)) (bI b)) FU (nI 0, all, P, L, R, S, A, many, nI n, rdv) = some y ∧ ∃ (o : Option Nat) (all' P' L' R' S' A' : Nat → Int32) (many' rdv' : Int32), y = (soO o (all', P', L', R', S', A', many', nI n, rdv') (fun c => (nI 100 * bI b + nI c, all', P', L', R', S', A', many', nI n, rdv'))) ∧ FST n l D (dirW b z) o ∧ TBn n all' many' := by
    refine it_inv (fun c x => ∃ all' P' L' R' S' A' many' rdv', x = (nI c, all', P', L', R', S', A', many', nI n, rdv') ∧ TBn n all' many' ∧ ∀ c', c' < c → ¬ hitP n l D (dirW b z c')) _ n (by omega) ⟨all, P, L, R, S, A, many, rdv, rfl, hT, fun c hc => absurd hc (Nat.not_lt_zero _)⟩ ?_
    rintro c x hc ⟨all', P', L', R', S', A', many', rdv', rfl, hT', hall⟩
    rcases Nat.lt_or_ge c n with hlt | hge
    · have hw : okW n (dirW b z c) := by
        cases b
        · exact ok_up z0 z1 hn hlt
        · exact ok_bk z0 z1 hn hlt
      have hq := hit_q hD hl hw
      have hj : ∃ P2 L2 R2 S2 A2 rdv2, fX7_firstTurn_B32 d (nI n) (nI (dcF z)) (nI (l + 1)) (bI b) (nI c, all', P', L', R', S', A', many', nI n, rdv') = fX7_firstTurn_J70 all' P2 L2 R2 S2 A2 d (nI n) many' (nI n) rdv2 (nI (dcF z)) (nI (l + 1)) (bI b) (nI c) (gtI (dirW b z c)) := by
        unfold fX7_firstTurn_B32
        cases b
        · obtain ⟨P2, L2, R2, S2, A2, e⟩ := m_up z0 z1 (show c < szF z by omega) P' L' R' S' A' rdv'
          rw [hn] at e
          refine ⟨P2, L2, R2, S2, A2, nI (roF z), ?_⟩
          simp (disch := omega) only [Option.bind_some, Sum.elim_inl, Sum.elim_inr, q_le, q_nle, q_lt, q_nlt, q_eq, q_ne, q_m1, q_m5, rd_n, wr_n, ixo_n, dvo_n, rmo_n, nI_add, pk_sub, pk_mul, if_true, if_false, e, q_bf]
          rfl
        · obtain ⟨P2, L2, R2, S2, A2, e⟩ := m_down z0 z1 (show c < szF z by omega) P' L' R' S' A' rdv'
          rw [hn] at e
          refine ⟨P2, L2, R2, S2, A2, nI (roF z), ?_⟩
          simp (disch := omega) only [Option.bind_some, Sum.elim_inl, Sum.elim_inr, q_le, q_nle, q_lt, q_nlt, q_eq, q_ne, q_m1, q_m5, rd_n, wr_n, ixo_n, dvo_n, rmo_n, nI_add, pk_sub, pk_mul, if_true, if_false, e, q_bt]
          rfl
      obtain ⟨P2, L2, R2, S2, A2, rdv2, hj⟩ := hj
      rw [hj]
      unfold fX7_firstTurn_J70 fX7_firstTurn_J108
      by_cases hw0 : dirW b z c = 0
      · left
        refine ⟨(nI (c + 1), all', P2, L2, R2, S2, A2, many', nI n, rdv2), ?_, hlt, all', P2, L2, R2, S2, A2, many', rdv2, rfl, hT', fun c' hc' => ?_⟩
        · rw [hw0, gt_0, if_pos rfl, nI_add]
        · rcases Nat.lt_or_ge c' c with q | q
          · exact hall c' q
          · rw [show c' = c by omega]
            exact fun h => h.1 hw0
      · have hx := ok_ix hw hw0
        obtain ⟨all2, many2, en, hT2⟩ := m_num (by omega) (by omega) hx.1 hT'
        rw [hx.2] at en
        rw [if_neg hw0] at hq
        have ed := hd _ hx.1
        have hdb : dcF (dirW b z c) < 10000000 := dc_big (by rcases hw with h | h <;> omega)
        rw [gt_n hw0]
        by_cases hh : hitP n l D (dirW b z c)
        · right
          refine ⟨.inr (nI 100 * bI b + nI c, all2, P2, L2, R2, S2, A2, many2, nI n, rdv2), ?_, some c, all2, P2, L2, R2, S2, A2, many2, rdv2, rfl, ⟨hlt, hh, hall⟩, hT2⟩
          simp (disch := omega) only [Option.bind_some, Sum.elim_inl, Sum.elim_inr, q_le, q_nle, q_lt, q_nlt, q_eq, q_ne, q_m1, q_m5, rd_n, wr_n, ixo_n, dvo_n, rmo_n, nI_add, pk_sub, pk_mul, if_true, if_false, en, ed, Nat.add_sub_cancel, if_pos (hq.mpr hh)]
        · left
          refine ⟨(nI (c + 1), all2, P2, L2, R2, S2, A2, many2, nI n, rdv2), ?_, hlt, all2, P2, L2, R2, S2, A2, many2, rdv2, rfl, hT2, fun c' hc' => ?_⟩
          · simp (disch := omega) only [Option.bind_some, Sum.elim_inl, Sum.elim_inr, q_le, q_nle, q_lt, q_nlt, q_eq, q_ne, q_m1, q_m5, rd_n, wr_n, ixo_n, dvo_n, rmo_n, nI_add, pk_sub, pk_mul, if_true, if_false, en, ed, Nat.add_sub_cancel, if_neg (fun h => hh (hq.mp h))]
          · rcases Nat.lt_or_ge c' c with q | q
            · exact hall c' q
            · rw [show c' = c by omega]
              exact hh
    · right
      refine ⟨.inl (all', P', L', R', S', A', many', nI n, rdv'), ?_, none, all', P', L', R', S', A', many', rdv', rfl, fun c' h => hall c' (by omega), hT'⟩
      unfold fX7_firstTurn_B32
      simp (disch := omega) only [Option.bind_some, Sum.elim_inl, Sum.elim_inr, q_le, q_nle, q_lt, q_nlt, q_eq, q_ne, q_m1, q_m5, rd_n, wr_n, ixo_n, dvo_n, rmo_n, nI_add, pk_sub, pk_mul, if_true, if_false]
  exact ⟨o, all', P', L', R', S', A', many', rdv', hy, ho⟩

/-- the class's first turn and the reference's -/
theorem c_first0 {z n : Nat} {u b t : Nat → Int32} {D : Nat → Option Nat} (z0 : 0 < z) (z1 : z < 626) (hn : szF z = n) (ht : ∀ k, k < cntF n → t (fstF n + k) = oI (D k)) (hm : D (z - fstF n) = some 0) : fX5_firstTurn sF u b t (nI z) = some (-5 : Int32) := by
  have hx := pl_ix z0 z1
  rw [hn] at hx
  have e := ht _ hx.1
  rw [hx.2, hm] at e
  have e' : t z = nI 0 := e
  unfold fX5_firstTurn
  simp (disch := omega) only [Option.bind_some, Sum.elim_inl, Sum.elim_inr, q_le, q_nle, q_lt, q_nlt, q_eq, q_ne, q_m1, q_m5, rd_n, wr_n, ixo_n, dvo_n, rmo_n, nI_add, pk_sub, pk_mul, if_true, if_false, c_isT z0 z1, e']
theorem c_first {z n l : Nat} {u b t : Nat → Int32} {D : Nat → Option Nat} (z0 : 0 < z) (z1 : z < 626) (hn : szF z = n) (hW : WYn n u b) (ht : ∀ k, k < cntF n → t (fstF n + k) = oI (D k)) (hD : DST n D) (hm : D (z - fstF n) = some (l + 1)) : ∃ o o', FST n l D (upF z) o ∧ FST n l D (bkF z) o' ∧ fX5_firstTurn sF u b t (nI z) = some (match o, o' with | some c, _ => nI c | none, some c => (-1 : Int32) - nI c | none, none => (-5 : Int32)) := by
  have hx := pl_ix z0 z1
  rw [hn] at hx
  have e := ht _ hx.1
  rw [hx.2, hm] at e
  have e' : t z = nI (l + 1) := e
  obtain ⟨m, hml, em⟩ := hD _ hx.1
  rw [hm] at em
  have := Option.some.inj em
  obtain ⟨o, e1, h1⟩ := c_f40 z0 z1 hn (fun c hc => (hW z c z0 z1 hn hc).1) ht hD (show l < 429 by omega)
  obtain ⟨o', e2, h2⟩ := c_f77 z0 z1 hn (fun c hc => (hW z c z0 z1 hn hc).2) ht hD (show l < 429 by omega)
  refine ⟨o, o', h1, h2, ?_⟩
  unfold fX5_firstTurn
  have es : fX0_sizeOf sF (nI z) = some (nI n) := by rw [c_sizeOf z1, hn]
  cases o with
  | some c => simp (disch := omega) only [Option.bind_some, Sum.elim_inl, Sum.elim_inr, q_le, q_nle, q_lt, q_nlt, q_eq, q_ne, q_m1, q_m5, rd_n, wr_n, ixo_n, dvo_n, rmo_n, nI_add, pk_sub, pk_mul, if_true, if_false, c_isT z0 z1, e', es, Nat.add_sub_cancel, e1]
  | none =>
    cases o' with
    | some c => simp (disch := omega) only [Option.bind_some, Sum.elim_inl, Sum.elim_inr, q_le, q_nle, q_lt, q_nlt, q_eq, q_ne, q_m1, q_m5, rd_n, wr_n, ixo_n, dvo_n, rmo_n, nI_add, pk_sub, pk_mul, if_true, if_false, c_isT z0 z1, e', es, Nat.add_sub_cancel, e1, e2]
    | none => simp (disch := omega) only [Option.bind_some, Sum.elim_inl, Sum.elim_inr, q_le, q_nle, q_lt, q_nlt, q_eq, q_ne, q_m1, q_m5, rd_n, wr_n, ixo_n, dvo_n, rmo_n, nI_add, pk_sub, pk_mul, if_true, if_false, c_isT z0 z1, e', es, Nat.add_sub_cancel, e1, e2]
theorem m_first0 {z n : Nat} {all P L R S A d : Nat → Int32} {many rdv : Int32} {D : Nat → Option Nat} (z0 : 0 < z) (z1 : z < 626) (hn : szF z = n) (hT : TBn n all many) (hd : ∀ k, k < cntF n → d k = oI (D k)) (hm : D (z - fstF n) = some 0) : ∃ all' many', fX7_firstTurn all P L R S A d (nI n) many (nI n) rdv (nI (dcF z)) = some ((-5 : Int32), all', P, L, R, S, A, many', nI n, rdv) ∧ TBn n all' many' := by
  have h7 := sz_le z1
  have hs := sz_pos z1 z0
  have hx := pl_ix z0 z1
  rw [hn] at hx
  have hc := cnt_le n (by omega)
  obtain ⟨all2, many2, en, hT2⟩ := m_num (by omega) (by omega) hx.1 hT
  rw [hx.2] at en
  have e := hd _ hx.1
  rw [hm] at e
  have e' : d (z - fstF n) = nI 0 := e
  refine ⟨all2, many2, ?_, hT2⟩
  unfold fX7_firstTurn
  simp (disch := omega) only [Option.bind_some, Sum.elim_inl, Sum.elim_inr, q_le, q_nle, q_lt, q_nlt, q_eq, q_ne, q_m1, q_m5, rd_n, wr_n, ixo_n, dvo_n, rmo_n, nI_add, pk_sub, pk_mul, if_true, if_false, en, e']
theorem m_first {z n l : Nat} {all P L R S A d : Nat → Int32} {many rdv : Int32} {D : Nat → Option Nat} (z0 : 0 < z) (z1 : z < 626) (hn : szF z = n) (hT : TBn n all many) (hd : ∀ k, k < cntF n → d k = oI (D k)) (hD : DST n D) (hm : D (z - fstF n) = some (l + 1)) : ∃ o o' all' P' L' R' S' A' many' rdv', FST n l D (upF z) o ∧ (o = none → FST n l D (bkF z) o') ∧ fX7_firstTurn all P L R S A d (nI n) many (nI n) rdv (nI (dcF z)) = some ((match o, o' with | some c, _ => nI c | none, some c => nI (100 + c) | none, none => (-5 : Int32)), all', P', L', R', S', A', many', nI n, rdv') ∧ TBn n all' many' := by
  have h7 := sz_le z1
  have hs := sz_pos z1 z0
  have hx := pl_ix z0 z1
  rw [hn] at hx
  have hc := cnt_le n (by omega)
  obtain ⟨all2, many2, en, hT2⟩ := m_num (by omega) (by omega) hx.1 hT
  rw [hx.2] at en
  have e := hd _ hx.1
  rw [hm] at e
  have e' : d (z - fstF n) = nI (l + 1) := e
  obtain ⟨m, hml, em⟩ := hD _ hx.1
  rw [hm] at em
  have := Option.some.inj em
  obtain ⟨o, all3, P3, L3, R3, S3, A3, many3, rdv3, e3, h3, hT3⟩ := m_f32 (b := false) (P := P) (L := L) (R := R) (S := S) (A := A) (rdv := rdv) z0 z1 hn hT2 hd hD (show l < 429 by omega)
  obtain ⟨o', all4, P4, L4, R4, S4, A4, many4, rdv4, e4, h4, hT4⟩ := m_f32 (b := true) (P := P3) (L := L3) (R := R3) (S := S3) (A := A3) (rdv := rdv3) z0 z1 hn hT3 hd hD (show l < 429 by omega)
  have e3' : it (fX7_firstTurn_B32 d (nI n) (nI (dcF z)) (nI (l + 1)) (nI 0)) FU (nI 0, all2, P, L, R, S, A, many2, nI n, rdv) = some (soO o (all3, P3, L3, R3, S3, A3, many3, nI n, rdv3) (fun c => (nI 100 * nI 0 + nI c, all3, P3, L3, R3, S3, A3, many3, nI n, rdv3))) := e3
  have e4' : it (fX7_firstTurn_B32 d (nI n) (nI (dcF z)) (nI (l + 1)) (nI 1)) FU (nI 0, all3, P3, L3, R3, S3, A3, many3, nI n, rdv3) = some (soO o' (all4, P4, L4, R4, S4, A4, many4, nI n, rdv4) (fun c => (nI 100 * nI 1 + nI c, all4, P4, L4, R4, S4, A4, many4, nI n, rdv4))) := e4
  cases o with
  | some c =>
    have step : it (fX7_firstTurn_B24 d (nI n) (nI (dcF z)) (nI (l + 1))) FU (nI 0, all2, P, L, R, S, A, many2, nI n, rdv) = some (.inr (nI c, all3, P3, L3, R3, S3, A3, many3, nI n, rdv3)) := by
      refine it_go (fun _ => (nI 0, all2, P, L, R, S, A, many2, nI n, rdv)) 0 rfl (by omega) (fun j hj => absurd hj (Nat.not_lt_zero _)) ?_
      unfold fX7_firstTurn_B24
      simp (disch := omega) only [Option.bind_some, Sum.elim_inl, Sum.elim_inr, q_le, q_nle, q_lt, q_nlt, q_eq, q_ne, q_m1, q_m5, rd_n, wr_n, ixo_n, dvo_n, rmo_n, nI_add, pk_sub, pk_mul, if_true, if_false, e3', soO]
      rw [Nat.mul_zero, Nat.zero_add]
    refine ⟨some c, none, all3, P3, L3, R3, S3, A3, many3, rdv3, h3, (fun h => by cases h), ?_, hT3⟩
    unfold fX7_firstTurn
    simp (disch := omega) only [Option.bind_some, Sum.elim_inl, Sum.elim_inr, q_le, q_nle, q_lt, q_nlt, q_eq, q_ne, q_m1, q_m5, rd_n, wr_n, ixo_n, dvo_n, rmo_n, nI_add, pk_sub, pk_mul, if_true, if_false, en, e', step]
  | none =>
    cases o' with
    | some c =>
      have step : it (fX7_firstTurn_B24 d (nI n) (nI (dcF z)) (nI (l + 1))) FU (nI 0, all2, P, L, R, S, A, many2, nI n, rdv) = some (.inr (nI (100 + c), all4, P4, L4, R4, S4, A4, many4, nI n, rdv4)) := by
        refine it_go (fun k => if k = 0 then (nI 0, all2, P, L, R, S, A, many2, nI n, rdv) else (nI 1, all3, P3, L3, R3, S3, A3, many3, nI n, rdv3)) 1 rfl (by omega) ?_ ?_
        · intro k hk
          have ek : k = 0 := by omega
          subst ek
          show fX7_firstTurn_B24 d (nI n) (nI (dcF z)) (nI (l + 1)) (nI 0, all2, P, L, R, S, A, many2, nI n, rdv) = some (.inl (nI 1, all3, P3, L3, R3, S3, A3, many3, nI n, rdv3))
          unfold fX7_firstTurn_B24
          simp (disch := omega) only [Option.bind_some, Sum.elim_inl, Sum.elim_inr, q_le, q_nle, q_lt, q_nlt, q_eq, q_ne, q_m1, q_m5, rd_n, wr_n, ixo_n, dvo_n, rmo_n, nI_add, pk_sub, pk_mul, if_true, if_false, e3', soO]
        · show fX7_firstTurn_B24 d (nI n) (nI (dcF z)) (nI (l + 1)) (nI 1, all3, P3, L3, R3, S3, A3, many3, nI n, rdv3) = _
          unfold fX7_firstTurn_B24
          simp (disch := omega) only [Option.bind_some, Sum.elim_inl, Sum.elim_inr, q_le, q_nle, q_lt, q_nlt, q_eq, q_ne, q_m1, q_m5, rd_n, wr_n, ixo_n, dvo_n, rmo_n, nI_add, pk_sub, pk_mul, if_true, if_false, e4', soO]
      refine ⟨none, some c, all4, P4, L4, R4, S4, A4, many4, rdv4, h3, fun _ => h4, ?_, hT4⟩
      unfold fX7_firstTurn
      simp (disch := omega) only [Option.bind_some, Sum.elim_inl, Sum.elim_inr, q_le, q_nle, q_lt, q_nlt, q_eq, q_ne, q_m1, q_m5, rd_n, wr_n, ixo_n, dvo_n, rmo_n, nI_add, pk_sub, pk_mul, if_true, if_false, en, e', step]
    | none =>
      have step : it (fX7_firstTurn_B24 d (nI n) (nI (dcF z)) (nI (l + 1))) FU (nI 0, all2, P, L, R, S, A, many2, nI n, rdv) = some (.inl (all4, P4, L4, R4, S4, A4, many4, nI n, rdv4)) := by
        refine it_go (fun k => if k = 0 then (nI 0, all2, P, L, R, S, A, many2, nI n, rdv) else if k = 1 then (nI 1, all3, P3, L3, R3, S3, A3, many3, nI n, rdv3) else (nI 2, all4, P4, L4, R4, S4, A4, many4, nI n, rdv4)) 2 rfl (by omega) ?_ ?_
        · intro k hk
          rcases (show k = 0 ∨ k = 1 by omega) with rfl | rfl
          · show fX7_firstTurn_B24 d (nI n) (nI (dcF z)) (nI (l + 1)) (nI 0, all2, P, L, R, S, A, many2, nI n, rdv) = some (.inl (nI 1, all3, P3, L3, R3, S3, A3, many3, nI n, rdv3))
            unfold fX7_firstTurn_B24
            simp (disch := omega) only [Option.bind_some, Sum.elim_inl, Sum.elim_inr, q_le, q_nle, q_lt, q_nlt, q_eq, q_ne, q_m1, q_m5, rd_n, wr_n, ixo_n, dvo_n, rmo_n, nI_add, pk_sub, pk_mul, if_true, if_false, e3', soO]
          · show fX7_firstTurn_B24 d (nI n) (nI (dcF z)) (nI (l + 1)) (nI 1, all3, P3, L3, R3, S3, A3, many3, nI n, rdv3) = some (.inl (nI 2, all4, P4, L4, R4, S4, A4, many4, nI n, rdv4))
            unfold fX7_firstTurn_B24
            simp (disch := omega) only [Option.bind_some, Sum.elim_inl, Sum.elim_inr, q_le, q_nle, q_lt, q_nlt, q_eq, q_ne, q_m1, q_m5, rd_n, wr_n, ixo_n, dvo_n, rmo_n, nI_add, pk_sub, pk_mul, if_true, if_false, e4', soO]
        · show fX7_firstTurn_B24 d (nI n) (nI (dcF z)) (nI (l + 1)) (nI 2, all4, P4, L4, R4, S4, A4, many4, nI n, rdv4) = _
          unfold fX7_firstTurn_B24
          simp (disch := omega) only [Option.bind_some, Sum.elim_inl, Sum.elim_inr, q_le, q_nle, q_lt, q_nlt, q_eq, q_ne, q_m1, q_m5, rd_n, wr_n, ixo_n, dvo_n, rmo_n, nI_add, pk_sub, pk_mul, if_true, if_false]
      refine ⟨none, none, all4, P4, L4, R4, S4, A4, many4, rdv4, h3, fun _ => h4, ?_, hT4⟩
      unfold fX7_firstTurn
      simp (disch := omega) only [Option.bind_some, Sum.elim_inl, Sum.elim_inr, q_le, q_nle, q_lt, q_nlt, q_eq, q_ne, q_m1, q_m5, rd_n, wr_n, ixo_n, dvo_n, rmo_n, nI_add, pk_sub, pk_mul, if_true, if_false, en, e', step]
/-- a tree that is not at the end of the way has a turn nearer to it -/
theorem fst_ex {n a i k l : Nat} (h0 : 0 < n) (h7 : n < 8) (ha : a < cntF n) (h : BFE true n a i) (hk : k < cntF n) (hm : (bf true n a i).1 k = some (l + 1)) {o o' : Option Nat} (ho : FST n l (bf true n a i).1 (upF (fstF n + k)) o) (ho' : FST n l (bf true n a i).1 (bkF (fstF n + k)) o') : o ≠ none ∨ o' ≠ none := by
  obtain ⟨A1, A2⟩ := bfe_ok h0 h7 ha h
  obtain ⟨x, hx, hDx, c, hc, hh⟩ := A1.b4 k hk l hm
  obtain ⟨z0, z1, z2⟩ := pl_ok h0 h7 hx
  obtain ⟨y0, y1, y2⟩ := pl_ok h0 h7 hk
  have exx : fstF n + x - fstF n = x := by omega
  rcases hh with e | ⟨_, e⟩
  · right
    intro e2
    subst e2
    have u := up_ok (c := c) z0 z1 (by omega) (by omega)
    rw [e] at u
    refine ho' c hc ⟨by omega, ?_⟩
    rw [u.2.2.2, exx]
    exact hDx
  · left
    intro e2
    subst e2
    have u := bk_ok (c := c) z0 z1 (by omega) (by omega)
    rw [e] at u
    refine ho c hc ⟨by omega, ?_⟩
    rw [u.2.2, exx]
    exact hDx
