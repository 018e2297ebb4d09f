/-! turns up and down are each other's inverse; the class's tables of them -/
def invB (p c : Nat) : Bool := (decide (upF p c = 0) || (decide (p < upF p c) && decide (upF p c < 626) && decide (szF (upF p c) = szF p) && decide (bkF (upF p c) c = p))) && (decide (bkF p c = 0) || (decide (bkF p c < p) && decide (szF (bkF p c) = szF p) && decide (upF (bkF p c) c = p)))
theorem k_inv : (List.range 626).all (fun p => decide (p = 0) || (List.range 7).all fun c => !(decide (c < szF p)) || invB p c) = true := by decide +kernel
theorem inv_at {p c : Nat} (h0 : 0 < p) (hp : p < 626) (hc : c < szF p) : (upF p c = 0 ∨ (p < upF p c ∧ upF p c < 626 ∧ szF (upF p c) = szF p ∧ bkF (upF p c) c = p)) ∧ (bkF p c = 0 ∨ (bkF p c < p ∧ szF (bkF p c) = szF p ∧ upF (bkF p c) c = p)) := by
  have h7 := sz_le hp
  have h := ra k_inv hp
  rw [Bool.or_eq_true] at h
  rcases h with h | h
  · have := of_decide_eq_true h
    omega
  · have h := ra h (show c < 7 by omega)
    rw [Bool.or_eq_true] at h
    rcases h with h | h
    · simp [hc] at h
    · unfold invB at h
      simp only [Bool.and_eq_true, Bool.or_eq_true, decide_eq_true_eq] at h
      refine ⟨?_, ?_⟩
      · rcases h.1 with h | h
        · exact Or.inl h
        · exact Or.inr ⟨h.1.1.1, h.1.1.2, h.1.2, h.2⟩
      · rcases h.2 with h | h
        · exact Or.inl h
        · exact Or.inr ⟨h.1.1, h.1.2, h.2⟩
theorem up_ok {p c : Nat} (h0 : 0 < p) (hp : p < 626) (hc : c < szF p) (h : upF p c ≠ 0) : p < upF p c ∧ upF p c < 626 ∧ szF (upF p c) = szF p ∧ bkF (upF p c) c = p := by
  rcases (inv_at h0 hp hc).1 with e | e
  · exact absurd e h
  · exact e
theorem bk_ok {p c : Nat} (h0 : 0 < p) (hp : p < 626) (hc : c < szF p) (h : bkF p c ≠ 0) : bkF p c < p ∧ szF (bkF p c) = szF p ∧ upF (bkF p c) c = p := by
  rcases (inv_at h0 hp hc).2 with e | e
  · exact absurd e h
  · exact e
/-- every tree but the first of a size has one below it by one turn -/
theorem k_dn : (List.range 626).all (fun p => decide (p = 0) || decide (p = fstF (szF p)) || (List.range 7).any fun c => decide (c < szF p) && decide (bkF p c ≠ 0)) = true := by decide +kernel
theorem dn_at {p : Nat} (h0 : 0 < p) (hp : p < 626) (h : p ≠ fstF (szF p)) : ∃ c, c < szF p ∧ bkF p c ≠ 0 := by
  have h1 := ra k_dn hp
  simp only [Bool.or_eq_true, decide_eq_true_eq, List.any_eq_true, Bool.and_eq_true, List.mem_range] at h1
  rcases h1 with (h1 | h1) | ⟨c, _, h2, h3⟩
  · omega
  · exact absurd h1 h
  · exact ⟨c, h2, h3⟩
/-! the tables -/
def dnd (z j w c : Nat) : Prop := w < z ∨ (w = z ∧ c < j)
def LRN (n z j : Nat) (u0 b0 u b : Nat → Int32) : Prop :=
  (∀ w c, 0 < w → w < 626 → szF w = n → c < n → (dnd z j w c → u (w * 7 + c) = nI (upF w c)) ∧ (¬ dnd z j w c → u (w * 7 + c) = nI 0) ∧ (bkF w c ≠ 0 → dnd z j (bkF w c) c → b (w * 7 + c) = nI (bkF w c)) ∧ (¬ (bkF w c ≠ 0 ∧ dnd z j (bkF w c) c) → b (w * 7 + c) = nI 0)) ∧
  (∀ w c, w < 626 → szF w ≠ n → c < 7 → u (w * 7 + c) = u0 (w * 7 + c) ∧ b (w * 7 + c) = b0 (w * 7 + c))
theorem c_tp (v c : Nat) : fX5_turnPlace (nI v) (nI c) = some (nI (v * 7 + c)) := by
  unfold fX5_turnPlace
  rw [show nI v * nI 7 = nI (v * 7) by rw [pk_mul], nI_add]
theorem c_isT {v : Nat} (h0 : 0 < v) (hv : v < 626) : fX5_isTree (nI v) = some (nI 1) := by
  unfold fX5_isTree
  simp (disch := omega) only [Option.bind_some, Sum.elim_inl, Sum.elim_inr, q_le, q_nle, q_lt, q_nlt, q_eq, q_ne, q_m1, q_m5, rd_n, wr_n, ixo_n, dvo_n, rmo_n, nI_add, pk_sub, pk_mul, if_true, if_false]
theorem c_isT0 : fX5_isTree (nI 0) = some (nI 0) := by decide
theorem lrn_step {n z j : Nat} {u0 b0 u b : Nat → Int32} (z0 : 0 < z) (z1 : z < 626) (z2 : szF z = n) (hj : j < n) (H : LRN n z j u0 b0 u b) : ∃ u' b', fX5_learn_B40 cF sF (nI n) (nI z) (nI j, u, b) = some (.inl (nI (j + 1), u', b')) ∧ LRN n z (j + 1) u0 b0 u' b' := by
  have h7 := sz_le z1
  have hup := c_turnedUp z1 (show j < 7 by omega) (by omega)
  unfold fX5_learn_B40 fX5_learn_J88
  by_cases hu : upF z j = 0
  · refine ⟨u, b, ?_, fun w c w0 w1 w2 hc => ?_, H.2⟩
    · rw [hu] at hup
      simp (disch := omega) only [Option.bind_some, Sum.elim_inl, Sum.elim_inr, q_le, q_nle, q_lt, q_nlt, q_eq, q_ne, q_m1, q_m5, rd_n, wr_n, ixo_n, dvo_n, rmo_n, nI_add, pk_sub, pk_mul, if_true, if_false, hup, c_isT0]
    · obtain ⟨H1, H2, H3, H4⟩ := H.1 w c w0 w1 w2 hc
      unfold dnd at *
      refine ⟨fun hd => ?_, fun hd => H2 (by omega), fun hb hd => ?_, fun hd => H4 (fun ⟨e1, e2⟩ => hd ⟨e1, by omega⟩)⟩
      · by_cases e : w = z ∧ c = j
        · obtain ⟨rfl, rfl⟩ := e
          rw [hu]
          exact H2 (by omega)
        · exact H1 (by omega)
      · by_cases e : bkF w c = z ∧ c = j
        · have := (bk_ok w0 w1 (by omega) hb).2.2
          rw [e.1, e.2] at this
          omega
        · exact H3 hb (by omega)
  · obtain ⟨p1, p2, p3, p4⟩ := up_ok z0 z1 (by omega) hu
    have hT := c_isT (show 0 < upF z j by omega) p2
    have t1 := c_tp z j
    have t2 := c_tp (upF z j) j
    refine ⟨upd u (z * 7 + j) (nI (upF z j)), upd b (upF z j * 7 + j) (nI z), ?_, fun w c w0 w1 w2 hc => ?_, fun w c w1 w2 hc => ?_⟩
    · simp (disch := omega) only [Option.bind_some, Sum.elim_inl, Sum.elim_inr, q_le, q_nle, q_lt, q_nlt, q_eq, q_ne, q_m1, q_m5, rd_n, wr_n, ixo_n, dvo_n, rmo_n, nI_add, pk_sub, pk_mul, if_true, if_false, hup, hT, t1, t2]
    · obtain ⟨H1, H2, H3, H4⟩ := H.1 w c w0 w1 w2 hc
      have eu : (w * 7 + c = z * 7 + j) ↔ (w = z ∧ c = j) := by omega
      have eb : (w * 7 + c = upF z j * 7 + j) ↔ (w = upF z j ∧ c = j) := by omega
      unfold dnd at *
      refine ⟨fun hd => ?_, fun hd => ?_, fun hb hd => ?_, fun hd => ?_⟩
      · by_cases e : w = z ∧ c = j
        · obtain ⟨rfl, rfl⟩ := e
          rw [upd_s]
        · rw [upd_n (fun h => e (eu.mp h))]
          exact H1 (by omega)
      · rw [upd_n (fun h => by have := eu.mp h; omega)]
        exact H2 (by omega)
      · by_cases e : w = upF z j ∧ c = j
        · obtain ⟨rfl, rfl⟩ := e
          rw [upd_s, p4]
        · rw [upd_n (fun h => e (eb.mp h))]
          refine H3 hb ?_
          by_cases e2 : bkF w c = z ∧ c = j
          · have := (bk_ok w0 w1 (by omega) hb).2.2
            rw [e2.1, e2.2] at this
            exact absurd ⟨this.symm, e2.2⟩ e
          · omega
      · have ne : ¬ (w = upF z j ∧ c = j) := fun ⟨e1, e2⟩ => by
          subst e2
          subst e1
          rw [p4] at hd
          exact hd ⟨by omega, by omega⟩
        rw [upd_n (fun h => ne (eb.mp h))]
        exact H4 (fun ⟨e1, e2⟩ => hd ⟨e1, by omega⟩)
    · have := H.2 w c w1 w2 hc
      have ne1 : w ≠ z := fun e => w2 (by rw [e]; exact z2)
      have ne2 : w ≠ upF z j := fun e => w2 (by rw [e]; omega)
      rw [upd_n (by omega), upd_n (by omega)]
      exact this
/-- what the class knows of turns -/
def WYS (u b l : Nat → Int32) : Prop := ∀ n, 0 < n → n < 8 → (l n = nI 0 ∧ ∀ w c, 0 < w → w < 626 → szF w = n → c < n → u (w * 7 + c) = nI 0 ∧ b (w * 7 + c) = nI 0) ∨ (l n = nI 1 ∧ ∀ w c, 0 < w → w < 626 → szF w = n → c < n → u (w * 7 + c) = nI (upF w c) ∧ b (w * 7 + c) = nI (bkF w c))
def WYn (n : Nat) (u b : Nat → Int32) : Prop := ∀ w c, 0 < w → w < 626 → szF w = n → c < n → u (w * 7 + c) = nI (upF w c) ∧ b (w * 7 + c) = nI (bkF w c)
theorem c_learn {n : Nat} {u b l : Nat → Int32} (h0 : 0 < n) (h7 : n < 8) (H : WYS u b l) : ∃ u' b' l', fX5_learn cF sF u b l (nI n) = some (u', b', l') ∧ WYS u' b' l' ∧ WYn n u' b' ∧ l' n = nI 1 ∧ ∀ m, l m = nI 1 → l' m = nI 1 := by
  have hc := cnt_le n h7
  have hf := fst_lt n h7
  unfold fX5_learn
  rw [c_isSize h0 h7]
  rcases H n h0 h7 with ⟨hl, hz⟩ | ⟨hl, hz⟩
  · obtain ⟨y, hy, hQ⟩ : ∃ y, it (fX5_learn_B26 cF sF (nI n)) FU (nI (fstF n), u, b) = some y ∧ LRN n (fstF n + cntF n) 0 u b y.1 y.2 := by
      refine it_inv (fun k x => ∃ u' b', x = (nI (fstF n + k), u', b') ∧ LRN n (fstF n + k) 0 u b u' b') _ (cntF n) (by omega) ⟨u, b, rfl, fun w c w0 w1 w2 hcn => ?_, fun w c w1 w2 hcn => ⟨rfl, rfl⟩⟩ ?_
      · have hw := sz_pos w1 w0
        rw [w2] at hw
        have nd : ∀ x, szF x = n → 0 < x → x < 626 → ¬ dnd (fstF n + 0) 0 x c := fun x hx x0 x1 => by
          have := sz_pos x1 x0
          rw [hx] at this
          unfold dnd
          omega
        refine ⟨fun hd => absurd hd (nd w w2 w0 w1), fun _ => (hz w c w0 w1 w2 hcn).1, fun hb hd => ?_, fun _ => (hz w c w0 w1 w2 hcn).2⟩
        have hk := bk_ok w0 w1 (by omega) hb
        exact absurd hd (nd _ (by omega) (by omega) (by omega))
      rintro k x hk ⟨u', b', rfl, HL⟩
      unfold fX5_learn_B26
      rw [c_lastOf h0 h7]
      rcases Nat.lt_or_ge k (cntF n) with hlt | hge
      · left
        obtain ⟨z0, z1, z2⟩ := pl_ok h0 h7 hlt
        obtain ⟨y2, hy2, hQ2⟩ : ∃ y2, it (fX5_learn_B40 cF sF (nI n) (nI (fstF n + k))) FU (nI 0, u', b') = some y2 ∧ LRN n (fstF n + k) n u b y2.1 y2.2 := by
          refine it_inv (fun j x => ∃ u2 b2, x = (nI j, u2, b2) ∧ LRN n (fstF n + k) j u b u2 b2) _ n (by omega) ⟨u', b', rfl, HL⟩ ?_
          rintro j x hj ⟨u2, b2, rfl, HL2⟩
          rcases Nat.lt_or_ge j n with hj2 | hj2
          · left
            obtain ⟨u3, b3, e3, HL3⟩ := lrn_step z0 z1 z2 hj2 HL2
            exact ⟨_, e3, hj2, u3, b3, rfl, HL3⟩
          · right
            have ej : j = n := by omega
            subst ej
            refine ⟨(u2, b2), ?_, HL2⟩
            unfold fX5_learn_B40
            simp (disch := omega) only [Option.bind_some, Sum.elim_inl, Sum.elim_inr, q_le, q_nle, q_lt, q_nlt, q_eq, q_ne, q_m1, q_m5, rd_n, wr_n, ixo_n, dvo_n, rmo_n, nI_add, pk_sub, pk_mul, if_true, if_false]
        refine ⟨(nI (fstF n + (k + 1)), y2.1, y2.2), ?_, hlt, y2.1, y2.2, rfl, fun w c w0 w1 w2 hcn => ?_, hQ2.2⟩
        · simp (disch := omega) only [Option.bind_some, Sum.elim_inl, Sum.elim_inr, q_le, q_nle, q_lt, q_nlt, q_eq, q_ne, q_m1, q_m5, rd_n, wr_n, ixo_n, dvo_n, rmo_n, nI_add, pk_sub, pk_mul, if_true, if_false, hy2]
          rfl
        · have e : ∀ x, dnd (fstF n + (k + 1)) 0 x c ↔ dnd (fstF n + k) n x c := fun x => by
            unfold dnd
            omega
          have := hQ2.1 w c w0 w1 w2 hcn
          rw [e, e]
          exact this
      · right
        have ek : k = cntF n := by omega
        subst ek
        refine ⟨(u', b'), ?_, HL⟩
        simp (disch := omega) only [Option.bind_some, Sum.elim_inl, Sum.elim_inr, q_le, q_nle, q_lt, q_nlt, q_eq, q_ne, q_m1, q_m5, rd_n, wr_n, ixo_n, dvo_n, rmo_n, nI_add, pk_sub, pk_mul, if_true, if_false]
    have hall : WYn n y.1 y.2 := fun w c w0 w1 w2 hcn => by
      obtain ⟨H1, H2, H3, H4⟩ := hQ.1 w c w0 w1 w2 hcn
      have hw := sz_pos w1 w0
      rw [w2] at hw
      refine ⟨H1 (Or.inl (by omega)), ?_⟩
      by_cases hb : bkF w c = 0
      · rw [hb]
        exact H4 (fun h => h.1 hb)
      · have hk := bk_ok w0 w1 (by omega) hb
        exact H3 hb (Or.inl (by omega))
    refine ⟨y.1, y.2, upd l n (nI 1), ?_, fun n' h0' h7' => ?_, hall, upd_s, fun m hm => ?_⟩
    · simp (disch := omega) only [Option.bind_some, Sum.elim_inl, Sum.elim_inr, q_le, q_nle, q_lt, q_nlt, q_eq, q_ne, q_m1, q_m5, rd_n, wr_n, ixo_n, dvo_n, rmo_n, nI_add, pk_sub, pk_mul, if_true, if_false, hl, c_firstOf h0 h7, hy]
    · by_cases e : n' = n
      · subst e
        right
        rw [upd_s]
        exact ⟨rfl, hall⟩
      · rw [upd_n e]
        rcases H n' h0' h7' with ⟨hl', hz'⟩ | ⟨hl', hz'⟩
        · left
          refine ⟨hl', fun w c w0 w1 w2 hcn => ?_⟩
          have := hQ.2 w c w1 (by omega) (by omega)
          rw [this.1, this.2]
          exact hz' w c w0 w1 w2 hcn
        · right
          refine ⟨hl', fun w c w0 w1 w2 hcn => ?_⟩
          have := hQ.2 w c w1 (by omega) (by omega)
          rw [this.1, this.2]
          exact hz' w c w0 w1 w2 hcn
    · by_cases e : m = n
      · rw [e, upd_s]
      · rw [upd_n e]
        exact hm
  · refine ⟨u, b, l, ?_, H, hz, hl, fun _ h => h⟩
    simp (disch := omega) only [Option.bind_some, Sum.elim_inl, Sum.elim_inr, q_le, q_nle, q_lt, q_nlt, q_eq, q_ne, q_m1, q_m5, rd_n, wr_n, ixo_n, dvo_n, rmo_n, nI_add, pk_sub, pk_mul, if_true, if_false, hl]
