def fsX0 (ad : Nat → Nat) (M : Mm) : List Value := [.ref (ad 2), .ref (ad 3)]
theorem inX0 : ∀ w ∈ u_ws RX0 TX0 2, w ∈ lw_gd := by decide +kernel
def fsX1 (ad : Nat → Nat) (M : Mm) : List Value := [.ref (ad 17), .ref (ad 21)]
theorem inX1 : ∀ w ∈ u_ws RX1 TX1 2, w ∈ lw_gd := by decide +kernel
def fsX2 (ad : Nat → Nat) (M : Mm) : List Value := [.ref (ad 1), .ref (ad 5), .ref (ad 6)]
theorem inX2 : ∀ w ∈ u_ws RX2 TX2 3, w ∈ lw_gd := by decide +kernel
def fsX3 (ad : Nat → Nat) (M : Mm) : List Value := [.ref (ad 15), .int (M.2.2 44)]
theorem inX3 : ∀ w ∈ u_ws RX3 TX3 2, w ∈ lw_gd := by decide +kernel
def fsX4 (ad : Nat → Nat) (M : Mm) : List Value := [.ref (ad 23), .int (M.2.2 45), .ref (ad 24), .ref (ad 25), .ref (ad 26), .int (M.2.2 46), .int (M.2.2 47), .int (M.2.2 48)]
theorem inX4 : ∀ w ∈ u_ws RX4 TX4 8, w ∈ lw_gd := by decide +kernel
def fsX5 (ad : Nat → Nat) (M : Mm) : List Value := [.ref (ad 1), .ref (ad 8), .ref (ad 9), .ref (ad 10), .ref (ad 11), .ref (ad 12), .ref (ad 13), .int (M.2.2 42), .int (M.2.2 43)]
theorem inX5 : ∀ w ∈ u_ws RX5 TX5 9, w ∈ lw_gd := by decide +kernel
def fsX6 (ad : Nat → Nat) (M : Mm) : List Value := [.ref (ad 1), .ref (ad 4), .ref (ad 7), .ref (ad 14), .ref (ad 16), .ref (ad 22), .ref (ad 27), .ref (ad 28), .int (M.2.2 40), .int (M.2.2 41)]
theorem inX6 : ∀ w ∈ u_ws RX6 TX6 10, w ∈ lw_gd := by decide +kernel
def fsX7 (ad : Nat → Nat) (M : Mm) : List Value := [.int (M.2.2 40), .int (M.2.2 41), .ref (ad 1), .ref (ad 2), .ref (ad 3), .ref (ad 4), .int (M.2.2 42), .ref (ad 5), .ref (ad 6), .ref (ad 7), .int (M.2.2 43), .int (M.2.2 44), .int (M.2.2 45), .int (M.2.2 46), .int (M.2.2 47), .ref (ad 8), .ref (ad 9), .ref (ad 10), .int (M.2.2 48), .int (M.2.2 49), .ref (ad 11), .ref (ad 12), .ref (ad 13), .ref (ad 14), .ref (ad 15), .int (M.2.2 50), .ref (ad 16), .ref (ad 17), .ref (ad 18), .ref (ad 19), .int (M.2.2 51), .int (M.2.2 52), .ref (ad 20), .int (M.2.2 53), .int (M.2.2 54)]
theorem inX7 : ∀ w ∈ u_ws RX7 TX7 35, w ∈ lw_gd := by decide +kernel
def KF (wOf : Mm → va_W) (po ad : Nat → Nat) (ct : Nat → ClassId) : Prop :=
  OB wOf po ad 1 0 (fsX0 ad) ∧
  IA wOf po ad (ct 0) 2 626 ∧
  IA wOf po ad (ct 0) 3 626
def KC (wOf : Mm → va_W) (po ad : Nat → Nat) (ct : Nat → ClassId) : Prop :=
  KF wOf po ad ct ∧
  OB wOf po ad 4 2 (fsX2 ad) ∧
  OB wOf po ad 7 5 (fsX5 ad) ∧
  OB wOf po ad 14 3 (fsX3 ad) ∧
  OB wOf po ad 16 1 (fsX1 ad) ∧
  OB wOf po ad 22 4 (fsX4 ad) ∧
  OB wOf po ad 0 6 (fsX6 ad) ∧
  IA wOf po ad (ct 0) 5 429 ∧
  IA wOf po ad (ct 0) 6 429 ∧
  IA wOf po ad (ct 0) 8 4382 ∧
  IA wOf po ad (ct 0) 9 4382 ∧
  IA wOf po ad (ct 2) 10 8 ∧
  IA wOf po ad (ct 0) 11 626 ∧
  IA wOf po ad (ct 0) 12 429 ∧
  IA wOf po ad (ct 0) 13 626 ∧
  IA wOf po ad (ct 0) 15 10 ∧
  IA wOf po ad (ct 0) 21 3 ∧
  IA wOf po ad (ct 0) 23 60 ∧
  IA wOf po ad (ct 0) 24 7 ∧
  IA wOf po ad (ct 0) 25 7 ∧
  IA wOf po ad (ct 0) 26 7 ∧
  IA wOf po ad (ct 0) 27 4 ∧
  IA wOf po ad (ct 0) 28 4 ∧
  (∀ M : Mm, (wOf M)[po 17]? = some (ad 17, .inl (ct 3, 3, .inr (.inr (.inr (.inr (fun i => if i < 3 then some (ad (18 + i)) else none))))))) ∧
  (∀ t : Nat, t < 3 → LA wOf po ad (ct 1) (18 + t) t 20) ∧
  OS wOf po ad 7 5 7 42 (fsX5 ad) ∧
  OS wOf po ad 7 5 8 43 (fsX5 ad) ∧
  OS wOf po ad 14 3 1 44 (fsX3 ad) ∧
  OS wOf po ad 22 4 1 45 (fsX4 ad) ∧
  OS wOf po ad 22 4 5 46 (fsX4 ad) ∧
  OS wOf po ad 22 4 6 47 (fsX4 ad) ∧
  OS wOf po ad 22 4 7 48 (fsX4 ad) ∧
  OS wOf po ad 0 6 8 40 (fsX6 ad) ∧
  OS wOf po ad 0 6 9 41 (fsX6 ad)
def KM (wOf : Mm → va_W) (po ad : Nat → Nat) (ct : Nat → ClassId) : Prop :=
  OB wOf po ad 0 7 (fsX7 ad) ∧
  IA wOf po ad (ct 0) 1 4 ∧
  IA wOf po ad (ct 0) 2 4 ∧
  IA wOf po ad (ct 0) 3 10 ∧
  IA wOf po ad (ct 0) 4 10 ∧
  LA wOf po ad (ct 1) 5 0 60 ∧
  IA wOf po ad (ct 0) 6 3 ∧
  IA wOf po ad (ct 0) 7 60 ∧
  IA wOf po ad (ct 0) 8 4 ∧
  IA wOf po ad (ct 0) 9 4 ∧
  IA wOf po ad (ct 0) 10 429 ∧
  IA wOf po ad (ct 0) 11 7 ∧
  IA wOf po ad (ct 0) 12 7 ∧
  IA wOf po ad (ct 0) 13 7 ∧
  IA wOf po ad (ct 0) 14 7 ∧
  IA wOf po ad (ct 0) 15 7 ∧
  IA wOf po ad (ct 0) 16 429 ∧
  IA wOf po ad (ct 0) 17 429 ∧
  IA wOf po ad (ct 0) 18 429 ∧
  IA wOf po ad (ct 0) 19 60 ∧
  IA wOf po ad (ct 0) 20 7 ∧
  OS wOf po ad 0 7 0 40 (fsX7 ad) ∧
  OS wOf po ad 0 7 1 41 (fsX7 ad) ∧
  OS wOf po ad 0 7 6 42 (fsX7 ad) ∧
  OS wOf po ad 0 7 10 43 (fsX7 ad) ∧
  OS wOf po ad 0 7 11 44 (fsX7 ad) ∧
  OS wOf po ad 0 7 12 45 (fsX7 ad) ∧
  OS wOf po ad 0 7 13 46 (fsX7 ad) ∧
  OS wOf po ad 0 7 14 47 (fsX7 ad) ∧
  OS wOf po ad 0 7 18 48 (fsX7 ad) ∧
  OS wOf po ad 0 7 19 49 (fsX7 ad) ∧
  OS wOf po ad 0 7 25 50 (fsX7 ad) ∧
  OS wOf po ad 0 7 30 51 (fsX7 ad) ∧
  OS wOf po ad 0 7 31 52 (fsX7 ad) ∧
  OS wOf po ad 0 7 33 53 (fsX7 ad) ∧
  OS wOf po ad 0 7 34 54 (fsX7 ad)

theorem fill_0 {α : Type} (v : α) (f : Nat → α) : fillF 0 v f = f := by funext j; simp [fillF]
theorem fill_sI (v : Int32) (f : Nat → Int32) (j : Nat) : upd (fillF j v f) j v = fillF (j + 1) v f := by
  funext k
  unfold upd fillF
  by_cases h : k = j
  · simp [h]
  · by_cases h2 : k < j
    · simp [h, h2, Nat.lt_succ_of_lt h2]
    · simp [h, h2, show ¬ k < j + 1 by omega]
theorem fill_sL (v : Int64) (f : Nat → Int64) (j : Nat) : vp_updL (fillF j v f) j v = fillF (j + 1) v f := by
  funext k
  unfold vp_updL fillF
  by_cases h : k = j
  · simp [h]
  · by_cases h2 : k < j
    · simp [h, h2, Nat.lt_succ_of_lt h2]
    · simp [h, h2, show ¬ k < j + 1 by omega]
theorem tJ_fillI {l : Launch} {D : va_G} {ct : Nat → ClassId} {tF : Nat} {wOf : Mm → va_W} {po ad : Nat → Nat} {q n : Nat} (hA : IA wOf po ad (ct 0) q n) (hn : n < 2 ^ 31) (M : Mm) (v : Int32) : CtV l yJ_fillI prog_13_method_103_code 4 { frames := 0, cells := 0, slots := 0, locals := 0 } D ct tF wOf [.ref (ad q), .int v] M (mk M [(q, fillF n v (M.1 q))] M.2.1 []) := by
  refine metV (by decide) (Nat.le_of_ble_eq_true rfl) fun κ X e1 eR e3 e4 hs => ?_
  subst e1; subst e3; subst e4
  have hk1 : ∀ f : Nat → Int32, hk [(q, f)] q = true := fun f => by simp [hk]
  have hrp : ∀ f g : Nat → Int32, rp [(q, f)] q g = [(q, g)] := fun f g => by simp [rp]
  have hpu : ∀ f : Nat → Int32, pu M.1 [(q, f)] q = f := fun f => by simp [pu]
  have loop : ∀ k j : Nat, j + k = n → Zj κ 4 5 [(0, .ref (ad q)), (1, .int v), (2, .int (nI j)), (3, .int (nI n))] [] (mk M [(q, fillF j v (M.1 q))] M.2.1 []) := by
    intro k
    induction k with
    | zero =>
      intro j hj
      have hj : j = n := hj
      subst hj
      refine z_iload_n X dJ_fillI_5 2 rfl rfl ?_
      refine z_iload_n X dJ_fillI_6 3 rfl rfl ?_
      refine z_icmp_ge (tgt := 20) X dJ_fillI_7 (by decide) (fun c => ?_) (fun c => ?_)
      · exact z_vret hs dJ_fillI_20
      · exact absurd (nI_le (Nat.le_refl j) hn) c
    | succ k ih =>
      intro j hj
      refine z_iload_n X dJ_fillI_5 2 rfl rfl ?_
      refine z_iload_n X dJ_fillI_6 3 rfl rfl ?_
      refine z_icmp_ge (tgt := 20) X dJ_fillI_7 (by decide) (fun c => ?_) (fun c => ?_)
      · exact absurd c (nI_ge (by omega) hn)
      · refine z_aload_n X dJ_fillI_10 0 rfl rfl ?_
        refine z_iload_n X dJ_fillI_11 2 rfl rfl ?_
        refine z_iload_n X dJ_fillI_12 1 rfl rfl ?_
        refine z_iast (g := fillF (j + 1) v (M.1 q)) (M' := mk M [(q, fillF (j + 1) v (M.1 q))] M.2.1 []) X (hA _).1 ⟨vp_in_nI (by omega) hn, ?_⟩ (mk_set1 hA (hk1 _) (hrp _ _)) dJ_fillI_13 ?_
        · rw [nI_clamp (by omega)]
          show upd (pu M.1 [(q, fillF j v (M.1 q))] q) j v = _
          rw [hpu]
          exact fill_sI v (M.1 q) j
        · refine z_iinc (v := nI (j + 1)) (lv' := [(2, .int (nI (j + 1))), (0, .ref (ad q)), (1, .int v), (3, .int (nI n))]) X dJ_fillI_14 2 rfl (nI_1 j) (by decide) rfl ?_
          refine z_goto (tgt := 5) X dJ_fillI_17 (by decide) ?_
          exact z_sub [1, 2, 0, 3] rfl (ih (j + 1) (by omega))
  refine z_mem (mk_self M [q] []) ?_
  refine z_sub (lv' := [(0, .ref (ad q)), (1, .int v)]) [0, 1] rfl ?_
  refine z_iconst (v := nI 0) X dJ_fillI_0 (by decide) ?_
  refine z_istore_n (lv' := [(2, .int (nI 0)), (0, .ref (ad q)), (1, .int v)]) X dJ_fillI_1 rfl (by decide) rfl ?_
  refine z_aload_n X dJ_fillI_2 1 rfl rfl ?_
  refine z_alen (t0 := 0) (v := nI n) X (hA _).1 rfl rfl dJ_fillI_3 ?_
  refine z_istore_n (lv' := [(3, .int (nI n)), (2, .int (nI 0)), (0, .ref (ad q)), (1, .int v)]) X dJ_fillI_4 rfl (by decide) rfl ?_
  have h0 := loop n 0 (by omega)
  rw [fill_0] at h0
  exact z_sub [2, 3, 1, 0] rfl h0
theorem tJ_fillL {l : Launch} {D : va_G} {ct : Nat → ClassId} {tF : Nat} {wOf : Mm → va_W} {po ad : Nat → Nat} {q r n : Nat} (hA : LA wOf po ad (ct 1) q r n) (hn : n < 2 ^ 31) (M : Mm) (v : Int64) : CtV l yJ_fillL prog_13_method_101_code 5 { frames := 0, cells := 0, slots := 0, locals := 0 } D ct tF wOf [.ref (ad q), .long v] M (mk M [] (pu M.2.1 [(r, fillF n v (M.2.1 r))]) []) := by
  refine metV (by decide) (Nat.le_of_ble_eq_true rfl) fun κ X e1 eR e3 e4 hs => ?_
  subst e1; subst e3; subst e4
  have hpu : ∀ f : Nat → Int64, pu M.2.1 [(r, f)] r = f := fun f => by simp [pu]
  have hpp : ∀ f g : Nat → Int64, pu (pu M.2.1 [(r, f)]) [(r, g)] = pu M.2.1 [(r, g)] := fun f g => by
    funext k
    simp only [pu]
    by_cases h : k = r <;> simp [h]
  have loop : ∀ k j : Nat, j + k = n → Zj κ 5 6 [(0, .ref (ad q)), (1, .long v), (3, .int (nI j)), (4, .int (nI n))] [] (mk M [] (pu M.2.1 [(r, fillF j v (M.2.1 r))]) []) := by
    intro k
    induction k with
    | zero =>
      intro j hj
      have hj : j = n := hj
      subst hj
      refine z_iload_n X dJ_fillL_6 2 rfl rfl ?_
      refine z_iload X dJ_fillL_7 3 rfl ?_
      refine z_icmp_ge (tgt := 22) X dJ_fillL_9 (by decide) (fun c => ?_) (fun c => ?_)
      · exact z_vret hs dJ_fillL_22
      · exact absurd (nI_le (Nat.le_refl j) hn) c
    | succ k ih =>
      intro j hj
      refine z_iload_n X dJ_fillL_6 2 rfl rfl ?_
      refine z_iload X dJ_fillL_7 3 rfl ?_
      refine z_icmp_ge (tgt := 22) X dJ_fillL_9 (by decide) (fun c => ?_) (fun c => ?_)
      · exact absurd c (nI_ge (by omega) hn)
      · refine z_aload_n X dJ_fillL_12 0 rfl rfl ?_
        refine z_iload_n X dJ_fillL_13 2 rfl rfl ?_
        refine z_lload_n X dJ_fillL_14 1 rfl rfl ?_
        refine z_last (g := fillF (j + 1) v (M.2.1 r)) (M' := mk M [] (pu M.2.1 [(r, fillF (j + 1) v (M.2.1 r))]) []) X (hA _).1 ⟨vp_in_nI (by omega) hn, ?_⟩ (mk_setL hA (hpp _ _)) dJ_fillL_15 ?_
        · rw [nI_clamp (by omega)]
          show vp_updL (pu M.2.1 [(r, fillF j v (M.2.1 r))] r) j v = _
          rw [hpu]
          exact fill_sL v (M.2.1 r) j
        · refine z_iinc (v := nI (j + 1)) (lv' := [(3, .int (nI (j + 1))), (0, .ref (ad q)), (1, .long v), (4, .int (nI n))]) X dJ_fillL_16 2 rfl (nI_1 j) (by decide) rfl ?_
          refine z_goto (tgt := 6) X dJ_fillL_19 (by decide) ?_
          exact z_sub [1, 2, 0, 3] rfl (ih (j + 1) (by omega))
  have hid : pu M.2.1 [(r, fillF 0 v (M.2.1 r))] = M.2.1 := by
    rw [fill_0]
    exact pu_self M.2.1 [r]
  refine z_mem (mk_self M [] []) ?_
  refine z_sub (lv' := [(0, .ref (ad q)), (1, .long v)]) [0, 1] rfl ?_
  refine z_iconst (v := nI 0) X dJ_fillL_0 (by decide) ?_
  refine z_istore_n (lv' := [(3, .int (nI 0)), (0, .ref (ad q)), (1, .long v)]) X dJ_fillL_1 rfl (by decide) rfl ?_
  refine z_aload_n X dJ_fillL_2 1 rfl rfl ?_
  refine z_alen (t0 := 1) (v := nI n) X (hA _).1 rfl rfl dJ_fillL_3 ?_
  refine z_istore (lv' := [(4, .int (nI n)), (3, .int (nI 0)), (0, .ref (ad q)), (1, .long v)]) X dJ_fillL_4 (by decide) rfl ?_
  have h0 := loop n 0 (by omega)
  rw [hid] at h0
  exact z_sub [2, 3, 1, 0] rfl h0
