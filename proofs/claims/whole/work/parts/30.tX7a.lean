set_option maxHeartbeats 4000000 in
theorem tX7_in {l : Launch} {D : va_G} {ct : Nat → ClassId} {tF : Nat} {wOf : Mm → va_W} {po ad : Nat → Nat} (hw : KM wOf po ad ct) (M : Mm) {v0 : Int64} {v2 : Int64} {v4 : Int64} {r : Int32} (h : fX7_in v0 v2 v4 = some r) : CtI l yX7_in cX7_in 6 .boolean { frames := 0, cells := 0, slots := 0, locals := 0 } D ct tF wOf [.long v0, .long v2, .long v4] M r M := by
  refine metI (by decide) (Nat.le_of_ble_eq_true rfl) fun κ X e1 eR e3 e4 hs => ?_
  subst e1; subst e3; subst e4
  unfold fX7_in at h
  refine z_sub (lv' := [(0, .long v0), (2, .long v2), (4, .long v4)]) [0, 1, 2] rfl ?_
  refine z_lload_n X dX7_in_0 0 rfl rfl ?_
  refine z_lload_n X dX7_in_1 1 rfl rfl ?_
  refine z_lcmp X dX7_in_2 ?_
  refine z_if_lt (tgt := 17) X dX7_in_3 (by decide) (fun c3 => ?_) (fun c3 => ?_)
  · rw [if_pos c3] at h
    refine z_iconst (v := (nI 0)) X dX7_in_17 (by decide) ?_
    have hq := Option.some.inj h
    subst hq
    exact z_iret hs dX7_in_18 rfl
  · rw [if_neg c3] at h
    refine z_lload_n X dX7_in_6 0 rfl rfl ?_
    refine z_lload X dX7_in_7 2 rfl ?_
    refine z_lcmp X dX7_in_9 ?_
    refine z_if_gt (tgt := 17) X dX7_in_10 (by decide) (fun c10 => ?_) (fun c10 => ?_)
    · rw [if_pos c10] at h
      refine z_iconst (v := (nI 0)) X dX7_in_17 (by decide) ?_
      have hq := Option.some.inj h
      subst hq
      exact z_iret hs dX7_in_18 rfl
    · rw [if_neg c10] at h
      refine z_iconst (v := (nI 1)) X dX7_in_13 (by decide) ?_
      refine z_goto (tgt := 18) X dX7_in_14 (by decide) ?_
      have hq := Option.some.inj h
      subst hq
      exact z_iret hs dX7_in_18 rfl
set_option maxHeartbeats 4000000 in
theorem bX7_ten_B4 {κ : Rx} {ct : Nat → ClassId} {tF : Nat} {po ad : Nat → Nat} (X : CX κ ct tF cX7_ten 3 RX7) (eR : kR κ = { frames := 0, cells := 0, slots := 0, locals := 0 }) (hw : KM (kw κ) po ad ct) (M : Mm)  (v0 : Int32) : ∀ (x : (Int32 × Int32)) (s : (Int32 × Int32) ⊕ Int32), fX7_ten_B4 v0 x = some s → Sum.elim (fun x => Zj κ 3 4 [(0, .int v0), (1, .int x.1), (2, .int x.2)] [] M) (fun y => Zj κ 3 20 [(1, .int y)] [] M) s → Zj κ 3 4 [(0, .int v0), (1, .int x.1), (2, .int x.2)] [] M := by
  intro x s h hs
  unfold fX7_ten_B4 at h
  refine z_iload_n X dX7_ten_4 2 rfl rfl ?_
  refine z_iload_n X dX7_ten_5 0 rfl rfl ?_
  refine z_icmp_ge (tgt := 20) X dX7_ten_6 (by decide) (fun c6 => ?_) (fun c6 => ?_)
  · rw [if_pos c6] at h
    have hq := Option.some.inj h
    subst hq
    exact z_sub [1] rfl hs
  · rw [if_neg c6] at h
    refine z_iload_n X dX7_ten_9 1 rfl rfl ?_
    refine z_bipush (v := (nI 10)) X dX7_ten_10 (by decide) ?_
    refine z_imul X dX7_ten_12 ?_
    refine z_istore_n (lv' := [(1, .int (x.1 * (nI 10))), (0, .int v0), (2, .int x.2)]) X dX7_ten_13 rfl (by decide) rfl ?_
    refine z_iinc (v := (x.2 + nI 1)) (lv' := [(2, .int (x.2 + nI 1)), (1, .int (x.1 * (nI 10))), (0, .int v0)]) X dX7_ten_14 2 rfl rfl (by decide) rfl ?_
    refine z_goto (tgt := 4) X dX7_ten_17 (by decide) ?_
    have hq := Option.some.inj h
    subst hq
    exact z_sub [2, 1, 0] rfl hs
set_option maxHeartbeats 4000000 in
theorem tX7_ten {l : Launch} {D : va_G} {ct : Nat → ClassId} {tF : Nat} {wOf : Mm → va_W} {po ad : Nat → Nat} (hw : KM wOf po ad ct) (M : Mm) {v0 : Int32} {r : Int32} (h : fX7_ten v0 = some r) : CtI l yX7_ten cX7_ten 3 .int { frames := 0, cells := 0, slots := 0, locals := 0 } D ct tF wOf [.int v0] M r M := by
  refine metI (by decide) (Nat.le_of_ble_eq_true rfl) fun κ X e1 eR e3 e4 hs => ?_
  subst e1; subst e3; subst e4
  unfold fX7_ten at h
  refine z_sub (lv' := [(0, .int v0)]) [0] rfl ?_
  refine z_iconst (v := (nI 1)) X dX7_ten_0 (by decide) ?_
  refine z_istore_n (lv' := [(1, .int (nI 1)), (0, .int v0)]) X dX7_ten_1 rfl (by decide) rfl ?_
  refine z_iconst (v := (nI 0)) X dX7_ten_2 (by decide) ?_
  refine z_istore_n (lv' := [(2, .int (nI 0)), (1, .int (nI 1)), (0, .int v0)]) X dX7_ten_3 rfl (by decide) rfl ?_
  refine z_sub [2, 1, 0] rfl ?_
  obtain ⟨y1, hy1, h⟩ := ob h
  refine (it_Z (bX7_ten_B4 X eR hw M v0) FU _ y1 hy1) ?_
  refine z_iload_n X dX7_ten_20 0 rfl rfl ?_
  have hq := Option.some.inj h
  subst hq
  exact z_iret hs dX7_ten_21 rfl
set_option maxHeartbeats 4000000 in
theorem tX7_at {l : Launch} {D : va_G} {ct : Nat → ClassId} {tF : Nat} {wOf : Mm → va_W} {po ad : Nat → Nat} (hw : KM wOf po ad ct) (M : Mm) {v0 : Int32} {v1 : Int32} {v2 : Int32} {r : Int32} (h : fX7_at v0 v1 v2 = some r) : CtI l yX7_at cX7_at 3 .int { frames := 1, cells := 0, slots := 0, locals := 22 } D ct tF wOf [.int v0, .int v1, .int v2] M r M := by
  refine metI (by decide) (Nat.le_of_ble_eq_true rfl) fun κ X e1 eR e3 e4 hs => ?_
  subst e1; subst e3; subst e4
  unfold fX7_at at h
  refine z_sub (lv' := [(0, .int v0), (1, .int v1), (2, .int v2)]) [0, 1, 2] rfl ?_
  refine z_iload_n X dX7_at_0 0 rfl rfl ?_
  refine z_iload_n X dX7_at_1 1 rfl rfl ?_
  refine z_iconst (v := (nI 1)) X dX7_at_2 (by decide) ?_
  refine z_isub X dX7_at_3 ?_
  refine z_iload_n X dX7_at_4 2 rfl rfl ?_
  refine z_isub X dX7_at_5 ?_
  obtain ⟨r1, hr1, h⟩ := ob h
  refine z_cSI (As := [.int ((v1 - (nI 1)) - v2)]) (st := [.int v0]) X (tX7_ten hw M hr1) w_465 msX7_ten (by rw [eR]; exact ⟨Nat.le_of_ble_eq_true rfl, Nat.le_of_ble_eq_true rfl⟩) ⟨rfl, rfl⟩ rfl (Nat.le_of_ble_eq_true rfl) rfl dX7_at_6 ?_
  obtain ⟨t2, ht2, h⟩ := ob h
  refine z_idiv X dX7_at_9 (dvo_ok ht2) ?_
  refine z_bipush (v := (nI 10)) X dX7_at_10 (by decide) ?_
  obtain ⟨t3, ht3, h⟩ := ob h
  refine z_irem X dX7_at_12 (rmo_ok ht3) ?_
  have hq := Option.some.inj h
  subst hq
  exact z_iret hs dX7_at_13 rfl
set_option maxHeartbeats 4000000 in
theorem tX7_with {l : Launch} {D : va_G} {ct : Nat → ClassId} {tF : Nat} {wOf : Mm → va_W} {po ad : Nat → Nat} (hw : KM wOf po ad ct) (M : Mm) {v0 : Int32} {v1 : Int32} {v2 : Int32} {v3 : Int32} {r : Int32} (h : fX7_with v0 v1 v2 v3 = some r) : CtI l yX7_with cX7_with 4 .int { frames := 2, cells := 0, slots := 0, locals := 44 } D ct tF wOf [.int v0, .int v1, .int v2, .int v3] M r M := by
  refine metI (by decide) (Nat.le_of_ble_eq_true rfl) fun κ X e1 eR e3 e4 hs => ?_
  subst e1; subst e3; subst e4
  unfold fX7_with at h
  refine z_sub (lv' := [(0, .int v0), (1, .int v1), (2, .int v2), (3, .int v3)]) [0, 1, 2, 3] rfl ?_
  refine z_iload_n X dX7_with_0 0 rfl rfl ?_
  refine z_iload_n X dX7_with_1 3 rfl rfl ?_
  refine z_iload_n X dX7_with_2 0 rfl rfl ?_
  refine z_iload_n X dX7_with_3 1 rfl rfl ?_
  refine z_iload_n X dX7_with_4 2 rfl rfl ?_
  obtain ⟨r1, hr1, h⟩ := ob h
  refine z_cSI (As := [.int v0, .int v1, .int v2]) (st := [.int v3, .int v0]) X (tX7_at hw M hr1) w_469 msX7_at (by rw [eR]; exact ⟨Nat.le_of_ble_eq_true rfl, Nat.le_of_ble_eq_true rfl⟩) ⟨rfl, rfl⟩ rfl (Nat.le_of_ble_eq_true rfl) rfl dX7_with_5 ?_
  refine z_isub X dX7_with_8 ?_
  refine z_iload_n X dX7_with_9 1 rfl rfl ?_
  refine z_iconst (v := (nI 1)) X dX7_with_10 (by decide) ?_
  refine z_isub X dX7_with_11 ?_
  refine z_iload_n X dX7_with_12 2 rfl rfl ?_
  refine z_isub X dX7_with_13 ?_
  obtain ⟨r2, hr2, h⟩ := ob h
  refine z_cSI (As := [.int ((v1 - (nI 1)) - v2)]) (st := [.int (v3 - r1), .int v0]) X (tX7_ten hw M hr2) w_465 msX7_ten (by rw [eR]; exact ⟨Nat.le_of_ble_eq_true rfl, Nat.le_of_ble_eq_true rfl⟩) ⟨rfl, rfl⟩ rfl (Nat.le_of_ble_eq_true rfl) rfl dX7_with_14 ?_
  refine z_imul X dX7_with_17 ?_
  refine z_iadd X dX7_with_18 ?_
  have hq := Option.some.inj h
  subst hq
  exact z_iret hs dX7_with_19 rfl
set_option maxHeartbeats 4000000 in
theorem bX7_isTree_B48 {κ : Rx} {ct : Nat → ClassId} {tF : Nat} {po ad : Nat → Nat} (X : CX κ ct tF cX7_isTree 5 RX7) (eR : kR κ = { frames := 2, cells := 0, slots := 0, locals := 44 }) (hw : KM (kw κ) po ad ct) (M : Mm)  (v0 : Int32) (v1 : Int32) (v2 : Int32) (v3 : Int32) : ∀ (x : Int32) (s : Int32 ⊕ (Unit ⊕ Int32)), fX7_isTree_B48 v0 v1 v2 v3 x = some s → Sum.elim (fun x => Zj κ 5 48 [(0, .int v0), (1, .int v1), (2, .int v2), (3, .int v3), (4, .int x)] [] M) (Sum.elim (fun y => Zj κ 5 80 [(0, .int v0), (1, .int v1), (2, .int v2)] [] M) (fun r => ZI κ cX7_isTree .boolean r M)) s → Zj κ 5 48 [(0, .int v0), (1, .int v1), (2, .int v2), (3, .int v3), (4, .int x)] [] M := by
  intro x s h hs
  unfold fX7_isTree_B48 at h
  refine z_iload X dX7_isTree_48 4 rfl ?_
  refine z_iload_n X dX7_isTree_50 2 rfl rfl ?_
  refine z_iload_n X dX7_isTree_51 3 rfl rfl ?_
  refine z_iadd X dX7_isTree_52 ?_
  refine z_icmp_gt (tgt := 80) X dX7_isTree_53 (by decide) (fun c53 => ?_) (fun c53 => ?_)
  · rw [if_pos c53] at h
    have hq := Option.some.inj h
    subst hq
    exact z_sub [0, 1, 2] rfl hs
  · rw [if_neg c53] at h
    refine z_iload X dX7_isTree_56 4 rfl ?_
    refine z_iload_n X dX7_isTree_58 0 rfl rfl ?_
    refine z_iload_n X dX7_isTree_59 1 rfl rfl ?_
    refine z_iload X dX7_isTree_60 4 rfl ?_
    obtain ⟨r1, hr1, h⟩ := ob h
    refine z_cSI (As := [.int v0, .int v1, .int x]) (st := [.int x]) X (tX7_at hw M hr1) w_469 msX7_at (by rw [eR]; exact ⟨Nat.le_of_ble_eq_true rfl, Nat.le_of_ble_eq_true rfl⟩) ⟨rfl, rfl⟩ rfl (Nat.le_of_ble_eq_true rfl) rfl dX7_isTree_62 ?_
    refine z_iadd X dX7_isTree_65 ?_
    refine z_iload_n X dX7_isTree_66 2 rfl rfl ?_
    refine z_iload_n X dX7_isTree_67 3 rfl rfl ?_
    refine z_iadd X dX7_isTree_68 ?_
    refine z_icmp_le (tgt := 74) X dX7_isTree_69 (by decide) (fun c69 => ?_) (fun c69 => ?_)
    · rw [if_pos c69] at h
      refine z_iinc (v := (x + nI 1)) (lv' := [(4, .int (x + nI 1)), (0, .int v0), (1, .int v1), (2, .int v2), (3, .int v3)]) X dX7_isTree_74 4 rfl rfl (by decide) rfl ?_
      refine z_goto (tgt := 48) X dX7_isTree_77 (by decide) ?_
      have hq := Option.some.inj h
      subst hq
      exact z_sub [1, 2, 3, 4, 0] rfl hs
    · rw [if_neg c69] at h
      refine z_iconst (v := (nI 0)) X dX7_isTree_72 (by decide) ?_
      have hq := Option.some.inj h
      subst hq
      exact z_iret hs dX7_isTree_73 rfl
set_option maxHeartbeats 4000000 in
theorem bX7_isTree_B20 {κ : Rx} {ct : Nat → ClassId} {tF : Nat} {po ad : Nat → Nat} (X : CX κ ct tF cX7_isTree 5 RX7) (eR : kR κ = { frames := 2, cells := 0, slots := 0, locals := 44 }) (hw : KM (kw κ) po ad ct) (M : Mm)  (v0 : Int32) (v1 : Int32) : ∀ (x : Int32) (s : Int32 ⊕ (Unit ⊕ Int32)), fX7_isTree_B20 v0 v1 x = some s → Sum.elim (fun x => Zj κ 5 20 [(0, .int v0), (1, .int v1), (2, .int x)] [] M) (Sum.elim (fun y => Zj κ 5 86 [] [] M) (fun r => ZI κ cX7_isTree .boolean r M)) s → Zj κ 5 20 [(0, .int v0), (1, .int v1), (2, .int x)] [] M := by
  intro x s h hs
  unfold fX7_isTree_B20 at h
  refine z_iload_n X dX7_isTree_20 2 rfl rfl ?_
  refine z_iload_n X dX7_isTree_21 1 rfl rfl ?_
  refine z_icmp_ge (tgt := 86) X dX7_isTree_22 (by decide) (fun c22 => ?_) (fun c22 => ?_)
  · rw [if_pos c22] at h
    have hq := Option.some.inj h
    subst hq
    exact z_sub [] rfl hs
  · rw [if_neg c22] at h
    refine z_iload_n X dX7_isTree_25 0 rfl rfl ?_
    refine z_iload_n X dX7_isTree_26 1 rfl rfl ?_
    refine z_iload_n X dX7_isTree_27 2 rfl rfl ?_
    obtain ⟨r1, hr1, h⟩ := ob h
    refine z_cSI (As := [.int v0, .int v1, .int x]) (st := []) X (tX7_at hw M hr1) w_469 msX7_at (by rw [eR]; exact ⟨Nat.le_of_ble_eq_true rfl, Nat.le_of_ble_eq_true rfl⟩) ⟨rfl, rfl⟩ rfl (Nat.le_of_ble_eq_true rfl) rfl dX7_isTree_28 ?_
    refine z_istore_n (lv' := [(3, .int r1), (0, .int v0), (1, .int v1), (2, .int x)]) X dX7_isTree_31 rfl (by decide) rfl ?_
    refine z_iload_n X dX7_isTree_32 0 rfl rfl ?_
    refine z_iload_n X dX7_isTree_33 2 rfl rfl ?_
    refine z_iconst (v := (nI 1)) X dX7_isTree_34 (by decide) ?_
    refine z_isub X dX7_isTree_35 ?_
    refine z_iload_n X dX7_isTree_36 3 rfl rfl ?_
    refine z_isub X dX7_isTree_37 ?_
    refine z_icmp_le (tgt := 43) X dX7_isTree_38 (by decide) (fun c38 => ?_) (fun c38 => ?_)
    · rw [if_pos c38] at h
      refine z_iload_n X dX7_isTree_43 3 rfl rfl ?_
      refine z_iconst (v := (nI 1)) X dX7_isTree_44 (by decide) ?_
      refine z_iadd X dX7_isTree_45 ?_
      refine z_istore (lv' := [(4, .int (x + (nI 1))), (3, .int r1), (0, .int v0), (1, .int v1), (2, .int x)]) X dX7_isTree_46 (by decide) rfl ?_
      refine z_sub [2, 3, 4, 1, 0] rfl ?_
      obtain ⟨y2_, hy2, h⟩ := ob h
      cases y2_ with
      | inl y2 =>
        rw [Sum.elim_inl] at h
        refine (it_Z (bX7_isTree_B48 X eR hw M v0 v1 x r1) FU _ (.inl y2) hy2) ?_
        refine z_iinc (v := (x + nI 1)) (lv' := [(2, .int (x + nI 1)), (0, .int v0), (1, .int v1)]) X dX7_isTree_80 2 rfl rfl (by decide) rfl ?_
        refine z_goto (tgt := 20) X dX7_isTree_83 (by decide) ?_
        have hq := Option.some.inj h
        subst hq
        exact z_sub [1, 2, 0] rfl hs
      | inr y2 =>
        rw [Sum.elim_inr] at h
        have hq := Option.some.inj h
        subst hq
        exact (it_Z (bX7_isTree_B48 X eR hw M v0 v1 x r1) FU _ (.inr _) hy2) hs
    · rw [if_neg c38] at h
      refine z_iconst (v := (nI 0)) X dX7_isTree_41 (by decide) ?_
      have hq := Option.some.inj h
      subst hq
      exact z_iret hs dX7_isTree_42 rfl
set_option maxHeartbeats 4000000 in
theorem tX7_isTree {l : Launch} {D : va_G} {ct : Nat → ClassId} {tF : Nat} {wOf : Mm → va_W} {po ad : Nat → Nat} (hw : KM wOf po ad ct) (M : Mm) {v0 : Int32} {v1 : Int32} {r : Int32} (h : fX7_isTree v0 v1 = some r) : CtI l yX7_isTree cX7_isTree 5 .boolean { frames := 2, cells := 0, slots := 0, locals := 44 } D ct tF wOf [.int v0, .int v1] M r M := by
  refine metI (by decide) (Nat.le_of_ble_eq_true rfl) fun κ X e1 eR e3 e4 hs => ?_
  subst e1; subst e3; subst e4
  unfold fX7_isTree at h
  refine z_sub (lv' := [(0, .int v0), (1, .int v1)]) [0, 1] rfl ?_
  refine z_iload_n X dX7_isTree_0 0 rfl rfl ?_
  refine z_i2l X dX7_isTree_1 ?_
  refine z_lconst (v := (0 : Int64)) X dX7_isTree_2 (by decide) ?_
  refine z_iload_n X dX7_isTree_3 1 rfl rfl ?_
  obtain ⟨r1, hr1, h⟩ := ob h
  refine z_cSI (As := [.int v1]) (st := [.long (0 : Int64), .long (v0.toInt64)]) X (tX7_ten hw M hr1) w_465 msX7_ten (by rw [eR]; exact ⟨Nat.le_of_ble_eq_true rfl, Nat.le_of_ble_eq_true rfl⟩) ⟨rfl, rfl⟩ rfl (Nat.le_of_ble_eq_true rfl) rfl dX7_isTree_4 ?_
  refine z_iconst (v := (nI 1)) X dX7_isTree_7 (by decide) ?_
  refine z_isub X dX7_isTree_8 ?_
  refine z_i2l X dX7_isTree_9 ?_
  obtain ⟨r2, hr2, h⟩ := ob h
  refine z_cSI (As := [.long (v0.toInt64), .long (0 : Int64), .long (((r1 - (nI 1))).toInt64)]) (st := []) X (tX7_in hw M hr2) w_472 msX7_in (by rw [eR]; exact ⟨Nat.le_of_ble_eq_true rfl, Nat.le_of_ble_eq_true rfl⟩) ⟨rfl, rfl⟩ rfl (Nat.le_of_ble_eq_true rfl) rfl dX7_isTree_10 ?_
  refine z_if_ne (tgt := 18) X dX7_isTree_13 (by decide) (fun c13 => ?_) (fun c13 => ?_)
  · rw [if_neg c13] at h
    refine z_iconst (v := (nI 0)) X dX7_isTree_18 (by decide) ?_
    refine z_istore_n (lv' := [(2, .int (nI 0)), (0, .int v0), (1, .int v1)]) X dX7_isTree_19 rfl (by decide) rfl ?_
    refine z_sub [1, 2, 0] rfl ?_
    obtain ⟨y3_, hy3, h⟩ := ob h
    cases y3_ with
    | inl y3 =>
      rw [Sum.elim_inl] at h
      refine (it_Z (bX7_isTree_B20 X eR hw M v0 v1) FU _ (.inl y3) hy3) ?_
      refine z_iconst (v := (nI 1)) X dX7_isTree_86 (by decide) ?_
      have hq := Option.some.inj h
      subst hq
      exact z_iret hs dX7_isTree_87 rfl
    | inr y3 =>
      rw [Sum.elim_inr] at h
      have hq := Option.some.inj h
      subst hq
      exact (it_Z (bX7_isTree_B20 X eR hw M v0 v1) FU _ (.inr _) hy3) hs
  · rw [if_pos c13] at h
    refine z_iconst (v := (nI 0)) X dX7_isTree_16 (by decide) ?_
    have hq := Option.some.inj h
    subst hq
    exact z_iret hs dX7_isTree_17 rfl
set_option maxHeartbeats 4000000 in
theorem jX7_table_J102 {κ : Rx} {ct : Nat → ClassId} {tF : Nat} {po ad : Nat → Nat} (X : CX κ ct tF cX7_table 6 RX7) (eR : kR κ = { frames := 3, cells := 0, slots := 0, locals := 68 }) (hw : KM (kw κ) po ad ct) (M : Mm) (a_all : Nat → Int32) (s_many : Int32) (s_tableOf : Int32)  (v1 : Int32) (v2 : Int32) (v3 : Int32) (v4 : Int32) (v5 : Int32)  (s : ((Int32 × Int32 × Int32) ⊕ (Int32 × Int32))) (h : fX7_table_J102 v1 v2 v3 v4 v5 = some s) (hs : (Sum.elim (fun x => Zj κ 6 37 [(0, .ref (ad 0)), (1, .int v1), (2, .int v2), (3, .int x.1), (4, .int x.2.1), (5, .int x.2.2)] [] (mk M [(10, a_all)] M.2.1 [(48, s_many), (49, s_tableOf)])) (fun y => Zj κ 6 108 [(0, .ref (ad 0)), (1, .int v1), (2, .int v2), (3, .int y.1), (4, .int y.2)] [] (mk M [(10, a_all)] M.2.1 [(48, s_many), (49, s_tableOf)])) s)) : Zj κ 6 102 [(0, .ref (ad 0)), (1, .int v1), (2, .int v2), (3, .int v3), (4, .int v4), (5, .int v5)] [] (mk M [(10, a_all)] M.2.1 [(48, s_many), (49, s_tableOf)]) := by
  unfold fX7_table_J102 at h
  refine z_iinc (v := (v5 + nI 1)) (lv' := [(5, .int (v5 + nI 1)), (0, .ref (ad 0)), (1, .int v1), (2, .int v2), (3, .int v3), (4, .int v4)]) X dX7_table_102 5 rfl rfl (by decide) rfl ?_
  refine z_goto (tgt := 37) X dX7_table_105 (by decide) ?_
  have hq := Option.some.inj h
  subst hq
  exact z_sub [1, 2, 3, 4, 5, 0] rfl hs
set_option maxHeartbeats 4000000 in
theorem bX7_table_B37 {κ : Rx} {ct : Nat → ClassId} {tF : Nat} {po ad : Nat → Nat} (X : CX κ ct tF cX7_table 6 RX7) (eR : kR κ = { frames := 3, cells := 0, slots := 0, locals := 68 }) (hw : KM (kw κ) po ad ct) (M : Mm) (a_all : Nat → Int32) (s_many : Int32) (s_tableOf : Int32) (v1 : Int32) (v2 : Int32) : ∀ (x : (Int32 × Int32 × Int32)) (s : (Int32 × Int32 × Int32) ⊕ (Int32 × Int32)), fX7_table_B37 v1 v2 x = some s → Sum.elim (fun x => Zj κ 6 37 [(0, .ref (ad 0)), (1, .int v1), (2, .int v2), (3, .int x.1), (4, .int x.2.1), (5, .int x.2.2)] [] (mk M [(10, a_all)] M.2.1 [(48, s_many), (49, s_tableOf)])) (fun y => Zj κ 6 108 [(0, .ref (ad 0)), (1, .int v1), (2, .int v2), (3, .int y.1), (4, .int y.2)] [] (mk M [(10, a_all)] M.2.1 [(48, s_many), (49, s_tableOf)])) s → Zj κ 6 37 [(0, .ref (ad 0)), (1, .int v1), (2, .int v2), (3, .int x.1), (4, .int x.2.1), (5, .int x.2.2)] [] (mk M [(10, a_all)] M.2.1 [(48, s_many), (49, s_tableOf)]) := by
  intro x s h hs
  unfold fX7_table_B37 at h
  refine z_iload X dX7_table_37 5 rfl ?_
  refine z_iload_n X dX7_table_39 1 rfl rfl ?_
  refine z_icmp_ge (tgt := 108) X dX7_table_40 (by decide) (fun c40 => ?_) (fun c40 => ?_)
  · rw [if_pos c40] at h
    have hq := Option.some.inj h
    subst hq
    exact z_sub [0, 1, 2, 3, 4] rfl hs
  · rw [if_neg c40] at h
    refine z_iload_n X dX7_table_43 3 rfl rfl ?_
    refine z_if_eq (tgt := 108) X dX7_table_44 (by decide) (fun c44 => ?_) (fun c44 => ?_)
    · rw [if_pos c44] at h
      have hq := Option.some.inj h
      subst hq
      exact z_sub [0, 1, 2, 3, 4] rfl hs
    · rw [if_neg c44] at h
      refine z_iload_n X dX7_table_47 2 rfl rfl ?_
      refine z_iload_n X dX7_table_48 1 rfl rfl ?_
      refine z_iload X dX7_table_49 5 rfl ?_
      obtain ⟨r1, hr1, h⟩ := ob h
      refine z_cSI (As := [.int v2, .int v1, .int x.2.2]) (st := []) X (tX7_at hw (mk M [(10, a_all)] M.2.1 [(48, s_many), (49, s_tableOf)]) hr1) w_469 msX7_at (by rw [eR]; exact ⟨Nat.le_of_ble_eq_true rfl, Nat.le_of_ble_eq_true rfl⟩) ⟨rfl, rfl⟩ rfl (Nat.le_of_ble_eq_true rfl) rfl dX7_table_51 ?_
      refine z_iload_n X dX7_table_54 1 rfl rfl ?_
      refine z_iconst (v := (nI 1)) X dX7_table_55 (by decide) ?_
      refine z_isub X dX7_table_56 ?_
      refine z_iload X dX7_table_57 5 rfl ?_
      refine z_isub X dX7_table_59 ?_
      refine z_icmp_gt (tgt := 66) X dX7_table_60 (by decide) (fun c60 => ?_) (fun c60 => ?_)
      · rw [if_pos c60] at h
        refine z_iconst (v := (nI 0)) X dX7_table_66 (by decide) ?_
        refine z_istore_n (lv' := [(3, .int (nI 0)), (0, .ref (ad 0)), (1, .int v1), (2, .int v2), (4, .int x.2.1), (5, .int x.2.2)]) X dX7_table_67 rfl (by decide) rfl ?_
        refine z_iload_n X dX7_table_68 2 rfl rfl ?_
        refine z_iconst (v := (nI 1)) X dX7_table_69 (by decide) ?_
        refine z_isub X dX7_table_70 ?_
        refine z_iload X dX7_table_71 5 rfl ?_
        refine z_isub X dX7_table_73 ?_
        obtain ⟨r2, hr2, h⟩ := ob h
        refine z_cSI (As := [.int ((v1 - (nI 1)) - x.2.2)]) (st := []) X (tX7_ten hw (mk M [(10, a_all)] M.2.1 [(48, s_many), (49, s_tableOf)]) hr2) w_465 msX7_ten (by rw [eR]; exact ⟨Nat.le_of_ble_eq_true rfl, Nat.le_of_ble_eq_true rfl⟩) ⟨rfl, rfl⟩ rfl (Nat.le_of_ble_eq_true rfl) rfl dX7_table_74 ?_
        refine z_bipush (v := (nI 10)) X dX7_table_77 (by decide) ?_
        refine z_iload_n X dX7_table_79 3 rfl rfl ?_
        refine z_iload_n X dX7_table_80 2 rfl rfl ?_
        refine z_iload X dX7_table_81 5 rfl ?_
        obtain ⟨r3, hr3, h⟩ := ob h
        refine z_cSI (As := [.int v2, .int v1, .int x.2.2]) (st := [.int (nI 10), .int r2]) X (tX7_at hw (mk M [(10, a_all)] M.2.1 [(48, s_many), (49, s_tableOf)]) hr3) w_469 msX7_at (by rw [eR]; exact ⟨Nat.le_of_ble_eq_true rfl, Nat.le_of_ble_eq_true rfl⟩) ⟨rfl, rfl⟩ rfl (Nat.le_of_ble_eq_true rfl) rfl dX7_table_83 ?_
        refine z_isub X dX7_table_86 ?_
        refine z_imul X dX7_table_87 ?_
        refine z_iload_n X dX7_table_88 3 rfl rfl ?_
        refine z_iload_n X dX7_table_89 2 rfl rfl ?_
        refine z_iconst (v := (nI 1)) X dX7_table_90 (by decide) ?_
        refine z_isub X dX7_table_91 ?_
        refine z_iload X dX7_table_92 5 rfl ?_
        refine z_isub X dX7_table_94 ?_
        obtain ⟨r4, hr4, h⟩ := ob h
        refine z_cSI (As := [.int ((v1 - (nI 1)) - x.2.2)]) (st := [.int v2, .int (r2 * ((nI 10) - r3))]) X (tX7_ten hw (mk M [(10, a_all)] M.2.1 [(48, s_many), (49, s_tableOf)]) hr4) w_465 msX7_ten (by rw [eR]; exact ⟨Nat.le_of_ble_eq_true rfl, Nat.le_of_ble_eq_true rfl⟩) ⟨rfl, rfl⟩ rfl (Nat.le_of_ble_eq_true rfl) rfl dX7_table_95 ?_
        obtain ⟨t5, ht5, h⟩ := ob h
        refine z_irem X dX7_table_98 (rmo_ok ht5) ?_
        refine z_isub X dX7_table_99 ?_
        refine z_istore (lv' := [(4, .int ((r2 * ((nI 10) - r3)) - t5)), (3, .int (nI 0)), (0, .ref (ad 0)), (1, .int v1), (2, .int v2), (5, .int x.2.2)]) X dX7_table_100 (by decide) rfl ?_
        exact z_sub [2, 3, 4, 1, 0, 5] rfl (jX7_table_J102 X eR hw M a_all s_many s_tableOf v1 v2 (nI 0) ((r2 * ((nI 10) - r3)) - t5) x.2.2 _ h hs)
      · rw [if_neg c60] at h
        refine z_goto (tgt := 102) X dX7_table_63 (by decide) ?_
        exact (jX7_table_J102 X eR hw M a_all s_many s_tableOf v1 v2 x.1 x.2.1 x.2.2 _ h hs)
set_option maxHeartbeats 4000000 in
theorem jX7_table_J147 {κ : Rx} {ct : Nat → ClassId} {tF : Nat} {po ad : Nat → Nat} (X : CX κ ct tF cX7_table 6 RX7) (eR : kR κ = { frames := 3, cells := 0, slots := 0, locals := 68 }) (hw : KM (kw κ) po ad ct) (M : Mm) (a_all : Nat → Int32) (s_many : Int32) (s_tableOf : Int32)  (v1 : Int32) (v2 : Int32)  (s : ((Int32 × (Nat → Int32) × Int32) ⊕ ((Nat → Int32) × Int32))) (h : fX7_table_J147 a_all s_many v1 v2 = some s) (hs : (Sum.elim (fun x => Zj κ 6 21 [(0, .ref (ad 0)), (1, .int v1), (2, .int x.1)] [] (mk M [(10, x.2.1)] M.2.1 [(48, x.2.2), (49, s_tableOf)])) (fun y => Zj κ 6 153 [] [] (mk M [(10, y.1)] M.2.1 [(48, y.2), (49, s_tableOf)])) s)) : Zj κ 6 147 [(0, .ref (ad 0)), (1, .int v1), (2, .int v2)] [] (mk M [(10, a_all)] M.2.1 [(48, s_many), (49, s_tableOf)]) := by
  unfold fX7_table_J147 at h
  refine z_iinc (v := (v2 + nI 1)) (lv' := [(2, .int (v2 + nI 1)), (0, .ref (ad 0)), (1, .int v1)]) X dX7_table_147 2 rfl rfl (by decide) rfl ?_
  refine z_goto (tgt := 21) X dX7_table_150 (by decide) ?_
  have hq := Option.some.inj h
  subst hq
  exact z_sub [1, 2, 0] rfl hs
set_option maxHeartbeats 4000000 in
theorem bX7_table_B21 {κ : Rx} {ct : Nat → ClassId} {tF : Nat} {po ad : Nat → Nat} (X : CX κ ct tF cX7_table 6 RX7) (eR : kR κ = { frames := 3, cells := 0, slots := 0, locals := 68 }) (hw : KM (kw κ) po ad ct) (M : Mm) (s_tableOf : Int32) (v1 : Int32) : ∀ (x : (Int32 × (Nat → Int32) × Int32)) (s : (Int32 × (Nat → Int32) × Int32) ⊕ ((Nat → Int32) × Int32)), fX7_table_B21 v1 x = some s → Sum.elim (fun x => Zj κ 6 21 [(0, .ref (ad 0)), (1, .int v1), (2, .int x.1)] [] (mk M [(10, x.2.1)] M.2.1 [(48, x.2.2), (49, s_tableOf)])) (fun y => Zj κ 6 153 [] [] (mk M [(10, y.1)] M.2.1 [(48, y.2), (49, s_tableOf)])) s → Zj κ 6 21 [(0, .ref (ad 0)), (1, .int v1), (2, .int x.1)] [] (mk M [(10, x.2.1)] M.2.1 [(48, x.2.2), (49, s_tableOf)]) := by
  intro x s h hs
  unfold fX7_table_B21 at h
  refine z_iload_n X dX7_table_21 2 rfl rfl ?_
  refine z_iload_n X dX7_table_22 1 rfl rfl ?_
  obtain ⟨r1, hr1, h⟩ := ob h
  refine z_cSI (As := [.int v1]) (st := [.int x.1]) X (tX7_ten hw (mk M [(10, x.2.1)] M.2.1 [(48, x.2.2), (49, s_tableOf)]) hr1) w_465 msX7_ten (by rw [eR]; exact ⟨Nat.le_of_ble_eq_true rfl, Nat.le_of_ble_eq_true rfl⟩) ⟨rfl, rfl⟩ rfl (Nat.le_of_ble_eq_true rfl) rfl dX7_table_23 ?_
  refine z_icmp_ge (tgt := 153) X dX7_table_26 (by decide) (fun c26 => ?_) (fun c26 => ?_)
  · rw [if_pos c26] at h
    have hq := Option.some.inj h
    subst hq
    exact z_sub [] rfl hs
  · rw [if_neg c26] at h
    refine z_iconst (v := (nI 1)) X dX7_table_29 (by decide) ?_
    refine z_istore_n (lv' := [(3, .int (nI 1)), (0, .ref (ad 0)), (1, .int v1), (2, .int x.1)]) X dX7_table_30 rfl (by decide) rfl ?_
    refine z_iconst (v := (nI 0)) X dX7_table_31 (by decide) ?_
    refine z_istore (lv' := [(4, .int (nI 0)), (3, .int (nI 1)), (0, .ref (ad 0)), (1, .int v1), (2, .int x.1)]) X dX7_table_32 (by decide) rfl ?_
    refine z_iconst (v := (nI 0)) X dX7_table_34 (by decide) ?_
    refine z_istore (lv' := [(5, .int (nI 0)), (4, .int (nI 0)), (3, .int (nI 1)), (0, .ref (ad 0)), (1, .int v1), (2, .int x.1)]) X dX7_table_35 (by decide) rfl ?_
    refine z_sub [3, 4, 5, 2, 1, 0] rfl ?_
    obtain ⟨y2, hy2, h⟩ := ob h
    refine (it_Z (bX7_table_B37 X eR hw M x.2.1 x.2.2 s_tableOf v1 x.1) FU _ y2 hy2) ?_
    refine z_iload_n X dX7_table_108 3 rfl rfl ?_
    refine z_if_ne (tgt := 122) X dX7_table_109 (by decide) (fun c109 => ?_) (fun c109 => ?_)
    · rw [if_neg c109] at h
      refine z_iload_n X dX7_table_122 2 rfl rfl ?_
      refine z_iload_n X dX7_table_123 1 rfl rfl ?_
      obtain ⟨r3, hr3, h⟩ := ob h
      refine z_cSI (As := [.int x.1, .int v1]) (st := []) X (tX7_isTree hw (mk M [(10, x.2.1)] M.2.1 [(48, x.2.2), (49, s_tableOf)]) hr3) w_477 msX7_isTree (by rw [eR]; exact ⟨Nat.le_of_ble_eq_true rfl, Nat.le_of_ble_eq_true rfl⟩) ⟨rfl, rfl⟩ rfl (Nat.le_of_ble_eq_true rfl) rfl dX7_table_124 ?_
      refine z_if_eq (tgt := 147) X dX7_table_127 (by decide) (fun c127 => ?_) (fun c127 => ?_)
      · rw [if_pos c127] at h
        exact z_sub [0, 1, 2] rfl (jX7_table_J147 X eR hw M x.2.1 x.2.2 s_tableOf v1 x.1 _ h hs)
      · rw [if_neg c127] at h
        refine z_aload_n X dX7_table_130 0 rfl rfl ?_
        refine z_get (j := 17) (v := .ref (ad 10)) X inX7 rfl (by decide) w_480 (hw.1 _) rfl dX7_table_131 ?_
        refine z_aload_n X dX7_table_134 0 rfl rfl ?_
        refine z_dup X dX7_table_135 rfl ?_
        refine z_get (j := 18) (v := .int x.2.2) X inX7 rfl (by decide) w_476 (hw.1 _) rfl dX7_table_136 ?_
        refine z_dup_x1 X dX7_table_139 rfl rfl ?_
        refine z_iconst (v := (nI 1)) X dX7_table_140 (by decide) ?_
        refine z_iadd X dX7_table_141 ?_
        refine z_put (j := 18) (ty := .int) (M' := (mk M [(10, x.2.1)] M.2.1 [(48, (x.2.2 + (nI 1))), (49, s_tableOf)])) X inX7 tyX7 tyX7_ok nmX7 rfl (by decide) w_476 rfl (by decide +kernel) rfl rfl (hw.1 _) (Nat.le_of_ble_eq_true rfl) (mk_setS (sl' := [(48, (x.2.2 + (nI 1))), (49, s_tableOf)]) (hw.2.2.2.2.2.2.2.2.2.2.2.2.2.2.2.2.2.2.2.2.2.2.2.2.2.2.2.2.2.1) rfl rfl) dX7_table_142 ?_
        refine z_iload_n X dX7_table_145 2 rfl rfl ?_
        obtain ⟨u4, hu4, h⟩ := ob h
        refine z_iast (M' := (mk M [(10, u4)] M.2.1 [(48, (x.2.2 + (nI 1))), (49, s_tableOf)])) X (hw.2.2.2.2.2.2.2.2.2.2.1 _).1 (wr_ok hu4) (mk_set1 (l' := [(10, u4)]) (hw.2.2.2.2.2.2.2.2.2.2.1) rfl rfl) dX7_table_146 ?_
        exact z_sub [0, 1, 2] rfl (jX7_table_J147 X eR hw M u4 (x.2.2 + (nI 1)) s_tableOf v1 x.1 _ h hs)
    · rw [if_pos c109] at h
      refine z_iload_n X dX7_table_112 2 rfl rfl ?_
      refine z_iload X dX7_table_113 4 rfl ?_
      refine z_iconst (v := (nI 1)) X dX7_table_115 (by decide) ?_
      refine z_isub X dX7_table_116 ?_
      refine z_iadd X dX7_table_117 ?_
      refine z_istore_n (lv' := [(2, .int (x.1 + (y2.2 - (nI 1)))), (0, .ref (ad 0)), (1, .int v1), (3, .int y2.1), (4, .int y2.2)]) X dX7_table_118 rfl (by decide) rfl ?_
      refine z_goto (tgt := 147) X dX7_table_119 (by decide) ?_
      exact z_sub [1, 2, 0] rfl (jX7_table_J147 X eR hw M x.2.1 x.2.2 s_tableOf v1 (x.1 + (y2.2 - (nI 1))) _ h hs)
set_option maxHeartbeats 4000000 in
theorem tX7_table {l : Launch} {D : va_G} {ct : Nat → ClassId} {tF : Nat} {wOf : Mm → va_W} {po ad : Nat → Nat} (hw : KM wOf po ad ct) (M : Mm) {v1 : Int32} {r : ((Nat → Int32) × Int32 × Int32)} (h : fX7_table (M.1 10) (M.2.2 48) (M.2.2 49) v1 = some r) : CtV l yX7_table cX7_table 6 { frames := 3, cells := 0, slots := 0, locals := 68 } D ct tF wOf [.ref (ad 0), .int v1] M (mk M [(10, r.1)] M.2.1 [(48, r.2.1), (49, r.2.2)]) := by
  refine metV (by decide) (Nat.le_of_ble_eq_true rfl) fun κ X e1 eR e3 e4 hs => ?_
  subst e1; subst e3; subst e4
  unfold fX7_table at h
  refine z_mem (mk_self M [10] [48, 49]) ?_
  refine z_sub (lv' := [(0, .ref (ad 0)), (1, .int v1)]) [0, 1] rfl ?_
  show Zj κ 6 0 _ _ (mk M [(10, (M.1 10))] M.2.1 [(48, (M.2.2 48)), (49, (M.2.2 49))])
  refine z_aload_n X dX7_table_0 0 rfl rfl ?_
  refine z_get (j := 19) (v := .int (M.2.2 49)) X inX7 rfl (by decide) w_475 (hw.1 _) rfl dX7_table_1 ?_
  refine z_iload_n X dX7_table_4 1 rfl rfl ?_
  refine z_icmp_ne (tgt := 9) X dX7_table_5 (by decide) (fun c5 => ?_) (fun c5 => ?_)
  · rw [if_neg c5] at h
    refine z_aload_n X dX7_table_9 0 rfl rfl ?_
    refine z_iload_n X dX7_table_10 1 rfl rfl ?_
    refine z_put (j := 19) (ty := .int) (M' := (mk M [(10, (M.1 10))] M.2.1 [(48, (M.2.2 48)), (49, v1)])) X inX7 tyX7 tyX7_ok nmX7 rfl (by decide) w_475 rfl (by decide +kernel) rfl rfl (hw.1 _) (Nat.le_of_ble_eq_true rfl) (mk_setS (sl' := [(48, (M.2.2 48)), (49, v1)]) (hw.2.2.2.2.2.2.2.2.2.2.2.2.2.2.2.2.2.2.2.2.2.2.2.2.2.2.2.2.2.2.1) rfl rfl) dX7_table_11 ?_
    refine z_aload_n X dX7_table_14 0 rfl rfl ?_
    refine z_iconst (v := (nI 0)) X dX7_table_15 (by decide) ?_
    refine z_put (j := 18) (ty := .int) (M' := (mk M [(10, (M.1 10))] M.2.1 [(48, (nI 0)), (49, v1)])) X inX7 tyX7 tyX7_ok nmX7 rfl (by decide) w_476 rfl (by decide +kernel) rfl rfl (hw.1 _) (Nat.le_of_ble_eq_true rfl) (mk_setS (sl' := [(48, (nI 0)), (49, v1)]) (hw.2.2.2.2.2.2.2.2.2.2.2.2.2.2.2.2.2.2.2.2.2.2.2.2.2.2.2.2.2.1) rfl rfl) dX7_table_16 ?_
    refine z_iconst (v := (nI 0)) X dX7_table_19 (by decide) ?_
    refine z_istore_n (lv' := [(2, .int (nI 0)), (0, .ref (ad 0)), (1, .int v1)]) X dX7_table_20 rfl (by decide) rfl ?_
    refine z_sub [1, 2, 0] rfl ?_
    obtain ⟨y1, hy1, h⟩ := ob h
    refine (it_Z (bX7_table_B21 X eR hw M v1 v1) FU _ y1 hy1) ?_
    have hq := Option.some.inj h
    subst hq
    exact z_vret hs dX7_table_153
  · rw [if_pos c5] at h
    have hq := Option.some.inj h
    subst hq
    exact z_vret hs dX7_table_8
set_option maxHeartbeats 4000000 in
theorem bX7_numberOf_B7 {κ : Rx} {ct : Nat → ClassId} {tF : Nat} {po ad : Nat → Nat} (X : CX κ ct tF cX7_numberOf 4 RX7) (eR : kR κ = { frames := 4, cells := 0, slots := 0, locals := 93 }) (hw : KM (kw κ) po ad ct) (M : Mm) (a_all : Nat → Int32) (s_many : Int32) (s_tableOf : Int32) (v1 : Int32) : ∀ (x : Int32) (s : Int32 ⊕ (Unit ⊕ (Int32 × (Nat → Int32) × Int32 × Int32))), fX7_numberOf_B7 a_all s_many s_tableOf v1 x = some s → Sum.elim (fun x => Zj κ 4 7 [(0, .ref (ad 0)), (1, .int v1), (3, .int x)] [] (mk M [(10, a_all)] M.2.1 [(48, s_many), (49, s_tableOf)])) (Sum.elim (fun y => Zj κ 4 33 [] [] (mk M [(10, a_all)] M.2.1 [(48, s_many), (49, s_tableOf)])) (fun r => ZI κ cX7_numberOf .int r.1 (mk M [(10, r.2.1)] M.2.1 [(48, r.2.2.1), (49, r.2.2.2)]))) s → Zj κ 4 7 [(0, .ref (ad 0)), (1, .int v1), (3, .int x)] [] (mk M [(10, a_all)] M.2.1 [(48, s_many), (49, s_tableOf)]) := by
  intro x s h hs
  unfold fX7_numberOf_B7 at h
  refine z_iload_n X dX7_numberOf_7 2 rfl rfl ?_
  refine z_aload_n X dX7_numberOf_8 0 rfl rfl ?_
  refine z_get (j := 18) (v := .int s_many) X inX7 rfl (by decide) w_476 (hw.1 _) rfl dX7_numberOf_9 ?_
  refine z_icmp_ge (tgt := 33) X dX7_numberOf_12 (by decide) (fun c12 => ?_) (fun c12 => ?_)
  · rw [if_pos c12] at h
    have hq := Option.some.inj h
    subst hq
    exact z_sub [] rfl hs
  · rw [if_neg c12] at h
    refine z_aload_n X dX7_numberOf_15 0 rfl rfl ?_
    refine z_get (j := 17) (v := .ref (ad 10)) X inX7 rfl (by decide) w_480 (hw.1 _) rfl dX7_numberOf_16 ?_
    refine z_iload_n X dX7_numberOf_19 2 rfl rfl ?_
    obtain ⟨t1, ht1, h⟩ := ob h
    refine z_iald X (hw.2.2.2.2.2.2.2.2.2.2.1 _).1 (rd_ok ht1) dX7_numberOf_20 ?_
    refine z_iload_n X dX7_numberOf_21 1 rfl rfl ?_
    refine z_icmp_ne (tgt := 27) X dX7_numberOf_22 (by decide) (fun c22 => ?_) (fun c22 => ?_)
    · rw [if_neg c22] at h
      refine z_iinc (v := (x + nI 1)) (lv' := [(3, .int (x + nI 1)), (0, .ref (ad 0)), (1, .int v1)]) X dX7_numberOf_27 2 rfl rfl (by decide) rfl ?_
      refine z_goto (tgt := 7) X dX7_numberOf_30 (by decide) ?_
      have hq := Option.some.inj h
      subst hq
      exact z_sub [1, 2, 0] rfl hs
    · rw [if_pos c22] at h
      refine z_iload_n X dX7_numberOf_25 2 rfl rfl ?_
      have hq := Option.some.inj h
      subst hq
      exact z_iret hs dX7_numberOf_26 rfl
set_option maxHeartbeats 4000000 in
theorem tX7_numberOf {l : Launch} {D : va_G} {ct : Nat → ClassId} {tF : Nat} {wOf : Mm → va_W} {po ad : Nat → Nat} (hw : KM wOf po ad ct) (M : Mm) {v1 : Int32} {v2 : Int32} {r : (Int32 × (Nat → Int32) × Int32 × Int32)} (h : fX7_numberOf (M.1 10) (M.2.2 48) (M.2.2 49) v1 v2 = some r) : CtI l yX7_numberOf cX7_numberOf 4 .int { frames := 4, cells := 0, slots := 0, locals := 93 } D ct tF wOf [.ref (ad 0), .int v1, .int v2] M r.1 (mk M [(10, r.2.1)] M.2.1 [(48, r.2.2.1), (49, r.2.2.2)]) := by
  refine metI (by decide) (Nat.le_of_ble_eq_true rfl) fun κ X e1 eR e3 e4 hs => ?_
  subst e1; subst e3; subst e4
  unfold fX7_numberOf at h
  refine z_mem (mk_self M [10] [48, 49]) ?_
  refine z_sub (lv' := [(0, .ref (ad 0)), (1, .int v1), (2, .int v2)]) [0, 1, 2] rfl ?_
  show Zj κ 4 0 _ _ (mk M [(10, (M.1 10))] M.2.1 [(48, (M.2.2 48)), (49, (M.2.2 49))])
  refine z_aload_n X dX7_numberOf_0 0 rfl rfl ?_
  refine z_iload_n X dX7_numberOf_1 2 rfl rfl ?_
  obtain ⟨r1, hr1, h⟩ := ob h
  refine z_cVV (As := [.int v2]) (st := []) X (tX7_table hw (mk M [(10, (M.1 10))] M.2.1 [(48, (M.2.2 48)), (49, (M.2.2 49))]) hr1) w_481 mvX7_table (by rw [eR]; exact ⟨Nat.le_of_ble_eq_true rfl, Nat.le_of_ble_eq_true rfl⟩) ⟨rfl, rfl⟩ rfl (Nat.le_of_ble_eq_true rfl) (hw.1 _) rfl rfl dX7_numberOf_2 ?_
  refine z_mem (mk_mk (l' := [(10, r1.1)]) (sl' := [(48, r1.2.1), (49, r1.2.2)]) rfl rfl rfl rfl) ?_
  refine z_iconst (v := (nI 0)) X dX7_numberOf_5 (by decide) ?_
  refine z_istore_n (lv' := [(3, .int (nI 0)), (0, .ref (ad 0)), (1, .int v1), (2, .int v2)]) X dX7_numberOf_6 rfl (by decide) rfl ?_
  refine z_sub [1, 2, 0] rfl ?_
  obtain ⟨y2_, hy2, h⟩ := ob h
  cases y2_ with
  | inl y2 =>
    rw [Sum.elim_inl] at h
    refine (it_Z (bX7_numberOf_B7 X eR hw M r1.1 r1.2.1 r1.2.2 v1) FU _ (.inl y2) hy2) ?_
    refine z_iconst (v := (-1 : Int32)) X dX7_numberOf_33 (by decide) ?_
    have hq := Option.some.inj h
    subst hq
    exact z_iret hs dX7_numberOf_34 rfl
  | inr y2 =>
    rw [Sum.elim_inr] at h
    have hq := Option.some.inj h
    subst hq
    exact (it_Z (bX7_numberOf_B7 X eR hw M r1.1 r1.2.1 r1.2.2 v1) FU _ (.inr _) hy2) hs
set_option maxHeartbeats 4000000 in
theorem bX7_reads_B12 {κ : Rx} {ct : Nat → ClassId} {tF : Nat} {po ad : Nat → Nat} {d : Nat} (X : CX κ ct tF cX7_reads 8 RX7) (eR : kR κ = { frames := d + 2, cells := 0, slots := 0, locals := 128 * d + 44 }) (hw : KM (kw κ) po ad ct) (M : Mm) (a_parent : Nat → Int32) (a_left : Nat → Int32) (a_right : Nat → Int32) (a_leftSize : Nat → Int32) (a_above : Nat → Int32) (v1 : Int32) (v2 : Int32) (v3 : Int32) (v4 : Int32) (v5 : Int32) (v6 : Int32) : ∀ (x : Int32) (s : Int32 ⊕ Int32), fX7_reads_B12 v1 v2 v3 v4 v5 v6 x = some s → Sum.elim (fun x => Zj κ 8 12 [(0, .ref (ad 0)), (1, .int v1), (2, .int v2), (3, .int v3), (4, .int v4), (5, .int v5), (6, .int v6), (7, .int x)] [] (mk M [(11, a_parent), (12, a_left), (13, a_right), (14, a_leftSize), (15, a_above)] M.2.1 [])) (fun y => Zj κ 8 46 [(0, .ref (ad 0)), (1, .int v1), (2, .int v2), (3, .int v3), (4, .int v4), (5, .int v5), (6, .int v6), (7, .int y)] [] (mk M [(11, a_parent), (12, a_left), (13, a_right), (14, a_leftSize), (15, a_above)] M.2.1 [])) s → Zj κ 8 12 [(0, .ref (ad 0)), (1, .int v1), (2, .int v2), (3, .int v3), (4, .int v4), (5, .int v5), (6, .int v6), (7, .int x)] [] (mk M [(11, a_parent), (12, a_left), (13, a_right), (14, a_leftSize), (15, a_above)] M.2.1 []) := by
  intro x s h hs
  unfold fX7_reads_B12 at h
  refine z_iload X dX7_reads_12 7 rfl ?_
  refine z_iload_n X dX7_reads_14 1 rfl rfl ?_
  refine z_iload_n X dX7_reads_15 2 rfl rfl ?_
  refine z_iload X dX7_reads_16 7 rfl ?_
  obtain ⟨r1, hr1, h⟩ := ob h
  refine z_cSI (As := [.int v1, .int v2, .int x]) (st := [.int x]) X (tX7_at hw (mk M [(11, a_parent), (12, a_left), (13, a_right), (14, a_leftSize), (15, a_above)] M.2.1 []) hr1) w_469 msX7_at (by rw [eR]; exact ⟨by show _ + 1 ≤ _; dsimp only; omega, by dsimp only; omega⟩) ⟨rfl, rfl⟩ rfl (Nat.le_of_ble_eq_true rfl) rfl dX7_reads_18 ?_
  refine z_iadd X dX7_reads_21 ?_
  refine z_iconst (v := (nI 1)) X dX7_reads_22 (by decide) ?_
  refine z_iadd X dX7_reads_23 ?_
  refine z_iload X dX7_reads_24 4 rfl ?_
  refine z_icmp_gt (tgt := 46) X dX7_reads_26 (by decide) (fun c26 => ?_) (fun c26 => ?_)
  · rw [if_pos c26] at h
    have hq := Option.some.inj h
    subst hq
    exact hs
  · rw [if_neg c26] at h
    refine z_iload X dX7_reads_29 7 rfl ?_
    refine z_iload_n X dX7_reads_31 1 rfl rfl ?_
    refine z_iload_n X dX7_reads_32 2 rfl rfl ?_
    refine z_iload X dX7_reads_33 7 rfl ?_
    obtain ⟨r2, hr2, h⟩ := ob h
    refine z_cSI (As := [.int v1, .int v2, .int x]) (st := [.int x]) X (tX7_at hw (mk M [(11, a_parent), (12, a_left), (13, a_right), (14, a_leftSize), (15, a_above)] M.2.1 []) hr2) w_469 msX7_at (by rw [eR]; exact ⟨by show _ + 1 ≤ _; dsimp only; omega, by dsimp only; omega⟩) ⟨rfl, rfl⟩ rfl (Nat.le_of_ble_eq_true rfl) rfl dX7_reads_35 ?_
    refine z_iconst (v := (nI 1)) X dX7_reads_38 (by decide) ?_
    refine z_iadd X dX7_reads_39 ?_
    refine z_iadd X dX7_reads_40 ?_
    refine z_istore (lv' := [(7, .int (x + (r2 + (nI 1)))), (0, .ref (ad 0)), (1, .int v1), (2, .int v2), (3, .int v3), (4, .int v4), (5, .int v5), (6, .int v6)]) X dX7_reads_41 (by decide) rfl ?_
    refine z_goto (tgt := 12) X dX7_reads_43 (by decide) ?_
    have hq := Option.some.inj h
    subst hq
    exact z_sub [1, 2, 3, 4, 5, 6, 7, 0] rfl hs
set_option maxHeartbeats 4000000 in
theorem tX7_reads {l : Launch} {D : va_G} {ct : Nat → ClassId} {tF : Nat} {wOf : Mm → va_W} {po ad : Nat → Nat} (hw : KM wOf po ad ct) : ∀ (d : Nat) (M : Mm) {v1 : Int32} {v2 : Int32} {v3 : Int32} {v4 : Int32} {v5 : Int32} {v6 : Int32} {r : (Int32 × (Nat → Int32) × (Nat → Int32) × (Nat → Int32) × (Nat → Int32) × (Nat → Int32))}, fX7_reads d (M.1 11) (M.1 12) (M.1 13) (M.1 14) (M.1 15) v1 v2 v3 v4 v5 v6 = some r → CtI l yX7_reads cX7_reads 8 .int { frames := d + 2, cells := 0, slots := 0, locals := 128 * d + 44 } D ct tF wOf [.ref (ad 0), .int v1, .int v2, .int v3, .int v4, .int v5, .int v6] M r.1 (mk M [(11, r.2.1), (12, r.2.2.1), (13, r.2.2.2.1), (14, r.2.2.2.2.1), (15, r.2.2.2.2.2)] M.2.1 []) := by
  intro d
  induction d with
  | zero => intro M v1 v2 v3 v4 v5 v6 r h; rw [fX7_reads] at h; cases h
  | succ d ih =>
    intro M v1 v2 v3 v4 v5 v6 r h
    refine metI (by decide) (Nat.le_of_ble_eq_true rfl) fun κ X e1 eR e3 e4 hs => ?_
    subst e1; subst e3; subst e4
    have h : fX7_reads (d + 1) (M.1 11) (M.1 12) (M.1 13) (M.1 14) (M.1 15) v1 v2 v3 v4 v5 v6 = some r := h
    rw [fX7_reads] at h
    refine z_mem (mk_self M [11, 12, 13, 14, 15] []) ?_
    refine z_sub (lv' := [(0, .ref (ad 0)), (1, .int v1), (2, .int v2), (3, .int v3), (4, .int v4), (5, .int v5), (6, .int v6)]) [0, 1, 2, 3, 4, 5, 6] rfl ?_
    show Zj κ 8 0 _ _ (mk M [(11, (M.1 11)), (12, (M.1 12)), (13, (M.1 13)), (14, (M.1 14)), (15, (M.1 15))] M.2.1 [])
    refine z_iload_n X dX7_reads_0 3 rfl rfl ?_
    refine z_iload X dX7_reads_1 4 rfl ?_
    refine z_icmp_le (tgt := 9) X dX7_reads_3 (by decide) (fun c3 => ?_) (fun c3 => ?_)
    · rw [if_pos c3] at h
      refine z_iload_n X dX7_reads_9 3 rfl rfl ?_
      refine z_istore (lv' := [(7, .int v3), (0, .ref (ad 0)), (1, .int v1), (2, .int v2), (3, .int v3), (4, .int v4), (5, .int v5), (6, .int v6)]) X dX7_reads_10 (by decide) rfl ?_
      refine z_sub [1, 2, 3, 4, 5, 6, 7, 0] rfl ?_
      obtain ⟨y1, hy1, h⟩ := ob h
      refine (it_Z (bX7_reads_B12 X eR hw M (M.1 11) (M.1 12) (M.1 13) (M.1 14) (M.1 15) v1 v2 v3 v4 v5 v6) FU _ y1 hy1) ?_
      refine z_aload_n X dX7_reads_46 0 rfl rfl ?_
      refine z_get (j := 20) (v := .ref (ad 11)) X inX7 rfl (by decide) w_485 (hw.1 _) rfl dX7_reads_47 ?_
      refine z_iload X dX7_reads_50 7 rfl ?_
      refine z_iload X dX7_reads_52 5 rfl ?_
      obtain ⟨u2, hu2, h⟩ := ob h
      refine z_iast (M' := (mk M [(11, u2), (12, (M.1 12)), (13, (M.1 13)), (14, (M.1 14)), (15, (M.1 15))] M.2.1 [])) X (hw.2.2.2.2.2.2.2.2.2.2.2.1 _).1 (wr_ok hu2) (mk_set1 (l' := [(11, u2), (12, (M.1 12)), (13, (M.1 13)), (14, (M.1 14)), (15, (M.1 15))]) (hw.2.2.2.2.2.2.2.2.2.2.2.1) rfl rfl) dX7_reads_54 ?_
      refine z_aload_n X dX7_reads_55 0 rfl rfl ?_
      refine z_get (j := 24) (v := .ref (ad 15)) X inX7 rfl (by decide) w_486 (hw.1 _) rfl dX7_reads_56 ?_
      refine z_iload X dX7_reads_59 7 rfl ?_
      refine z_iload X dX7_reads_61 6 rfl ?_
      obtain ⟨u3, hu3, h⟩ := ob h
      refine z_iast (M' := (mk M [(11, u2), (12, (M.1 12)), (13, (M.1 13)), (14, (M.1 14)), (15, u3)] M.2.1 [])) X (hw.2.2.2.2.2.2.2.2.2.2.2.2.2.2.2.1 _).1 (wr_ok hu3) (mk_set1 (l' := [(11, u2), (12, (M.1 12)), (13, (M.1 13)), (14, (M.1 14)), (15, u3)]) (hw.2.2.2.2.2.2.2.2.2.2.2.2.2.2.2.1) rfl rfl) dX7_reads_63 ?_
      refine z_aload_n X dX7_reads_64 0 rfl rfl ?_
      refine z_get (j := 23) (v := .ref (ad 14)) X inX7 rfl (by decide) w_487 (hw.1 _) rfl dX7_reads_65 ?_
      refine z_iload X dX7_reads_68 7 rfl ?_
      refine z_iload X dX7_reads_70 7 rfl ?_
      refine z_iload_n X dX7_reads_72 3 rfl rfl ?_
      refine z_isub X dX7_reads_73 ?_
      obtain ⟨u4, hu4, h⟩ := ob h
      refine z_iast (M' := (mk M [(11, u2), (12, (M.1 12)), (13, (M.1 13)), (14, u4), (15, u3)] M.2.1 [])) X (hw.2.2.2.2.2.2.2.2.2.2.2.2.2.2.1 _).1 (wr_ok hu4) (mk_set1 (l' := [(11, u2), (12, (M.1 12)), (13, (M.1 13)), (14, u4), (15, u3)]) (hw.2.2.2.2.2.2.2.2.2.2.2.2.2.2.1) rfl rfl) dX7_reads_74 ?_
      refine z_aload_n X dX7_reads_75 0 rfl rfl ?_
      refine z_get (j := 21) (v := .ref (ad 12)) X inX7 rfl (by decide) w_488 (hw.1 _) rfl dX7_reads_76 ?_
      refine z_iload X dX7_reads_79 7 rfl ?_
      refine z_aload_n X dX7_reads_81 0 rfl rfl ?_
      refine z_iload_n X dX7_reads_82 1 rfl rfl ?_
      refine z_iload_n X dX7_reads_83 2 rfl rfl ?_
      refine z_iload_n X dX7_reads_84 3 rfl rfl ?_
      refine z_iload X dX7_reads_85 7 rfl ?_
      refine z_iconst (v := (nI 1)) X dX7_reads_87 (by decide) ?_
      refine z_isub X dX7_reads_88 ?_
      refine z_iload X dX7_reads_89 7 rfl ?_
      refine z_iload X dX7_reads_91 6 rfl ?_
      refine z_iconst (v := (nI 1)) X dX7_reads_93 (by decide) ?_
      refine z_iadd X dX7_reads_94 ?_
      obtain ⟨r5, hr5, h⟩ := ob h
      refine z_cVI (As := [.int v1, .int v2, .int v3, .int (y1 - (nI 1)), .int y1, .int (v6 + (nI 1))]) (st := [.int y1, .ref (ad 12)]) X (ih (mk M [(11, u2), (12, (M.1 12)), (13, (M.1 13)), (14, u4), (15, u3)] M.2.1 []) hr5) w_489 mvX7_reads (by rw [eR]; exact ⟨by show _ + 1 ≤ _; dsimp only; omega, by dsimp only; omega⟩) ⟨rfl, rfl⟩ rfl (Nat.le_of_ble_eq_true rfl) (hw.1 _) rfl rfl dX7_reads_95 ?_
      refine z_mem (mk_mk (l' := [(11, r5.2.1), (12, r5.2.2.1), (13, r5.2.2.2.1), (14, r5.2.2.2.2.1), (15, r5.2.2.2.2.2)]) (sl' := []) rfl rfl rfl rfl) ?_
      obtain ⟨u6, hu6, h⟩ := ob h
      refine z_iast (M' := (mk M [(11, r5.2.1), (12, u6), (13, r5.2.2.2.1), (14, r5.2.2.2.2.1), (15, r5.2.2.2.2.2)] M.2.1 [])) X (hw.2.2.2.2.2.2.2.2.2.2.2.2.1 _).1 (wr_ok hu6) (mk_set1 (l' := [(11, r5.2.1), (12, u6), (13, r5.2.2.2.1), (14, r5.2.2.2.2.1), (15, r5.2.2.2.2.2)]) (hw.2.2.2.2.2.2.2.2.2.2.2.2.1) rfl rfl) dX7_reads_98 ?_
      refine z_aload_n X dX7_reads_99 0 rfl rfl ?_
      refine z_get (j := 22) (v := .ref (ad 13)) X inX7 rfl (by decide) w_493 (hw.1 _) rfl dX7_reads_100 ?_
      refine z_iload X dX7_reads_103 7 rfl ?_
      refine z_aload_n X dX7_reads_105 0 rfl rfl ?_
      refine z_iload_n X dX7_reads_106 1 rfl rfl ?_
      refine z_iload_n X dX7_reads_107 2 rfl rfl ?_
      refine z_iload X dX7_reads_108 7 rfl ?_
      refine z_iconst (v := (nI 1)) X dX7_reads_110 (by decide) ?_
      refine z_iadd X dX7_reads_111 ?_
      refine z_iload X dX7_reads_112 4 rfl ?_
      refine z_iload X dX7_reads_114 7 rfl ?_
      refine z_iload X dX7_reads_116 6 rfl ?_
      refine z_iconst (v := (nI 1)) X dX7_reads_118 (by decide) ?_
      refine z_iadd X dX7_reads_119 ?_
      obtain ⟨r7, hr7, h⟩ := ob h
      refine z_cVI (As := [.int v1, .int v2, .int (y1 + (nI 1)), .int v4, .int y1, .int (v6 + (nI 1))]) (st := [.int y1, .ref (ad 13)]) X (ih (mk M [(11, r5.2.1), (12, u6), (13, r5.2.2.2.1), (14, r5.2.2.2.2.1), (15, r5.2.2.2.2.2)] M.2.1 []) hr7) w_489 mvX7_reads (by rw [eR]; exact ⟨by show _ + 1 ≤ _; dsimp only; omega, by dsimp only; omega⟩) ⟨rfl, rfl⟩ rfl (Nat.le_of_ble_eq_true rfl) (hw.1 _) rfl rfl dX7_reads_120 ?_
      refine z_mem (mk_mk (l' := [(11, r7.2.1), (12, r7.2.2.1), (13, r7.2.2.2.1), (14, r7.2.2.2.2.1), (15, r7.2.2.2.2.2)]) (sl' := []) rfl rfl rfl rfl) ?_
      obtain ⟨u8, hu8, h⟩ := ob h
      refine z_iast (M' := (mk M [(11, r7.2.1), (12, r7.2.2.1), (13, u8), (14, r7.2.2.2.2.1), (15, r7.2.2.2.2.2)] M.2.1 [])) X (hw.2.2.2.2.2.2.2.2.2.2.2.2.2.1 _).1 (wr_ok hu8) (mk_set1 (l' := [(11, r7.2.1), (12, r7.2.2.1), (13, u8), (14, r7.2.2.2.2.1), (15, r7.2.2.2.2.2)]) (hw.2.2.2.2.2.2.2.2.2.2.2.2.2.1) rfl rfl) dX7_reads_123 ?_
      refine z_iload X dX7_reads_124 7 rfl ?_
      have hq := Option.some.inj h
      subst hq
      exact z_iret hs dX7_reads_126 rfl
    · rw [if_neg c3] at h
      refine z_bipush (v := (-5 : Int32)) X dX7_reads_6 (by decide) ?_
      have hq := Option.some.inj h
      subst hq
      exact z_iret hs dX7_reads_8 rfl
set_option maxHeartbeats 4000000 in
theorem tX7_looks {l : Launch} {D : va_G} {ct : Nat → ClassId} {tF : Nat} {wOf : Mm → va_W} {po ad : Nat → Nat} (hw : KM wOf po ad ct) (M : Mm) {v1 : Int32} {v2 : Int32} {r : ((Nat → Int32) × (Nat → Int32) × (Nat → Int32) × (Nat → Int32) × (Nat → Int32) × Int32)} (h : fX7_looks (M.1 11) (M.1 12) (M.1 13) (M.1 14) (M.1 15) (M.2.2 50) v1 v2 = some r) : CtV l yX7_looks cX7_looks 3 { frames := 19, cells := 0, slots := 0, locals := 2119 } D ct tF wOf [.ref (ad 0), .int v1, .int v2] M (mk M [(11, r.1), (12, r.2.1), (13, r.2.2.1), (14, r.2.2.2.1), (15, r.2.2.2.2.1)] M.2.1 [(50, r.2.2.2.2.2)]) := by
  refine metV (by decide) (Nat.le_of_ble_eq_true rfl) fun κ X e1 eR e3 e4 hs => ?_
  subst e1; subst e3; subst e4
  unfold fX7_looks at h
  refine z_mem (mk_self M [11, 12, 13, 14, 15] [50]) ?_
  refine z_sub (lv' := [(0, .ref (ad 0)), (1, .int v1), (2, .int v2)]) [0, 1, 2] rfl ?_
  show Zj κ 3 0 _ _ (mk M [(11, (M.1 11)), (12, (M.1 12)), (13, (M.1 13)), (14, (M.1 14)), (15, (M.1 15))] M.2.1 [(50, (M.2.2 50))])
  refine z_aload_n X dX7_looks_0 0 rfl rfl ?_
  refine z_aload_n X dX7_looks_1 0 rfl rfl ?_
  refine z_iload_n X dX7_looks_2 1 rfl rfl ?_
  refine z_iload_n X dX7_looks_3 2 rfl rfl ?_
  refine z_iconst (v := (nI 0)) X dX7_looks_4 (by decide) ?_
  refine z_iload_n X dX7_looks_5 2 rfl rfl ?_
  refine z_iconst (v := (nI 1)) X dX7_looks_6 (by decide) ?_
  refine z_isub X dX7_looks_7 ?_
  refine z_bipush (v := (-5 : Int32)) X dX7_looks_8 (by decide) ?_
  refine z_iconst (v := (nI 0)) X dX7_looks_10 (by decide) ?_
  obtain ⟨r1, hr1, h⟩ := ob h
  refine z_cVI (As := [.int v1, .int v2, .int (nI 0), .int (v2 - (nI 1)), .int (-5 : Int32), .int (nI 0)]) (st := [.ref (ad 0)]) X (tX7_reads hw 16 (mk M [(11, (M.1 11)), (12, (M.1 12)), (13, (M.1 13)), (14, (M.1 14)), (15, (M.1 15))] M.2.1 [(50, (M.2.2 50))]) hr1) w_489 mvX7_reads (by rw [eR]; exact ⟨Nat.le_of_ble_eq_true rfl, Nat.le_of_ble_eq_true rfl⟩) ⟨rfl, rfl⟩ rfl (Nat.le_of_ble_eq_true rfl) (hw.1 _) rfl rfl dX7_looks_11 ?_
  refine z_mem (mk_mk (l' := [(11, r1.2.1), (12, r1.2.2.1), (13, r1.2.2.2.1), (14, r1.2.2.2.2.1), (15, r1.2.2.2.2.2)]) (sl' := [(50, (M.2.2 50))]) rfl rfl rfl rfl) ?_
  refine z_put (j := 25) (ty := .int) (M' := (mk M [(11, r1.2.1), (12, r1.2.2.1), (13, r1.2.2.2.1), (14, r1.2.2.2.2.1), (15, r1.2.2.2.2.2)] M.2.1 [(50, r1.1)])) X inX7 tyX7 tyX7_ok nmX7 rfl (by decide) w_494 rfl (by decide +kernel) rfl rfl (hw.1 _) (Nat.le_of_ble_eq_true rfl) (mk_setS (sl' := [(50, r1.1)]) (hw.2.2.2.2.2.2.2.2.2.2.2.2.2.2.2.2.2.2.2.2.2.2.2.2.2.2.2.2.2.2.2.1) rfl rfl) dX7_looks_14 ?_
  have hq := Option.some.inj h
  subst hq
  exact z_vret hs dX7_looks_17
set_option maxHeartbeats 4000000 in
theorem tX7_up {l : Launch} {D : va_G} {ct : Nat → ClassId} {tF : Nat} {wOf : Mm → va_W} {po ad : Nat → Nat} (hw : KM wOf po ad ct) (M : Mm) {v1 : Int32} {v2 : Int32} {v3 : Int32} {r : (Int32 × (Nat → Int32) × (Nat → Int32) × (Nat → Int32) × (Nat → Int32) × (Nat → Int32) × Int32)} (h : fX7_up (M.1 11) (M.1 12) (M.1 13) (M.1 14) (M.1 15) (M.2.2 50) v1 v2 v3 = some r) : CtI l yX7_up cX7_up 5 .int { frames := 20, cells := 0, slots := 0, locals := 2141 } D ct tF wOf [.ref (ad 0), .int v1, .int v2, .int v3] M r.1 (mk M [(11, r.2.1), (12, r.2.2.1), (13, r.2.2.2.1), (14, r.2.2.2.2.1), (15, r.2.2.2.2.2.1)] M.2.1 [(50, r.2.2.2.2.2.2)]) := by
  refine metI (by decide) (Nat.le_of_ble_eq_true rfl) fun κ X e1 eR e3 e4 hs => ?_
  subst e1; subst e3; subst e4
  unfold fX7_up at h
  refine z_mem (mk_self M [11, 12, 13, 14, 15] [50]) ?_
  refine z_sub (lv' := [(0, .ref (ad 0)), (1, .int v1), (2, .int v2), (3, .int v3)]) [0, 1, 2, 3] rfl ?_
  show Zj κ 5 0 _ _ (mk M [(11, (M.1 11)), (12, (M.1 12)), (13, (M.1 13)), (14, (M.1 14)), (15, (M.1 15))] M.2.1 [(50, (M.2.2 50))])
  refine z_aload_n X dX7_up_0 0 rfl rfl ?_
  refine z_iload_n X dX7_up_1 1 rfl rfl ?_
  refine z_iload_n X dX7_up_2 2 rfl rfl ?_
  obtain ⟨r1, hr1, h⟩ := ob h
  refine z_cVV (As := [.int v1, .int v2]) (st := []) X (tX7_looks hw (mk M [(11, (M.1 11)), (12, (M.1 12)), (13, (M.1 13)), (14, (M.1 14)), (15, (M.1 15))] M.2.1 [(50, (M.2.2 50))]) hr1) w_495 mvX7_looks (by rw [eR]; exact ⟨Nat.le_of_ble_eq_true rfl, Nat.le_of_ble_eq_true rfl⟩) ⟨rfl, rfl⟩ rfl (Nat.le_of_ble_eq_true rfl) (hw.1 _) rfl rfl dX7_up_3 ?_
  refine z_mem (mk_mk (l' := [(11, r1.1), (12, r1.2.1), (13, r1.2.2.1), (14, r1.2.2.2.1), (15, r1.2.2.2.2.1)]) (sl' := [(50, r1.2.2.2.2.2)]) rfl rfl rfl rfl) ?_
  refine z_aload_n X dX7_up_6 0 rfl rfl ?_
  refine z_get (j := 20) (v := .ref (ad 11)) X inX7 rfl (by decide) w_485 (hw.1 _) rfl dX7_up_7 ?_
  refine z_iload_n X dX7_up_10 3 rfl rfl ?_
  obtain ⟨t2, ht2, h⟩ := ob h
  refine z_iald X (hw.2.2.2.2.2.2.2.2.2.2.2.1 _).1 (rd_ok ht2) dX7_up_11 ?_
  refine z_istore (lv' := [(4, .int t2), (0, .ref (ad 0)), (1, .int v1), (2, .int v2), (3, .int v3)]) X dX7_up_12 (by decide) rfl ?_
  refine z_iload X dX7_up_14 0 rfl ?_
  refine z_bipush (v := (-5 : Int32)) X dX7_up_16 (by decide) ?_
  refine z_icmp_eq (tgt := 32) X dX7_up_18 (by decide) (fun c18 => ?_) (fun c18 => ?_)
  · rw [if_pos c18] at h
    refine z_bipush (v := (-5 : Int32)) X dX7_up_32 (by decide) ?_
    have hq := Option.some.inj h
    subst hq
    exact z_iret hs dX7_up_34 rfl
  · rw [if_neg c18] at h
    refine z_aload_n X dX7_up_21 1 rfl rfl ?_
    refine z_get (j := 21) (v := .ref (ad 12)) X inX7 rfl (by decide) w_488 (hw.1 _) rfl dX7_up_22 ?_
    refine z_iload X dX7_up_25 0 rfl ?_
    obtain ⟨t3, ht3, h⟩ := ob h
    refine z_iald X (hw.2.2.2.2.2.2.2.2.2.2.2.2.1 _).1 (rd_ok ht3) dX7_up_27 ?_
    refine z_iload_n X dX7_up_28 4 rfl rfl ?_
    refine z_icmp_eq (tgt := 35) X dX7_up_29 (by decide) (fun c29 => ?_) (fun c29 => ?_)
    · rw [if_pos c29] at h
      refine z_iload_n X dX7_up_35 2 rfl rfl ?_
      refine z_iload_n X dX7_up_36 3 rfl rfl ?_
      refine z_iload_n X dX7_up_37 4 rfl rfl ?_
      refine z_iload_n X dX7_up_38 2 rfl rfl ?_
      refine z_iload_n X dX7_up_39 3 rfl rfl ?_
      refine z_iload_n X dX7_up_40 4 rfl rfl ?_
      obtain ⟨r4, hr4, h⟩ := ob h
      refine z_cSI (As := [.int v1, .int v2, .int v3]) (st := [.int v3, .int v2, .int v1]) X (tX7_at hw (mk M [(11, r1.1), (12, r1.2.1), (13, r1.2.2.1), (14, r1.2.2.2.1), (15, r1.2.2.2.2.1)] M.2.1 [(50, r1.2.2.2.2.2)]) hr4) w_469 msX7_at (by rw [eR]; exact ⟨Nat.le_of_ble_eq_true rfl, Nat.le_of_ble_eq_true rfl⟩) ⟨rfl, rfl⟩ rfl (Nat.le_of_ble_eq_true rfl) rfl dX7_up_41 ?_
      refine z_iconst (v := (nI 1)) X dX7_up_44 (by decide) ?_
      refine z_iadd X dX7_up_45 ?_
      refine z_iload_n X dX7_up_46 2 rfl rfl ?_
      refine z_iload_n X dX7_up_47 3 rfl rfl ?_
      refine z_iload X dX7_up_48 0 rfl ?_
      obtain ⟨r5, hr5, h⟩ := ob h
      refine z_cSI (As := [.int v1, .int v2, .int t2]) (st := [.int (r4 + (nI 1)), .int v3, .int v2, .int v1]) X (tX7_at hw (mk M [(11, r1.1), (12, r1.2.1), (13, r1.2.2.1), (14, r1.2.2.2.1), (15, r1.2.2.2.2.1)] M.2.1 [(50, r1.2.2.2.2.2)]) hr5) w_469 msX7_at (by rw [eR]; exact ⟨Nat.le_of_ble_eq_true rfl, Nat.le_of_ble_eq_true rfl⟩) ⟨rfl, rfl⟩ rfl (Nat.le_of_ble_eq_true rfl) rfl dX7_up_50 ?_
      refine z_iadd X dX7_up_53 ?_
      obtain ⟨r6, hr6, h⟩ := ob h
      refine z_cSI (As := [.int v1, .int v2, .int v3, .int ((r4 + (nI 1)) + r5)]) (st := []) X (tX7_with hw (mk M [(11, r1.1), (12, r1.2.1), (13, r1.2.2.1), (14, r1.2.2.2.1), (15, r1.2.2.2.2.1)] M.2.1 [(50, r1.2.2.2.2.2)]) hr6) w_499 msX7_with (by rw [eR]; exact ⟨Nat.le_of_ble_eq_true rfl, Nat.le_of_ble_eq_true rfl⟩) ⟨rfl, rfl⟩ rfl (Nat.le_of_ble_eq_true rfl) rfl dX7_up_54 ?_
      have hq := Option.some.inj h
      subst hq
      exact z_iret hs dX7_up_57 rfl
    · rw [if_neg c29] at h
      refine z_bipush (v := (-5 : Int32)) X dX7_up_32 (by decide) ?_
      have hq := Option.some.inj h
      subst hq
      exact z_iret hs dX7_up_34 rfl
set_option maxHeartbeats 4000000 in
theorem tX7_down {l : Launch} {D : va_G} {ct : Nat → ClassId} {tF : Nat} {wOf : Mm → va_W} {po ad : Nat → Nat} (hw : KM wOf po ad ct) (M : Mm) {v1 : Int32} {v2 : Int32} {v3 : Int32} {r : (Int32 × (Nat → Int32) × (Nat → Int32) × (Nat → Int32) × (Nat → Int32) × (Nat → Int32) × Int32)} (h : fX7_down (M.1 11) (M.1 12) (M.1 13) (M.1 14) (M.1 15) (M.2.2 50) v1 v2 v3 = some r) : CtI l yX7_down cX7_down 4 .int { frames := 20, cells := 0, slots := 0, locals := 2141 } D ct tF wOf [.ref (ad 0), .int v1, .int v2, .int v3] M r.1 (mk M [(11, r.2.1), (12, r.2.2.1), (13, r.2.2.2.1), (14, r.2.2.2.2.1), (15, r.2.2.2.2.2.1)] M.2.1 [(50, r.2.2.2.2.2.2)]) := by
  refine metI (by decide) (Nat.le_of_ble_eq_true rfl) fun κ X e1 eR e3 e4 hs => ?_
  subst e1; subst e3; subst e4
  unfold fX7_down at h
  refine z_mem (mk_self M [11, 12, 13, 14, 15] [50]) ?_
  refine z_sub (lv' := [(0, .ref (ad 0)), (1, .int v1), (2, .int v2), (3, .int v3)]) [0, 1, 2, 3] rfl ?_
  show Zj κ 4 0 _ _ (mk M [(11, (M.1 11)), (12, (M.1 12)), (13, (M.1 13)), (14, (M.1 14)), (15, (M.1 15))] M.2.1 [(50, (M.2.2 50))])
  refine z_aload_n X dX7_down_0 0 rfl rfl ?_
  refine z_iload_n X dX7_down_1 1 rfl rfl ?_
  refine z_iload_n X dX7_down_2 2 rfl rfl ?_
  obtain ⟨r1, hr1, h⟩ := ob h
  refine z_cVV (As := [.int v1, .int v2]) (st := []) X (tX7_looks hw (mk M [(11, (M.1 11)), (12, (M.1 12)), (13, (M.1 13)), (14, (M.1 14)), (15, (M.1 15))] M.2.1 [(50, (M.2.2 50))]) hr1) w_495 mvX7_looks (by rw [eR]; exact ⟨Nat.le_of_ble_eq_true rfl, Nat.le_of_ble_eq_true rfl⟩) ⟨rfl, rfl⟩ rfl (Nat.le_of_ble_eq_true rfl) (hw.1 _) rfl rfl dX7_down_3 ?_
  refine z_mem (mk_mk (l' := [(11, r1.1), (12, r1.2.1), (13, r1.2.2.1), (14, r1.2.2.2.1), (15, r1.2.2.2.2.1)]) (sl' := [(50, r1.2.2.2.2.2)]) rfl rfl rfl rfl) ?_
  refine z_aload_n X dX7_down_6 0 rfl rfl ?_
  refine z_get (j := 22) (v := .ref (ad 13)) X inX7 rfl (by decide) w_493 (hw.1 _) rfl dX7_down_7 ?_
  refine z_iload_n X dX7_down_10 3 rfl rfl ?_
  obtain ⟨t2, ht2, h⟩ := ob h
  refine z_iald X (hw.2.2.2.2.2.2.2.2.2.2.2.2.2.1 _).1 (rd_ok ht2) dX7_down_11 ?_
  refine z_bipush (v := (-5 : Int32)) X dX7_down_12 (by decide) ?_
  refine z_icmp_ne (tgt := 22) X dX7_down_14 (by decide) (fun c14 => ?_) (fun c14 => ?_)
  · rw [if_neg c14] at h
    refine z_iload_n X dX7_down_22 1 rfl rfl ?_
    refine z_iload_n X dX7_down_23 2 rfl rfl ?_
    refine z_iload_n X dX7_down_24 3 rfl rfl ?_
    refine z_aload_n X dX7_down_25 0 rfl rfl ?_
    refine z_get (j := 22) (v := .ref (ad 13)) X inX7 rfl (by decide) w_493 (hw.1 _) rfl dX7_down_26 ?_
    refine z_iload_n X dX7_down_29 3 rfl rfl ?_
    obtain ⟨t3, ht3, h⟩ := ob h
    refine z_iald X (hw.2.2.2.2.2.2.2.2.2.2.2.2.2.1 _).1 (rd_ok ht3) dX7_down_30 ?_
    refine z_iload_n X dX7_down_31 3 rfl rfl ?_
    refine z_isub X dX7_down_32 ?_
    refine z_iconst (v := (nI 1)) X dX7_down_33 (by decide) ?_
    refine z_isub X dX7_down_34 ?_
    obtain ⟨r4, hr4, h⟩ := ob h
    refine z_cSI (As := [.int v1, .int v2, .int v3, .int ((t3 - v3) - (nI 1))]) (st := []) X (tX7_with hw (mk M [(11, r1.1), (12, r1.2.1), (13, r1.2.2.1), (14, r1.2.2.2.1), (15, r1.2.2.2.2.1)] M.2.1 [(50, r1.2.2.2.2.2)]) hr4) w_499 msX7_with (by rw [eR]; exact ⟨Nat.le_of_ble_eq_true rfl, Nat.le_of_ble_eq_true rfl⟩) ⟨rfl, rfl⟩ rfl (Nat.le_of_ble_eq_true rfl) rfl dX7_down_35 ?_
    have hq := Option.some.inj h
    subst hq
    exact z_iret hs dX7_down_38 rfl
  · rw [if_pos c14] at h
    refine z_bipush (v := (-5 : Int32)) X dX7_down_17 (by decide) ?_
    refine z_goto (tgt := 38) X dX7_down_19 (by decide) ?_
    have hq := Option.some.inj h
    subst hq
    exact z_iret hs dX7_down_38 rfl
set_option maxHeartbeats 4000000 in
theorem bX7_mirrored_B11 {κ : Rx} {ct : Nat → ClassId} {tF : Nat} {po ad : Nat → Nat} (X : CX κ ct tF cX7_mirrored 5 RX7) (eR : kR κ = { frames := 20, cells := 0, slots := 0, locals := 2141 }) (hw : KM (kw κ) po ad ct) (M : Mm) (a_parent : Nat → Int32) (a_left : Nat → Int32) (a_right : Nat → Int32) (a_leftSize : Nat → Int32) (a_above : Nat → Int32) (s_read : Int32) (v2 : Int32) : ∀ (x : (Int32 × Int32)) (s : (Int32 × Int32) ⊕ Int32), fX7_mirrored_B11 a_leftSize v2 x = some s → Sum.elim (fun x => Zj κ 5 11 [(0, .ref (ad 0)), (2, .int v2), (3, .int x.1), (4, .int x.2)] [] (mk M [(11, a_parent), (12, a_left), (13, a_right), (14, a_leftSize), (15, a_above)] M.2.1 [(50, s_read)])) (fun y => Zj κ 5 40 [(3, .int y)] [] (mk M [(11, a_parent), (12, a_left), (13, a_right), (14, a_leftSize), (15, a_above)] M.2.1 [(50, s_read)])) s → Zj κ 5 11 [(0, .ref (ad 0)), (2, .int v2), (3, .int x.1), (4, .int x.2)] [] (mk M [(11, a_parent), (12, a_left), (13, a_right), (14, a_leftSize), (15, a_above)] M.2.1 [(50, s_read)]) := by
  intro x s h hs
  unfold fX7_mirrored_B11 at h
  refine z_iload X dX7_mirrored_11 3 rfl ?_
  refine z_iload_n X dX7_mirrored_13 1 rfl rfl ?_
  refine z_icmp_ge (tgt := 40) X dX7_mirrored_14 (by decide) (fun c14 => ?_) (fun c14 => ?_)
  · rw [if_pos c14] at h
    have hq := Option.some.inj h
    subst hq
    exact z_sub [2] rfl hs
  · rw [if_neg c14] at h
    refine z_bipush (v := (nI 10)) X dX7_mirrored_17 (by decide) ?_
    refine z_iload_n X dX7_mirrored_19 2 rfl rfl ?_
    refine z_imul X dX7_mirrored_20 ?_
    refine z_aload_n X dX7_mirrored_21 0 rfl rfl ?_
    refine z_get (j := 23) (v := .ref (ad 14)) X inX7 rfl (by decide) w_487 (hw.1 _) rfl dX7_mirrored_22 ?_
    refine z_iload_n X dX7_mirrored_25 1 rfl rfl ?_
    refine z_iconst (v := (nI 1)) X dX7_mirrored_26 (by decide) ?_
    refine z_isub X dX7_mirrored_27 ?_
    refine z_iload X dX7_mirrored_28 3 rfl ?_
    refine z_isub X dX7_mirrored_30 ?_
    obtain ⟨t1, ht1, h⟩ := ob h
    refine z_iald X (hw.2.2.2.2.2.2.2.2.2.2.2.2.2.2.1 _).1 (rd_ok ht1) dX7_mirrored_31 ?_
    refine z_iadd X dX7_mirrored_32 ?_
    refine z_istore_n (lv' := [(3, .int (((nI 10) * x.1) + t1)), (0, .ref (ad 0)), (2, .int v2), (4, .int x.2)]) X dX7_mirrored_33 rfl (by decide) rfl ?_
    refine z_iinc (v := (x.2 + nI 1)) (lv' := [(4, .int (x.2 + nI 1)), (3, .int (((nI 10) * x.1) + t1)), (0, .ref (ad 0)), (2, .int v2)]) X dX7_mirrored_34 3 rfl rfl (by decide) rfl ?_
    refine z_goto (tgt := 11) X dX7_mirrored_37 (by decide) ?_
    have hq := Option.some.inj h
    subst hq
    exact z_sub [2, 3, 1, 0] rfl hs
set_option maxHeartbeats 4000000 in
theorem tX7_mirrored {l : Launch} {D : va_G} {ct : Nat → ClassId} {tF : Nat} {wOf : Mm → va_W} {po ad : Nat → Nat} (hw : KM wOf po ad ct) (M : Mm) {v1 : Int32} {v2 : Int32} {r : (Int32 × (Nat → Int32) × (Nat → Int32) × (Nat → Int32) × (Nat → Int32) × (Nat → Int32) × Int32)} (h : fX7_mirrored (M.1 11) (M.1 12) (M.1 13) (M.1 14) (M.1 15) (M.2.2 50) v1 v2 = some r) : CtI l yX7_mirrored cX7_mirrored 5 .int { frames := 20, cells := 0, slots := 0, locals := 2141 } D ct tF wOf [.ref (ad 0), .int v1, .int v2] M r.1 (mk M [(11, r.2.1), (12, r.2.2.1), (13, r.2.2.2.1), (14, r.2.2.2.2.1), (15, r.2.2.2.2.2.1)] M.2.1 [(50, r.2.2.2.2.2.2)]) := by
  refine metI (by decide) (Nat.le_of_ble_eq_true rfl) fun κ X e1 eR e3 e4 hs => ?_
  subst e1; subst e3; subst e4
  unfold fX7_mirrored at h
  refine z_mem (mk_self M [11, 12, 13, 14, 15] [50]) ?_
  refine z_sub (lv' := [(0, .ref (ad 0)), (1, .int v1), (2, .int v2)]) [0, 1, 2] rfl ?_
  show Zj κ 5 0 _ _ (mk M [(11, (M.1 11)), (12, (M.1 12)), (13, (M.1 13)), (14, (M.1 14)), (15, (M.1 15))] M.2.1 [(50, (M.2.2 50))])
  refine z_aload_n X dX7_mirrored_0 0 rfl rfl ?_
  refine z_iload_n X dX7_mirrored_1 1 rfl rfl ?_
  refine z_iload_n X dX7_mirrored_2 2 rfl rfl ?_
  obtain ⟨r1, hr1, h⟩ := ob h
  refine z_cVV (As := [.int v1, .int v2]) (st := []) X (tX7_looks hw (mk M [(11, (M.1 11)), (12, (M.1 12)), (13, (M.1 13)), (14, (M.1 14)), (15, (M.1 15))] M.2.1 [(50, (M.2.2 50))]) hr1) w_495 mvX7_looks (by rw [eR]; exact ⟨Nat.le_of_ble_eq_true rfl, Nat.le_of_ble_eq_true rfl⟩) ⟨rfl, rfl⟩ rfl (Nat.le_of_ble_eq_true rfl) (hw.1 _) rfl rfl dX7_mirrored_3 ?_
  refine z_mem (mk_mk (l' := [(11, r1.1), (12, r1.2.1), (13, r1.2.2.1), (14, r1.2.2.2.1), (15, r1.2.2.2.2.1)]) (sl' := [(50, r1.2.2.2.2.2)]) rfl rfl rfl rfl) ?_
  refine z_iconst (v := (nI 0)) X dX7_mirrored_6 (by decide) ?_
  refine z_istore_n (lv' := [(3, .int (nI 0)), (0, .ref (ad 0)), (1, .int v1), (2, .int v2)]) X dX7_mirrored_7 rfl (by decide) rfl ?_
  refine z_iconst (v := (nI 0)) X dX7_mirrored_8 (by decide) ?_
  refine z_istore (lv' := [(4, .int (nI 0)), (3, .int (nI 0)), (0, .ref (ad 0)), (1, .int v1), (2, .int v2)]) X dX7_mirrored_9 (by decide) rfl ?_
  refine z_sub [2, 4, 1, 0] rfl ?_
  obtain ⟨y2, hy2, h⟩ := ob h
  refine (it_Z (bX7_mirrored_B11 X eR hw M r1.1 r1.2.1 r1.2.2.1 r1.2.2.2.1 r1.2.2.2.2.1 r1.2.2.2.2.2 v2) FU _ y2 hy2) ?_
  refine z_iload_n X dX7_mirrored_40 0 rfl rfl ?_
  have hq := Option.some.inj h
  subst hq
  exact z_iret hs dX7_mirrored_41 rfl
set_option maxHeartbeats 4000000 in
theorem bX7_isBelow_B2 {κ : Rx} {ct : Nat → ClassId} {tF : Nat} {po ad : Nat → Nat} (X : CX κ ct tF cX7_isBelow 4 RX7) (eR : kR κ = { frames := 2, cells := 0, slots := 0, locals := 44 }) (hw : KM (kw κ) po ad ct) (M : Mm)  (v0 : Int32) (v1 : Int32) (v2 : Int32) : ∀ (x : Int32) (s : Int32 ⊕ (Unit ⊕ Int32)), fX7_isBelow_B2 v0 v1 v2 x = some s → Sum.elim (fun x => Zj κ 4 2 [(0, .int v0), (1, .int v1), (2, .int v2), (3, .int x)] [] M) (Sum.elim (fun y => Zj κ 4 30 [] [] M) (fun r => ZI κ cX7_isBelow .boolean r M)) s → Zj κ 4 2 [(0, .int v0), (1, .int v1), (2, .int v2), (3, .int x)] [] M := by
  intro x s h hs
  unfold fX7_isBelow_B2 at h
  refine z_iload_n X dX7_isBelow_2 3 rfl rfl ?_
  refine z_iload_n X dX7_isBelow_3 2 rfl rfl ?_
  refine z_icmp_ge (tgt := 30) X dX7_isBelow_4 (by decide) (fun c4 => ?_) (fun c4 => ?_)
  · rw [if_pos c4] at h
    have hq := Option.some.inj h
    subst hq
    exact z_sub [] rfl hs
  · rw [if_neg c4] at h
    refine z_iload_n X dX7_isBelow_7 0 rfl rfl ?_
    refine z_iload_n X dX7_isBelow_8 2 rfl rfl ?_
    refine z_iload_n X dX7_isBelow_9 3 rfl rfl ?_
    obtain ⟨r1, hr1, h⟩ := ob h
    refine z_cSI (As := [.int v0, .int v2, .int x]) (st := []) X (tX7_at hw M hr1) w_469 msX7_at (by rw [eR]; exact ⟨Nat.le_of_ble_eq_true rfl, Nat.le_of_ble_eq_true rfl⟩) ⟨rfl, rfl⟩ rfl (Nat.le_of_ble_eq_true rfl) rfl dX7_isBelow_10 ?_
    refine z_iload_n X dX7_isBelow_13 1 rfl rfl ?_
    refine z_iload_n X dX7_isBelow_14 2 rfl rfl ?_
    refine z_iload_n X dX7_isBelow_15 3 rfl rfl ?_
    obtain ⟨r2, hr2, h⟩ := ob h
    refine z_cSI (As := [.int v1, .int v2, .int x]) (st := [.int r1]) X (tX7_at hw M hr2) w_469 msX7_at (by rw [eR]; exact ⟨Nat.le_of_ble_eq_true rfl, Nat.le_of_ble_eq_true rfl⟩) ⟨rfl, rfl⟩ rfl (Nat.le_of_ble_eq_true rfl) rfl dX7_isBelow_16 ?_
    refine z_icmp_le (tgt := 24) X dX7_isBelow_19 (by decide) (fun c19 => ?_) (fun c19 => ?_)
    · rw [if_pos c19] at h
      refine z_iinc (v := (x + nI 1)) (lv' := [(3, .int (x + nI 1)), (0, .int v0), (1, .int v1), (2, .int v2)]) X dX7_isBelow_24 3 rfl rfl (by decide) rfl ?_
      refine z_goto (tgt := 2) X dX7_isBelow_27 (by decide) ?_
      have hq := Option.some.inj h
      subst hq
      exact z_sub [1, 2, 3, 0] rfl hs
    · rw [if_neg c19] at h
      refine z_iconst (v := (nI 0)) X dX7_isBelow_22 (by decide) ?_
      have hq := Option.some.inj h
      subst hq
      exact z_iret hs dX7_isBelow_23 rfl
set_option maxHeartbeats 4000000 in
theorem tX7_isBelow {l : Launch} {D : va_G} {ct : Nat → ClassId} {tF : Nat} {wOf : Mm → va_W} {po ad : Nat → Nat} (hw : KM wOf po ad ct) (M : Mm) {v0 : Int32} {v1 : Int32} {v2 : Int32} {r : Int32} (h : fX7_isBelow v0 v1 v2 = some r) : CtI l yX7_isBelow cX7_isBelow 4 .boolean { frames := 2, cells := 0, slots := 0, locals := 44 } D ct tF wOf [.int v0, .int v1, .int v2] M r M := by
  refine metI (by decide) (Nat.le_of_ble_eq_true rfl) fun κ X e1 eR e3 e4 hs => ?_
  subst e1; subst e3; subst e4
  unfold fX7_isBelow at h
  refine z_sub (lv' := [(0, .int v0), (1, .int v1), (2, .int v2)]) [0, 1, 2] rfl ?_
  refine z_iconst (v := (nI 0)) X dX7_isBelow_0 (by decide) ?_
  refine z_istore_n (lv' := [(3, .int (nI 0)), (0, .int v0), (1, .int v1), (2, .int v2)]) X dX7_isBelow_1 rfl (by decide) rfl ?_
  refine z_sub [1, 2, 3, 0] rfl ?_
  obtain ⟨y1_, hy1, h⟩ := ob h
  cases y1_ with
  | inl y1 =>
    rw [Sum.elim_inl] at h
    refine (it_Z (bX7_isBelow_B2 X eR hw M v0 v1 v2) FU _ (.inl y1) hy1) ?_
    refine z_iconst (v := (nI 1)) X dX7_isBelow_30 (by decide) ?_
    have hq := Option.some.inj h
    subst hq
    exact z_iret hs dX7_isBelow_31 rfl
  | inr y1 =>
    rw [Sum.elim_inr] at h
    have hq := Option.some.inj h
    subst hq
    exact (it_Z (bX7_isBelow_B2 X eR hw M v0 v1 v2) FU _ (.inr _) hy1) hs
set_option maxHeartbeats 4000000 in
theorem jX7_becomes_J78 {κ : Rx} {ct : Nat → ClassId} {tF : Nat} {po ad : Nat → Nat} (X : CX κ ct tF cX7_becomes 4 RX7) (eR : kR κ = { frames := 0, cells := 0, slots := 0, locals := 0 }) (hw : KM (kw κ) po ad ct) (M : Mm) (a_stepNodes : Nat → Int32) (a_stepTree : Nat → Int32) (s_nodes : Int32) (s_tree : Int32) (s_steps : Int32)  (v1 : Int32) (v2 : Int32)  (s : ((Nat → Int32) × (Nat → Int32) × Int32 × Int32 × Int32)) (h : fX7_becomes_J78 a_stepNodes a_stepTree s_nodes s_tree s_steps v1 v2 = some s) (hs : (ZV κ cX7_becomes (mk M [(3, s.1), (4, s.2.1)] M.2.1 [(40, s.2.2.1), (41, s.2.2.2.1), (42, s.2.2.2.2)]))) : Zj κ 4 78 [(0, .ref (ad 0)), (1, .int v1), (2, .int v2)] [] (mk M [(3, a_stepNodes), (4, a_stepTree)] M.2.1 [(40, s_nodes), (41, s_tree), (42, s_steps)]) := by
  unfold fX7_becomes_J78 at h
  refine z_aload_n X dX7_becomes_78 0 rfl rfl ?_
  refine z_get (j := 4) (v := .ref (ad 3)) X inX7 rfl (by decide) w_504 (hw.1 _) rfl dX7_becomes_79 ?_
  refine z_aload_n X dX7_becomes_82 0 rfl rfl ?_
  refine z_get (j := 6) (v := .int s_steps) X inX7 rfl (by decide) w_503 (hw.1 _) rfl dX7_becomes_83 ?_
  refine z_aload_n X dX7_becomes_86 0 rfl rfl ?_
  refine z_get (j := 0) (v := .int s_nodes) X inX7 rfl (by decide) w_502 (hw.1 _) rfl dX7_becomes_87 ?_
  obtain ⟨u1, hu1, h⟩ := ob h
  refine z_iast (M' := (mk M [(3, u1), (4, a_stepTree)] M.2.1 [(40, s_nodes), (41, s_tree), (42, s_steps)])) X (hw.2.2.2.1 _).1 (wr_ok hu1) (mk_set1 (l' := [(3, u1), (4, a_stepTree)]) (hw.2.2.2.1) rfl rfl) dX7_becomes_90 ?_
  refine z_aload_n X dX7_becomes_91 0 rfl rfl ?_
  refine z_get (j := 5) (v := .ref (ad 4)) X inX7 rfl (by decide) w_505 (hw.1 _) rfl dX7_becomes_92 ?_
  refine z_aload_n X dX7_becomes_95 0 rfl rfl ?_
  refine z_get (j := 6) (v := .int s_steps) X inX7 rfl (by decide) w_503 (hw.1 _) rfl dX7_becomes_96 ?_
  refine z_aload_n X dX7_becomes_99 0 rfl rfl ?_
  refine z_get (j := 1) (v := .int s_tree) X inX7 rfl (by decide) w_506 (hw.1 _) rfl dX7_becomes_100 ?_
  obtain ⟨u2, hu2, h⟩ := ob h
  refine z_iast (M' := (mk M [(3, u1), (4, u2)] M.2.1 [(40, s_nodes), (41, s_tree), (42, s_steps)])) X (hw.2.2.2.2.1 _).1 (wr_ok hu2) (mk_set1 (l' := [(3, u1), (4, u2)]) (hw.2.2.2.2.1) rfl rfl) dX7_becomes_103 ?_
  refine z_aload_n X dX7_becomes_104 0 rfl rfl ?_
  refine z_dup X dX7_becomes_105 rfl ?_
  refine z_get (j := 6) (v := .int s_steps) X inX7 rfl (by decide) w_503 (hw.1 _) rfl dX7_becomes_106 ?_
  refine z_iconst (v := (nI 1)) X dX7_becomes_109 (by decide) ?_
  refine z_iadd X dX7_becomes_110 ?_
  refine z_put (j := 6) (ty := .int) (M' := (mk M [(3, u1), (4, u2)] M.2.1 [(40, s_nodes), (41, s_tree), (42, (s_steps + (nI 1)))])) X inX7 tyX7 tyX7_ok nmX7 rfl (by decide) w_503 rfl (by decide +kernel) rfl rfl (hw.1 _) (Nat.le_of_ble_eq_true rfl) (mk_setS (sl' := [(40, s_nodes), (41, s_tree), (42, (s_steps + (nI 1)))]) (hw.2.2.2.2.2.2.2.2.2.2.2.2.2.2.2.2.2.2.2.2.2.2.2.1) rfl rfl) dX7_becomes_111 ?_
  refine z_aload_n X dX7_becomes_114 0 rfl rfl ?_
  refine z_iload_n X dX7_becomes_115 1 rfl rfl ?_
  refine z_put (j := 0) (ty := .int) (M' := (mk M [(3, u1), (4, u2)] M.2.1 [(40, v1), (41, s_tree), (42, (s_steps + (nI 1)))])) X inX7 tyX7 tyX7_ok nmX7 rfl (by decide) w_502 rfl (by decide +kernel) rfl rfl (hw.1 _) (Nat.le_of_ble_eq_true rfl) (mk_setS (sl' := [(40, v1), (41, s_tree), (42, (s_steps + (nI 1)))]) (hw.2.2.2.2.2.2.2.2.2.2.2.2.2.2.2.2.2.2.2.2.2.1) rfl rfl) dX7_becomes_116 ?_
  refine z_aload_n X dX7_becomes_119 0 rfl rfl ?_
  refine z_iload_n X dX7_becomes_120 2 rfl rfl ?_
  refine z_put (j := 1) (ty := .int) (M' := (mk M [(3, u1), (4, u2)] M.2.1 [(40, v1), (41, v2), (42, (s_steps + (nI 1)))])) X inX7 tyX7 tyX7_ok nmX7 rfl (by decide) w_506 rfl (by decide +kernel) rfl rfl (hw.1 _) (Nat.le_of_ble_eq_true rfl) (mk_setS (sl' := [(40, v1), (41, v2), (42, (s_steps + (nI 1)))]) (hw.2.2.2.2.2.2.2.2.2.2.2.2.2.2.2.2.2.2.2.2.2.2.1) rfl rfl) dX7_becomes_121 ?_
  have hq := Option.some.inj h
  subst hq
  exact z_vret hs dX7_becomes_124
set_option maxHeartbeats 4000000 in
theorem bX7_becomes_B28 {κ : Rx} {ct : Nat → ClassId} {tF : Nat} {po ad : Nat → Nat} (X : CX κ ct tF cX7_becomes 4 RX7) (eR : kR κ = { frames := 0, cells := 0, slots := 0, locals := 0 }) (hw : KM (kw κ) po ad ct) (M : Mm) (s_nodes : Int32) (s_tree : Int32) (s_steps : Int32) (v1 : Int32) (v2 : Int32) : ∀ (x : (Int32 × (Nat → Int32) × (Nat → Int32))) (s : (Int32 × (Nat → Int32) × (Nat → Int32)) ⊕ ((Nat → Int32) × (Nat → Int32))), fX7_becomes_B28 v1 v2 x = some s → Sum.elim (fun x => Zj κ 4 28 [(0, .ref (ad 0)), (1, .int v1), (2, .int v2), (3, .int x.1)] [] (mk M [(3, x.2.1), (4, x.2.2)] M.2.1 [(40, s_nodes), (41, s_tree), (42, s_steps)])) (fun y => Zj κ 4 68 [(0, .ref (ad 0)), (1, .int v1), (2, .int v2)] [] (mk M [(3, y.1), (4, y.2)] M.2.1 [(40, s_nodes), (41, s_tree), (42, s_steps)])) s → Zj κ 4 28 [(0, .ref (ad 0)), (1, .int v1), (2, .int v2), (3, .int x.1)] [] (mk M [(3, x.2.1), (4, x.2.2)] M.2.1 [(40, s_nodes), (41, s_tree), (42, s_steps)]) := by
  intro x s h hs
  unfold fX7_becomes_B28 at h
  refine z_iload_n X dX7_becomes_28 3 rfl rfl ?_
  refine z_bipush (v := (nI 10)) X dX7_becomes_29 (by decide) ?_
  refine z_icmp_ge (tgt := 68) X dX7_becomes_31 (by decide) (fun c31 => ?_) (fun c31 => ?_)
  · rw [if_pos c31] at h
    have hq := Option.some.inj h
    subst hq
    exact z_sub [0, 1, 2] rfl hs
  · rw [if_neg c31] at h
    refine z_aload_n X dX7_becomes_34 0 rfl rfl ?_
    refine z_get (j := 4) (v := .ref (ad 3)) X inX7 rfl (by decide) w_504 (hw.1 _) rfl dX7_becomes_35 ?_
    refine z_iload_n X dX7_becomes_38 3 rfl rfl ?_
    refine z_iconst (v := (nI 1)) X dX7_becomes_39 (by decide) ?_
    refine z_isub X dX7_becomes_40 ?_
    refine z_aload_n X dX7_becomes_41 0 rfl rfl ?_
    refine z_get (j := 4) (v := .ref (ad 3)) X inX7 rfl (by decide) w_504 (hw.1 _) rfl dX7_becomes_42 ?_
    refine z_iload_n X dX7_becomes_45 3 rfl rfl ?_
    obtain ⟨t1, ht1, h⟩ := ob h
    refine z_iald X (hw.2.2.2.1 _).1 (rd_ok ht1) dX7_becomes_46 ?_
    obtain ⟨u2, hu2, h⟩ := ob h
    refine z_iast (M' := (mk M [(3, u2), (4, x.2.2)] M.2.1 [(40, s_nodes), (41, s_tree), (42, s_steps)])) X (hw.2.2.2.1 _).1 (wr_ok hu2) (mk_set1 (l' := [(3, u2), (4, x.2.2)]) (hw.2.2.2.1) rfl rfl) dX7_becomes_47 ?_
    refine z_aload_n X dX7_becomes_48 0 rfl rfl ?_
    refine z_get (j := 5) (v := .ref (ad 4)) X inX7 rfl (by decide) w_505 (hw.1 _) rfl dX7_becomes_49 ?_
    refine z_iload_n X dX7_becomes_52 3 rfl rfl ?_
    refine z_iconst (v := (nI 1)) X dX7_becomes_53 (by decide) ?_
    refine z_isub X dX7_becomes_54 ?_
    refine z_aload_n X dX7_becomes_55 0 rfl rfl ?_
    refine z_get (j := 5) (v := .ref (ad 4)) X inX7 rfl (by decide) w_505 (hw.1 _) rfl dX7_becomes_56 ?_
    refine z_iload_n X dX7_becomes_59 3 rfl rfl ?_
    obtain ⟨t3, ht3, h⟩ := ob h
    refine z_iald X (hw.2.2.2.2.1 _).1 (rd_ok ht3) dX7_becomes_60 ?_
    obtain ⟨u4, hu4, h⟩ := ob h
    refine z_iast (M' := (mk M [(3, u2), (4, u4)] M.2.1 [(40, s_nodes), (41, s_tree), (42, s_steps)])) X (hw.2.2.2.2.1 _).1 (wr_ok hu4) (mk_set1 (l' := [(3, u2), (4, u4)]) (hw.2.2.2.2.1) rfl rfl) dX7_becomes_61 ?_
    refine z_iinc (v := (x.1 + nI 1)) (lv' := [(3, .int (x.1 + nI 1)), (0, .ref (ad 0)), (1, .int v1), (2, .int v2)]) X dX7_becomes_62 3 rfl rfl (by decide) rfl ?_
    refine z_goto (tgt := 28) X dX7_becomes_65 (by decide) ?_
    have hq := Option.some.inj h
    subst hq
    exact z_sub [1, 2, 3, 0] rfl hs
set_option maxHeartbeats 4000000 in
theorem jX7_becomes_J17 {κ : Rx} {ct : Nat → ClassId} {tF : Nat} {po ad : Nat → Nat} (X : CX κ ct tF cX7_becomes 4 RX7) (eR : kR κ = { frames := 0, cells := 0, slots := 0, locals := 0 }) (hw : KM (kw κ) po ad ct) (M : Mm) (a_stepNodes : Nat → Int32) (a_stepTree : Nat → Int32) (s_nodes : Int32) (s_tree : Int32) (s_steps : Int32)  (v1 : Int32) (v2 : Int32)  (s : ((Nat → Int32) × (Nat → Int32) × Int32 × Int32 × Int32)) (h : fX7_becomes_J17 a_stepNodes a_stepTree s_nodes s_tree s_steps v1 v2 = some s) (hs : (ZV κ cX7_becomes (mk M [(3, s.1), (4, s.2.1)] M.2.1 [(40, s.2.2.1), (41, s.2.2.2.1), (42, s.2.2.2.2)]))) : Zj κ 4 17 [(0, .ref (ad 0)), (1, .int v1), (2, .int v2)] [] (mk M [(3, a_stepNodes), (4, a_stepTree)] M.2.1 [(40, s_nodes), (41, s_tree), (42, s_steps)]) := by
  unfold fX7_becomes_J17 at h
  refine z_aload_n X dX7_becomes_17 0 rfl rfl ?_
  refine z_get (j := 6) (v := .int s_steps) X inX7 rfl (by decide) w_503 (hw.1 _) rfl dX7_becomes_18 ?_
  refine z_bipush (v := (nI 10)) X dX7_becomes_21 (by decide) ?_
  refine z_icmp_ne (tgt := 78) X dX7_becomes_23 (by decide) (fun c23 => ?_) (fun c23 => ?_)
  · rw [if_neg c23] at h
    exact (jX7_becomes_J78 X eR hw M a_stepNodes a_stepTree s_nodes s_tree s_steps v1 v2 _ h hs)
  · rw [if_pos c23] at h
    refine z_iconst (v := (nI 1)) X dX7_becomes_26 (by decide) ?_
    refine z_istore_n (lv' := [(3, .int (nI 1)), (0, .ref (ad 0)), (1, .int v1), (2, .int v2)]) X dX7_becomes_27 rfl (by decide) rfl ?_
    refine z_sub [1, 2, 3, 0] rfl ?_
    obtain ⟨y1, hy1, h⟩ := ob h
    refine (it_Z (bX7_becomes_B28 X eR hw M s_nodes s_tree s_steps v1 v2) FU _ y1 hy1) ?_
    refine z_aload_n X dX7_becomes_68 0 rfl rfl ?_
    refine z_dup X dX7_becomes_69 rfl ?_
    refine z_get (j := 6) (v := .int s_steps) X inX7 rfl (by decide) w_503 (hw.1 _) rfl dX7_becomes_70 ?_
    refine z_iconst (v := (nI 1)) X dX7_becomes_73 (by decide) ?_
    refine z_isub X dX7_becomes_74 ?_
    refine z_put (j := 6) (ty := .int) (M' := (mk M [(3, y1.1), (4, y1.2)] M.2.1 [(40, s_nodes), (41, s_tree), (42, (s_steps - (nI 1)))])) X inX7 tyX7 tyX7_ok nmX7 rfl (by decide) w_503 rfl (by decide +kernel) rfl rfl (hw.1 _) (Nat.le_of_ble_eq_true rfl) (mk_setS (sl' := [(40, s_nodes), (41, s_tree), (42, (s_steps - (nI 1)))]) (hw.2.2.2.2.2.2.2.2.2.2.2.2.2.2.2.2.2.2.2.2.2.2.2.1) rfl rfl) dX7_becomes_75 ?_
    exact (jX7_becomes_J78 X eR hw M y1.1 y1.2 s_nodes s_tree (s_steps - (nI 1)) v1 v2 _ h hs)
set_option maxHeartbeats 4000000 in
theorem tX7_becomes {l : Launch} {D : va_G} {ct : Nat → ClassId} {tF : Nat} {wOf : Mm → va_W} {po ad : Nat → Nat} (hw : KM wOf po ad ct) (M : Mm) {v1 : Int32} {v2 : Int32} {r : ((Nat → Int32) × (Nat → Int32) × Int32 × Int32 × Int32)} (h : fX7_becomes (M.1 3) (M.1 4) (M.2.2 40) (M.2.2 41) (M.2.2 42) v1 v2 = some r) : CtV l yX7_becomes cX7_becomes 4 { frames := 0, cells := 0, slots := 0, locals := 0 } D ct tF wOf [.ref (ad 0), .int v1, .int v2] M (mk M [(3, r.1), (4, r.2.1)] M.2.1 [(40, r.2.2.1), (41, r.2.2.2.1), (42, r.2.2.2.2)]) := by
  refine metV (by decide) (Nat.le_of_ble_eq_true rfl) fun κ X e1 eR e3 e4 hs => ?_
  subst e1; subst e3; subst e4
  unfold fX7_becomes at h
  refine z_mem (mk_self M [3, 4] [40, 41, 42]) ?_
  refine z_sub (lv' := [(0, .ref (ad 0)), (1, .int v1), (2, .int v2)]) [0, 1, 2] rfl ?_
  show Zj κ 4 0 _ _ (mk M [(3, (M.1 3)), (4, (M.1 4))] M.2.1 [(40, (M.2.2 40)), (41, (M.2.2 41)), (42, (M.2.2 42))])
  refine z_iload_n X dX7_becomes_0 1 rfl rfl ?_
  refine z_aload_n X dX7_becomes_1 0 rfl rfl ?_
  refine z_get (j := 0) (v := .int (M.2.2 40)) X inX7 rfl (by decide) w_502 (hw.1 _) rfl dX7_becomes_2 ?_
  refine z_icmp_ne (tgt := 17) X dX7_becomes_5 (by decide) (fun c5 => ?_) (fun c5 => ?_)
  · rw [if_neg c5] at h
    exact (jX7_becomes_J17 X eR hw M (M.1 3) (M.1 4) (M.2.2 40) (M.2.2 41) (M.2.2 42) v1 v2 _ h hs)
  · rw [if_pos c5] at h
    refine z_iload_n X dX7_becomes_8 2 rfl rfl ?_
    refine z_aload_n X dX7_becomes_9 0 rfl rfl ?_
    refine z_get (j := 1) (v := .int (M.2.2 41)) X inX7 rfl (by decide) w_506 (hw.1 _) rfl dX7_becomes_10 ?_
    refine z_icmp_ne (tgt := 17) X dX7_becomes_13 (by decide) (fun c13 => ?_) (fun c13 => ?_)
    · rw [if_neg c13] at h
      exact (jX7_becomes_J17 X eR hw M (M.1 3) (M.1 4) (M.2.2 40) (M.2.2 41) (M.2.2 42) v1 v2 _ h hs)
    · rw [if_pos c13] at h
      have hq := Option.some.inj h
      subst hq
      exact z_vret hs dX7_becomes_16
set_option maxHeartbeats 4000000 in
theorem tX7_isNode {l : Launch} {D : va_G} {ct : Nat → ClassId} {tF : Nat} {wOf : Mm → va_W} {po ad : Nat → Nat} (hw : KM wOf po ad ct) (M : Mm) {v1 : Int32} {r : Int32} (h : fX7_isNode (M.2.2 40) v1 = some r) : CtI l yX7_isNode cX7_isNode 2 .boolean { frames := 1, cells := 0, slots := 0, locals := 25 } D ct tF wOf [.ref (ad 0), .int v1] M r M := by
  refine metI (by decide) (Nat.le_of_ble_eq_true rfl) fun κ X e1 eR e3 e4 hs => ?_
  subst e1; subst e3; subst e4
  unfold fX7_isNode at h
  refine z_sub (lv' := [(0, .ref (ad 0)), (1, .int v1)]) [0, 1] rfl ?_
  refine z_iload_n X dX7_isNode_0 1 rfl rfl ?_
  refine z_i2l X dX7_isNode_1 ?_
  refine z_lconst (v := (0 : Int64)) X dX7_isNode_2 (by decide) ?_
  refine z_aload_n X dX7_isNode_3 0 rfl rfl ?_
  refine z_get (j := 0) (v := .int (M.2.2 40)) X inX7 rfl (by decide) w_502 (hw.1 _) rfl dX7_isNode_4 ?_
  refine z_iconst (v := (nI 1)) X dX7_isNode_7 (by decide) ?_
  refine z_isub X dX7_isNode_8 ?_
  refine z_i2l X dX7_isNode_9 ?_
  obtain ⟨r1, hr1, h⟩ := ob h
  refine z_cSI (As := [.long (v1.toInt64), .long (0 : Int64), .long ((((M.2.2 40) - (nI 1))).toInt64)]) (st := []) X (tX7_in hw M hr1) w_472 msX7_in (by rw [eR]; exact ⟨Nat.le_of_ble_eq_true rfl, Nat.le_of_ble_eq_true rfl⟩) ⟨rfl, rfl⟩ rfl (Nat.le_of_ble_eq_true rfl) rfl dX7_isNode_10 ?_
  obtain ⟨z2, hz2, h⟩ := ob h
  obtain ⟨qz2, nz2⟩ := zro_ok hz2
  subst qz2
  have hq := Option.some.inj h
  subst hq
  exact z_iret hs dX7_isNode_13 nz2
set_option maxHeartbeats 4000000 in
theorem tX7_nodes {l : Launch} {D : va_G} {ct : Nat → ClassId} {tF : Nat} {wOf : Mm → va_W} {po ad : Nat → Nat} (hw : KM wOf po ad ct) (M : Mm) {v1 : Int32} {r : (Int32 × Int32 × Int32 × Int32)} (h : fX7_nodes (M.2.2 40) (M.2.2 41) (M.2.2 42) v1 = some r) : CtI l yX7_nodes cX7_nodes 3 .int { frames := 1, cells := 0, slots := 0, locals := 25 } D ct tF wOf [.ref (ad 0), .int v1] M r.1 (mk M [] M.2.1 [(40, r.2.1), (41, r.2.2.1), (42, r.2.2.2)]) := by
  refine metI (by decide) (Nat.le_of_ble_eq_true rfl) fun κ X e1 eR e3 e4 hs => ?_
  subst e1; subst e3; subst e4
  unfold fX7_nodes at h
  refine z_mem (mk_self M [] [40, 41, 42]) ?_
  refine z_sub (lv' := [(0, .ref (ad 0)), (1, .int v1)]) [0, 1] rfl ?_
  show Zj κ 3 0 _ _ (mk M [] M.2.1 [(40, (M.2.2 40)), (41, (M.2.2 41)), (42, (M.2.2 42))])
  refine z_iload_n X dX7_nodes_0 1 rfl rfl ?_
  refine z_i2l X dX7_nodes_1 ?_
  refine z_lconst (v := (1 : Int64)) X dX7_nodes_2 (by decide) ?_
  refine z_ldc2 X w_507 dX7_nodes_3 ?_
  obtain ⟨r1, hr1, h⟩ := ob h
  refine z_cSI (As := [.long (v1.toInt64), .long (1 : Int64), .long (7 : Int64)]) (st := []) X (tX7_in hw (mk M [] M.2.1 [(40, (M.2.2 40)), (41, (M.2.2 41)), (42, (M.2.2 42))]) hr1) w_472 msX7_in (by rw [eR]; exact ⟨Nat.le_of_ble_eq_true rfl, Nat.le_of_ble_eq_true rfl⟩) ⟨rfl, rfl⟩ rfl (Nat.le_of_ble_eq_true rfl) rfl dX7_nodes_6 ?_
  refine z_if_ne (tgt := 15) X dX7_nodes_9 (by decide) (fun c9 => ?_) (fun c9 => ?_)
  · rw [if_neg c9] at h
    refine z_aload_n X dX7_nodes_15 0 rfl rfl ?_
    refine z_get (j := 0) (v := .int (M.2.2 40)) X inX7 rfl (by decide) w_502 (hw.1 _) rfl dX7_nodes_16 ?_
    refine z_istore_n (lv' := [(2, .int (M.2.2 40)), (0, .ref (ad 0)), (1, .int v1)]) X dX7_nodes_19 rfl (by decide) rfl ?_
    refine z_aload_n X dX7_nodes_20 1 rfl rfl ?_
    refine z_iload_n X dX7_nodes_21 2 rfl rfl ?_
    refine z_put (j := 0) (ty := .int) (M' := (mk M [] M.2.1 [(40, v1), (41, (M.2.2 41)), (42, (M.2.2 42))])) X inX7 tyX7 tyX7_ok nmX7 rfl (by decide) w_502 rfl (by decide +kernel) rfl rfl (hw.1 _) (Nat.le_of_ble_eq_true rfl) (mk_setS (sl' := [(40, v1), (41, (M.2.2 41)), (42, (M.2.2 42))]) (hw.2.2.2.2.2.2.2.2.2.2.2.2.2.2.2.2.2.2.2.2.2.1) rfl rfl) dX7_nodes_22 ?_
    refine z_aload_n X dX7_nodes_25 1 rfl rfl ?_
    refine z_iconst (v := (nI 0)) X dX7_nodes_26 (by decide) ?_
    refine z_put (j := 1) (ty := .int) (M' := (mk M [] M.2.1 [(40, v1), (41, (nI 0)), (42, (M.2.2 42))])) X inX7 tyX7 tyX7_ok nmX7 rfl (by decide) w_506 rfl (by decide +kernel) rfl rfl (hw.1 _) (Nat.le_of_ble_eq_true rfl) (mk_setS (sl' := [(40, v1), (41, (nI 0)), (42, (M.2.2 42))]) (hw.2.2.2.2.2.2.2.2.2.2.2.2.2.2.2.2.2.2.2.2.2.2.1) rfl rfl) dX7_nodes_27 ?_
    refine z_aload_n X dX7_nodes_30 1 rfl rfl ?_
    refine z_iconst (v := (nI 0)) X dX7_nodes_31 (by decide) ?_
    refine z_put (j := 6) (ty := .int) (M' := (mk M [] M.2.1 [(40, v1), (41, (nI 0)), (42, (nI 0))])) X inX7 tyX7 tyX7_ok nmX7 rfl (by decide) w_503 rfl (by decide +kernel) rfl rfl (hw.1 _) (Nat.le_of_ble_eq_true rfl) (mk_setS (sl' := [(40, v1), (41, (nI 0)), (42, (nI 0))]) (hw.2.2.2.2.2.2.2.2.2.2.2.2.2.2.2.2.2.2.2.2.2.2.2.1) rfl rfl) dX7_nodes_32 ?_
    refine z_iload_n X dX7_nodes_35 0 rfl rfl ?_
    have hq := Option.some.inj h
    subst hq
    exact z_iret hs dX7_nodes_36 rfl
  · rw [if_pos c9] at h
    refine z_bipush (v := (-2 : Int32)) X dX7_nodes_12 (by decide) ?_
    have hq := Option.some.inj h
    subst hq
    exact z_iret hs dX7_nodes_14 rfl
set_option maxHeartbeats 4000000 in
theorem tX7_which {l : Launch} {D : va_G} {ct : Nat → ClassId} {tF : Nat} {wOf : Mm → va_W} {po ad : Nat → Nat} (hw : KM wOf po ad ct) (M : Mm)  {r : (Int32 × (Nat → Int32) × Int32 × Int32)} (h : fX7_which (M.1 10) (M.2.2 40) (M.2.2 41) (M.2.2 48) (M.2.2 49) = some r) : CtI l yX7_which cX7_which 1 .int { frames := 5, cells := 0, slots := 0, locals := 116 } D ct tF wOf [.ref (ad 0)] M r.1 (mk M [(10, r.2.1)] M.2.1 [(48, r.2.2.1), (49, r.2.2.2)]) := by
  refine metI (by decide) (Nat.le_of_ble_eq_true rfl) fun κ X e1 eR e3 e4 hs => ?_
  subst e1; subst e3; subst e4
  unfold fX7_which at h
  refine z_mem (mk_self M [10] [48, 49]) ?_
  refine z_sub (lv' := [(0, .ref (ad 0))]) [0] rfl ?_
  show Zj κ 1 0 _ _ (mk M [(10, (M.1 10))] M.2.1 [(48, (M.2.2 48)), (49, (M.2.2 49))])
  refine z_aload_n X dX7_which_0 0 rfl rfl ?_
  refine z_aload_n X dX7_which_1 0 rfl rfl ?_
  refine z_get (j := 1) (v := .int (M.2.2 41)) X inX7 rfl (by decide) w_506 (hw.1 _) rfl dX7_which_2 ?_
  refine z_aload_n X dX7_which_5 0 rfl rfl ?_
  refine z_get (j := 0) (v := .int (M.2.2 40)) X inX7 rfl (by decide) w_502 (hw.1 _) rfl dX7_which_6 ?_
  obtain ⟨r1, hr1, h⟩ := ob h
  refine z_cVI (As := [.int (M.2.2 41), .int (M.2.2 40)]) (st := []) X (tX7_numberOf hw (mk M [(10, (M.1 10))] M.2.1 [(48, (M.2.2 48)), (49, (M.2.2 49))]) hr1) w_508 mvX7_numberOf (by rw [eR]; exact ⟨Nat.le_of_ble_eq_true rfl, Nat.le_of_ble_eq_true rfl⟩) ⟨rfl, rfl⟩ rfl (Nat.le_of_ble_eq_true rfl) (hw.1 _) rfl rfl dX7_which_9 ?_
  refine z_mem (mk_mk (l' := [(10, r1.2.1)]) (sl' := [(48, r1.2.2.1), (49, r1.2.2.2)]) rfl rfl rfl rfl) ?_
  have hq := Option.some.inj h
  subst hq
  exact z_iret hs dX7_which_12 rfl
set_option maxHeartbeats 4000000 in
theorem tX7_row {l : Launch} {D : va_G} {ct : Nat → ClassId} {tF : Nat} {wOf : Mm → va_W} {po ad : Nat → Nat} (hw : KM wOf po ad ct) (M : Mm) {v1 : Int32} {r : (Int32 × (Nat → Int32) × (Nat → Int32) × (Nat → Int32) × Int32 × Int32 × Int32 × Int32 × Int32)} (h : fX7_row (M.1 3) (M.1 4) (M.1 10) (M.2.2 40) (M.2.2 41) (M.2.2 42) (M.2.2 48) (M.2.2 49) v1 = some r) : CtI l yX7_row cX7_row 2 .int { frames := 6, cells := 0, slots := 0, locals := 136 } D ct tF wOf [.ref (ad 0), .int v1] M r.1 (mk M [(3, r.2.1), (4, r.2.2.1), (10, r.2.2.2.1)] M.2.1 [(40, r.2.2.2.2.1), (41, r.2.2.2.2.2.1), (42, r.2.2.2.2.2.2.1), (48, r.2.2.2.2.2.2.2.1), (49, r.2.2.2.2.2.2.2.2)]) := by
  refine metI (by decide) (Nat.le_of_ble_eq_true rfl) fun κ X e1 eR e3 e4 hs => ?_
  subst e1; subst e3; subst e4
  unfold fX7_row at h
  refine z_mem (mk_self M [3, 4, 10] [40, 41, 42, 48, 49]) ?_
  refine z_sub (lv' := [(0, .ref (ad 0)), (1, .int v1)]) [0, 1] rfl ?_
  show Zj κ 2 0 _ _ (mk M [(3, (M.1 3)), (4, (M.1 4)), (10, (M.1 10))] M.2.1 [(40, (M.2.2 40)), (41, (M.2.2 41)), (42, (M.2.2 42)), (48, (M.2.2 48)), (49, (M.2.2 49))])
  refine z_iload_n X dX7_row_0 1 rfl rfl ?_
  refine z_aload_n X dX7_row_1 0 rfl rfl ?_
  refine z_get (j := 0) (v := .int (M.2.2 40)) X inX7 rfl (by decide) w_502 (hw.1 _) rfl dX7_row_2 ?_
  obtain ⟨r1, hr1, h⟩ := ob h
  refine z_cSI (As := [.int v1, .int (M.2.2 40)]) (st := []) X (tX7_isTree hw (mk M [(3, (M.1 3)), (4, (M.1 4)), (10, (M.1 10))] M.2.1 [(40, (M.2.2 40)), (41, (M.2.2 41)), (42, (M.2.2 42)), (48, (M.2.2 48)), (49, (M.2.2 49))]) hr1) w_477 msX7_isTree (by rw [eR]; exact ⟨Nat.le_of_ble_eq_true rfl, Nat.le_of_ble_eq_true rfl⟩) ⟨rfl, rfl⟩ rfl (Nat.le_of_ble_eq_true rfl) rfl dX7_row_5 ?_
  refine z_if_ne (tgt := 14) X dX7_row_8 (by decide) (fun c8 => ?_) (fun c8 => ?_)
  · rw [if_neg c8] at h
    refine z_aload_n X dX7_row_14 0 rfl rfl ?_
    refine z_aload_n X dX7_row_15 0 rfl rfl ?_
    refine z_get (j := 0) (v := .int (M.2.2 40)) X inX7 rfl (by decide) w_502 (hw.1 _) rfl dX7_row_16 ?_
    refine z_iload_n X dX7_row_19 1 rfl rfl ?_
    obtain ⟨r2, hr2, h⟩ := ob h
    refine z_cVV (As := [.int (M.2.2 40), .int v1]) (st := []) X (tX7_becomes hw (mk M [(3, (M.1 3)), (4, (M.1 4)), (10, (M.1 10))] M.2.1 [(40, (M.2.2 40)), (41, (M.2.2 41)), (42, (M.2.2 42)), (48, (M.2.2 48)), (49, (M.2.2 49))]) hr2) w_512 mvX7_becomes (by rw [eR]; exact ⟨Nat.le_of_ble_eq_true rfl, Nat.le_of_ble_eq_true rfl⟩) ⟨rfl, rfl⟩ rfl (Nat.le_of_ble_eq_true rfl) (hw.1 _) rfl rfl dX7_row_20 ?_
    refine z_mem (mk_mk (l' := [(3, r2.1), (4, r2.2.1), (10, (M.1 10))]) (sl' := [(40, r2.2.2.1), (41, r2.2.2.2.1), (42, r2.2.2.2.2), (48, (M.2.2 48)), (49, (M.2.2 49))]) rfl rfl rfl rfl) ?_
    refine z_aload_n X dX7_row_23 0 rfl rfl ?_
    obtain ⟨r3, hr3, h⟩ := ob h
    refine z_cVI (As := []) (st := []) X (tX7_which hw (mk M [(3, r2.1), (4, r2.2.1), (10, (M.1 10))] M.2.1 [(40, r2.2.2.1), (41, r2.2.2.2.1), (42, r2.2.2.2.2), (48, (M.2.2 48)), (49, (M.2.2 49))]) hr3) w_516 mvX7_which (by rw [eR]; exact ⟨Nat.le_of_ble_eq_true rfl, Nat.le_of_ble_eq_true rfl⟩) ⟨rfl, rfl⟩ rfl (Nat.le_of_ble_eq_true rfl) (hw.1 _) rfl rfl dX7_row_24 ?_
    refine z_mem (mk_mk (l' := [(3, r2.1), (4, r2.2.1), (10, r3.2.1)]) (sl' := [(40, r2.2.2.1), (41, r2.2.2.2.1), (42, r2.2.2.2.2), (48, r3.2.2.1), (49, r3.2.2.2)]) rfl rfl rfl rfl) ?_
    have hq := Option.some.inj h
    subst hq
    exact z_iret hs dX7_row_27 rfl
  · rw [if_pos c8] at h
    refine z_bipush (v := (-2 : Int32)) X dX7_row_11 (by decide) ?_
    have hq := Option.some.inj h
    subst hq
    exact z_iret hs dX7_row_13 rfl
set_option maxHeartbeats 4000000 in
theorem tX7_of {l : Launch} {D : va_G} {ct : Nat → ClassId} {tF : Nat} {wOf : Mm → va_W} {po ad : Nat → Nat} (hw : KM wOf po ad ct) (M : Mm) {v1 : Int32} {v2 : Int32} {r : (Int32 × (Nat → Int32) × (Nat → Int32) × (Nat → Int32) × (Nat → Int32) × (Nat → Int32) × Int32)} (h : fX7_of (M.1 11) (M.1 12) (M.1 13) (M.1 14) (M.1 15) (M.2.2 40) (M.2.2 41) (M.2.2 50) v1 v2 = some r) : CtI l yX7_of cX7_of 3 .int { frames := 20, cells := 0, slots := 0, locals := 2141 } D ct tF wOf [.ref (ad 0), .int v1, .int v2] M r.1 (mk M [(11, r.2.1), (12, r.2.2.1), (13, r.2.2.2.1), (14, r.2.2.2.2.1), (15, r.2.2.2.2.2.1)] M.2.1 [(50, r.2.2.2.2.2.2)]) := by
  refine metI (by decide) (Nat.le_of_ble_eq_true rfl) fun κ X e1 eR e3 e4 hs => ?_
  subst e1; subst e3; subst e4
  unfold fX7_of at h
  refine z_mem (mk_self M [11, 12, 13, 14, 15] [50]) ?_
  refine z_sub (lv' := [(0, .ref (ad 0)), (1, .int v1), (2, .int v2)]) [0, 1, 2] rfl ?_
  show Zj κ 3 0 _ _ (mk M [(11, (M.1 11)), (12, (M.1 12)), (13, (M.1 13)), (14, (M.1 14)), (15, (M.1 15))] M.2.1 [(50, (M.2.2 50))])
  refine z_aload_n X dX7_of_0 0 rfl rfl ?_
  refine z_iload_n X dX7_of_1 1 rfl rfl ?_
  obtain ⟨r1, hr1, h⟩ := ob h
  refine z_cVI (As := [.int v1]) (st := []) X (tX7_isNode hw (mk M [(11, (M.1 11)), (12, (M.1 12)), (13, (M.1 13)), (14, (M.1 14)), (15, (M.1 15))] M.2.1 [(50, (M.2.2 50))]) hr1) w_520 mvX7_isNode (by rw [eR]; exact ⟨Nat.le_of_ble_eq_true rfl, Nat.le_of_ble_eq_true rfl⟩) ⟨rfl, rfl⟩ rfl (Nat.le_of_ble_eq_true rfl) (hw.1 _) rfl rfl dX7_of_2 ?_
  refine z_if_eq (tgt := 20) X dX7_of_5 (by decide) (fun c5 => ?_) (fun c5 => ?_)
  · rw [if_pos c5] at h
    refine z_iconst (v := (-1 : Int32)) X dX7_of_20 (by decide) ?_
    have hq := Option.some.inj h
    subst hq
    exact z_iret hs dX7_of_21 rfl
  · rw [if_neg c5] at h
    refine z_iload_n X dX7_of_8 2 rfl rfl ?_
    refine z_i2l X dX7_of_9 ?_
    refine z_lconst (v := (0 : Int64)) X dX7_of_10 (by decide) ?_
    refine z_ldc2 X w_524 dX7_of_11 ?_
    obtain ⟨r2, hr2, h⟩ := ob h
    refine z_cSI (As := [.long (v2.toInt64), .long (0 : Int64), .long (5 : Int64)]) (st := []) X (tX7_in hw (mk M [(11, (M.1 11)), (12, (M.1 12)), (13, (M.1 13)), (14, (M.1 14)), (15, (M.1 15))] M.2.1 [(50, (M.2.2 50))]) hr2) w_472 msX7_in (by rw [eR]; exact ⟨Nat.le_of_ble_eq_true rfl, Nat.le_of_ble_eq_true rfl⟩) ⟨rfl, rfl⟩ rfl (Nat.le_of_ble_eq_true rfl) rfl dX7_of_14 ?_
    refine z_if_ne (tgt := 22) X dX7_of_17 (by decide) (fun c17 => ?_) (fun c17 => ?_)
    · rw [if_neg c17] at h
      refine z_aload_n X dX7_of_22 0 rfl rfl ?_
      refine z_aload_n X dX7_of_23 0 rfl rfl ?_
      refine z_get (j := 1) (v := .int (M.2.2 41)) X inX7 rfl (by decide) w_506 (hw.1 _) rfl dX7_of_24 ?_
      refine z_aload_n X dX7_of_27 0 rfl rfl ?_
      refine z_get (j := 0) (v := .int (M.2.2 40)) X inX7 rfl (by decide) w_502 (hw.1 _) rfl dX7_of_28 ?_
      obtain ⟨r3, hr3, h⟩ := ob h
      refine z_cVV (As := [.int (M.2.2 41), .int (M.2.2 40)]) (st := []) X (tX7_looks hw (mk M [(11, (M.1 11)), (12, (M.1 12)), (13, (M.1 13)), (14, (M.1 14)), (15, (M.1 15))] M.2.1 [(50, (M.2.2 50))]) hr3) w_495 mvX7_looks (by rw [eR]; exact ⟨Nat.le_of_ble_eq_true rfl, Nat.le_of_ble_eq_true rfl⟩) ⟨rfl, rfl⟩ rfl (Nat.le_of_ble_eq_true rfl) (hw.1 _) rfl rfl dX7_of_31 ?_
      refine z_mem (mk_mk (l' := [(11, r3.1), (12, r3.2.1), (13, r3.2.2.1), (14, r3.2.2.2.1), (15, r3.2.2.2.2.1)]) (sl' := [(50, r3.2.2.2.2.2)]) rfl rfl rfl rfl) ?_
      refine z_iload_n X dX7_of_34 2 rfl rfl ?_
      by_cases c35_0 : v2 = nI 0
      · rw [if_pos c35_0] at h
        refine z_tabI (off := 33) (tgt := 68) X dX7_of_35 (by rw [c35_0]; decide) (by rw [c35_0]; decide) (by rw [c35_0]; decide) (by decide) ?_
        refine z_aload_n X dX7_of_68 0 rfl rfl ?_
        refine z_get (j := 1) (v := .int (M.2.2 41)) X inX7 rfl (by decide) w_506 (hw.1 _) rfl dX7_of_69 ?_
        refine z_aload_n X dX7_of_72 0 rfl rfl ?_
        refine z_get (j := 0) (v := .int (M.2.2 40)) X inX7 rfl (by decide) w_502 (hw.1 _) rfl dX7_of_73 ?_
        refine z_iload_n X dX7_of_76 1 rfl rfl ?_
        obtain ⟨r4, hr4, h⟩ := ob h
        refine z_cSI (As := [.int (M.2.2 41), .int (M.2.2 40), .int v1]) (st := []) X (tX7_at hw (mk M [(11, r3.1), (12, r3.2.1), (13, r3.2.2.1), (14, r3.2.2.2.1), (15, r3.2.2.2.2.1)] M.2.1 [(50, r3.2.2.2.2.2)]) hr4) w_469 msX7_at (by rw [eR]; exact ⟨Nat.le_of_ble_eq_true rfl, Nat.le_of_ble_eq_true rfl⟩) ⟨rfl, rfl⟩ rfl (Nat.le_of_ble_eq_true rfl) rfl dX7_of_77 ?_
        have hq := Option.some.inj h
        subst hq
        exact z_iret hs dX7_of_80 rfl
      · rw [if_neg c35_0] at h
        by_cases c35_1 : v2 = nI 1
        · rw [if_pos c35_1] at h
          refine z_tabI (off := 46) (tgt := 81) X dX7_of_35 (by rw [c35_1]; decide) (by rw [c35_1]; decide) (by rw [c35_1]; decide) (by decide) ?_
          refine z_aload_n X dX7_of_81 0 rfl rfl ?_
          refine z_get (j := 20) (v := .ref (ad 11)) X inX7 rfl (by decide) w_485 (hw.1 _) rfl dX7_of_82 ?_
          refine z_iload_n X dX7_of_85 1 rfl rfl ?_
          obtain ⟨t5, ht5, h⟩ := ob h
          refine z_iald X (hw.2.2.2.2.2.2.2.2.2.2.2.1 _).1 (rd_ok ht5) dX7_of_86 ?_
          have hq := Option.some.inj h
          subst hq
          exact z_iret hs dX7_of_87 rfl
        · rw [if_neg c35_1] at h
          by_cases c35_2 : v2 = nI 2
          · rw [if_pos c35_2] at h
            refine z_tabI (off := 53) (tgt := 88) X dX7_of_35 (by rw [c35_2]; decide) (by rw [c35_2]; decide) (by rw [c35_2]; decide) (by decide) ?_
            refine z_aload_n X dX7_of_88 0 rfl rfl ?_
            refine z_get (j := 21) (v := .ref (ad 12)) X inX7 rfl (by decide) w_488 (hw.1 _) rfl dX7_of_89 ?_
            refine z_iload_n X dX7_of_92 1 rfl rfl ?_
            obtain ⟨t6, ht6, h⟩ := ob h
            refine z_iald X (hw.2.2.2.2.2.2.2.2.2.2.2.2.1 _).1 (rd_ok ht6) dX7_of_93 ?_
            have hq := Option.some.inj h
            subst hq
            exact z_iret hs dX7_of_94 rfl
          · rw [if_neg c35_2] at h
            by_cases c35_3 : v2 = nI 3
            · rw [if_pos c35_3] at h
              refine z_tabI (off := 60) (tgt := 95) X dX7_of_35 (by rw [c35_3]; decide) (by rw [c35_3]; decide) (by rw [c35_3]; decide) (by decide) ?_
              refine z_aload_n X dX7_of_95 0 rfl rfl ?_
              refine z_get (j := 22) (v := .ref (ad 13)) X inX7 rfl (by decide) w_493 (hw.1 _) rfl dX7_of_96 ?_
              refine z_iload_n X dX7_of_99 1 rfl rfl ?_
              obtain ⟨t7, ht7, h⟩ := ob h
              refine z_iald X (hw.2.2.2.2.2.2.2.2.2.2.2.2.2.1 _).1 (rd_ok ht7) dX7_of_100 ?_
              have hq := Option.some.inj h
              subst hq
              exact z_iret hs dX7_of_101 rfl
            · rw [if_neg c35_3] at h
              by_cases c35_4 : v2 = nI 4
              · rw [if_pos c35_4] at h
                refine z_tabI (off := 67) (tgt := 102) X dX7_of_35 (by rw [c35_4]; decide) (by rw [c35_4]; decide) (by rw [c35_4]; decide) (by decide) ?_
                refine z_aload_n X dX7_of_102 0 rfl rfl ?_
                refine z_get (j := 23) (v := .ref (ad 14)) X inX7 rfl (by decide) w_487 (hw.1 _) rfl dX7_of_103 ?_
                refine z_iload_n X dX7_of_106 1 rfl rfl ?_
                obtain ⟨t8, ht8, h⟩ := ob h
                refine z_iald X (hw.2.2.2.2.2.2.2.2.2.2.2.2.2.2.1 _).1 (rd_ok ht8) dX7_of_107 ?_
                have hq := Option.some.inj h
                subst hq
                exact z_iret hs dX7_of_108 rfl
              · rw [if_neg c35_4] at h
                refine z_tabO (tgt := 109) X dX7_of_35 (by have q0 := lv_neT c35_0 (show (nI 0).toInt = 0 from rfl); have q1 := lv_neT c35_1 (show (nI 1).toInt = 1 from rfl); have q2 := lv_neT c35_2 (show (nI 2).toInt = 2 from rfl); have q3 := lv_neT c35_3 (show (nI 3).toInt = 3 from rfl); have q4 := lv_neT c35_4 (show (nI 4).toInt = 4 from rfl); omega) (by decide) ?_
                refine z_aload_n X dX7_of_109 0 rfl rfl ?_
                refine z_get (j := 24) (v := .ref (ad 15)) X inX7 rfl (by decide) w_486 (hw.1 _) rfl dX7_of_110 ?_
                refine z_iload_n X dX7_of_113 1 rfl rfl ?_
                obtain ⟨t9, ht9, h⟩ := ob h
                refine z_iald X (hw.2.2.2.2.2.2.2.2.2.2.2.2.2.2.2.1 _).1 (rd_ok ht9) dX7_of_114 ?_
                have hq := Option.some.inj h
                subst hq
                exact z_iret hs dX7_of_115 rfl
    · rw [if_pos c17] at h
      refine z_iconst (v := (-1 : Int32)) X dX7_of_20 (by decide) ?_
      have hq := Option.some.inj h
      subst hq
      exact z_iret hs dX7_of_21 rfl
set_option maxHeartbeats 4000000 in
theorem tX7_number {l : Launch} {D : va_G} {ct : Nat → ClassId} {tF : Nat} {wOf : Mm → va_W} {po ad : Nat → Nat} (hw : KM wOf po ad ct) (M : Mm) {v1 : Int32} {r : (Int32 × (Nat → Int32) × (Nat → Int32) × (Nat → Int32) × Int32 × Int32 × Int32 × Int32 × Int32)} (h : fX7_number (M.1 3) (M.1 4) (M.1 10) (M.2.2 40) (M.2.2 41) (M.2.2 42) (M.2.2 48) (M.2.2 49) v1 = some r) : CtI l yX7_number cX7_number 3 .int { frames := 6, cells := 0, slots := 0, locals := 136 } D ct tF wOf [.ref (ad 0), .int v1] M r.1 (mk M [(3, r.2.1), (4, r.2.2.1), (10, r.2.2.2.1)] M.2.1 [(40, r.2.2.2.2.1), (41, r.2.2.2.2.2.1), (42, r.2.2.2.2.2.2.1), (48, r.2.2.2.2.2.2.2.1), (49, r.2.2.2.2.2.2.2.2)]) := by
  refine metI (by decide) (Nat.le_of_ble_eq_true rfl) fun κ X e1 eR e3 e4 hs => ?_
  subst e1; subst e3; subst e4
  unfold fX7_number at h
  refine z_mem (mk_self M [3, 4, 10] [40, 41, 42, 48, 49]) ?_
  refine z_sub (lv' := [(0, .ref (ad 0)), (1, .int v1)]) [0, 1] rfl ?_
  show Zj κ 3 0 _ _ (mk M [(3, (M.1 3)), (4, (M.1 4)), (10, (M.1 10))] M.2.1 [(40, (M.2.2 40)), (41, (M.2.2 41)), (42, (M.2.2 42)), (48, (M.2.2 48)), (49, (M.2.2 49))])
  refine z_aload_n X dX7_number_0 0 rfl rfl ?_
  refine z_aload_n X dX7_number_1 0 rfl rfl ?_
  refine z_get (j := 0) (v := .int (M.2.2 40)) X inX7 rfl (by decide) w_502 (hw.1 _) rfl dX7_number_2 ?_
  obtain ⟨r1, hr1, h⟩ := ob h
  refine z_cVV (As := [.int (M.2.2 40)]) (st := []) X (tX7_table hw (mk M [(3, (M.1 3)), (4, (M.1 4)), (10, (M.1 10))] M.2.1 [(40, (M.2.2 40)), (41, (M.2.2 41)), (42, (M.2.2 42)), (48, (M.2.2 48)), (49, (M.2.2 49))]) hr1) w_481 mvX7_table (by rw [eR]; exact ⟨Nat.le_of_ble_eq_true rfl, Nat.le_of_ble_eq_true rfl⟩) ⟨rfl, rfl⟩ rfl (Nat.le_of_ble_eq_true rfl) (hw.1 _) rfl rfl dX7_number_5 ?_
  refine z_mem (mk_mk (l' := [(3, (M.1 3)), (4, (M.1 4)), (10, r1.1)]) (sl' := [(40, (M.2.2 40)), (41, (M.2.2 41)), (42, (M.2.2 42)), (48, r1.2.1), (49, r1.2.2)]) rfl rfl rfl rfl) ?_
  refine z_iload_n X dX7_number_8 1 rfl rfl ?_
  refine z_i2l X dX7_number_9 ?_
  refine z_lconst (v := (0 : Int64)) X dX7_number_10 (by decide) ?_
  refine z_aload_n X dX7_number_11 0 rfl rfl ?_
  refine z_get (j := 18) (v := .int r1.2.1) X inX7 rfl (by decide) w_476 (hw.1 _) rfl dX7_number_12 ?_
  refine z_iconst (v := (nI 1)) X dX7_number_15 (by decide) ?_
  refine z_isub X dX7_number_16 ?_
  refine z_i2l X dX7_number_17 ?_
  obtain ⟨r2, hr2, h⟩ := ob h
  refine z_cSI (As := [.long (v1.toInt64), .long (0 : Int64), .long (((r1.2.1 - (nI 1))).toInt64)]) (st := []) X (tX7_in hw (mk M [(3, (M.1 3)), (4, (M.1 4)), (10, r1.1)] M.2.1 [(40, (M.2.2 40)), (41, (M.2.2 41)), (42, (M.2.2 42)), (48, r1.2.1), (49, r1.2.2)]) hr2) w_472 msX7_in (by rw [eR]; exact ⟨Nat.le_of_ble_eq_true rfl, Nat.le_of_ble_eq_true rfl⟩) ⟨rfl, rfl⟩ rfl (Nat.le_of_ble_eq_true rfl) rfl dX7_number_18 ?_
  refine z_if_ne (tgt := 26) X dX7_number_21 (by decide) (fun c21 => ?_) (fun c21 => ?_)
  · rw [if_neg c21] at h
    refine z_aload_n X dX7_number_26 0 rfl rfl ?_
    obtain ⟨r3, hr3, h⟩ := ob h
    refine z_cVI (As := []) (st := []) X (tX7_which hw (mk M [(3, (M.1 3)), (4, (M.1 4)), (10, r1.1)] M.2.1 [(40, (M.2.2 40)), (41, (M.2.2 41)), (42, (M.2.2 42)), (48, r1.2.1), (49, r1.2.2)]) hr3) w_516 mvX7_which (by rw [eR]; exact ⟨Nat.le_of_ble_eq_true rfl, Nat.le_of_ble_eq_true rfl⟩) ⟨rfl, rfl⟩ rfl (Nat.le_of_ble_eq_true rfl) (hw.1 _) rfl rfl dX7_number_27 ?_
    refine z_mem (mk_mk (l' := [(3, (M.1 3)), (4, (M.1 4)), (10, r3.2.1)]) (sl' := [(40, (M.2.2 40)), (41, (M.2.2 41)), (42, (M.2.2 42)), (48, r3.2.2.1), (49, r3.2.2.2)]) rfl rfl rfl rfl) ?_
    refine z_istore_n (lv' := [(2, .int r3.1), (0, .ref (ad 0)), (1, .int v1)]) X dX7_number_30 rfl (by decide) rfl ?_
    refine z_aload_n X dX7_number_31 1 rfl rfl ?_
    refine z_aload_n X dX7_number_32 1 rfl rfl ?_
    refine z_get (j := 0) (v := .int (M.2.2 40)) X inX7 rfl (by decide) w_502 (hw.1 _) rfl dX7_number_33 ?_
    refine z_aload_n X dX7_number_36 1 rfl rfl ?_
    refine z_get (j := 17) (v := .ref (ad 10)) X inX7 rfl (by decide) w_480 (hw.1 _) rfl dX7_number_37 ?_
    refine z_iload_n X dX7_number_40 2 rfl rfl ?_
    obtain ⟨t4, ht4, h⟩ := ob h
    refine z_iald X (hw.2.2.2.2.2.2.2.2.2.2.1 _).1 (rd_ok ht4) dX7_number_41 ?_
    obtain ⟨r5, hr5, h⟩ := ob h
    refine z_cVV (As := [.int (M.2.2 40), .int t4]) (st := []) X (tX7_becomes hw (mk M [(3, (M.1 3)), (4, (M.1 4)), (10, r3.2.1)] M.2.1 [(40, (M.2.2 40)), (41, (M.2.2 41)), (42, (M.2.2 42)), (48, r3.2.2.1), (49, r3.2.2.2)]) hr5) w_512 mvX7_becomes (by rw [eR]; exact ⟨Nat.le_of_ble_eq_true rfl, Nat.le_of_ble_eq_true rfl⟩) ⟨rfl, rfl⟩ rfl (Nat.le_of_ble_eq_true rfl) (hw.1 _) rfl rfl dX7_number_42 ?_
    refine z_mem (mk_mk (l' := [(3, r5.1), (4, r5.2.1), (10, r3.2.1)]) (sl' := [(40, r5.2.2.1), (41, r5.2.2.2.1), (42, r5.2.2.2.2), (48, r3.2.2.1), (49, r3.2.2.2)]) rfl rfl rfl rfl) ?_
    refine z_iload_n X dX7_number_45 0 rfl rfl ?_
    have hq := Option.some.inj h
    subst hq
    exact z_iret hs dX7_number_46 rfl
  · rw [if_pos c21] at h
    refine z_iconst (v := (-1 : Int32)) X dX7_number_24 (by decide) ?_
    have hq := Option.some.inj h
    subst hq
    exact z_iret hs dX7_number_25 rfl
set_option maxHeartbeats 4000000 in
theorem tX7_many {l : Launch} {D : va_G} {ct : Nat → ClassId} {tF : Nat} {wOf : Mm → va_W} {po ad : Nat → Nat} (hw : KM wOf po ad ct) (M : Mm) {v1 : Int32} {r : (Int32 × (Nat → Int32) × Int32 × Int32)} (h : fX7_many (M.1 10) (M.2.2 48) (M.2.2 49) v1 = some r) : CtI l yX7_many cX7_many 2 .int { frames := 4, cells := 0, slots := 0, locals := 93 } D ct tF wOf [.ref (ad 0), .int v1] M r.1 (mk M [(10, r.2.1)] M.2.1 [(48, r.2.2.1), (49, r.2.2.2)]) := by
  refine metI (by decide) (Nat.le_of_ble_eq_true rfl) fun κ X e1 eR e3 e4 hs => ?_
  subst e1; subst e3; subst e4
  unfold fX7_many at h
  refine z_mem (mk_self M [10] [48, 49]) ?_
  refine z_sub (lv' := [(0, .ref (ad 0)), (1, .int v1)]) [0, 1] rfl ?_
  show Zj κ 2 0 _ _ (mk M [(10, (M.1 10))] M.2.1 [(48, (M.2.2 48)), (49, (M.2.2 49))])
  refine z_iload_n X dX7_many_0 1 rfl rfl ?_
  refine z_i2l X dX7_many_1 ?_
  refine z_lconst (v := (1 : Int64)) X dX7_many_2 (by decide) ?_
  refine z_ldc2 X w_507 dX7_many_3 ?_
  obtain ⟨r1, hr1, h⟩ := ob h
  refine z_cSI (As := [.long (v1.toInt64), .long (1 : Int64), .long (7 : Int64)]) (st := []) X (tX7_in hw (mk M [(10, (M.1 10))] M.2.1 [(48, (M.2.2 48)), (49, (M.2.2 49))]) hr1) w_472 msX7_in (by rw [eR]; exact ⟨Nat.le_of_ble_eq_true rfl, Nat.le_of_ble_eq_true rfl⟩) ⟨rfl, rfl⟩ rfl (Nat.le_of_ble_eq_true rfl) rfl dX7_many_6 ?_
  refine z_if_ne (tgt := 15) X dX7_many_9 (by decide) (fun c9 => ?_) (fun c9 => ?_)
  · rw [if_neg c9] at h
    refine z_aload_n X dX7_many_15 0 rfl rfl ?_
    refine z_iload_n X dX7_many_16 1 rfl rfl ?_
    obtain ⟨r2, hr2, h⟩ := ob h
    refine z_cVV (As := [.int v1]) (st := []) X (tX7_table hw (mk M [(10, (M.1 10))] M.2.1 [(48, (M.2.2 48)), (49, (M.2.2 49))]) hr2) w_481 mvX7_table (by rw [eR]; exact ⟨Nat.le_of_ble_eq_true rfl, Nat.le_of_ble_eq_true rfl⟩) ⟨rfl, rfl⟩ rfl (Nat.le_of_ble_eq_true rfl) (hw.1 _) rfl rfl dX7_many_17 ?_
    refine z_mem (mk_mk (l' := [(10, r2.1)]) (sl' := [(48, r2.2.1), (49, r2.2.2)]) rfl rfl rfl rfl) ?_
    refine z_aload_n X dX7_many_20 0 rfl rfl ?_
    refine z_get (j := 18) (v := .int r2.2.1) X inX7 rfl (by decide) w_476 (hw.1 _) rfl dX7_many_21 ?_
    have hq := Option.some.inj h
    subst hq
    exact z_iret hs dX7_many_24 rfl
  · rw [if_pos c9] at h
    refine z_bipush (v := (-2 : Int32)) X dX7_many_12 (by decide) ?_
    have hq := Option.some.inj h
    subst hq
    exact z_iret hs dX7_many_14 rfl
set_option maxHeartbeats 4000000 in
theorem tX7_digits {l : Launch} {D : va_G} {ct : Nat → ClassId} {tF : Nat} {wOf : Mm → va_W} {po ad : Nat → Nat} (hw : KM wOf po ad ct) (M : Mm)  {r : Int32} (h : fX7_digits (M.2.2 41) = some r) : CtI l yX7_digits cX7_digits 1 .int { frames := 0, cells := 0, slots := 0, locals := 0 } D ct tF wOf [.ref (ad 0)] M r M := by
  refine metI (by decide) (Nat.le_of_ble_eq_true rfl) fun κ X e1 eR e3 e4 hs => ?_
  subst e1; subst e3; subst e4
  unfold fX7_digits at h
  refine z_sub (lv' := [(0, .ref (ad 0))]) [0] rfl ?_
  refine z_aload_n X dX7_digits_0 0 rfl rfl ?_
  refine z_get (j := 1) (v := .int (M.2.2 41)) X inX7 rfl (by decide) w_506 (hw.1 _) rfl dX7_digits_1 ?_
  have hq := Option.some.inj h
  subst hq
  exact z_iret hs dX7_digits_4 rfl
set_option maxHeartbeats 4000000 in
theorem tX7_turn {l : Launch} {D : va_G} {ct : Nat → ClassId} {tF : Nat} {wOf : Mm → va_W} {po ad : Nat → Nat} (hw : KM wOf po ad ct) (M : Mm) {v1 : Int32} {r : (Int32 × (Nat → Int32) × (Nat → Int32) × (Nat → Int32) × (Nat → Int32) × (Nat → Int32) × (Nat → Int32) × (Nat → Int32) × (Nat → Int32) × Int32 × Int32 × Int32 × Int32 × Int32 × Int32)} (h : fX7_turn (M.1 3) (M.1 4) (M.1 10) (M.1 11) (M.1 12) (M.1 13) (M.1 14) (M.1 15) (M.2.2 40) (M.2.2 41) (M.2.2 42) (M.2.2 48) (M.2.2 49) (M.2.2 50) v1 = some r) : CtI l yX7_turn cX7_turn 3 .int { frames := 21, cells := 0, slots := 0, locals := 2165 } D ct tF wOf [.ref (ad 0), .int v1] M r.1 (mk M [(3, r.2.1), (4, r.2.2.1), (10, r.2.2.2.1), (11, r.2.2.2.2.1), (12, r.2.2.2.2.2.1), (13, r.2.2.2.2.2.2.1), (14, r.2.2.2.2.2.2.2.1), (15, r.2.2.2.2.2.2.2.2.1)] M.2.1 [(40, r.2.2.2.2.2.2.2.2.2.1), (41, r.2.2.2.2.2.2.2.2.2.2.1), (42, r.2.2.2.2.2.2.2.2.2.2.2.1), (48, r.2.2.2.2.2.2.2.2.2.2.2.2.1), (49, r.2.2.2.2.2.2.2.2.2.2.2.2.2.1), (50, r.2.2.2.2.2.2.2.2.2.2.2.2.2.2)]) := by
  refine metI (by decide) (Nat.le_of_ble_eq_true rfl) fun κ X e1 eR e3 e4 hs => ?_
  subst e1; subst e3; subst e4
  unfold fX7_turn at h
  refine z_mem (mk_self M [3, 4, 10, 11, 12, 13, 14, 15] [40, 41, 42, 48, 49, 50]) ?_
  refine z_sub (lv' := [(0, .ref (ad 0)), (1, .int v1)]) [0, 1] rfl ?_
  show Zj κ 3 0 _ _ (mk M [(3, (M.1 3)), (4, (M.1 4)), (10, (M.1 10)), (11, (M.1 11)), (12, (M.1 12)), (13, (M.1 13)), (14, (M.1 14)), (15, (M.1 15))] M.2.1 [(40, (M.2.2 40)), (41, (M.2.2 41)), (42, (M.2.2 42)), (48, (M.2.2 48)), (49, (M.2.2 49)), (50, (M.2.2 50))])
  refine z_aload_n X dX7_turn_0 0 rfl rfl ?_
  refine z_iload_n X dX7_turn_1 1 rfl rfl ?_
  obtain ⟨r1, hr1, h⟩ := ob h
  refine z_cVI (As := [.int v1]) (st := []) X (tX7_isNode hw (mk M [(3, (M.1 3)), (4, (M.1 4)), (10, (M.1 10)), (11, (M.1 11)), (12, (M.1 12)), (13, (M.1 13)), (14, (M.1 14)), (15, (M.1 15))] M.2.1 [(40, (M.2.2 40)), (41, (M.2.2 41)), (42, (M.2.2 42)), (48, (M.2.2 48)), (49, (M.2.2 49)), (50, (M.2.2 50))]) hr1) w_520 mvX7_isNode (by rw [eR]; exact ⟨Nat.le_of_ble_eq_true rfl, Nat.le_of_ble_eq_true rfl⟩) ⟨rfl, rfl⟩ rfl (Nat.le_of_ble_eq_true rfl) (hw.1 _) rfl rfl dX7_turn_2 ?_
  refine z_if_ne (tgt := 10) X dX7_turn_5 (by decide) (fun c5 => ?_) (fun c5 => ?_)
  · rw [if_neg c5] at h
    refine z_aload_n X dX7_turn_10 0 rfl rfl ?_
    refine z_aload_n X dX7_turn_11 0 rfl rfl ?_
    refine z_get (j := 1) (v := .int (M.2.2 41)) X inX7 rfl (by decide) w_506 (hw.1 _) rfl dX7_turn_12 ?_
    refine z_aload_n X dX7_turn_15 0 rfl rfl ?_
    refine z_get (j := 0) (v := .int (M.2.2 40)) X inX7 rfl (by decide) w_502 (hw.1 _) rfl dX7_turn_16 ?_
    refine z_iload_n X dX7_turn_19 1 rfl rfl ?_
    obtain ⟨r2, hr2, h⟩ := ob h
    refine z_cVI (As := [.int (M.2.2 41), .int (M.2.2 40), .int v1]) (st := []) X (tX7_up hw (mk M [(3, (M.1 3)), (4, (M.1 4)), (10, (M.1 10)), (11, (M.1 11)), (12, (M.1 12)), (13, (M.1 13)), (14, (M.1 14)), (15, (M.1 15))] M.2.1 [(40, (M.2.2 40)), (41, (M.2.2 41)), (42, (M.2.2 42)), (48, (M.2.2 48)), (49, (M.2.2 49)), (50, (M.2.2 50))]) hr2) w_525 mvX7_up (by rw [eR]; exact ⟨Nat.le_of_ble_eq_true rfl, Nat.le_of_ble_eq_true rfl⟩) ⟨rfl, rfl⟩ rfl (Nat.le_of_ble_eq_true rfl) (hw.1 _) rfl rfl dX7_turn_20 ?_
    refine z_mem (mk_mk (l' := [(3, (M.1 3)), (4, (M.1 4)), (10, (M.1 10)), (11, r2.2.1), (12, r2.2.2.1), (13, r2.2.2.2.1), (14, r2.2.2.2.2.1), (15, r2.2.2.2.2.2.1)]) (sl' := [(40, (M.2.2 40)), (41, (M.2.2 41)), (42, (M.2.2 42)), (48, (M.2.2 48)), (49, (M.2.2 49)), (50, r2.2.2.2.2.2.2)]) rfl rfl rfl rfl) ?_
    refine z_istore_n (lv' := [(2, .int r2.1), (0, .ref (ad 0)), (1, .int v1)]) X dX7_turn_23 rfl (by decide) rfl ?_
    refine z_iload_n X dX7_turn_24 0 rfl rfl ?_
    refine z_bipush (v := (-5 : Int32)) X dX7_turn_25 (by decide) ?_
    refine z_icmp_ne (tgt := 33) X dX7_turn_27 (by decide) (fun c27 => ?_) (fun c27 => ?_)
    · rw [if_neg c27] at h
      refine z_aload_n X dX7_turn_33 1 rfl rfl ?_
      refine z_aload_n X dX7_turn_34 1 rfl rfl ?_
      refine z_get (j := 0) (v := .int (M.2.2 40)) X inX7 rfl (by decide) w_502 (hw.1 _) rfl dX7_turn_35 ?_
      refine z_iload_n X dX7_turn_38 0 rfl rfl ?_
      obtain ⟨r3, hr3, h⟩ := ob h
      refine z_cVV (As := [.int (M.2.2 40), .int r2.1]) (st := []) X (tX7_becomes hw (mk M [(3, (M.1 3)), (4, (M.1 4)), (10, (M.1 10)), (11, r2.2.1), (12, r2.2.2.1), (13, r2.2.2.2.1), (14, r2.2.2.2.2.1), (15, r2.2.2.2.2.2.1)] M.2.1 [(40, (M.2.2 40)), (41, (M.2.2 41)), (42, (M.2.2 42)), (48, (M.2.2 48)), (49, (M.2.2 49)), (50, r2.2.2.2.2.2.2)]) hr3) w_512 mvX7_becomes (by rw [eR]; exact ⟨Nat.le_of_ble_eq_true rfl, Nat.le_of_ble_eq_true rfl⟩) ⟨rfl, rfl⟩ rfl (Nat.le_of_ble_eq_true rfl) (hw.1 _) rfl rfl dX7_turn_39 ?_
      refine z_mem (mk_mk (l' := [(3, r3.1), (4, r3.2.1), (10, (M.1 10)), (11, r2.2.1), (12, r2.2.2.1), (13, r2.2.2.2.1), (14, r2.2.2.2.2.1), (15, r2.2.2.2.2.2.1)]) (sl' := [(40, r3.2.2.1), (41, r3.2.2.2.1), (42, r3.2.2.2.2), (48, (M.2.2 48)), (49, (M.2.2 49)), (50, r2.2.2.2.2.2.2)]) rfl rfl rfl rfl) ?_
      refine z_aload_n X dX7_turn_42 1 rfl rfl ?_
      obtain ⟨r4, hr4, h⟩ := ob h
      refine z_cVI (As := []) (st := []) X (tX7_which hw (mk M [(3, r3.1), (4, r3.2.1), (10, (M.1 10)), (11, r2.2.1), (12, r2.2.2.1), (13, r2.2.2.2.1), (14, r2.2.2.2.2.1), (15, r2.2.2.2.2.2.1)] M.2.1 [(40, r3.2.2.1), (41, r3.2.2.2.1), (42, r3.2.2.2.2), (48, (M.2.2 48)), (49, (M.2.2 49)), (50, r2.2.2.2.2.2.2)]) hr4) w_516 mvX7_which (by rw [eR]; exact ⟨Nat.le_of_ble_eq_true rfl, Nat.le_of_ble_eq_true rfl⟩) ⟨rfl, rfl⟩ rfl (Nat.le_of_ble_eq_true rfl) (hw.1 _) rfl rfl dX7_turn_43 ?_
      refine z_mem (mk_mk (l' := [(3, r3.1), (4, r3.2.1), (10, r4.2.1), (11, r2.2.1), (12, r2.2.2.1), (13, r2.2.2.2.1), (14, r2.2.2.2.2.1), (15, r2.2.2.2.2.2.1)]) (sl' := [(40, r3.2.2.1), (41, r3.2.2.2.1), (42, r3.2.2.2.2), (48, r4.2.2.1), (49, r4.2.2.2), (50, r2.2.2.2.2.2.2)]) rfl rfl rfl rfl) ?_
      have hq := Option.some.inj h
      subst hq
      exact z_iret hs dX7_turn_46 rfl
    · rw [if_pos c27] at h
      refine z_bipush (v := (-5 : Int32)) X dX7_turn_30 (by decide) ?_
      have hq := Option.some.inj h
      subst hq
      exact z_iret hs dX7_turn_32 rfl
  · rw [if_pos c5] at h
    refine z_iconst (v := (-1 : Int32)) X dX7_turn_8 (by decide) ?_
    have hq := Option.some.inj h
    subst hq
    exact z_iret hs dX7_turn_9 rfl
set_option maxHeartbeats 4000000 in
theorem tX7_back {l : Launch} {D : va_G} {ct : Nat → ClassId} {tF : Nat} {wOf : Mm → va_W} {po ad : Nat → Nat} (hw : KM wOf po ad ct) (M : Mm) {v1 : Int32} {r : (Int32 × (Nat → Int32) × (Nat → Int32) × (Nat → Int32) × (Nat → Int32) × (Nat → Int32) × (Nat → Int32) × (Nat → Int32) × (Nat → Int32) × Int32 × Int32 × Int32 × Int32 × Int32 × Int32)} (h : fX7_back (M.1 3) (M.1 4) (M.1 10) (M.1 11) (M.1 12) (M.1 13) (M.1 14) (M.1 15) (M.2.2 40) (M.2.2 41) (M.2.2 42) (M.2.2 48) (M.2.2 49) (M.2.2 50) v1 = some r) : CtI l yX7_back cX7_back 3 .int { frames := 21, cells := 0, slots := 0, locals := 2164 } D ct tF wOf [.ref (ad 0), .int v1] M r.1 (mk M [(3, r.2.1), (4, r.2.2.1), (10, r.2.2.2.1), (11, r.2.2.2.2.1), (12, r.2.2.2.2.2.1), (13, r.2.2.2.2.2.2.1), (14, r.2.2.2.2.2.2.2.1), (15, r.2.2.2.2.2.2.2.2.1)] M.2.1 [(40, r.2.2.2.2.2.2.2.2.2.1), (41, r.2.2.2.2.2.2.2.2.2.2.1), (42, r.2.2.2.2.2.2.2.2.2.2.2.1), (48, r.2.2.2.2.2.2.2.2.2.2.2.2.1), (49, r.2.2.2.2.2.2.2.2.2.2.2.2.2.1), (50, r.2.2.2.2.2.2.2.2.2.2.2.2.2.2)]) := by
  refine metI (by decide) (Nat.le_of_ble_eq_true rfl) fun κ X e1 eR e3 e4 hs => ?_
  subst e1; subst e3; subst e4
  unfold fX7_back at h
  refine z_mem (mk_self M [3, 4, 10, 11, 12, 13, 14, 15] [40, 41, 42, 48, 49, 50]) ?_
  refine z_sub (lv' := [(0, .ref (ad 0)), (1, .int v1)]) [0, 1] rfl ?_
  show Zj κ 3 0 _ _ (mk M [(3, (M.1 3)), (4, (M.1 4)), (10, (M.1 10)), (11, (M.1 11)), (12, (M.1 12)), (13, (M.1 13)), (14, (M.1 14)), (15, (M.1 15))] M.2.1 [(40, (M.2.2 40)), (41, (M.2.2 41)), (42, (M.2.2 42)), (48, (M.2.2 48)), (49, (M.2.2 49)), (50, (M.2.2 50))])
  refine z_aload_n X dX7_back_0 0 rfl rfl ?_
  refine z_iload_n X dX7_back_1 1 rfl rfl ?_
  obtain ⟨r1, hr1, h⟩ := ob h
  refine z_cVI (As := [.int v1]) (st := []) X (tX7_isNode hw (mk M [(3, (M.1 3)), (4, (M.1 4)), (10, (M.1 10)), (11, (M.1 11)), (12, (M.1 12)), (13, (M.1 13)), (14, (M.1 14)), (15, (M.1 15))] M.2.1 [(40, (M.2.2 40)), (41, (M.2.2 41)), (42, (M.2.2 42)), (48, (M.2.2 48)), (49, (M.2.2 49)), (50, (M.2.2 50))]) hr1) w_520 mvX7_isNode (by rw [eR]; exact ⟨Nat.le_of_ble_eq_true rfl, Nat.le_of_ble_eq_true rfl⟩) ⟨rfl, rfl⟩ rfl (Nat.le_of_ble_eq_true rfl) (hw.1 _) rfl rfl dX7_back_2 ?_
  refine z_if_ne (tgt := 10) X dX7_back_5 (by decide) (fun c5 => ?_) (fun c5 => ?_)
  · rw [if_neg c5] at h
    refine z_aload_n X dX7_back_10 0 rfl rfl ?_
    refine z_aload_n X dX7_back_11 0 rfl rfl ?_
    refine z_get (j := 1) (v := .int (M.2.2 41)) X inX7 rfl (by decide) w_506 (hw.1 _) rfl dX7_back_12 ?_
    refine z_aload_n X dX7_back_15 0 rfl rfl ?_
    refine z_get (j := 0) (v := .int (M.2.2 40)) X inX7 rfl (by decide) w_502 (hw.1 _) rfl dX7_back_16 ?_
    refine z_iload_n X dX7_back_19 1 rfl rfl ?_
    obtain ⟨r2, hr2, h⟩ := ob h
    refine z_cVI (As := [.int (M.2.2 41), .int (M.2.2 40), .int v1]) (st := []) X (tX7_down hw (mk M [(3, (M.1 3)), (4, (M.1 4)), (10, (M.1 10)), (11, (M.1 11)), (12, (M.1 12)), (13, (M.1 13)), (14, (M.1 14)), (15, (M.1 15))] M.2.1 [(40, (M.2.2 40)), (41, (M.2.2 41)), (42, (M.2.2 42)), (48, (M.2.2 48)), (49, (M.2.2 49)), (50, (M.2.2 50))]) hr2) w_529 mvX7_down (by rw [eR]; exact ⟨Nat.le_of_ble_eq_true rfl, Nat.le_of_ble_eq_true rfl⟩) ⟨rfl, rfl⟩ rfl (Nat.le_of_ble_eq_true rfl) (hw.1 _) rfl rfl dX7_back_20 ?_
    refine z_mem (mk_mk (l' := [(3, (M.1 3)), (4, (M.1 4)), (10, (M.1 10)), (11, r2.2.1), (12, r2.2.2.1), (13, r2.2.2.2.1), (14, r2.2.2.2.2.1), (15, r2.2.2.2.2.2.1)]) (sl' := [(40, (M.2.2 40)), (41, (M.2.2 41)), (42, (M.2.2 42)), (48, (M.2.2 48)), (49, (M.2.2 49)), (50, r2.2.2.2.2.2.2)]) rfl rfl rfl rfl) ?_
    refine z_istore_n (lv' := [(2, .int r2.1), (0, .ref (ad 0)), (1, .int v1)]) X dX7_back_23 rfl (by decide) rfl ?_
    refine z_iload_n X dX7_back_24 0 rfl rfl ?_
    refine z_bipush (v := (-5 : Int32)) X dX7_back_25 (by decide) ?_
    refine z_icmp_ne (tgt := 33) X dX7_back_27 (by decide) (fun c27 => ?_) (fun c27 => ?_)
    · rw [if_neg c27] at h
      refine z_aload_n X dX7_back_33 1 rfl rfl ?_
      refine z_aload_n X dX7_back_34 1 rfl rfl ?_
      refine z_get (j := 0) (v := .int (M.2.2 40)) X inX7 rfl (by decide) w_502 (hw.1 _) rfl dX7_back_35 ?_
      refine z_iload_n X dX7_back_38 0 rfl rfl ?_
      obtain ⟨r3, hr3, h⟩ := ob h
      refine z_cVV (As := [.int (M.2.2 40), .int r2.1]) (st := []) X (tX7_becomes hw (mk M [(3, (M.1 3)), (4, (M.1 4)), (10, (M.1 10)), (11, r2.2.1), (12, r2.2.2.1), (13, r2.2.2.2.1), (14, r2.2.2.2.2.1), (15, r2.2.2.2.2.2.1)] M.2.1 [(40, (M.2.2 40)), (41, (M.2.2 41)), (42, (M.2.2 42)), (48, (M.2.2 48)), (49, (M.2.2 49)), (50, r2.2.2.2.2.2.2)]) hr3) w_512 mvX7_becomes (by rw [eR]; exact ⟨Nat.le_of_ble_eq_true rfl, Nat.le_of_ble_eq_true rfl⟩) ⟨rfl, rfl⟩ rfl (Nat.le_of_ble_eq_true rfl) (hw.1 _) rfl rfl dX7_back_39 ?_
      refine z_mem (mk_mk (l' := [(3, r3.1), (4, r3.2.1), (10, (M.1 10)), (11, r2.2.1), (12, r2.2.2.1), (13, r2.2.2.2.1), (14, r2.2.2.2.2.1), (15, r2.2.2.2.2.2.1)]) (sl' := [(40, r3.2.2.1), (41, r3.2.2.2.1), (42, r3.2.2.2.2), (48, (M.2.2 48)), (49, (M.2.2 49)), (50, r2.2.2.2.2.2.2)]) rfl rfl rfl rfl) ?_
      refine z_aload_n X dX7_back_42 1 rfl rfl ?_
      obtain ⟨r4, hr4, h⟩ := ob h
      refine z_cVI (As := []) (st := []) X (tX7_which hw (mk M [(3, r3.1), (4, r3.2.1), (10, (M.1 10)), (11, r2.2.1), (12, r2.2.2.1), (13, r2.2.2.2.1), (14, r2.2.2.2.2.1), (15, r2.2.2.2.2.2.1)] M.2.1 [(40, r3.2.2.1), (41, r3.2.2.2.1), (42, r3.2.2.2.2), (48, (M.2.2 48)), (49, (M.2.2 49)), (50, r2.2.2.2.2.2.2)]) hr4) w_516 mvX7_which (by rw [eR]; exact ⟨Nat.le_of_ble_eq_true rfl, Nat.le_of_ble_eq_true rfl⟩) ⟨rfl, rfl⟩ rfl (Nat.le_of_ble_eq_true rfl) (hw.1 _) rfl rfl dX7_back_43 ?_
      refine z_mem (mk_mk (l' := [(3, r3.1), (4, r3.2.1), (10, r4.2.1), (11, r2.2.1), (12, r2.2.2.1), (13, r2.2.2.2.1), (14, r2.2.2.2.2.1), (15, r2.2.2.2.2.2.1)]) (sl' := [(40, r3.2.2.1), (41, r3.2.2.2.1), (42, r3.2.2.2.2), (48, r4.2.2.1), (49, r4.2.2.2), (50, r2.2.2.2.2.2.2)]) rfl rfl rfl rfl) ?_
      have hq := Option.some.inj h
      subst hq
      exact z_iret hs dX7_back_46 rfl
    · rw [if_pos c27] at h
      refine z_bipush (v := (-5 : Int32)) X dX7_back_30 (by decide) ?_
      have hq := Option.some.inj h
      subst hq
      exact z_iret hs dX7_back_32 rfl
  · rw [if_pos c5] at h
    refine z_iconst (v := (-1 : Int32)) X dX7_back_8 (by decide) ?_
    have hq := Option.some.inj h
    subst hq
    exact z_iret hs dX7_back_9 rfl
