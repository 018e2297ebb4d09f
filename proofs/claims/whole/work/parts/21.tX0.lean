set_option maxHeartbeats 4000000 in
theorem tX0_isSize {l : Launch} {D : va_G} {ct : Nat → ClassId} {tF : Nat} {wOf : Mm → va_W} {po ad : Nat → Nat} (hw : KF wOf po ad ct) (M : Mm) {v0 : Int32} {r : Int32} (h : fX0_isSize v0 = some r) : CtI l yX0_isSize cX0_isSize 1 .boolean { frames := 0, cells := 0, slots := 0, locals := 0 } D ct tF wOf [.int v0] M r M := by
  refine metI (by decide) (Nat.le_of_ble_eq_true rfl) fun κ X e1 eR e3 e4 hs => ?_
  subst e1; subst e3; subst e4
  unfold fX0_isSize at h
  refine z_sub (lv' := [(0, .int v0)]) [0] rfl ?_
  refine z_iload_n X dX0_isSize_0 0 rfl rfl ?_
  refine z_iconst (v := (nI 1)) X dX0_isSize_1 (by decide) ?_
  refine z_icmp_lt (tgt := 15) X dX0_isSize_2 (by decide) (fun c2 => ?_) (fun c2 => ?_)
  · rw [if_pos c2] at h
    refine z_iconst (v := (nI 0)) X dX0_isSize_15 (by decide) ?_
    have hq := Option.some.inj h
    subst hq
    exact z_iret hs dX0_isSize_16 rfl
  · rw [if_neg c2] at h
    refine z_iload_n X dX0_isSize_5 0 rfl rfl ?_
    refine z_bipush (v := (nI 7)) X dX0_isSize_6 (by decide) ?_
    refine z_icmp_gt (tgt := 15) X dX0_isSize_8 (by decide) (fun c8 => ?_) (fun c8 => ?_)
    · rw [if_pos c8] at h
      refine z_iconst (v := (nI 0)) X dX0_isSize_15 (by decide) ?_
      have hq := Option.some.inj h
      subst hq
      exact z_iret hs dX0_isSize_16 rfl
    · rw [if_neg c8] at h
      refine z_iconst (v := (nI 1)) X dX0_isSize_11 (by decide) ?_
      refine z_goto (tgt := 16) X dX0_isSize_12 (by decide) ?_
      have hq := Option.some.inj h
      subst hq
      exact z_iret hs dX0_isSize_16 rfl
set_option maxHeartbeats 4000000 in
theorem tX0_sizeOf {l : Launch} {D : va_G} {ct : Nat → ClassId} {tF : Nat} {wOf : Mm → va_W} {po ad : Nat → Nat} (hw : KF wOf po ad ct) (M : Mm) {v1 : Int32} {r : Int32} (h : fX0_sizeOf (M.1 3) v1 = some r) : CtI l yX0_sizeOf cX0_sizeOf 2 .int { frames := 0, cells := 0, slots := 0, locals := 0 } D ct tF wOf [.ref (ad 1), .int v1] M r M := by
  refine metI (by decide) (Nat.le_of_ble_eq_true rfl) fun κ X e1 eR e3 e4 hs => ?_
  subst e1; subst e3; subst e4
  unfold fX0_sizeOf at h
  refine z_sub (lv' := [(0, .ref (ad 1)), (1, .int v1)]) [0, 1] rfl ?_
  refine z_iload_n X dX0_sizeOf_0 1 rfl rfl ?_
  refine z_if_lt (tgt := 20) X dX0_sizeOf_1 (by decide) (fun c1 => ?_) (fun c1 => ?_)
  · rw [if_pos c1] at h
    refine z_iconst (v := (nI 0)) X dX0_sizeOf_20 (by decide) ?_
    have hq := Option.some.inj h
    subst hq
    exact z_iret hs dX0_sizeOf_21 rfl
  · rw [if_neg c1] at h
    refine z_iload_n X dX0_sizeOf_4 1 rfl rfl ?_
    refine z_sipush (v := (nI 626)) X dX0_sizeOf_5 (by decide) ?_
    refine z_icmp_ge (tgt := 20) X dX0_sizeOf_8 (by decide) (fun c8 => ?_) (fun c8 => ?_)
    · rw [if_pos c8] at h
      refine z_iconst (v := (nI 0)) X dX0_sizeOf_20 (by decide) ?_
      have hq := Option.some.inj h
      subst hq
      exact z_iret hs dX0_sizeOf_21 rfl
    · rw [if_neg c8] at h
      refine z_aload_n X dX0_sizeOf_11 0 rfl rfl ?_
      refine z_get (j := 1) (v := .ref (ad 3)) X inX0 rfl (by decide) w_6 (hw.1 _) rfl dX0_sizeOf_12 ?_
      refine z_iload_n X dX0_sizeOf_15 1 rfl rfl ?_
      obtain ⟨t1, ht1, h⟩ := ob h
      refine z_iald X (hw.2.2 _).1 (rd_ok ht1) dX0_sizeOf_16 ?_
      refine z_goto (tgt := 21) X dX0_sizeOf_17 (by decide) ?_
      have hq := Option.some.inj h
      subst hq
      exact z_iret hs dX0_sizeOf_21 rfl
set_option maxHeartbeats 4000000 in
theorem tX0_firstOf {l : Launch} {D : va_G} {ct : Nat → ClassId} {tF : Nat} {wOf : Mm → va_W} {po ad : Nat → Nat} (hw : KF wOf po ad ct) (M : Mm) {v1 : Int32} {r : Int32} (h : fX0_firstOf v1 = some r) : CtI l yX0_firstOf cX0_firstOf 2 .int { frames := 1, cells := 0, slots := 0, locals := 20 } D ct tF wOf [.ref (ad 1), .int v1] M r M := by
  refine metI (by decide) (Nat.le_of_ble_eq_true rfl) fun κ X e1 eR e3 e4 hs => ?_
  subst e1; subst e3; subst e4
  unfold fX0_firstOf at h
  refine z_sub (lv' := [(0, .ref (ad 1)), (1, .int v1)]) [0, 1] rfl ?_
  refine z_iload_n X dX0_firstOf_0 1 rfl rfl ?_
  obtain ⟨r1, hr1, h⟩ := ob h
  refine z_cSI (As := [.int v1]) (st := []) X (tX0_isSize hw M hr1) w_13 msX0_isSize (by rw [eR]; exact ⟨Nat.le_of_ble_eq_true rfl, Nat.le_of_ble_eq_true rfl⟩) ⟨rfl, rfl⟩ rfl (Nat.le_of_ble_eq_true rfl) rfl dX0_firstOf_1 ?_
  refine z_if_eq (tgt := 15) X dX0_firstOf_4 (by decide) (fun c4 => ?_) (fun c4 => ?_)
  · rw [if_pos c4] at h
    refine z_iconst (v := (nI 0)) X dX0_firstOf_15 (by decide) ?_
    have hq := Option.some.inj h
    subst hq
    exact z_iret hs dX0_firstOf_16 rfl
  · rw [if_neg c4] at h
    refine z_gets X w_0 dX0_firstOf_7 ?_
    refine z_iload_n X dX0_firstOf_10 1 rfl rfl ?_
    obtain ⟨t2, ht2, h⟩ := ob h
    refine z_tald X (rd_ok ht2) dX0_firstOf_11 ?_
    refine z_goto (tgt := 16) X dX0_firstOf_12 (by decide) ?_
    have hq := Option.some.inj h
    subst hq
    exact z_iret hs dX0_firstOf_16 rfl
set_option maxHeartbeats 4000000 in
theorem tX0_lastOf {l : Launch} {D : va_G} {ct : Nat → ClassId} {tF : Nat} {wOf : Mm → va_W} {po ad : Nat → Nat} (hw : KF wOf po ad ct) (M : Mm) {v1 : Int32} {r : Int32} (h : fX0_lastOf v1 = some r) : CtI l yX0_lastOf cX0_lastOf 2 .int { frames := 1, cells := 0, slots := 0, locals := 20 } D ct tF wOf [.ref (ad 1), .int v1] M r M := by
  refine metI (by decide) (Nat.le_of_ble_eq_true rfl) fun κ X e1 eR e3 e4 hs => ?_
  subst e1; subst e3; subst e4
  unfold fX0_lastOf at h
  refine z_sub (lv' := [(0, .ref (ad 1)), (1, .int v1)]) [0, 1] rfl ?_
  refine z_iload_n X dX0_lastOf_0 1 rfl rfl ?_
  obtain ⟨r1, hr1, h⟩ := ob h
  refine z_cSI (As := [.int v1]) (st := []) X (tX0_isSize hw M hr1) w_13 msX0_isSize (by rw [eR]; exact ⟨Nat.le_of_ble_eq_true rfl, Nat.le_of_ble_eq_true rfl⟩) ⟨rfl, rfl⟩ rfl (Nat.le_of_ble_eq_true rfl) rfl dX0_lastOf_1 ?_
  refine z_if_eq (tgt := 19) X dX0_lastOf_4 (by decide) (fun c4 => ?_) (fun c4 => ?_)
  · rw [if_pos c4] at h
    refine z_iconst (v := (nI 0)) X dX0_lastOf_19 (by decide) ?_
    have hq := Option.some.inj h
    subst hq
    exact z_iret hs dX0_lastOf_20 rfl
  · rw [if_neg c4] at h
    refine z_gets X w_0 dX0_lastOf_7 ?_
    refine z_iload_n X dX0_lastOf_10 1 rfl rfl ?_
    refine z_iconst (v := (nI 1)) X dX0_lastOf_11 (by decide) ?_
    refine z_iadd X dX0_lastOf_12 ?_
    obtain ⟨t2, ht2, h⟩ := ob h
    refine z_tald X (rd_ok ht2) dX0_lastOf_13 ?_
    refine z_iconst (v := (nI 1)) X dX0_lastOf_14 (by decide) ?_
    refine z_isub X dX0_lastOf_15 ?_
    refine z_goto (tgt := 20) X dX0_lastOf_16 (by decide) ?_
    have hq := Option.some.inj h
    subst hq
    exact z_iret hs dX0_lastOf_20 rfl
set_option maxHeartbeats 4000000 in
theorem tX0_codeOf {l : Launch} {D : va_G} {ct : Nat → ClassId} {tF : Nat} {wOf : Mm → va_W} {po ad : Nat → Nat} (hw : KF wOf po ad ct) (M : Mm) {v1 : Int32} {r : Int32} (h : fX0_codeOf (M.1 2) v1 = some r) : CtI l yX0_codeOf cX0_codeOf 2 .int { frames := 0, cells := 0, slots := 0, locals := 0 } D ct tF wOf [.ref (ad 1), .int v1] M r M := by
  refine metI (by decide) (Nat.le_of_ble_eq_true rfl) fun κ X e1 eR e3 e4 hs => ?_
  subst e1; subst e3; subst e4
  unfold fX0_codeOf at h
  refine z_sub (lv' := [(0, .ref (ad 1)), (1, .int v1)]) [0, 1] rfl ?_
  refine z_iload_n X dX0_codeOf_0 1 rfl rfl ?_
  refine z_if_lt (tgt := 20) X dX0_codeOf_1 (by decide) (fun c1 => ?_) (fun c1 => ?_)
  · rw [if_pos c1] at h
    refine z_iconst (v := (nI 0)) X dX0_codeOf_20 (by decide) ?_
    have hq := Option.some.inj h
    subst hq
    exact z_iret hs dX0_codeOf_21 rfl
  · rw [if_neg c1] at h
    refine z_iload_n X dX0_codeOf_4 1 rfl rfl ?_
    refine z_sipush (v := (nI 626)) X dX0_codeOf_5 (by decide) ?_
    refine z_icmp_ge (tgt := 20) X dX0_codeOf_8 (by decide) (fun c8 => ?_) (fun c8 => ?_)
    · rw [if_pos c8] at h
      refine z_iconst (v := (nI 0)) X dX0_codeOf_20 (by decide) ?_
      have hq := Option.some.inj h
      subst hq
      exact z_iret hs dX0_codeOf_21 rfl
    · rw [if_neg c8] at h
      refine z_aload_n X dX0_codeOf_11 0 rfl rfl ?_
      refine z_get (j := 0) (v := .ref (ad 2)) X inX0 rfl (by decide) w_33 (hw.1 _) rfl dX0_codeOf_12 ?_
      refine z_iload_n X dX0_codeOf_15 1 rfl rfl ?_
      obtain ⟨t1, ht1, h⟩ := ob h
      refine z_iald X (hw.2.1 _).1 (rd_ok ht1) dX0_codeOf_16 ?_
      refine z_goto (tgt := 21) X dX0_codeOf_17 (by decide) ?_
      have hq := Option.some.inj h
      subst hq
      exact z_iret hs dX0_codeOf_21 rfl
set_option maxHeartbeats 4000000 in
theorem jX0_find_J52 {κ : Rx} {ct : Nat → ClassId} {tF : Nat} {po ad : Nat → Nat} (X : CX κ ct tF cX0_find 6 RX0) (eR : kR κ = { frames := 2, cells := 0, slots := 0, locals := 41 }) (hw : KF (kw κ) po ad ct) (M : Mm)   (v2 : Int32) (v3 : Int32) (v4 : Int32) (v5 : Int32)  (s : ((Int32 × Int32) ⊕ Int32)) (h : fX0_find_J52 (M.1 2) v2 v3 v4 v5 = some s) (hs : (Sum.elim (fun x => Zj κ 6 18 [(0, .ref (ad 1)), (2, .int v2), (3, .int v3), (4, .int x.1), (5, .int x.2)] [] M) (fun y => Zj κ 6 61 [(0, .ref (ad 1)), (2, .int v2), (4, .int y)] [] M) s)) : Zj κ 6 52 [(0, .ref (ad 1)), (2, .int v2), (3, .int v3), (4, .int v4), (5, .int v5)] [] M := by
  unfold fX0_find_J52 at h
  refine z_iload X dX0_find_52 4 rfl ?_
  refine z_iconst (v := (nI 1)) X dX0_find_54 (by decide) ?_
  refine z_ishr X dX0_find_55 ?_
  refine z_istore (lv' := [(5, .int (v5 >>> ((nI 1) &&& 31))), (0, .ref (ad 1)), (2, .int v2), (3, .int v3), (4, .int v4)]) X dX0_find_56 (by decide) rfl ?_
  refine z_goto (tgt := 18) X dX0_find_58 (by decide) ?_
  have hq := Option.some.inj h
  subst hq
  exact z_sub [1, 2, 3, 4, 0] rfl hs
set_option maxHeartbeats 4000000 in
theorem bX0_find_B18 {κ : Rx} {ct : Nat → ClassId} {tF : Nat} {po ad : Nat → Nat} (X : CX κ ct tF cX0_find 6 RX0) (eR : kR κ = { frames := 2, cells := 0, slots := 0, locals := 41 }) (hw : KF (kw κ) po ad ct) (M : Mm)  (v2 : Int32) (v3 : Int32) : ∀ (x : (Int32 × Int32)) (s : (Int32 × Int32) ⊕ Int32), fX0_find_B18 (M.1 2) v2 v3 x = some s → Sum.elim (fun x => Zj κ 6 18 [(0, .ref (ad 1)), (2, .int v2), (3, .int v3), (4, .int x.1), (5, .int x.2)] [] M) (fun y => Zj κ 6 61 [(0, .ref (ad 1)), (2, .int v2), (4, .int y)] [] M) s → Zj κ 6 18 [(0, .ref (ad 1)), (2, .int v2), (3, .int v3), (4, .int x.1), (5, .int x.2)] [] M := by
  intro x s h hs
  unfold fX0_find_B18 at h
  refine z_iload X dX0_find_18 4 rfl ?_
  refine z_if_le (tgt := 61) X dX0_find_20 (by decide) (fun c20 => ?_) (fun c20 => ?_)
  · rw [if_pos c20] at h
    have hq := Option.some.inj h
    subst hq
    exact z_sub [0, 1, 3] rfl hs
  · rw [if_neg c20] at h
    refine z_iload X dX0_find_23 3 rfl ?_
    refine z_iload X dX0_find_25 4 rfl ?_
    refine z_iadd X dX0_find_27 ?_
    refine z_iload_n X dX0_find_28 2 rfl rfl ?_
    refine z_icmp_gt (tgt := 52) X dX0_find_29 (by decide) (fun c29 => ?_) (fun c29 => ?_)
    · rw [if_pos c29] at h
      exact (jX0_find_J52 X eR hw M v2 v3 x.1 x.2 _ h hs)
    · rw [if_neg c29] at h
      refine z_aload_n X dX0_find_32 0 rfl rfl ?_
      refine z_iload X dX0_find_33 3 rfl ?_
      refine z_iload X dX0_find_35 4 rfl ?_
      refine z_iadd X dX0_find_37 ?_
      obtain ⟨r1, hr1, h⟩ := ob h
      refine z_cVI (As := [.int (x.1 + x.2)]) (st := []) X (tX0_codeOf hw M hr1) w_39 mvX0_codeOf (by rw [eR]; exact ⟨Nat.le_of_ble_eq_true rfl, Nat.le_of_ble_eq_true rfl⟩) ⟨rfl, rfl⟩ rfl (Nat.le_of_ble_eq_true rfl) (hw.1 _) rfl rfl dX0_find_38 ?_
      refine z_iload_n X dX0_find_41 1 rfl rfl ?_
      refine z_icmp_gt (tgt := 52) X dX0_find_42 (by decide) (fun c42 => ?_) (fun c42 => ?_)
      · rw [if_pos c42] at h
        exact (jX0_find_J52 X eR hw M v2 v3 x.1 x.2 _ h hs)
      · rw [if_neg c42] at h
        refine z_iload X dX0_find_45 3 rfl ?_
        refine z_iload X dX0_find_47 4 rfl ?_
        refine z_iadd X dX0_find_49 ?_
        refine z_istore (lv' := [(4, .int (x.1 + x.2)), (0, .ref (ad 1)), (2, .int v2), (3, .int v3), (5, .int x.2)]) X dX0_find_50 (by decide) rfl ?_
        exact z_sub [1, 2, 3, 0, 4] rfl (jX0_find_J52 X eR hw M v2 v3 (x.1 + x.2) x.2 _ h hs)
set_option maxHeartbeats 4000000 in
theorem tX0_find {l : Launch} {D : va_G} {ct : Nat → ClassId} {tF : Nat} {wOf : Mm → va_W} {po ad : Nat → Nat} (hw : KF wOf po ad ct) (M : Mm) {v1 : Int32} {v2 : Int32} {r : Int32} (h : fX0_find (M.1 2) v1 v2 = some r) : CtI l yX0_find cX0_find 6 .int { frames := 2, cells := 0, slots := 0, locals := 41 } D ct tF wOf [.ref (ad 1), .int v1, .int v2] M r M := by
  refine metI (by decide) (Nat.le_of_ble_eq_true rfl) fun κ X e1 eR e3 e4 hs => ?_
  subst e1; subst e3; subst e4
  unfold fX0_find at h
  refine z_sub (lv' := [(0, .ref (ad 1)), (1, .int v1), (2, .int v2)]) [0, 1, 2] rfl ?_
  refine z_aload_n X dX0_find_0 0 rfl rfl ?_
  refine z_iload_n X dX0_find_1 1 rfl rfl ?_
  obtain ⟨r1, hr1, h⟩ := ob h
  refine z_cVI (As := [.int v1]) (st := []) X (tX0_lastOf hw M hr1) w_34 mvX0_lastOf (by rw [eR]; exact ⟨Nat.le_of_ble_eq_true rfl, Nat.le_of_ble_eq_true rfl⟩) ⟨rfl, rfl⟩ rfl (Nat.le_of_ble_eq_true rfl) (hw.1 _) rfl rfl dX0_find_2 ?_
  refine z_istore_n (lv' := [(3, .int r1), (0, .ref (ad 1)), (1, .int v1), (2, .int v2)]) X dX0_find_5 rfl (by decide) rfl ?_
  refine z_aload_n X dX0_find_6 1 rfl rfl ?_
  refine z_iload_n X dX0_find_7 2 rfl rfl ?_
  obtain ⟨r2, hr2, h⟩ := ob h
  refine z_cVI (As := [.int v1]) (st := []) X (tX0_firstOf hw M hr2) w_38 mvX0_firstOf (by rw [eR]; exact ⟨Nat.le_of_ble_eq_true rfl, Nat.le_of_ble_eq_true rfl⟩) ⟨rfl, rfl⟩ rfl (Nat.le_of_ble_eq_true rfl) (hw.1 _) rfl rfl dX0_find_8 ?_
  refine z_istore (lv' := [(4, .int r2), (3, .int r1), (0, .ref (ad 1)), (1, .int v1), (2, .int v2)]) X dX0_find_11 (by decide) rfl ?_
  refine z_sipush (v := (nI 256)) X dX0_find_13 (by decide) ?_
  refine z_istore (lv' := [(5, .int (nI 256)), (4, .int r2), (3, .int r1), (0, .ref (ad 1)), (1, .int v1), (2, .int v2)]) X dX0_find_16 (by decide) rfl ?_
  refine z_sub [3, 5, 2, 1, 0] rfl ?_
  obtain ⟨y3, hy3, h⟩ := ob h
  refine (it_Z (bX0_find_B18 X eR hw M v2 r1) FU _ y3 hy3) ?_
  refine z_aload_n X dX0_find_61 0 rfl rfl ?_
  refine z_iload X dX0_find_62 2 rfl ?_
  obtain ⟨r4, hr4, h⟩ := ob h
  refine z_cVI (As := [.int y3]) (st := []) X (tX0_codeOf hw M hr4) w_39 mvX0_codeOf (by rw [eR]; exact ⟨Nat.le_of_ble_eq_true rfl, Nat.le_of_ble_eq_true rfl⟩) ⟨rfl, rfl⟩ rfl (Nat.le_of_ble_eq_true rfl) (hw.1 _) rfl rfl dX0_find_64 ?_
  refine z_iload_n X dX0_find_67 1 rfl rfl ?_
  refine z_icmp_ne (tgt := 76) X dX0_find_68 (by decide) (fun c68 => ?_) (fun c68 => ?_)
  · rw [if_neg c68] at h
    refine z_iconst (v := (nI 0)) X dX0_find_76 (by decide) ?_
    have hq := Option.some.inj h
    subst hq
    exact z_iret hs dX0_find_77 rfl
  · rw [if_pos c68] at h
    refine z_iload X dX0_find_71 2 rfl ?_
    refine z_goto (tgt := 77) X dX0_find_73 (by decide) ?_
    have hq := Option.some.inj h
    subst hq
    exact z_iret hs dX0_find_77 rfl
set_option maxHeartbeats 4000000 in
theorem bX0_findDigits_B14 {κ : Rx} {ct : Nat → ClassId} {tF : Nat} {po ad : Nat → Nat} (X : CX κ ct tF cX0_findDigits 6 RX0) (eR : kR κ = { frames := 3, cells := 0, slots := 0, locals := 66 }) (hw : KF (kw κ) po ad ct) (M : Mm)  (v1 : Int32) : ∀ (x : (Int32 × Int32 × Int32)) (s : (Int32 × Int32 × Int32) ⊕ (Int32 × Int32)), fX0_findDigits_B14 v1 x = some s → Sum.elim (fun x => Zj κ 6 14 [(0, .ref (ad 1)), (1, .int v1), (3, .int x.1), (4, .int x.2.1), (5, .int x.2.2)] [] M) (fun y => Zj κ 6 46 [(0, .ref (ad 1)), (1, .int v1), (3, .int y.1), (4, .int y.2)] [] M) s → Zj κ 6 14 [(0, .ref (ad 1)), (1, .int v1), (3, .int x.1), (4, .int x.2.1), (5, .int x.2.2)] [] M := by
  intro x s h hs
  unfold fX0_findDigits_B14 at h
  refine z_iload X dX0_findDigits_14 4 rfl ?_
  refine z_iload_n X dX0_findDigits_16 1 rfl rfl ?_
  refine z_icmp_ge (tgt := 46) X dX0_findDigits_17 (by decide) (fun c17 => ?_) (fun c17 => ?_)
  · rw [if_pos c17] at h
    have hq := Option.some.inj h
    subst hq
    exact z_sub [0, 1, 2, 3] rfl hs
  · rw [if_neg c17] at h
    refine z_iload_n X dX0_findDigits_20 2 rfl rfl ?_
    refine z_iload X dX0_findDigits_21 3 rfl ?_
    refine z_bipush (v := (nI 10)) X dX0_findDigits_23 (by decide) ?_
    obtain ⟨t1, ht1, h⟩ := ob h
    refine z_irem X dX0_findDigits_25 (rmo_ok ht1) ?_
    refine z_iconst (v := (nI 4)) X dX0_findDigits_26 (by decide) ?_
    refine z_iload X dX0_findDigits_27 4 rfl ?_
    refine z_imul X dX0_findDigits_29 ?_
    refine z_ishl X dX0_findDigits_30 ?_
    refine z_ior X dX0_findDigits_31 ?_
    refine z_istore_n (lv' := [(3, .int (x.1 ||| (t1 <<< (((nI 4) * x.2.2) &&& 31)))), (0, .ref (ad 1)), (1, .int v1), (4, .int x.2.1), (5, .int x.2.2)]) X dX0_findDigits_32 rfl (by decide) rfl ?_
    refine z_iload X dX0_findDigits_33 3 rfl ?_
    refine z_bipush (v := (nI 10)) X dX0_findDigits_35 (by decide) ?_
    obtain ⟨t2, ht2, h⟩ := ob h
    refine z_idiv X dX0_findDigits_37 (dvo_ok ht2) ?_
    refine z_istore (lv' := [(4, .int t2), (3, .int (x.1 ||| (t1 <<< (((nI 4) * x.2.2) &&& 31)))), (0, .ref (ad 1)), (1, .int v1), (5, .int x.2.2)]) X dX0_findDigits_38 (by decide) rfl ?_
    refine z_iinc (v := (x.2.2 + nI 1)) (lv' := [(5, .int (x.2.2 + nI 1)), (4, .int t2), (3, .int (x.1 ||| (t1 <<< (((nI 4) * x.2.2) &&& 31)))), (0, .ref (ad 1)), (1, .int v1)]) X dX0_findDigits_40 4 rfl rfl (by decide) rfl ?_
    refine z_goto (tgt := 14) X dX0_findDigits_43 (by decide) ?_
    have hq := Option.some.inj h
    subst hq
    exact z_sub [3, 4, 2, 1, 0] rfl hs
set_option maxHeartbeats 4000000 in
theorem tX0_findDigits {l : Launch} {D : va_G} {ct : Nat → ClassId} {tF : Nat} {wOf : Mm → va_W} {po ad : Nat → Nat} (hw : KF wOf po ad ct) (M : Mm) {v1 : Int32} {v2 : Int32} {r : Int32} (h : fX0_findDigits (M.1 2) v1 v2 = some r) : CtI l yX0_findDigits cX0_findDigits 6 .int { frames := 3, cells := 0, slots := 0, locals := 66 } D ct tF wOf [.ref (ad 1), .int v1, .int v2] M r M := by
  refine metI (by decide) (Nat.le_of_ble_eq_true rfl) fun κ X e1 eR e3 e4 hs => ?_
  subst e1; subst e3; subst e4
  unfold fX0_findDigits at h
  refine z_sub (lv' := [(0, .ref (ad 1)), (1, .int v1), (2, .int v2)]) [0, 1, 2] rfl ?_
  refine z_iload_n X dX0_findDigits_0 2 rfl rfl ?_
  refine z_if_ge (tgt := 6) X dX0_findDigits_1 (by decide) (fun c1 => ?_) (fun c1 => ?_)
  · rw [if_pos c1] at h
    refine z_iconst (v := (nI 0)) X dX0_findDigits_6 (by decide) ?_
    refine z_istore_n (lv' := [(3, .int (nI 0)), (0, .ref (ad 1)), (1, .int v1), (2, .int v2)]) X dX0_findDigits_7 rfl (by decide) rfl ?_
    refine z_iload_n X dX0_findDigits_8 3 rfl rfl ?_
    refine z_istore (lv' := [(4, .int v2), (3, .int (nI 0)), (0, .ref (ad 1)), (1, .int v1), (2, .int v2)]) X dX0_findDigits_9 (by decide) rfl ?_
    refine z_iconst (v := (nI 0)) X dX0_findDigits_11 (by decide) ?_
    refine z_istore (lv' := [(5, .int (nI 0)), (4, .int v2), (3, .int (nI 0)), (0, .ref (ad 1)), (1, .int v1), (2, .int v2)]) X dX0_findDigits_12 (by decide) rfl ?_
    refine z_sub [3, 4, 2, 1, 0] rfl ?_
    obtain ⟨y1, hy1, h⟩ := ob h
    refine (it_Z (bX0_findDigits_B14 X eR hw M v1) FU _ y1 hy1) ?_
    refine z_iload X dX0_findDigits_46 3 rfl ?_
    refine z_if_ne (tgt := 60) X dX0_findDigits_48 (by decide) (fun c48 => ?_) (fun c48 => ?_)
    · rw [if_neg c48] at h
      refine z_iconst (v := (nI 0)) X dX0_findDigits_60 (by decide) ?_
      have hq := Option.some.inj h
      subst hq
      exact z_iret hs dX0_findDigits_61 rfl
    · rw [if_pos c48] at h
      refine z_aload_n X dX0_findDigits_51 0 rfl rfl ?_
      refine z_iload_n X dX0_findDigits_52 1 rfl rfl ?_
      refine z_iload_n X dX0_findDigits_53 2 rfl rfl ?_
      obtain ⟨r2, hr2, h⟩ := ob h
      refine z_cVI (As := [.int v1, .int y1.1]) (st := []) X (tX0_find hw M hr2) w_43 mvX0_find (by rw [eR]; exact ⟨Nat.le_of_ble_eq_true rfl, Nat.le_of_ble_eq_true rfl⟩) ⟨rfl, rfl⟩ rfl (Nat.le_of_ble_eq_true rfl) (hw.1 _) rfl rfl dX0_findDigits_54 ?_
      refine z_goto (tgt := 61) X dX0_findDigits_57 (by decide) ?_
      have hq := Option.some.inj h
      subst hq
      exact z_iret hs dX0_findDigits_61 rfl
  · rw [if_neg c1] at h
    refine z_iconst (v := (nI 0)) X dX0_findDigits_4 (by decide) ?_
    have hq := Option.some.inj h
    subst hq
    exact z_iret hs dX0_findDigits_5 rfl
set_option maxHeartbeats 4000000 in
theorem tX0_numberOf {l : Launch} {D : va_G} {ct : Nat → ClassId} {tF : Nat} {wOf : Mm → va_W} {po ad : Nat → Nat} (hw : KF wOf po ad ct) (M : Mm) {v1 : Int32} {r : Int32} (h : fX0_numberOf (M.1 3) v1 = some r) : CtI l yX0_numberOf cX0_numberOf 2 .int { frames := 2, cells := 0, slots := 0, locals := 41 } D ct tF wOf [.ref (ad 1), .int v1] M r M := by
  refine metI (by decide) (Nat.le_of_ble_eq_true rfl) fun κ X e1 eR e3 e4 hs => ?_
  subst e1; subst e3; subst e4
  unfold fX0_numberOf at h
  refine z_sub (lv' := [(0, .ref (ad 1)), (1, .int v1)]) [0, 1] rfl ?_
  refine z_iload_n X dX0_numberOf_0 1 rfl rfl ?_
  refine z_aload_n X dX0_numberOf_1 0 rfl rfl ?_
  refine z_aload_n X dX0_numberOf_2 0 rfl rfl ?_
  refine z_iload_n X dX0_numberOf_3 1 rfl rfl ?_
  obtain ⟨r1, hr1, h⟩ := ob h
  refine z_cVI (As := [.int v1]) (st := [.ref (ad 1), .int v1]) X (tX0_sizeOf hw M hr1) w_53 mvX0_sizeOf (by rw [eR]; exact ⟨Nat.le_of_ble_eq_true rfl, Nat.le_of_ble_eq_true rfl⟩) ⟨rfl, rfl⟩ rfl (Nat.le_of_ble_eq_true rfl) (hw.1 _) rfl rfl dX0_numberOf_4 ?_
  obtain ⟨r2, hr2, h⟩ := ob h
  refine z_cVI (As := [.int r1]) (st := [.int v1]) X (tX0_firstOf hw M hr2) w_38 mvX0_firstOf (by rw [eR]; exact ⟨Nat.le_of_ble_eq_true rfl, Nat.le_of_ble_eq_true rfl⟩) ⟨rfl, rfl⟩ rfl (Nat.le_of_ble_eq_true rfl) (hw.1 _) rfl rfl dX0_numberOf_7 ?_
  refine z_isub X dX0_numberOf_10 ?_
  have hq := Option.some.inj h
  subst hq
  exact z_iret hs dX0_numberOf_11 rfl
set_option maxHeartbeats 4000000 in
theorem tX0_rightSize {l : Launch} {D : va_G} {ct : Nat → ClassId} {tF : Nat} {wOf : Mm → va_W} {po ad : Nat → Nat} (hw : KF wOf po ad ct) (M : Mm) {v1 : Int32} {v2 : Int32} {r : Int32} (h : fX0_rightSize (M.1 2) (M.1 3) v1 v2 = some r) : CtI l yX0_rightSize cX0_rightSize 3 .int { frames := 0, cells := 0, slots := 0, locals := 0 } D ct tF wOf [.ref (ad 1), .int v1, .int v2] M r M := by
  refine metI (by decide) (Nat.le_of_ble_eq_true rfl) fun κ X e1 eR e3 e4 hs => ?_
  subst e1; subst e3; subst e4
  unfold fX0_rightSize at h
  refine z_sub (lv' := [(0, .ref (ad 1)), (1, .int v1), (2, .int v2)]) [0, 1, 2] rfl ?_
  refine z_iload_n X dX0_rightSize_0 1 rfl rfl ?_
  refine z_if_lt (tgt := 11) X dX0_rightSize_1 (by decide) (fun c1 => ?_) (fun c1 => ?_)
  · rw [if_pos c1] at h
    refine z_iconst (v := (nI 0)) X dX0_rightSize_11 (by decide) ?_
    have hq := Option.some.inj h
    subst hq
    exact z_iret hs dX0_rightSize_12 rfl
  · rw [if_neg c1] at h
    refine z_iload_n X dX0_rightSize_4 1 rfl rfl ?_
    refine z_sipush (v := (nI 626)) X dX0_rightSize_5 (by decide) ?_
    refine z_icmp_lt (tgt := 13) X dX0_rightSize_8 (by decide) (fun c8 => ?_) (fun c8 => ?_)
    · rw [if_pos c8] at h
      refine z_aload_n X dX0_rightSize_13 0 rfl rfl ?_
      refine z_get (j := 0) (v := .ref (ad 2)) X inX0 rfl (by decide) w_33 (hw.1 _) rfl dX0_rightSize_14 ?_
      refine z_iload_n X dX0_rightSize_17 1 rfl rfl ?_
      obtain ⟨t1, ht1, h⟩ := ob h
      refine z_iald X (hw.2.1 _).1 (rd_ok ht1) dX0_rightSize_18 ?_
      refine z_iconst (v := (nI 4)) X dX0_rightSize_19 (by decide) ?_
      refine z_aload_n X dX0_rightSize_20 0 rfl rfl ?_
      refine z_get (j := 1) (v := .ref (ad 3)) X inX0 rfl (by decide) w_6 (hw.1 _) rfl dX0_rightSize_21 ?_
      refine z_iload_n X dX0_rightSize_24 1 rfl rfl ?_
      obtain ⟨t2, ht2, h⟩ := ob h
      refine z_iald X (hw.2.2 _).1 (rd_ok ht2) dX0_rightSize_25 ?_
      refine z_iconst (v := (nI 1)) X dX0_rightSize_26 (by decide) ?_
      refine z_isub X dX0_rightSize_27 ?_
      refine z_iload_n X dX0_rightSize_28 2 rfl rfl ?_
      refine z_isub X dX0_rightSize_29 ?_
      refine z_imul X dX0_rightSize_30 ?_
      refine z_ishr X dX0_rightSize_31 ?_
      refine z_bipush (v := (nI 15)) X dX0_rightSize_32 (by decide) ?_
      refine z_iand X dX0_rightSize_34 ?_
      have hq := Option.some.inj h
      subst hq
      exact z_iret hs dX0_rightSize_35 rfl
    · rw [if_neg c8] at h
      refine z_iconst (v := (nI 0)) X dX0_rightSize_11 (by decide) ?_
      have hq := Option.some.inj h
      subst hq
      exact z_iret hs dX0_rightSize_12 rfl
set_option maxHeartbeats 4000000 in
theorem tX0_end {l : Launch} {D : va_G} {ct : Nat → ClassId} {tF : Nat} {wOf : Mm → va_W} {po ad : Nat → Nat} (hw : KF wOf po ad ct) (M : Mm) {v1 : Int32} {v2 : Int32} {r : Int32} (h : fX0_end (M.1 2) (M.1 3) v1 v2 = some r) : CtI l yX0_end cX0_end 3 .int { frames := 1, cells := 0, slots := 0, locals := 22 } D ct tF wOf [.ref (ad 1), .int v1, .int v2] M r M := by
  refine metI (by decide) (Nat.le_of_ble_eq_true rfl) fun κ X e1 eR e3 e4 hs => ?_
  subst e1; subst e3; subst e4
  unfold fX0_end at h
  refine z_sub (lv' := [(0, .ref (ad 1)), (1, .int v1), (2, .int v2)]) [0, 1, 2] rfl ?_
  refine z_iload_n X dX0_end_0 2 rfl rfl ?_
  refine z_aload_n X dX0_end_1 0 rfl rfl ?_
  refine z_iload_n X dX0_end_2 1 rfl rfl ?_
  refine z_iload_n X dX0_end_3 2 rfl rfl ?_
  obtain ⟨r1, hr1, h⟩ := ob h
  refine z_cVI (As := [.int v1, .int v2]) (st := [.int v2]) X (tX0_rightSize hw M hr1) w_70 mvX0_rightSize (by rw [eR]; exact ⟨Nat.le_of_ble_eq_true rfl, Nat.le_of_ble_eq_true rfl⟩) ⟨rfl, rfl⟩ rfl (Nat.le_of_ble_eq_true rfl) (hw.1 _) rfl rfl dX0_end_4 ?_
  refine z_iadd X dX0_end_7 ?_
  have hq := Option.some.inj h
  subst hq
  exact z_iret hs dX0_end_8 rfl
set_option maxHeartbeats 4000000 in
theorem bX0_leftSize_B7 {κ : Rx} {ct : Nat → ClassId} {tF : Nat} {po ad : Nat → Nat} (X : CX κ ct tF cX0_leftSize 5 RX0) (eR : kR κ = { frames := 2, cells := 0, slots := 0, locals := 44 }) (hw : KF (kw κ) po ad ct) (M : Mm)  (v1 : Int32) (v2 : Int32) : ∀ (x : (Int32 × Int32)) (s : (Int32 × Int32) ⊕ Int32), fX0_leftSize_B7 (M.1 2) (M.1 3) v1 v2 x = some s → Sum.elim (fun x => Zj κ 5 7 [(0, .ref (ad 1)), (1, .int v1), (2, .int v2), (3, .int x.1), (4, .int x.2)] [] M) (fun y => Zj κ 5 32 [(3, .int y)] [] M) s → Zj κ 5 7 [(0, .ref (ad 1)), (1, .int v1), (2, .int v2), (3, .int x.1), (4, .int x.2)] [] M := by
  intro x s h hs
  unfold fX0_leftSize_B7 at h
  refine z_iload X dX0_leftSize_7 4 rfl ?_
  refine z_if_lt (tgt := 32) X dX0_leftSize_9 (by decide) (fun c9 => ?_) (fun c9 => ?_)
  · rw [if_pos c9] at h
    have hq := Option.some.inj h
    subst hq
    exact z_sub [3] rfl hs
  · rw [if_neg c9] at h
    refine z_aload_n X dX0_leftSize_12 0 rfl rfl ?_
    refine z_iload_n X dX0_leftSize_13 1 rfl rfl ?_
    refine z_iload X dX0_leftSize_14 4 rfl ?_
    obtain ⟨r1, hr1, h⟩ := ob h
    refine z_cVI (As := [.int v1, .int x.2]) (st := []) X (tX0_end hw M hr1) w_74 mvX0_end (by rw [eR]; exact ⟨Nat.le_of_ble_eq_true rfl, Nat.le_of_ble_eq_true rfl⟩) ⟨rfl, rfl⟩ rfl (Nat.le_of_ble_eq_true rfl) (hw.1 _) rfl rfl dX0_leftSize_16 ?_
    refine z_iload_n X dX0_leftSize_19 2 rfl rfl ?_
    refine z_icmp_ge (tgt := 32) X dX0_leftSize_20 (by decide) (fun c20 => ?_) (fun c20 => ?_)
    · rw [if_pos c20] at h
      have hq := Option.some.inj h
      subst hq
      exact z_sub [3] rfl hs
    · rw [if_neg c20] at h
      refine z_iinc (v := (x.1 + nI 1)) (lv' := [(3, .int (x.1 + nI 1)), (0, .ref (ad 1)), (1, .int v1), (2, .int v2), (4, .int x.2)]) X dX0_leftSize_23 3 rfl rfl (by decide) rfl ?_
      refine z_iinc (v := (x.2 + (-1))) (lv' := [(4, .int (x.2 + (-1))), (3, .int (x.1 + nI 1)), (0, .ref (ad 1)), (1, .int v1), (2, .int v2)]) X dX0_leftSize_26 4 rfl rfl (by decide) rfl ?_
      refine z_goto (tgt := 7) X dX0_leftSize_29 (by decide) ?_
      have hq := Option.some.inj h
      subst hq
      exact z_sub [2, 3, 4, 1, 0] rfl hs
set_option maxHeartbeats 4000000 in
theorem tX0_leftSize {l : Launch} {D : va_G} {ct : Nat → ClassId} {tF : Nat} {wOf : Mm → va_W} {po ad : Nat → Nat} (hw : KF wOf po ad ct) (M : Mm) {v1 : Int32} {v2 : Int32} {r : Int32} (h : fX0_leftSize (M.1 2) (M.1 3) v1 v2 = some r) : CtI l yX0_leftSize cX0_leftSize 5 .int { frames := 2, cells := 0, slots := 0, locals := 44 } D ct tF wOf [.ref (ad 1), .int v1, .int v2] M r M := by
  refine metI (by decide) (Nat.le_of_ble_eq_true rfl) fun κ X e1 eR e3 e4 hs => ?_
  subst e1; subst e3; subst e4
  unfold fX0_leftSize at h
  refine z_sub (lv' := [(0, .ref (ad 1)), (1, .int v1), (2, .int v2)]) [0, 1, 2] rfl ?_
  refine z_iconst (v := (nI 0)) X dX0_leftSize_0 (by decide) ?_
  refine z_istore_n (lv' := [(3, .int (nI 0)), (0, .ref (ad 1)), (1, .int v1), (2, .int v2)]) X dX0_leftSize_1 rfl (by decide) rfl ?_
  refine z_iload_n X dX0_leftSize_2 3 rfl rfl ?_
  refine z_iconst (v := (nI 1)) X dX0_leftSize_3 (by decide) ?_
  refine z_isub X dX0_leftSize_4 ?_
  refine z_istore (lv' := [(4, .int (v2 - (nI 1))), (3, .int (nI 0)), (0, .ref (ad 1)), (1, .int v1), (2, .int v2)]) X dX0_leftSize_5 (by decide) rfl ?_
  refine z_sub [2, 3, 4, 1, 0] rfl ?_
  obtain ⟨y1, hy1, h⟩ := ob h
  refine (it_Z (bX0_leftSize_B7 X eR hw M v1 v2) FU _ y1 hy1) ?_
  refine z_iload_n X dX0_leftSize_32 0 rfl rfl ?_
  have hq := Option.some.inj h
  subst hq
  exact z_iret hs dX0_leftSize_33 rfl
set_option maxHeartbeats 4000000 in
theorem jX0_depth_J49 {κ : Rx} {ct : Nat → ClassId} {tF : Nat} {po ad : Nat → Nat} (X : CX κ ct tF cX0_depth 5 RX0) (eR : kR κ = { frames := 3, cells := 0, slots := 0, locals := 68 }) (hw : KF (kw κ) po ad ct) (M : Mm)   (v1 : Int32) (v2 : Int32) (v3 : Int32) (v4 : Int32)  (s : ((Int32 × Int32) ⊕ Int32)) (h : fX0_depth_J49 (M.1 2) (M.1 3) v1 v2 v3 v4 = some s) (hs : (Sum.elim (fun x => Zj κ 5 5 [(0, .ref (ad 1)), (1, .int v1), (2, .int v2), (3, .int x.1), (4, .int x.2)] [] M) (fun y => Zj κ 5 55 [(3, .int y)] [] M) s)) : Zj κ 5 49 [(0, .ref (ad 1)), (1, .int v1), (2, .int v2), (3, .int v3), (4, .int v4)] [] M := by
  unfold fX0_depth_J49 at h
  refine z_iinc (v := (v4 + nI 1)) (lv' := [(4, .int (v4 + nI 1)), (0, .ref (ad 1)), (1, .int v1), (2, .int v2), (3, .int v3)]) X dX0_depth_49 4 rfl rfl (by decide) rfl ?_
  refine z_goto (tgt := 5) X dX0_depth_52 (by decide) ?_
  have hq := Option.some.inj h
  subst hq
  exact z_sub [1, 2, 3, 4, 0] rfl hs
set_option maxHeartbeats 4000000 in
theorem bX0_depth_B5 {κ : Rx} {ct : Nat → ClassId} {tF : Nat} {po ad : Nat → Nat} (X : CX κ ct tF cX0_depth 5 RX0) (eR : kR κ = { frames := 3, cells := 0, slots := 0, locals := 68 }) (hw : KF (kw κ) po ad ct) (M : Mm)  (v1 : Int32) (v2 : Int32) : ∀ (x : (Int32 × Int32)) (s : (Int32 × Int32) ⊕ Int32), fX0_depth_B5 (M.1 2) (M.1 3) v1 v2 x = some s → Sum.elim (fun x => Zj κ 5 5 [(0, .ref (ad 1)), (1, .int v1), (2, .int v2), (3, .int x.1), (4, .int x.2)] [] M) (fun y => Zj κ 5 55 [(3, .int y)] [] M) s → Zj κ 5 5 [(0, .ref (ad 1)), (1, .int v1), (2, .int v2), (3, .int x.1), (4, .int x.2)] [] M := by
  intro x s h hs
  unfold fX0_depth_B5 at h
  refine z_iload X dX0_depth_5 4 rfl ?_
  refine z_aload_n X dX0_depth_7 0 rfl rfl ?_
  refine z_iload_n X dX0_depth_8 1 rfl rfl ?_
  obtain ⟨r1, hr1, h⟩ := ob h
  refine z_cVI (As := [.int v1]) (st := [.int x.2]) X (tX0_sizeOf hw M hr1) w_53 mvX0_sizeOf (by rw [eR]; exact ⟨Nat.le_of_ble_eq_true rfl, Nat.le_of_ble_eq_true rfl⟩) ⟨rfl, rfl⟩ rfl (Nat.le_of_ble_eq_true rfl) (hw.1 _) rfl rfl dX0_depth_9 ?_
  refine z_icmp_ge (tgt := 55) X dX0_depth_12 (by decide) (fun c12 => ?_) (fun c12 => ?_)
  · rw [if_pos c12] at h
    have hq := Option.some.inj h
    subst hq
    exact z_sub [3] rfl hs
  · rw [if_neg c12] at h
    refine z_iload X dX0_depth_15 4 rfl ?_
    refine z_iload_n X dX0_depth_17 2 rfl rfl ?_
    refine z_icmp_eq (tgt := 49) X dX0_depth_18 (by decide) (fun c18 => ?_) (fun c18 => ?_)
    · rw [if_pos c18] at h
      exact (jX0_depth_J49 X eR hw M v1 v2 x.1 x.2 _ h hs)
    · rw [if_neg c18] at h
      refine z_iload X dX0_depth_21 4 rfl ?_
      refine z_aload_n X dX0_depth_23 0 rfl rfl ?_
      refine z_iload_n X dX0_depth_24 1 rfl rfl ?_
      refine z_iload X dX0_depth_25 4 rfl ?_
      obtain ⟨r2, hr2, h⟩ := ob h
      refine z_cVI (As := [.int v1, .int x.2]) (st := [.int x.2]) X (tX0_leftSize hw M hr2) w_78 mvX0_leftSize (by rw [eR]; exact ⟨Nat.le_of_ble_eq_true rfl, Nat.le_of_ble_eq_true rfl⟩) ⟨rfl, rfl⟩ rfl (Nat.le_of_ble_eq_true rfl) (hw.1 _) rfl rfl dX0_depth_27 ?_
      refine z_isub X dX0_depth_30 ?_
      refine z_iload_n X dX0_depth_31 2 rfl rfl ?_
      refine z_icmp_gt (tgt := 49) X dX0_depth_32 (by decide) (fun c32 => ?_) (fun c32 => ?_)
      · rw [if_pos c32] at h
        exact (jX0_depth_J49 X eR hw M v1 v2 x.1 x.2 _ h hs)
      · rw [if_neg c32] at h
        refine z_iload_n X dX0_depth_35 2 rfl rfl ?_
        refine z_aload_n X dX0_depth_36 0 rfl rfl ?_
        refine z_iload_n X dX0_depth_37 1 rfl rfl ?_
        refine z_iload X dX0_depth_38 4 rfl ?_
        obtain ⟨r3, hr3, h⟩ := ob h
        refine z_cVI (As := [.int v1, .int x.2]) (st := [.int v2]) X (tX0_end hw M hr3) w_74 mvX0_end (by rw [eR]; exact ⟨Nat.le_of_ble_eq_true rfl, Nat.le_of_ble_eq_true rfl⟩) ⟨rfl, rfl⟩ rfl (Nat.le_of_ble_eq_true rfl) (hw.1 _) rfl rfl dX0_depth_40 ?_
        refine z_icmp_gt (tgt := 49) X dX0_depth_43 (by decide) (fun c43 => ?_) (fun c43 => ?_)
        · rw [if_pos c43] at h
          exact (jX0_depth_J49 X eR hw M v1 v2 x.1 x.2 _ h hs)
        · rw [if_neg c43] at h
          refine z_iinc (v := (x.1 + nI 1)) (lv' := [(3, .int (x.1 + nI 1)), (0, .ref (ad 1)), (1, .int v1), (2, .int v2), (4, .int x.2)]) X dX0_depth_46 3 rfl rfl (by decide) rfl ?_
          exact z_sub [1, 2, 3, 0, 4] rfl (jX0_depth_J49 X eR hw M v1 v2 (x.1 + nI 1) x.2 _ h hs)
set_option maxHeartbeats 4000000 in
theorem tX0_depth {l : Launch} {D : va_G} {ct : Nat → ClassId} {tF : Nat} {wOf : Mm → va_W} {po ad : Nat → Nat} (hw : KF wOf po ad ct) (M : Mm) {v1 : Int32} {v2 : Int32} {r : Int32} (h : fX0_depth (M.1 2) (M.1 3) v1 v2 = some r) : CtI l yX0_depth cX0_depth 5 .int { frames := 3, cells := 0, slots := 0, locals := 68 } D ct tF wOf [.ref (ad 1), .int v1, .int v2] M r M := by
  refine metI (by decide) (Nat.le_of_ble_eq_true rfl) fun κ X e1 eR e3 e4 hs => ?_
  subst e1; subst e3; subst e4
  unfold fX0_depth at h
  refine z_sub (lv' := [(0, .ref (ad 1)), (1, .int v1), (2, .int v2)]) [0, 1, 2] rfl ?_
  refine z_iconst (v := (nI 0)) X dX0_depth_0 (by decide) ?_
  refine z_istore_n (lv' := [(3, .int (nI 0)), (0, .ref (ad 1)), (1, .int v1), (2, .int v2)]) X dX0_depth_1 rfl (by decide) rfl ?_
  refine z_iconst (v := (nI 0)) X dX0_depth_2 (by decide) ?_
  refine z_istore (lv' := [(4, .int (nI 0)), (3, .int (nI 0)), (0, .ref (ad 1)), (1, .int v1), (2, .int v2)]) X dX0_depth_3 (by decide) rfl ?_
  refine z_sub [2, 3, 4, 1, 0] rfl ?_
  obtain ⟨y1, hy1, h⟩ := ob h
  refine (it_Z (bX0_depth_B5 X eR hw M v1 v2) FU _ y1 hy1) ?_
  refine z_iload_n X dX0_depth_55 0 rfl rfl ?_
  have hq := Option.some.inj h
  subst hq
  exact z_iret hs dX0_depth_56 rfl
set_option maxHeartbeats 4000000 in
theorem bX0_top_B3 {κ : Rx} {ct : Nat → ClassId} {tF : Nat} {po ad : Nat → Nat} (X : CX κ ct tF cX0_top 5 RX0) (eR : kR κ = { frames := 2, cells := 0, slots := 0, locals := 44 }) (hw : KF (kw κ) po ad ct) (M : Mm)  (v1 : Int32) (v3 : Int32) : ∀ (x : Int32) (s : Int32 ⊕ (Unit ⊕ Int32)), fX0_top_B3 (M.1 2) (M.1 3) v1 v3 x = some s → Sum.elim (fun x => Zj κ 5 3 [(0, .ref (ad 1)), (1, .int v1), (3, .int v3), (4, .int x)] [] M) (Sum.elim (fun y => Zj κ 5 29 [] [] M) (fun r => ZI κ cX0_top .int r M)) s → Zj κ 5 3 [(0, .ref (ad 1)), (1, .int v1), (3, .int v3), (4, .int x)] [] M := by
  intro x s h hs
  unfold fX0_top_B3 at h
  refine z_iload X dX0_top_3 3 rfl ?_
  refine z_iload_n X dX0_top_5 2 rfl rfl ?_
  refine z_icmp_gt (tgt := 29) X dX0_top_6 (by decide) (fun c6 => ?_) (fun c6 => ?_)
  · rw [if_pos c6] at h
    have hq := Option.some.inj h
    subst hq
    exact z_sub [] rfl hs
  · rw [if_neg c6] at h
    refine z_aload_n X dX0_top_9 0 rfl rfl ?_
    refine z_iload_n X dX0_top_10 1 rfl rfl ?_
    refine z_iload X dX0_top_11 3 rfl ?_
    obtain ⟨r1, hr1, h⟩ := ob h
    refine z_cVI (As := [.int v1, .int x]) (st := []) X (tX0_end hw M hr1) w_74 mvX0_end (by rw [eR]; exact ⟨Nat.le_of_ble_eq_true rfl, Nat.le_of_ble_eq_true rfl⟩) ⟨rfl, rfl⟩ rfl (Nat.le_of_ble_eq_true rfl) (hw.1 _) rfl rfl dX0_top_13 ?_
    refine z_iload_n X dX0_top_16 2 rfl rfl ?_
    refine z_icmp_ne (tgt := 23) X dX0_top_17 (by decide) (fun c17 => ?_) (fun c17 => ?_)
    · rw [if_neg c17] at h
      refine z_iinc (v := (x + nI 1)) (lv' := [(4, .int (x + nI 1)), (0, .ref (ad 1)), (1, .int v1), (3, .int v3)]) X dX0_top_23 3 rfl rfl (by decide) rfl ?_
      refine z_goto (tgt := 3) X dX0_top_26 (by decide) ?_
      have hq := Option.some.inj h
      subst hq
      exact z_sub [1, 2, 3, 0] rfl hs
    · rw [if_pos c17] at h
      refine z_iload X dX0_top_20 3 rfl ?_
      have hq := Option.some.inj h
      subst hq
      exact z_iret hs dX0_top_22 rfl
set_option maxHeartbeats 4000000 in
theorem tX0_top {l : Launch} {D : va_G} {ct : Nat → ClassId} {tF : Nat} {wOf : Mm → va_W} {po ad : Nat → Nat} (hw : KF wOf po ad ct) (M : Mm) {v1 : Int32} {v2 : Int32} {v3 : Int32} {r : Int32} (h : fX0_top (M.1 2) (M.1 3) v1 v2 v3 = some r) : CtI l yX0_top cX0_top 5 .int { frames := 2, cells := 0, slots := 0, locals := 44 } D ct tF wOf [.ref (ad 1), .int v1, .int v2, .int v3] M r M := by
  refine metI (by decide) (Nat.le_of_ble_eq_true rfl) fun κ X e1 eR e3 e4 hs => ?_
  subst e1; subst e3; subst e4
  unfold fX0_top at h
  refine z_sub (lv' := [(0, .ref (ad 1)), (1, .int v1), (2, .int v2), (3, .int v3)]) [0, 1, 2, 3] rfl ?_
  refine z_iload_n X dX0_top_0 2 rfl rfl ?_
  refine z_istore (lv' := [(4, .int v2), (0, .ref (ad 1)), (1, .int v1), (2, .int v2), (3, .int v3)]) X dX0_top_1 (by decide) rfl ?_
  refine z_sub [1, 2, 4, 0] rfl ?_
  obtain ⟨y1_, hy1, h⟩ := ob h
  cases y1_ with
  | inl y1 =>
    rw [Sum.elim_inl] at h
    refine (it_Z (bX0_top_B3 X eR hw M v1 v3) FU _ (.inl y1) hy1) ?_
    refine z_bipush (v := (-5 : Int32)) X dX0_top_29 (by decide) ?_
    have hq := Option.some.inj h
    subst hq
    exact z_iret hs dX0_top_31 rfl
  | inr y1 =>
    rw [Sum.elim_inr] at h
    have hq := Option.some.inj h
    subst hq
    exact (it_Z (bX0_top_B3 X eR hw M v1 v3) FU _ (.inr _) hy1) hs
set_option maxHeartbeats 4000000 in
theorem tX0_rightChild {l : Launch} {D : va_G} {ct : Nat → ClassId} {tF : Nat} {wOf : Mm → va_W} {po ad : Nat → Nat} (hw : KF wOf po ad ct) (M : Mm) {v1 : Int32} {v2 : Int32} {r : Int32} (h : fX0_rightChild (M.1 2) (M.1 3) v1 v2 = some r) : CtI l yX0_rightChild cX0_rightChild 3 .int { frames := 3, cells := 0, slots := 0, locals := 68 } D ct tF wOf [.ref (ad 1), .int v1, .int v2] M r M := by
  refine metI (by decide) (Nat.le_of_ble_eq_true rfl) fun κ X e1 eR e3 e4 hs => ?_
  subst e1; subst e3; subst e4
  unfold fX0_rightChild at h
  refine z_sub (lv' := [(0, .ref (ad 1)), (1, .int v1), (2, .int v2)]) [0, 1, 2] rfl ?_
  refine z_aload_n X dX0_rightChild_0 0 rfl rfl ?_
  refine z_iload_n X dX0_rightChild_1 1 rfl rfl ?_
  refine z_iload_n X dX0_rightChild_2 2 rfl rfl ?_
  refine z_iconst (v := (nI 1)) X dX0_rightChild_3 (by decide) ?_
  refine z_iadd X dX0_rightChild_4 ?_
  refine z_aload_n X dX0_rightChild_5 0 rfl rfl ?_
  refine z_iload_n X dX0_rightChild_6 1 rfl rfl ?_
  refine z_iload_n X dX0_rightChild_7 2 rfl rfl ?_
  obtain ⟨r1, hr1, h⟩ := ob h
  refine z_cVI (As := [.int v1, .int v2]) (st := [.int (v2 + (nI 1)), .int v1, .ref (ad 1)]) X (tX0_end hw M hr1) w_74 mvX0_end (by rw [eR]; exact ⟨Nat.le_of_ble_eq_true rfl, Nat.le_of_ble_eq_true rfl⟩) ⟨rfl, rfl⟩ rfl (Nat.le_of_ble_eq_true rfl) (hw.1 _) rfl rfl dX0_rightChild_8 ?_
  obtain ⟨r2, hr2, h⟩ := ob h
  refine z_cVI (As := [.int v1, .int (v2 + (nI 1)), .int r1]) (st := []) X (tX0_top hw M hr2) w_82 mvX0_top (by rw [eR]; exact ⟨Nat.le_of_ble_eq_true rfl, Nat.le_of_ble_eq_true rfl⟩) ⟨rfl, rfl⟩ rfl (Nat.le_of_ble_eq_true rfl) (hw.1 _) rfl rfl dX0_rightChild_11 ?_
  have hq := Option.some.inj h
  subst hq
  exact z_iret hs dX0_rightChild_14 rfl
set_option maxHeartbeats 4000000 in
theorem tX0_leftChild {l : Launch} {D : va_G} {ct : Nat → ClassId} {tF : Nat} {wOf : Mm → va_W} {po ad : Nat → Nat} (hw : KF wOf po ad ct) (M : Mm) {v1 : Int32} {v2 : Int32} {r : Int32} (h : fX0_leftChild (M.1 2) (M.1 3) v1 v2 = some r) : CtI l yX0_leftChild cX0_leftChild 3 .int { frames := 3, cells := 0, slots := 0, locals := 68 } D ct tF wOf [.ref (ad 1), .int v1, .int v2] M r M := by
  refine metI (by decide) (Nat.le_of_ble_eq_true rfl) fun κ X e1 eR e3 e4 hs => ?_
  subst e1; subst e3; subst e4
  unfold fX0_leftChild at h
  refine z_sub (lv' := [(0, .ref (ad 1)), (1, .int v1), (2, .int v2)]) [0, 1, 2] rfl ?_
  refine z_aload_n X dX0_leftChild_0 0 rfl rfl ?_
  refine z_iload_n X dX0_leftChild_1 1 rfl rfl ?_
  refine z_iload_n X dX0_leftChild_2 2 rfl rfl ?_
  refine z_aload_n X dX0_leftChild_3 0 rfl rfl ?_
  refine z_iload_n X dX0_leftChild_4 1 rfl rfl ?_
  refine z_iload_n X dX0_leftChild_5 2 rfl rfl ?_
  obtain ⟨r1, hr1, h⟩ := ob h
  refine z_cVI (As := [.int v1, .int v2]) (st := [.int v2, .int v1, .ref (ad 1)]) X (tX0_leftSize hw M hr1) w_78 mvX0_leftSize (by rw [eR]; exact ⟨Nat.le_of_ble_eq_true rfl, Nat.le_of_ble_eq_true rfl⟩) ⟨rfl, rfl⟩ rfl (Nat.le_of_ble_eq_true rfl) (hw.1 _) rfl rfl dX0_leftChild_6 ?_
  refine z_isub X dX0_leftChild_9 ?_
  refine z_iload_n X dX0_leftChild_10 2 rfl rfl ?_
  refine z_iconst (v := (nI 1)) X dX0_leftChild_11 (by decide) ?_
  refine z_isub X dX0_leftChild_12 ?_
  obtain ⟨r2, hr2, h⟩ := ob h
  refine z_cVI (As := [.int v1, .int (v2 - r1), .int (v2 - (nI 1))]) (st := []) X (tX0_top hw M hr2) w_82 mvX0_top (by rw [eR]; exact ⟨Nat.le_of_ble_eq_true rfl, Nat.le_of_ble_eq_true rfl⟩) ⟨rfl, rfl⟩ rfl (Nat.le_of_ble_eq_true rfl) (hw.1 _) rfl rfl dX0_leftChild_13 ?_
  have hq := Option.some.inj h
  subst hq
  exact z_iret hs dX0_leftChild_16 rfl
set_option maxHeartbeats 4000000 in
theorem jX0_parent_J38 {κ : Rx} {ct : Nat → ClassId} {tF : Nat} {po ad : Nat → Nat} (X : CX κ ct tF cX0_parent 5 RX0) (eR : kR κ = { frames := 3, cells := 0, slots := 0, locals := 68 }) (hw : KF (kw κ) po ad ct) (M : Mm)   (v1 : Int32) (v3 : Int32)  (s : Int32) (h : fX0_parent_J38 (M.1 2) (M.1 3) v1 v3 = some s) (hs : (ZI κ cX0_parent .int s M)) : Zj κ 5 38 [(0, .ref (ad 1)), (1, .int v1), (3, .int v3)] [] M := by
  unfold fX0_parent_J38 at h
  refine z_iload_n X dX0_parent_38 2 rfl rfl ?_
  refine z_iconst (v := (nI 1)) X dX0_parent_39 (by decide) ?_
  refine z_iadd X dX0_parent_40 ?_
  refine z_aload_n X dX0_parent_41 0 rfl rfl ?_
  refine z_iload_n X dX0_parent_42 1 rfl rfl ?_
  obtain ⟨r1, hr1, h⟩ := ob h
  refine z_cVI (As := [.int v1]) (st := [.int (v3 + (nI 1))]) X (tX0_sizeOf hw M hr1) w_53 mvX0_sizeOf (by rw [eR]; exact ⟨Nat.le_of_ble_eq_true rfl, Nat.le_of_ble_eq_true rfl⟩) ⟨rfl, rfl⟩ rfl (Nat.le_of_ble_eq_true rfl) (hw.1 _) rfl rfl dX0_parent_43 ?_
  refine z_icmp_ge (tgt := 55) X dX0_parent_46 (by decide) (fun c46 => ?_) (fun c46 => ?_)
  · rw [if_pos c46] at h
    refine z_bipush (v := (-5 : Int32)) X dX0_parent_55 (by decide) ?_
    have hq := Option.some.inj h
    subst hq
    exact z_iret hs dX0_parent_57 rfl
  · rw [if_neg c46] at h
    refine z_iload_n X dX0_parent_49 2 rfl rfl ?_
    refine z_iconst (v := (nI 1)) X dX0_parent_50 (by decide) ?_
    refine z_iadd X dX0_parent_51 ?_
    refine z_goto (tgt := 57) X dX0_parent_52 (by decide) ?_
    have hq := Option.some.inj h
    subst hq
    exact z_iret hs dX0_parent_57 rfl
set_option maxHeartbeats 4000000 in
theorem tX0_parent {l : Launch} {D : va_G} {ct : Nat → ClassId} {tF : Nat} {wOf : Mm → va_W} {po ad : Nat → Nat} (hw : KF wOf po ad ct) (M : Mm) {v1 : Int32} {v2 : Int32} {r : Int32} (h : fX0_parent (M.1 2) (M.1 3) v1 v2 = some r) : CtI l yX0_parent cX0_parent 5 .int { frames := 3, cells := 0, slots := 0, locals := 68 } D ct tF wOf [.ref (ad 1), .int v1, .int v2] M r M := by
  refine metI (by decide) (Nat.le_of_ble_eq_true rfl) fun κ X e1 eR e3 e4 hs => ?_
  subst e1; subst e3; subst e4
  unfold fX0_parent at h
  refine z_sub (lv' := [(0, .ref (ad 1)), (1, .int v1), (2, .int v2)]) [0, 1, 2] rfl ?_
  refine z_aload_n X dX0_parent_0 0 rfl rfl ?_
  refine z_iload_n X dX0_parent_1 1 rfl rfl ?_
  refine z_iload_n X dX0_parent_2 2 rfl rfl ?_
  obtain ⟨r1, hr1, h⟩ := ob h
  refine z_cVI (As := [.int v1, .int v2]) (st := []) X (tX0_end hw M hr1) w_74 mvX0_end (by rw [eR]; exact ⟨Nat.le_of_ble_eq_true rfl, Nat.le_of_ble_eq_true rfl⟩) ⟨rfl, rfl⟩ rfl (Nat.le_of_ble_eq_true rfl) (hw.1 _) rfl rfl dX0_parent_3 ?_
  refine z_istore_n (lv' := [(3, .int r1), (0, .ref (ad 1)), (1, .int v1), (2, .int v2)]) X dX0_parent_6 rfl (by decide) rfl ?_
  refine z_iload_n X dX0_parent_7 3 rfl rfl ?_
  refine z_aload_n X dX0_parent_8 1 rfl rfl ?_
  refine z_iload_n X dX0_parent_9 2 rfl rfl ?_
  refine z_iload_n X dX0_parent_10 3 rfl rfl ?_
  obtain ⟨r2, hr2, h⟩ := ob h
  refine z_cVI (As := [.int v1, .int v2]) (st := [.int v2]) X (tX0_leftSize hw M hr2) w_78 mvX0_leftSize (by rw [eR]; exact ⟨Nat.le_of_ble_eq_true rfl, Nat.le_of_ble_eq_true rfl⟩) ⟨rfl, rfl⟩ rfl (Nat.le_of_ble_eq_true rfl) (hw.1 _) rfl rfl dX0_parent_11 ?_
  refine z_isub X dX0_parent_14 ?_
  refine z_iconst (v := (nI 1)) X dX0_parent_15 (by decide) ?_
  refine z_isub X dX0_parent_16 ?_
  refine z_istore (lv' := [(4, .int ((v2 - r2) - (nI 1))), (3, .int r1), (0, .ref (ad 1)), (1, .int v1), (2, .int v2)]) X dX0_parent_17 (by decide) rfl ?_
  refine z_iload X dX0_parent_19 0 rfl ?_
  refine z_if_lt (tgt := 38) X dX0_parent_21 (by decide) (fun c21 => ?_) (fun c21 => ?_)
  · rw [if_pos c21] at h
    exact z_sub [2, 3, 1] rfl (jX0_parent_J38 X eR hw M v1 r1 _ h hs)
  · rw [if_neg c21] at h
    refine z_aload_n X dX0_parent_24 2 rfl rfl ?_
    refine z_iload_n X dX0_parent_25 3 rfl rfl ?_
    refine z_iload X dX0_parent_26 0 rfl ?_
    obtain ⟨r3, hr3, h⟩ := ob h
    refine z_cVI (As := [.int v1, .int ((v2 - r2) - (nI 1))]) (st := []) X (tX0_end hw M hr3) w_74 mvX0_end (by rw [eR]; exact ⟨Nat.le_of_ble_eq_true rfl, Nat.le_of_ble_eq_true rfl⟩) ⟨rfl, rfl⟩ rfl (Nat.le_of_ble_eq_true rfl) (hw.1 _) rfl rfl dX0_parent_28 ?_
    refine z_iload_n X dX0_parent_31 1 rfl rfl ?_
    refine z_icmp_ne (tgt := 38) X dX0_parent_32 (by decide) (fun c32 => ?_) (fun c32 => ?_)
    · rw [if_neg c32] at h
      exact z_sub [2, 3, 1] rfl (jX0_parent_J38 X eR hw M v1 r1 _ h hs)
    · rw [if_pos c32] at h
      refine z_iload X dX0_parent_35 0 rfl ?_
      have hq := Option.some.inj h
      subst hq
      exact z_iret hs dX0_parent_37 rfl
set_option maxHeartbeats 4000000 in
theorem tX0_howMany {l : Launch} {D : va_G} {ct : Nat → ClassId} {tF : Nat} {wOf : Mm → va_W} {po ad : Nat → Nat} (hw : KF wOf po ad ct) (M : Mm) {v1 : Int32} {r : Int32} (h : fX0_howMany v1 = some r) : CtI l yX0_howMany cX0_howMany 2 .int { frames := 2, cells := 0, slots := 0, locals := 41 } D ct tF wOf [.ref (ad 1), .int v1] M r M := by
  refine metI (by decide) (Nat.le_of_ble_eq_true rfl) fun κ X e1 eR e3 e4 hs => ?_
  subst e1; subst e3; subst e4
  unfold fX0_howMany at h
  refine z_sub (lv' := [(0, .ref (ad 1)), (1, .int v1)]) [0, 1] rfl ?_
  refine z_aload_n X dX0_howMany_0 0 rfl rfl ?_
  refine z_iload_n X dX0_howMany_1 1 rfl rfl ?_
  obtain ⟨r1, hr1, h⟩ := ob h
  refine z_cVI (As := [.int v1]) (st := []) X (tX0_lastOf hw M hr1) w_34 mvX0_lastOf (by rw [eR]; exact ⟨Nat.le_of_ble_eq_true rfl, Nat.le_of_ble_eq_true rfl⟩) ⟨rfl, rfl⟩ rfl (Nat.le_of_ble_eq_true rfl) (hw.1 _) rfl rfl dX0_howMany_2 ?_
  refine z_aload_n X dX0_howMany_5 0 rfl rfl ?_
  refine z_iload_n X dX0_howMany_6 1 rfl rfl ?_
  obtain ⟨r2, hr2, h⟩ := ob h
  refine z_cVI (As := [.int v1]) (st := [.int r1]) X (tX0_firstOf hw M hr2) w_38 mvX0_firstOf (by rw [eR]; exact ⟨Nat.le_of_ble_eq_true rfl, Nat.le_of_ble_eq_true rfl⟩) ⟨rfl, rfl⟩ rfl (Nat.le_of_ble_eq_true rfl) (hw.1 _) rfl rfl dX0_howMany_7 ?_
  refine z_isub X dX0_howMany_10 ?_
  refine z_iconst (v := (nI 1)) X dX0_howMany_11 (by decide) ?_
  refine z_iadd X dX0_howMany_12 ?_
  have hq := Option.some.inj h
  subst hq
  exact z_iret hs dX0_howMany_13 rfl
set_option maxHeartbeats 4000000 in
theorem bX0_asDigits_B4 {κ : Rx} {ct : Nat → ClassId} {tF : Nat} {po ad : Nat → Nat} (X : CX κ ct tF cX0_asDigits 4 RX0) (eR : kR κ = { frames := 1, cells := 0, slots := 0, locals := 22 }) (hw : KF (kw κ) po ad ct) (M : Mm)  (v1 : Int32) : ∀ (x : (Int32 × Int32)) (s : (Int32 × Int32) ⊕ Int32), fX0_asDigits_B4 (M.1 2) (M.1 3) v1 x = some s → Sum.elim (fun x => Zj κ 4 4 [(0, .ref (ad 1)), (1, .int v1), (2, .int x.1), (3, .int x.2)] [] M) (fun y => Zj κ 4 31 [(2, .int y)] [] M) s → Zj κ 4 4 [(0, .ref (ad 1)), (1, .int v1), (2, .int x.1), (3, .int x.2)] [] M := by
  intro x s h hs
  unfold fX0_asDigits_B4 at h
  refine z_iload_n X dX0_asDigits_4 3 rfl rfl ?_
  refine z_aload_n X dX0_asDigits_5 0 rfl rfl ?_
  refine z_iload_n X dX0_asDigits_6 1 rfl rfl ?_
  obtain ⟨r1, hr1, h⟩ := ob h
  refine z_cVI (As := [.int v1]) (st := [.int x.2]) X (tX0_sizeOf hw M hr1) w_53 mvX0_sizeOf (by rw [eR]; exact ⟨Nat.le_of_ble_eq_true rfl, Nat.le_of_ble_eq_true rfl⟩) ⟨rfl, rfl⟩ rfl (Nat.le_of_ble_eq_true rfl) (hw.1 _) rfl rfl dX0_asDigits_7 ?_
  refine z_icmp_ge (tgt := 31) X dX0_asDigits_10 (by decide) (fun c10 => ?_) (fun c10 => ?_)
  · rw [if_pos c10] at h
    have hq := Option.some.inj h
    subst hq
    exact z_sub [2] rfl hs
  · rw [if_neg c10] at h
    refine z_iload_n X dX0_asDigits_13 2 rfl rfl ?_
    refine z_bipush (v := (nI 10)) X dX0_asDigits_14 (by decide) ?_
    refine z_imul X dX0_asDigits_16 ?_
    refine z_aload_n X dX0_asDigits_17 0 rfl rfl ?_
    refine z_iload_n X dX0_asDigits_18 1 rfl rfl ?_
    refine z_iload_n X dX0_asDigits_19 3 rfl rfl ?_
    obtain ⟨r2, hr2, h⟩ := ob h
    refine z_cVI (As := [.int v1, .int x.2]) (st := [.int (x.1 * (nI 10))]) X (tX0_rightSize hw M hr2) w_70 mvX0_rightSize (by rw [eR]; exact ⟨Nat.le_of_ble_eq_true rfl, Nat.le_of_ble_eq_true rfl⟩) ⟨rfl, rfl⟩ rfl (Nat.le_of_ble_eq_true rfl) (hw.1 _) rfl rfl dX0_asDigits_20 ?_
    refine z_iadd X dX0_asDigits_23 ?_
    refine z_istore_n (lv' := [(2, .int ((x.1 * (nI 10)) + r2)), (0, .ref (ad 1)), (1, .int v1), (3, .int x.2)]) X dX0_asDigits_24 rfl (by decide) rfl ?_
    refine z_iinc (v := (x.2 + nI 1)) (lv' := [(3, .int (x.2 + nI 1)), (2, .int ((x.1 * (nI 10)) + r2)), (0, .ref (ad 1)), (1, .int v1)]) X dX0_asDigits_25 3 rfl rfl (by decide) rfl ?_
    refine z_goto (tgt := 4) X dX0_asDigits_28 (by decide) ?_
    have hq := Option.some.inj h
    subst hq
    exact z_sub [2, 3, 1, 0] rfl hs
set_option maxHeartbeats 4000000 in
theorem tX0_asDigits {l : Launch} {D : va_G} {ct : Nat → ClassId} {tF : Nat} {wOf : Mm → va_W} {po ad : Nat → Nat} (hw : KF wOf po ad ct) (M : Mm) {v1 : Int32} {r : Int32} (h : fX0_asDigits (M.1 2) (M.1 3) v1 = some r) : CtI l yX0_asDigits cX0_asDigits 4 .int { frames := 1, cells := 0, slots := 0, locals := 22 } D ct tF wOf [.ref (ad 1), .int v1] M r M := by
  refine metI (by decide) (Nat.le_of_ble_eq_true rfl) fun κ X e1 eR e3 e4 hs => ?_
  subst e1; subst e3; subst e4
  unfold fX0_asDigits at h
  refine z_sub (lv' := [(0, .ref (ad 1)), (1, .int v1)]) [0, 1] rfl ?_
  refine z_iconst (v := (nI 0)) X dX0_asDigits_0 (by decide) ?_
  refine z_istore_n (lv' := [(2, .int (nI 0)), (0, .ref (ad 1)), (1, .int v1)]) X dX0_asDigits_1 rfl (by decide) rfl ?_
  refine z_iconst (v := (nI 0)) X dX0_asDigits_2 (by decide) ?_
  refine z_istore_n (lv' := [(3, .int (nI 0)), (2, .int (nI 0)), (0, .ref (ad 1)), (1, .int v1)]) X dX0_asDigits_3 rfl (by decide) rfl ?_
  refine z_sub [2, 3, 1, 0] rfl ?_
  obtain ⟨y1, hy1, h⟩ := ob h
  refine (it_Z (bX0_asDigits_B4 X eR hw M v1) FU _ y1 hy1) ?_
  refine z_iload_n X dX0_asDigits_31 0 rfl rfl ?_
  have hq := Option.some.inj h
  subst hq
  exact z_iret hs dX0_asDigits_32 rfl
set_option maxHeartbeats 4000000 in
theorem bX0_isLeftChild_B23 {κ : Rx} {ct : Nat → ClassId} {tF : Nat} {po ad : Nat → Nat} (X : CX κ ct tF cX0_isLeftChild 5 RX0) (eR : kR κ = { frames := 2, cells := 0, slots := 0, locals := 44 }) (hw : KF (kw κ) po ad ct) (M : Mm)  (v1 : Int32) (v2 : Int32) (v3 : Int32) : ∀ (x : Int32) (s : Int32 ⊕ (Unit ⊕ Int32)), fX0_isLeftChild_B23 (M.1 2) (M.1 3) v1 v2 v3 x = some s → Sum.elim (fun x => Zj κ 5 23 [(0, .ref (ad 1)), (1, .int v1), (2, .int v2), (3, .int v3), (4, .int x)] [] M) (Sum.elim (fun y => Zj κ 5 48 [] [] M) (fun r => ZI κ cX0_isLeftChild .boolean r M)) s → Zj κ 5 23 [(0, .ref (ad 1)), (1, .int v1), (2, .int v2), (3, .int v3), (4, .int x)] [] M := by
  intro x s h hs
  unfold fX0_isLeftChild_B23 at h
  refine z_iload X dX0_isLeftChild_23 4 rfl ?_
  refine z_iload_n X dX0_isLeftChild_25 2 rfl rfl ?_
  refine z_icmp_ge (tgt := 48) X dX0_isLeftChild_26 (by decide) (fun c26 => ?_) (fun c26 => ?_)
  · rw [if_pos c26] at h
    have hq := Option.some.inj h
    subst hq
    exact z_sub [] rfl hs
  · rw [if_neg c26] at h
    refine z_aload_n X dX0_isLeftChild_29 0 rfl rfl ?_
    refine z_iload_n X dX0_isLeftChild_30 1 rfl rfl ?_
    refine z_iload X dX0_isLeftChild_31 4 rfl ?_
    obtain ⟨r1, hr1, h⟩ := ob h
    refine z_cVI (As := [.int v1, .int x]) (st := []) X (tX0_end hw M hr1) w_74 mvX0_end (by rw [eR]; exact ⟨Nat.le_of_ble_eq_true rfl, Nat.le_of_ble_eq_true rfl⟩) ⟨rfl, rfl⟩ rfl (Nat.le_of_ble_eq_true rfl) (hw.1 _) rfl rfl dX0_isLeftChild_33 ?_
    refine z_iload_n X dX0_isLeftChild_36 3 rfl rfl ?_
    refine z_icmp_ne (tgt := 42) X dX0_isLeftChild_37 (by decide) (fun c37 => ?_) (fun c37 => ?_)
    · rw [if_neg c37] at h
      refine z_iinc (v := (x + nI 1)) (lv' := [(4, .int (x + nI 1)), (0, .ref (ad 1)), (1, .int v1), (2, .int v2), (3, .int v3)]) X dX0_isLeftChild_42 4 rfl rfl (by decide) rfl ?_
      refine z_goto (tgt := 23) X dX0_isLeftChild_45 (by decide) ?_
      have hq := Option.some.inj h
      subst hq
      exact z_sub [1, 2, 3, 4, 0] rfl hs
    · rw [if_pos c37] at h
      refine z_iconst (v := (nI 0)) X dX0_isLeftChild_40 (by decide) ?_
      have hq := Option.some.inj h
      subst hq
      exact z_iret hs dX0_isLeftChild_41 rfl
set_option maxHeartbeats 4000000 in
theorem tX0_isLeftChild {l : Launch} {D : va_G} {ct : Nat → ClassId} {tF : Nat} {wOf : Mm → va_W} {po ad : Nat → Nat} (hw : KF wOf po ad ct) (M : Mm) {v1 : Int32} {v2 : Int32} {r : Int32} (h : fX0_isLeftChild (M.1 2) (M.1 3) v1 v2 = some r) : CtI l yX0_isLeftChild cX0_isLeftChild 5 .boolean { frames := 2, cells := 0, slots := 0, locals := 44 } D ct tF wOf [.ref (ad 1), .int v1, .int v2] M r M := by
  refine metI (by decide) (Nat.le_of_ble_eq_true rfl) fun κ X e1 eR e3 e4 hs => ?_
  subst e1; subst e3; subst e4
  unfold fX0_isLeftChild at h
  refine z_sub (lv' := [(0, .ref (ad 1)), (1, .int v1), (2, .int v2)]) [0, 1, 2] rfl ?_
  refine z_aload_n X dX0_isLeftChild_0 0 rfl rfl ?_
  refine z_iload_n X dX0_isLeftChild_1 1 rfl rfl ?_
  refine z_iload_n X dX0_isLeftChild_2 2 rfl rfl ?_
  obtain ⟨r1, hr1, h⟩ := ob h
  refine z_cVI (As := [.int v1, .int v2]) (st := []) X (tX0_end hw M hr1) w_74 mvX0_end (by rw [eR]; exact ⟨Nat.le_of_ble_eq_true rfl, Nat.le_of_ble_eq_true rfl⟩) ⟨rfl, rfl⟩ rfl (Nat.le_of_ble_eq_true rfl) (hw.1 _) rfl rfl dX0_isLeftChild_3 ?_
  refine z_istore_n (lv' := [(3, .int r1), (0, .ref (ad 1)), (1, .int v1), (2, .int v2)]) X dX0_isLeftChild_6 rfl (by decide) rfl ?_
  refine z_iload_n X dX0_isLeftChild_7 0 rfl rfl ?_
  refine z_iconst (v := (nI 1)) X dX0_isLeftChild_8 (by decide) ?_
  refine z_iadd X dX0_isLeftChild_9 ?_
  refine z_aload_n X dX0_isLeftChild_10 1 rfl rfl ?_
  refine z_iload_n X dX0_isLeftChild_11 2 rfl rfl ?_
  obtain ⟨r2, hr2, h⟩ := ob h
  refine z_cVI (As := [.int v1]) (st := [.int (r1 + (nI 1))]) X (tX0_sizeOf hw M hr2) w_53 mvX0_sizeOf (by rw [eR]; exact ⟨Nat.le_of_ble_eq_true rfl, Nat.le_of_ble_eq_true rfl⟩) ⟨rfl, rfl⟩ rfl (Nat.le_of_ble_eq_true rfl) (hw.1 _) rfl rfl dX0_isLeftChild_12 ?_
  refine z_icmp_lt (tgt := 20) X dX0_isLeftChild_15 (by decide) (fun c15 => ?_) (fun c15 => ?_)
  · rw [if_pos c15] at h
    refine z_iconst (v := (nI 0)) X dX0_isLeftChild_20 (by decide) ?_
    refine z_istore (lv' := [(4, .int (nI 0)), (3, .int r1), (0, .ref (ad 1)), (1, .int v1), (2, .int v2)]) X dX0_isLeftChild_21 (by decide) rfl ?_
    refine z_sub [2, 3, 4, 1, 0] rfl ?_
    obtain ⟨y3_, hy3, h⟩ := ob h
    cases y3_ with
    | inl y3 =>
      rw [Sum.elim_inl] at h
      refine (it_Z (bX0_isLeftChild_B23 X eR hw M v1 v2 r1) FU _ (.inl y3) hy3) ?_
      refine z_iconst (v := (nI 1)) X dX0_isLeftChild_48 (by decide) ?_
      have hq := Option.some.inj h
      subst hq
      exact z_iret hs dX0_isLeftChild_49 rfl
    | inr y3 =>
      rw [Sum.elim_inr] at h
      have hq := Option.some.inj h
      subst hq
      exact (it_Z (bX0_isLeftChild_B23 X eR hw M v1 v2 r1) FU _ (.inr _) hy3) hs
  · rw [if_neg c15] at h
    refine z_iconst (v := (nI 0)) X dX0_isLeftChild_18 (by decide) ?_
    have hq := Option.some.inj h
    subst hq
    exact z_iret hs dX0_isLeftChild_19 rfl
set_option maxHeartbeats 4000000 in
theorem tX0_digitAt {l : Launch} {D : va_G} {ct : Nat → ClassId} {tF : Nat} {wOf : Mm → va_W} {po ad : Nat → Nat} (hw : KF wOf po ad ct) (M : Mm) {v0 : Int32} {v1 : Int32} {v2 : Int32} {r : Int32} (h : fX0_digitAt v0 v1 v2 = some r) : CtI l yX0_digitAt cX0_digitAt 3 .int { frames := 0, cells := 0, slots := 0, locals := 0 } D ct tF wOf [.int v0, .int v1, .int v2] M r M := by
  refine metI (by decide) (Nat.le_of_ble_eq_true rfl) fun κ X e1 eR e3 e4 hs => ?_
  subst e1; subst e3; subst e4
  unfold fX0_digitAt at h
  refine z_sub (lv' := [(0, .int v0), (1, .int v1), (2, .int v2)]) [0, 1, 2] rfl ?_
  refine z_iload_n X dX0_digitAt_0 0 rfl rfl ?_
  refine z_iconst (v := (nI 4)) X dX0_digitAt_1 (by decide) ?_
  refine z_iload_n X dX0_digitAt_2 1 rfl rfl ?_
  refine z_iconst (v := (nI 1)) X dX0_digitAt_3 (by decide) ?_
  refine z_isub X dX0_digitAt_4 ?_
  refine z_iload_n X dX0_digitAt_5 2 rfl rfl ?_
  refine z_isub X dX0_digitAt_6 ?_
  refine z_imul X dX0_digitAt_7 ?_
  refine z_ishl X dX0_digitAt_8 ?_
  have hq := Option.some.inj h
  subst hq
  exact z_iret hs dX0_digitAt_9 rfl
set_option maxHeartbeats 4000000 in
theorem tX0_turnedUp {l : Launch} {D : va_G} {ct : Nat → ClassId} {tF : Nat} {wOf : Mm → va_W} {po ad : Nat → Nat} (hw : KF wOf po ad ct) (M : Mm) {v1 : Int32} {v2 : Int32} {r : Int32} (h : fX0_turnedUp (M.1 2) (M.1 3) v1 v2 = some r) : CtI l yX0_turnedUp cX0_turnedUp 5 .int { frames := 3, cells := 0, slots := 0, locals := 68 } D ct tF wOf [.ref (ad 1), .int v1, .int v2] M r M := by
  refine metI (by decide) (Nat.le_of_ble_eq_true rfl) fun κ X e1 eR e3 e4 hs => ?_
  subst e1; subst e3; subst e4
  unfold fX0_turnedUp at h
  refine z_sub (lv' := [(0, .ref (ad 1)), (1, .int v1), (2, .int v2)]) [0, 1, 2] rfl ?_
  refine z_aload_n X dX0_turnedUp_0 0 rfl rfl ?_
  refine z_iload_n X dX0_turnedUp_1 1 rfl rfl ?_
  refine z_iload_n X dX0_turnedUp_2 2 rfl rfl ?_
  obtain ⟨r1, hr1, h⟩ := ob h
  refine z_cVI (As := [.int v1, .int v2]) (st := []) X (tX0_isLeftChild hw M hr1) w_116 mvX0_isLeftChild (by rw [eR]; exact ⟨Nat.le_of_ble_eq_true rfl, Nat.le_of_ble_eq_true rfl⟩) ⟨rfl, rfl⟩ rfl (Nat.le_of_ble_eq_true rfl) (hw.1 _) rfl rfl dX0_turnedUp_3 ?_
  refine z_if_ne (tgt := 11) X dX0_turnedUp_6 (by decide) (fun c6 => ?_) (fun c6 => ?_)
  · rw [if_neg c6] at h
    refine z_aload_n X dX0_turnedUp_11 0 rfl rfl ?_
    refine z_iload_n X dX0_turnedUp_12 1 rfl rfl ?_
    obtain ⟨r2, hr2, h⟩ := ob h
    refine z_cVI (As := [.int v1]) (st := []) X (tX0_sizeOf hw M hr2) w_53 mvX0_sizeOf (by rw [eR]; exact ⟨Nat.le_of_ble_eq_true rfl, Nat.le_of_ble_eq_true rfl⟩) ⟨rfl, rfl⟩ rfl (Nat.le_of_ble_eq_true rfl) (hw.1 _) rfl rfl dX0_turnedUp_13 ?_
    refine z_istore_n (lv' := [(3, .int r2), (0, .ref (ad 1)), (1, .int v1), (2, .int v2)]) X dX0_turnedUp_16 rfl (by decide) rfl ?_
    refine z_aload_n X dX0_turnedUp_17 1 rfl rfl ?_
    refine z_iload_n X dX0_turnedUp_18 2 rfl rfl ?_
    refine z_iload_n X dX0_turnedUp_19 3 rfl rfl ?_
    obtain ⟨r3, hr3, h⟩ := ob h
    refine z_cVI (As := [.int v1, .int v2]) (st := []) X (tX0_end hw M hr3) w_74 mvX0_end (by rw [eR]; exact ⟨Nat.le_of_ble_eq_true rfl, Nat.le_of_ble_eq_true rfl⟩) ⟨rfl, rfl⟩ rfl (Nat.le_of_ble_eq_true rfl) (hw.1 _) rfl rfl dX0_turnedUp_20 ?_
    refine z_iconst (v := (nI 1)) X dX0_turnedUp_23 (by decide) ?_
    refine z_iadd X dX0_turnedUp_24 ?_
    refine z_istore (lv' := [(4, .int (r3 + (nI 1))), (3, .int r2), (0, .ref (ad 1)), (1, .int v1), (2, .int v2)]) X dX0_turnedUp_25 (by decide) rfl ?_
    refine z_aload_n X dX0_turnedUp_27 2 rfl rfl ?_
    refine z_iload_n X dX0_turnedUp_28 1 rfl rfl ?_
    refine z_aload_n X dX0_turnedUp_29 2 rfl rfl ?_
    refine z_iload_n X dX0_turnedUp_30 3 rfl rfl ?_
    obtain ⟨r4, hr4, h⟩ := ob h
    refine z_cVI (As := [.int v1]) (st := [.int r2, .ref (ad 1)]) X (tX0_codeOf hw M hr4) w_39 mvX0_codeOf (by rw [eR]; exact ⟨Nat.le_of_ble_eq_true rfl, Nat.le_of_ble_eq_true rfl⟩) ⟨rfl, rfl⟩ rfl (Nat.le_of_ble_eq_true rfl) (hw.1 _) rfl rfl dX0_turnedUp_31 ?_
    refine z_iconst (v := (nI 1)) X dX0_turnedUp_34 (by decide) ?_
    refine z_aload_n X dX0_turnedUp_35 2 rfl rfl ?_
    refine z_iload_n X dX0_turnedUp_36 3 rfl rfl ?_
    refine z_iload X dX0_turnedUp_37 0 rfl ?_
    obtain ⟨r5, hr5, h⟩ := ob h
    refine z_cVI (As := [.int v1, .int (r3 + (nI 1))]) (st := [.int (nI 1), .int r4, .int r2, .ref (ad 1)]) X (tX0_rightSize hw M hr5) w_70 mvX0_rightSize (by rw [eR]; exact ⟨Nat.le_of_ble_eq_true rfl, Nat.le_of_ble_eq_true rfl⟩) ⟨rfl, rfl⟩ rfl (Nat.le_of_ble_eq_true rfl) (hw.1 _) rfl rfl dX0_turnedUp_39 ?_
    refine z_iadd X dX0_turnedUp_42 ?_
    refine z_iload_n X dX0_turnedUp_43 1 rfl rfl ?_
    refine z_iload_n X dX0_turnedUp_44 4 rfl rfl ?_
    obtain ⟨r6, hr6, h⟩ := ob h
    refine z_cSI (As := [.int ((nI 1) + r5), .int r2, .int v2]) (st := [.int r4, .int r2, .ref (ad 1)]) X (tX0_digitAt hw M hr6) w_120 msX0_digitAt (by rw [eR]; exact ⟨Nat.le_of_ble_eq_true rfl, Nat.le_of_ble_eq_true rfl⟩) ⟨rfl, rfl⟩ rfl (Nat.le_of_ble_eq_true rfl) rfl dX0_turnedUp_45 ?_
    refine z_iadd X dX0_turnedUp_48 ?_
    obtain ⟨r7, hr7, h⟩ := ob h
    refine z_cVI (As := [.int r2, .int (r4 + r6)]) (st := []) X (tX0_find hw M hr7) w_43 mvX0_find (by rw [eR]; exact ⟨Nat.le_of_ble_eq_true rfl, Nat.le_of_ble_eq_true rfl⟩) ⟨rfl, rfl⟩ rfl (Nat.le_of_ble_eq_true rfl) (hw.1 _) rfl rfl dX0_turnedUp_49 ?_
    have hq := Option.some.inj h
    subst hq
    exact z_iret hs dX0_turnedUp_52 rfl
  · rw [if_pos c6] at h
    refine z_iconst (v := (nI 0)) X dX0_turnedUp_9 (by decide) ?_
    have hq := Option.some.inj h
    subst hq
    exact z_iret hs dX0_turnedUp_10 rfl
set_option maxHeartbeats 4000000 in
theorem tX0_turnedBack {l : Launch} {D : va_G} {ct : Nat → ClassId} {tF : Nat} {wOf : Mm → va_W} {po ad : Nat → Nat} (hw : KF wOf po ad ct) (M : Mm) {v1 : Int32} {v2 : Int32} {r : Int32} (h : fX0_turnedBack (M.1 2) (M.1 3) v1 v2 = some r) : CtI l yX0_turnedBack cX0_turnedBack 5 .int { frames := 3, cells := 0, slots := 0, locals := 68 } D ct tF wOf [.ref (ad 1), .int v1, .int v2] M r M := by
  refine metI (by decide) (Nat.le_of_ble_eq_true rfl) fun κ X e1 eR e3 e4 hs => ?_
  subst e1; subst e3; subst e4
  unfold fX0_turnedBack at h
  refine z_sub (lv' := [(0, .ref (ad 1)), (1, .int v1), (2, .int v2)]) [0, 1, 2] rfl ?_
  refine z_aload_n X dX0_turnedBack_0 0 rfl rfl ?_
  refine z_iload_n X dX0_turnedBack_1 1 rfl rfl ?_
  refine z_iload_n X dX0_turnedBack_2 2 rfl rfl ?_
  refine z_iconst (v := (nI 1)) X dX0_turnedBack_3 (by decide) ?_
  refine z_iadd X dX0_turnedBack_4 ?_
  refine z_aload_n X dX0_turnedBack_5 0 rfl rfl ?_
  refine z_iload_n X dX0_turnedBack_6 1 rfl rfl ?_
  refine z_iload_n X dX0_turnedBack_7 2 rfl rfl ?_
  obtain ⟨r1, hr1, h⟩ := ob h
  refine z_cVI (As := [.int v1, .int v2]) (st := [.int (v2 + (nI 1)), .int v1, .ref (ad 1)]) X (tX0_end hw M hr1) w_74 mvX0_end (by rw [eR]; exact ⟨Nat.le_of_ble_eq_true rfl, Nat.le_of_ble_eq_true rfl⟩) ⟨rfl, rfl⟩ rfl (Nat.le_of_ble_eq_true rfl) (hw.1 _) rfl rfl dX0_turnedBack_8 ?_
  obtain ⟨r2, hr2, h⟩ := ob h
  refine z_cVI (As := [.int v1, .int (v2 + (nI 1)), .int r1]) (st := []) X (tX0_top hw M hr2) w_82 mvX0_top (by rw [eR]; exact ⟨Nat.le_of_ble_eq_true rfl, Nat.le_of_ble_eq_true rfl⟩) ⟨rfl, rfl⟩ rfl (Nat.le_of_ble_eq_true rfl) (hw.1 _) rfl rfl dX0_turnedBack_11 ?_
  refine z_istore_n (lv' := [(3, .int r2), (0, .ref (ad 1)), (1, .int v1), (2, .int v2)]) X dX0_turnedBack_14 rfl (by decide) rfl ?_
  refine z_iload_n X dX0_turnedBack_15 0 rfl rfl ?_
  refine z_bipush (v := (-5 : Int32)) X dX0_turnedBack_16 (by decide) ?_
  refine z_icmp_ne (tgt := 23) X dX0_turnedBack_18 (by decide) (fun c18 => ?_) (fun c18 => ?_)
  · rw [if_neg c18] at h
    refine z_aload_n X dX0_turnedBack_23 1 rfl rfl ?_
    refine z_iload_n X dX0_turnedBack_24 2 rfl rfl ?_
    obtain ⟨r3, hr3, h⟩ := ob h
    refine z_cVI (As := [.int v1]) (st := []) X (tX0_sizeOf hw M hr3) w_53 mvX0_sizeOf (by rw [eR]; exact ⟨Nat.le_of_ble_eq_true rfl, Nat.le_of_ble_eq_true rfl⟩) ⟨rfl, rfl⟩ rfl (Nat.le_of_ble_eq_true rfl) (hw.1 _) rfl rfl dX0_turnedBack_25 ?_
    refine z_istore (lv' := [(4, .int r3), (3, .int r2), (0, .ref (ad 1)), (1, .int v1), (2, .int v2)]) X dX0_turnedBack_28 (by decide) rfl ?_
    refine z_aload_n X dX0_turnedBack_30 2 rfl rfl ?_
    refine z_iload X dX0_turnedBack_31 0 rfl ?_
    refine z_aload_n X dX0_turnedBack_33 2 rfl rfl ?_
    refine z_iload_n X dX0_turnedBack_34 3 rfl rfl ?_
    obtain ⟨r4, hr4, h⟩ := ob h
    refine z_cVI (As := [.int v1]) (st := [.int r3, .ref (ad 1)]) X (tX0_codeOf hw M hr4) w_39 mvX0_codeOf (by rw [eR]; exact ⟨Nat.le_of_ble_eq_true rfl, Nat.le_of_ble_eq_true rfl⟩) ⟨rfl, rfl⟩ rfl (Nat.le_of_ble_eq_true rfl) (hw.1 _) rfl rfl dX0_turnedBack_35 ?_
    refine z_iconst (v := (nI 1)) X dX0_turnedBack_38 (by decide) ?_
    refine z_aload_n X dX0_turnedBack_39 2 rfl rfl ?_
    refine z_iload_n X dX0_turnedBack_40 3 rfl rfl ?_
    refine z_iload_n X dX0_turnedBack_41 1 rfl rfl ?_
    obtain ⟨r5, hr5, h⟩ := ob h
    refine z_cVI (As := [.int v1, .int r2]) (st := [.int (nI 1), .int r4, .int r3, .ref (ad 1)]) X (tX0_rightSize hw M hr5) w_70 mvX0_rightSize (by rw [eR]; exact ⟨Nat.le_of_ble_eq_true rfl, Nat.le_of_ble_eq_true rfl⟩) ⟨rfl, rfl⟩ rfl (Nat.le_of_ble_eq_true rfl) (hw.1 _) rfl rfl dX0_turnedBack_42 ?_
    refine z_iadd X dX0_turnedBack_45 ?_
    refine z_iload X dX0_turnedBack_46 0 rfl ?_
    refine z_iload_n X dX0_turnedBack_48 4 rfl rfl ?_
    obtain ⟨r6, hr6, h⟩ := ob h
    refine z_cSI (As := [.int ((nI 1) + r5), .int r3, .int v2]) (st := [.int r4, .int r3, .ref (ad 1)]) X (tX0_digitAt hw M hr6) w_120 msX0_digitAt (by rw [eR]; exact ⟨Nat.le_of_ble_eq_true rfl, Nat.le_of_ble_eq_true rfl⟩) ⟨rfl, rfl⟩ rfl (Nat.le_of_ble_eq_true rfl) rfl dX0_turnedBack_49 ?_
    refine z_isub X dX0_turnedBack_52 ?_
    obtain ⟨r7, hr7, h⟩ := ob h
    refine z_cVI (As := [.int r3, .int (r4 - r6)]) (st := []) X (tX0_find hw M hr7) w_43 mvX0_find (by rw [eR]; exact ⟨Nat.le_of_ble_eq_true rfl, Nat.le_of_ble_eq_true rfl⟩) ⟨rfl, rfl⟩ rfl (Nat.le_of_ble_eq_true rfl) (hw.1 _) rfl rfl dX0_turnedBack_53 ?_
    have hq := Option.some.inj h
    subst hq
    exact z_iret hs dX0_turnedBack_56 rfl
  · rw [if_pos c18] at h
    refine z_iconst (v := (nI 0)) X dX0_turnedBack_21 (by decide) ?_
    have hq := Option.some.inj h
    subst hq
    exact z_iret hs dX0_turnedBack_22 rfl
set_option maxHeartbeats 4000000 in
theorem jX0_withRightChild_J35 {κ : Rx} {ct : Nat → ClassId} {tF : Nat} {po ad : Nat → Nat} (X : CX κ ct tF cX0_withRightChild 5 RX0) (eR : kR κ = { frames := 1, cells := 0, slots := 0, locals := 21 }) (hw : KF (kw κ) po ad ct) (M : Mm)   (v3 : Int32) (v4 : Int32) (k0 : Int32) (k1 : Int32) (s : ((Int32 × Int32 × Int32) ⊕ Int32)) (h : fX0_withRightChild_J35 v3 v4 k0 k1 = some s) (hs : (Sum.elim (fun x => Zj κ 5 15 [(2, .int x.1), (3, .int x.2.1), (4, .int x.2.2)] [] M) (fun y => Zj κ 5 47 [(2, .int y)] [] M) s)) : Zj κ 5 35 [(3, .int v3), (4, .int v4)] [.int k0, .int k1] M := by
  unfold fX0_withRightChild_J35 at h
  refine z_ior X dX0_withRightChild_35 ?_
  refine z_istore_n (lv' := [(2, .int (k1 ||| k0)), (3, .int v3), (4, .int v4)]) X dX0_withRightChild_36 rfl (by decide) rfl ?_
  refine z_iload_n X dX0_withRightChild_37 1 rfl rfl ?_
  refine z_iconst (v := (nI 4)) X dX0_withRightChild_38 (by decide) ?_
  refine z_ishr X dX0_withRightChild_39 ?_
  refine z_istore_n (lv' := [(3, .int (v3 >>> ((nI 4) &&& 31))), (2, .int (k1 ||| k0)), (4, .int v4)]) X dX0_withRightChild_40 rfl (by decide) rfl ?_
  refine z_iinc (v := (v4 + (-1))) (lv' := [(4, .int (v4 + (-1))), (3, .int (v3 >>> ((nI 4) &&& 31))), (2, .int (k1 ||| k0))]) X dX0_withRightChild_41 2 rfl rfl (by decide) rfl ?_
  refine z_goto (tgt := 15) X dX0_withRightChild_44 (by decide) ?_
  have hq := Option.some.inj h
  subst hq
  exact z_sub [2, 1, 0] rfl hs
set_option maxHeartbeats 4000000 in
theorem bX0_withRightChild_B15 {κ : Rx} {ct : Nat → ClassId} {tF : Nat} {po ad : Nat → Nat} (X : CX κ ct tF cX0_withRightChild 5 RX0) (eR : kR κ = { frames := 1, cells := 0, slots := 0, locals := 21 }) (hw : KF (kw κ) po ad ct) (M : Mm)   : ∀ (x : (Int32 × Int32 × Int32)) (s : (Int32 × Int32 × Int32) ⊕ Int32), fX0_withRightChild_B15 x = some s → Sum.elim (fun x => Zj κ 5 15 [(2, .int x.1), (3, .int x.2.1), (4, .int x.2.2)] [] M) (fun y => Zj κ 5 47 [(2, .int y)] [] M) s → Zj κ 5 15 [(2, .int x.1), (3, .int x.2.1), (4, .int x.2.2)] [] M := by
  intro x s h hs
  unfold fX0_withRightChild_B15 at h
  refine z_iload X dX0_withRightChild_15 2 rfl ?_
  refine z_if_le (tgt := 47) X dX0_withRightChild_17 (by decide) (fun c17 => ?_) (fun c17 => ?_)
  · rw [if_pos c17] at h
    have hq := Option.some.inj h
    subst hq
    exact z_sub [0] rfl hs
  · rw [if_neg c17] at h
    refine z_iload_n X dX0_withRightChild_20 0 rfl rfl ?_
    refine z_iconst (v := (nI 1)) X dX0_withRightChild_21 (by decide) ?_
    refine z_ishl X dX0_withRightChild_22 ?_
    refine z_iload_n X dX0_withRightChild_23 1 rfl rfl ?_
    refine z_bipush (v := (nI 15)) X dX0_withRightChild_24 (by decide) ?_
    refine z_iand X dX0_withRightChild_26 ?_
    refine z_if_le (tgt := 34) X dX0_withRightChild_27 (by decide) (fun c27 => ?_) (fun c27 => ?_)
    · rw [if_pos c27] at h
      refine z_iconst (v := (nI 0)) X dX0_withRightChild_34 (by decide) ?_
      exact z_sub [1, 2] rfl (jX0_withRightChild_J35 X eR hw M x.2.1 x.2.2 (nI 0) (x.1 <<< ((nI 1) &&& 31)) _ h hs)
    · rw [if_neg c27] at h
      refine z_iconst (v := (nI 1)) X dX0_withRightChild_30 (by decide) ?_
      refine z_goto (tgt := 35) X dX0_withRightChild_31 (by decide) ?_
      exact z_sub [1, 2] rfl (jX0_withRightChild_J35 X eR hw M x.2.1 x.2.2 (nI 1) (x.1 <<< ((nI 1) &&& 31)) _ h hs)
set_option maxHeartbeats 4000000 in
theorem tX0_withRightChild {l : Launch} {D : va_G} {ct : Nat → ClassId} {tF : Nat} {wOf : Mm → va_W} {po ad : Nat → Nat} (hw : KF wOf po ad ct) (M : Mm) {v1 : Int32} {r : Int32} (h : fX0_withRightChild (M.1 2) (M.1 3) v1 = some r) : CtI l yX0_withRightChild cX0_withRightChild 5 .int { frames := 1, cells := 0, slots := 0, locals := 21 } D ct tF wOf [.ref (ad 1), .int v1] M r M := by
  refine metI (by decide) (Nat.le_of_ble_eq_true rfl) fun κ X e1 eR e3 e4 hs => ?_
  subst e1; subst e3; subst e4
  unfold fX0_withRightChild at h
  refine z_sub (lv' := [(0, .ref (ad 1)), (1, .int v1)]) [0, 1] rfl ?_
  refine z_iconst (v := (nI 0)) X dX0_withRightChild_0 (by decide) ?_
  refine z_istore_n (lv' := [(2, .int (nI 0)), (0, .ref (ad 1)), (1, .int v1)]) X dX0_withRightChild_1 rfl (by decide) rfl ?_
  refine z_aload_n X dX0_withRightChild_2 1 rfl rfl ?_
  refine z_iload_n X dX0_withRightChild_3 2 rfl rfl ?_
  obtain ⟨r1, hr1, h⟩ := ob h
  refine z_cVI (As := [.int v1]) (st := []) X (tX0_codeOf hw M hr1) w_39 mvX0_codeOf (by rw [eR]; exact ⟨Nat.le_of_ble_eq_true rfl, Nat.le_of_ble_eq_true rfl⟩) ⟨rfl, rfl⟩ rfl (Nat.le_of_ble_eq_true rfl) (hw.1 _) rfl rfl dX0_withRightChild_4 ?_
  refine z_istore_n (lv' := [(3, .int r1), (2, .int (nI 0)), (0, .ref (ad 1)), (1, .int v1)]) X dX0_withRightChild_7 rfl (by decide) rfl ?_
  refine z_aload_n X dX0_withRightChild_8 2 rfl rfl ?_
  refine z_iload_n X dX0_withRightChild_9 3 rfl rfl ?_
  obtain ⟨r2, hr2, h⟩ := ob h
  refine z_cVI (As := [.int v1]) (st := []) X (tX0_sizeOf hw M hr2) w_53 mvX0_sizeOf (by rw [eR]; exact ⟨Nat.le_of_ble_eq_true rfl, Nat.le_of_ble_eq_true rfl⟩) ⟨rfl, rfl⟩ rfl (Nat.le_of_ble_eq_true rfl) (hw.1 _) rfl rfl dX0_withRightChild_10 ?_
  refine z_istore (lv' := [(4, .int r2), (3, .int r1), (2, .int (nI 0)), (0, .ref (ad 1)), (1, .int v1)]) X dX0_withRightChild_13 (by decide) rfl ?_
  refine z_sub [2, 1, 0] rfl ?_
  obtain ⟨y3, hy3, h⟩ := ob h
  refine (it_Z (bX0_withRightChild_B15 X eR hw M) FU _ y3 hy3) ?_
  refine z_iload_n X dX0_withRightChild_47 0 rfl rfl ?_
  have hq := Option.some.inj h
  subst hq
  exact z_iret hs dX0_withRightChild_48 rfl
set_option maxHeartbeats 4000000 in
theorem jX0_leftChildren_J28 {κ : Rx} {ct : Nat → ClassId} {tF : Nat} {po ad : Nat → Nat} (X : CX κ ct tF cX0_leftChildren 4 RX0) (eR : kR κ = { frames := 3, cells := 0, slots := 0, locals := 68 }) (hw : KF (kw κ) po ad ct) (M : Mm)   (v1 : Int32) (v2 : Int32) (v3 : Int32)  (s : ((Int32 × Int32) ⊕ Int32)) (h : fX0_leftChildren_J28 (M.1 2) (M.1 3) v1 v2 v3 = some s) (hs : (Sum.elim (fun x => Zj κ 4 4 [(0, .ref (ad 1)), (1, .int v1), (2, .int x.1), (3, .int x.2)] [] M) (fun y => Zj κ 4 34 [(2, .int y)] [] M) s)) : Zj κ 4 28 [(0, .ref (ad 1)), (1, .int v1), (2, .int v2), (3, .int v3)] [] M := by
  unfold fX0_leftChildren_J28 at h
  refine z_iinc (v := (v3 + nI 1)) (lv' := [(3, .int (v3 + nI 1)), (0, .ref (ad 1)), (1, .int v1), (2, .int v2)]) X dX0_leftChildren_28 3 rfl rfl (by decide) rfl ?_
  refine z_goto (tgt := 4) X dX0_leftChildren_31 (by decide) ?_
  have hq := Option.some.inj h
  subst hq
  exact z_sub [1, 2, 3, 0] rfl hs
set_option maxHeartbeats 4000000 in
theorem bX0_leftChildren_B4 {κ : Rx} {ct : Nat → ClassId} {tF : Nat} {po ad : Nat → Nat} (X : CX κ ct tF cX0_leftChildren 4 RX0) (eR : kR κ = { frames := 3, cells := 0, slots := 0, locals := 68 }) (hw : KF (kw κ) po ad ct) (M : Mm)  (v1 : Int32) : ∀ (x : (Int32 × Int32)) (s : (Int32 × Int32) ⊕ Int32), fX0_leftChildren_B4 (M.1 2) (M.1 3) v1 x = some s → Sum.elim (fun x => Zj κ 4 4 [(0, .ref (ad 1)), (1, .int v1), (2, .int x.1), (3, .int x.2)] [] M) (fun y => Zj κ 4 34 [(2, .int y)] [] M) s → Zj κ 4 4 [(0, .ref (ad 1)), (1, .int v1), (2, .int x.1), (3, .int x.2)] [] M := by
  intro x s h hs
  unfold fX0_leftChildren_B4 at h
  refine z_iload_n X dX0_leftChildren_4 3 rfl rfl ?_
  refine z_aload_n X dX0_leftChildren_5 0 rfl rfl ?_
  refine z_iload_n X dX0_leftChildren_6 1 rfl rfl ?_
  obtain ⟨r1, hr1, h⟩ := ob h
  refine z_cVI (As := [.int v1]) (st := [.int x.2]) X (tX0_sizeOf hw M hr1) w_53 mvX0_sizeOf (by rw [eR]; exact ⟨Nat.le_of_ble_eq_true rfl, Nat.le_of_ble_eq_true rfl⟩) ⟨rfl, rfl⟩ rfl (Nat.le_of_ble_eq_true rfl) (hw.1 _) rfl rfl dX0_leftChildren_7 ?_
  refine z_icmp_ge (tgt := 34) X dX0_leftChildren_10 (by decide) (fun c10 => ?_) (fun c10 => ?_)
  · rw [if_pos c10] at h
    have hq := Option.some.inj h
    subst hq
    exact z_sub [2] rfl hs
  · rw [if_neg c10] at h
    refine z_aload_n X dX0_leftChildren_13 0 rfl rfl ?_
    refine z_iload_n X dX0_leftChildren_14 1 rfl rfl ?_
    refine z_iload_n X dX0_leftChildren_15 3 rfl rfl ?_
    obtain ⟨r2, hr2, h⟩ := ob h
    refine z_cVI (As := [.int v1, .int x.2]) (st := []) X (tX0_isLeftChild hw M hr2) w_116 mvX0_isLeftChild (by rw [eR]; exact ⟨Nat.le_of_ble_eq_true rfl, Nat.le_of_ble_eq_true rfl⟩) ⟨rfl, rfl⟩ rfl (Nat.le_of_ble_eq_true rfl) (hw.1 _) rfl rfl dX0_leftChildren_16 ?_
    refine z_if_eq (tgt := 28) X dX0_leftChildren_19 (by decide) (fun c19 => ?_) (fun c19 => ?_)
    · rw [if_pos c19] at h
      exact (jX0_leftChildren_J28 X eR hw M v1 x.1 x.2 _ h hs)
    · rw [if_neg c19] at h
      refine z_iload_n X dX0_leftChildren_22 2 rfl rfl ?_
      refine z_iconst (v := (nI 1)) X dX0_leftChildren_23 (by decide) ?_
      refine z_iload_n X dX0_leftChildren_24 3 rfl rfl ?_
      refine z_ishl X dX0_leftChildren_25 ?_
      refine z_ior X dX0_leftChildren_26 ?_
      refine z_istore_n (lv' := [(2, .int (x.1 ||| ((nI 1) <<< (x.2 &&& 31)))), (0, .ref (ad 1)), (1, .int v1), (3, .int x.2)]) X dX0_leftChildren_27 rfl (by decide) rfl ?_
      exact z_sub [1, 2, 0, 3] rfl (jX0_leftChildren_J28 X eR hw M v1 (x.1 ||| ((nI 1) <<< (x.2 &&& 31))) x.2 _ h hs)
set_option maxHeartbeats 4000000 in
theorem tX0_leftChildren {l : Launch} {D : va_G} {ct : Nat → ClassId} {tF : Nat} {wOf : Mm → va_W} {po ad : Nat → Nat} (hw : KF wOf po ad ct) (M : Mm) {v1 : Int32} {r : Int32} (h : fX0_leftChildren (M.1 2) (M.1 3) v1 = some r) : CtI l yX0_leftChildren cX0_leftChildren 4 .int { frames := 3, cells := 0, slots := 0, locals := 68 } D ct tF wOf [.ref (ad 1), .int v1] M r M := by
  refine metI (by decide) (Nat.le_of_ble_eq_true rfl) fun κ X e1 eR e3 e4 hs => ?_
  subst e1; subst e3; subst e4
  unfold fX0_leftChildren at h
  refine z_sub (lv' := [(0, .ref (ad 1)), (1, .int v1)]) [0, 1] rfl ?_
  refine z_iconst (v := (nI 0)) X dX0_leftChildren_0 (by decide) ?_
  refine z_istore_n (lv' := [(2, .int (nI 0)), (0, .ref (ad 1)), (1, .int v1)]) X dX0_leftChildren_1 rfl (by decide) rfl ?_
  refine z_iconst (v := (nI 0)) X dX0_leftChildren_2 (by decide) ?_
  refine z_istore_n (lv' := [(3, .int (nI 0)), (2, .int (nI 0)), (0, .ref (ad 1)), (1, .int v1)]) X dX0_leftChildren_3 rfl (by decide) rfl ?_
  refine z_sub [2, 3, 1, 0] rfl ?_
  obtain ⟨y1, hy1, h⟩ := ob h
  refine (it_Z (bX0_leftChildren_B4 X eR hw M v1) FU _ y1 hy1) ?_
  refine z_iload_n X dX0_leftChildren_34 0 rfl rfl ?_
  have hq := Option.some.inj h
  subst hq
  exact z_iret hs dX0_leftChildren_35 rfl
set_option maxHeartbeats 4000000 in
theorem bX0_mirrored_B11 {κ : Rx} {ct : Nat → ClassId} {tF : Nat} {po ad : Nat → Nat} (X : CX κ ct tF cX0_mirrored 5 RX0) (eR : kR κ = { frames := 3, cells := 0, slots := 0, locals := 68 }) (hw : KF (kw κ) po ad ct) (M : Mm)  (v1 : Int32) (v2 : Int32) : ∀ (x : (Int32 × Int32)) (s : (Int32 × Int32) ⊕ Int32), fX0_mirrored_B11 (M.1 2) (M.1 3) v1 v2 x = some s → Sum.elim (fun x => Zj κ 5 11 [(0, .ref (ad 1)), (1, .int v1), (2, .int v2), (3, .int x.1), (4, .int x.2)] [] M) (fun y => Zj κ 5 43 [(0, .ref (ad 1)), (2, .int v2), (3, .int y)] [] M) s → Zj κ 5 11 [(0, .ref (ad 1)), (1, .int v1), (2, .int v2), (3, .int x.1), (4, .int x.2)] [] M := by
  intro x s h hs
  unfold fX0_mirrored_B11 at h
  refine z_iload X dX0_mirrored_11 4 rfl ?_
  refine z_iload_n X dX0_mirrored_13 2 rfl rfl ?_
  refine z_icmp_ge (tgt := 43) X dX0_mirrored_14 (by decide) (fun c14 => ?_) (fun c14 => ?_)
  · rw [if_pos c14] at h
    have hq := Option.some.inj h
    subst hq
    exact z_sub [0, 2, 3] rfl hs
  · rw [if_neg c14] at h
    refine z_iload_n X dX0_mirrored_17 3 rfl rfl ?_
    refine z_aload_n X dX0_mirrored_18 0 rfl rfl ?_
    refine z_iload_n X dX0_mirrored_19 1 rfl rfl ?_
    refine z_iload X dX0_mirrored_20 4 rfl ?_
    obtain ⟨r1, hr1, h⟩ := ob h
    refine z_cVI (As := [.int v1, .int x.2]) (st := [.int x.1]) X (tX0_leftSize hw M hr1) w_78 mvX0_leftSize (by rw [eR]; exact ⟨Nat.le_of_ble_eq_true rfl, Nat.le_of_ble_eq_true rfl⟩) ⟨rfl, rfl⟩ rfl (Nat.le_of_ble_eq_true rfl) (hw.1 _) rfl rfl dX0_mirrored_22 ?_
    refine z_iload_n X dX0_mirrored_25 2 rfl rfl ?_
    refine z_iload_n X dX0_mirrored_26 2 rfl rfl ?_
    refine z_iconst (v := (nI 1)) X dX0_mirrored_27 (by decide) ?_
    refine z_isub X dX0_mirrored_28 ?_
    refine z_iload X dX0_mirrored_29 4 rfl ?_
    refine z_isub X dX0_mirrored_31 ?_
    obtain ⟨r2, hr2, h⟩ := ob h
    refine z_cSI (As := [.int r1, .int v2, .int ((v2 - (nI 1)) - x.2)]) (st := [.int x.1]) X (tX0_digitAt hw M hr2) w_120 msX0_digitAt (by rw [eR]; exact ⟨Nat.le_of_ble_eq_true rfl, Nat.le_of_ble_eq_true rfl⟩) ⟨rfl, rfl⟩ rfl (Nat.le_of_ble_eq_true rfl) rfl dX0_mirrored_32 ?_
    refine z_ior X dX0_mirrored_35 ?_
    refine z_istore_n (lv' := [(3, .int (x.1 ||| r2)), (0, .ref (ad 1)), (1, .int v1), (2, .int v2), (4, .int x.2)]) X dX0_mirrored_36 rfl (by decide) rfl ?_
    refine z_iinc (v := (x.2 + nI 1)) (lv' := [(4, .int (x.2 + nI 1)), (3, .int (x.1 ||| r2)), (0, .ref (ad 1)), (1, .int v1), (2, .int v2)]) X dX0_mirrored_37 4 rfl rfl (by decide) rfl ?_
    refine z_goto (tgt := 11) X dX0_mirrored_40 (by decide) ?_
    have hq := Option.some.inj h
    subst hq
    exact z_sub [2, 3, 4, 1, 0] rfl hs
set_option maxHeartbeats 4000000 in
theorem tX0_mirrored {l : Launch} {D : va_G} {ct : Nat → ClassId} {tF : Nat} {wOf : Mm → va_W} {po ad : Nat → Nat} (hw : KF wOf po ad ct) (M : Mm) {v1 : Int32} {r : Int32} (h : fX0_mirrored (M.1 2) (M.1 3) v1 = some r) : CtI l yX0_mirrored cX0_mirrored 5 .int { frames := 3, cells := 0, slots := 0, locals := 68 } D ct tF wOf [.ref (ad 1), .int v1] M r M := by
  refine metI (by decide) (Nat.le_of_ble_eq_true rfl) fun κ X e1 eR e3 e4 hs => ?_
  subst e1; subst e3; subst e4
  unfold fX0_mirrored at h
  refine z_sub (lv' := [(0, .ref (ad 1)), (1, .int v1)]) [0, 1] rfl ?_
  refine z_aload_n X dX0_mirrored_0 0 rfl rfl ?_
  refine z_iload_n X dX0_mirrored_1 1 rfl rfl ?_
  obtain ⟨r1, hr1, h⟩ := ob h
  refine z_cVI (As := [.int v1]) (st := []) X (tX0_sizeOf hw M hr1) w_53 mvX0_sizeOf (by rw [eR]; exact ⟨Nat.le_of_ble_eq_true rfl, Nat.le_of_ble_eq_true rfl⟩) ⟨rfl, rfl⟩ rfl (Nat.le_of_ble_eq_true rfl) (hw.1 _) rfl rfl dX0_mirrored_2 ?_
  refine z_istore_n (lv' := [(2, .int r1), (0, .ref (ad 1)), (1, .int v1)]) X dX0_mirrored_5 rfl (by decide) rfl ?_
  refine z_iconst (v := (nI 0)) X dX0_mirrored_6 (by decide) ?_
  refine z_istore_n (lv' := [(3, .int (nI 0)), (2, .int r1), (0, .ref (ad 1)), (1, .int v1)]) X dX0_mirrored_7 rfl (by decide) rfl ?_
  refine z_iconst (v := (nI 0)) X dX0_mirrored_8 (by decide) ?_
  refine z_istore (lv' := [(4, .int (nI 0)), (3, .int (nI 0)), (2, .int r1), (0, .ref (ad 1)), (1, .int v1)]) X dX0_mirrored_9 (by decide) rfl ?_
  refine z_sub [3, 4, 2, 1, 0] rfl ?_
  obtain ⟨y2, hy2, h⟩ := ob h
  refine (it_Z (bX0_mirrored_B11 X eR hw M v1 r1) FU _ y2 hy2) ?_
  refine z_aload_n X dX0_mirrored_43 0 rfl rfl ?_
  refine z_iload_n X dX0_mirrored_44 1 rfl rfl ?_
  refine z_iload_n X dX0_mirrored_45 2 rfl rfl ?_
  obtain ⟨r3, hr3, h⟩ := ob h
  refine z_cVI (As := [.int r1, .int y2]) (st := []) X (tX0_find hw M hr3) w_43 mvX0_find (by rw [eR]; exact ⟨Nat.le_of_ble_eq_true rfl, Nat.le_of_ble_eq_true rfl⟩) ⟨rfl, rfl⟩ rfl (Nat.le_of_ble_eq_true rfl) (hw.1 _) rfl rfl dX0_mirrored_46 ?_
  have hq := Option.some.inj h
  subst hq
  exact z_iret hs dX0_mirrored_49 rfl
set_option maxHeartbeats 4000000 in
theorem tX0_digitOf {l : Launch} {D : va_G} {ct : Nat → ClassId} {tF : Nat} {wOf : Mm → va_W} {po ad : Nat → Nat} (hw : KF wOf po ad ct) (M : Mm) {v0 : Int32} {v1 : Int32} {v2 : Int32} {r : Int32} (h : fX0_digitOf v0 v1 v2 = some r) : CtI l yX0_digitOf cX0_digitOf 3 .int { frames := 0, cells := 0, slots := 0, locals := 0 } D ct tF wOf [.int v0, .int v1, .int v2] M r M := by
  refine metI (by decide) (Nat.le_of_ble_eq_true rfl) fun κ X e1 eR e3 e4 hs => ?_
  subst e1; subst e3; subst e4
  unfold fX0_digitOf at h
  refine z_sub (lv' := [(0, .int v0), (1, .int v1), (2, .int v2)]) [0, 1, 2] rfl ?_
  refine z_iload_n X dX0_digitOf_0 0 rfl rfl ?_
  refine z_iconst (v := (nI 4)) X dX0_digitOf_1 (by decide) ?_
  refine z_iload_n X dX0_digitOf_2 1 rfl rfl ?_
  refine z_iconst (v := (nI 1)) X dX0_digitOf_3 (by decide) ?_
  refine z_isub X dX0_digitOf_4 ?_
  refine z_iload_n X dX0_digitOf_5 2 rfl rfl ?_
  refine z_isub X dX0_digitOf_6 ?_
  refine z_imul X dX0_digitOf_7 ?_
  refine z_ishr X dX0_digitOf_8 ?_
  refine z_bipush (v := (nI 15)) X dX0_digitOf_9 (by decide) ?_
  refine z_iand X dX0_digitOf_11 ?_
  have hq := Option.some.inj h
  subst hq
  exact z_iret hs dX0_digitOf_12 rfl
set_option maxHeartbeats 4000000 in
theorem bX0_greatestWith_B6 {κ : Rx} {ct : Nat → ClassId} {tF : Nat} {po ad : Nat → Nat} (X : CX κ ct tF cX0_greatestWith 4 RX0) (eR : kR κ = { frames := 2, cells := 0, slots := 0, locals := 45 }) (hw : KF (kw κ) po ad ct) (M : Mm)  (v1 : Int32) (v2 : Int32) : ∀ (x : Int32) (s : Int32 ⊕ (Unit ⊕ Int32)), fX0_greatestWith_B6 (M.1 2) (M.1 3) v1 v2 x = some s → Sum.elim (fun x => Zj κ 4 6 [(0, .ref (ad 1)), (1, .int v1), (2, .int v2), (3, .int x)] [] M) (Sum.elim (fun y => Zj κ 4 32 [] [] M) (fun r => ZI κ cX0_greatestWith .int r M)) s → Zj κ 4 6 [(0, .ref (ad 1)), (1, .int v1), (2, .int v2), (3, .int x)] [] M := by
  intro x s h hs
  unfold fX0_greatestWith_B6 at h
  refine z_iload_n X dX0_greatestWith_6 3 rfl rfl ?_
  refine z_aload_n X dX0_greatestWith_7 0 rfl rfl ?_
  refine z_iload_n X dX0_greatestWith_8 1 rfl rfl ?_
  obtain ⟨r1, hr1, h⟩ := ob h
  refine z_cVI (As := [.int v1]) (st := [.int x]) X (tX0_firstOf hw M hr1) w_38 mvX0_firstOf (by rw [eR]; exact ⟨Nat.le_of_ble_eq_true rfl, Nat.le_of_ble_eq_true rfl⟩) ⟨rfl, rfl⟩ rfl (Nat.le_of_ble_eq_true rfl) (hw.1 _) rfl rfl dX0_greatestWith_9 ?_
  refine z_icmp_lt (tgt := 32) X dX0_greatestWith_12 (by decide) (fun c12 => ?_) (fun c12 => ?_)
  · rw [if_pos c12] at h
    have hq := Option.some.inj h
    subst hq
    exact z_sub [] rfl hs
  · rw [if_neg c12] at h
    refine z_aload_n X dX0_greatestWith_15 0 rfl rfl ?_
    refine z_iload_n X dX0_greatestWith_16 3 rfl rfl ?_
    obtain ⟨r2, hr2, h⟩ := ob h
    refine z_cVI (As := [.int x]) (st := []) X (tX0_withRightChild hw M hr2) w_301 mvX0_withRightChild (by rw [eR]; exact ⟨Nat.le_of_ble_eq_true rfl, Nat.le_of_ble_eq_true rfl⟩) ⟨rfl, rfl⟩ rfl (Nat.le_of_ble_eq_true rfl) (hw.1 _) rfl rfl dX0_greatestWith_17 ?_
    refine z_iload_n X dX0_greatestWith_20 2 rfl rfl ?_
    refine z_icmp_ne (tgt := 26) X dX0_greatestWith_21 (by decide) (fun c21 => ?_) (fun c21 => ?_)
    · rw [if_neg c21] at h
      refine z_iinc (v := (x + (-1))) (lv' := [(3, .int (x + (-1))), (0, .ref (ad 1)), (1, .int v1), (2, .int v2)]) X dX0_greatestWith_26 3 rfl rfl (by decide) rfl ?_
      refine z_goto (tgt := 6) X dX0_greatestWith_29 (by decide) ?_
      have hq := Option.some.inj h
      subst hq
      exact z_sub [1, 2, 3, 0] rfl hs
    · rw [if_pos c21] at h
      refine z_iload_n X dX0_greatestWith_24 3 rfl rfl ?_
      have hq := Option.some.inj h
      subst hq
      exact z_iret hs dX0_greatestWith_25 rfl
set_option maxHeartbeats 4000000 in
theorem tX0_greatestWith {l : Launch} {D : va_G} {ct : Nat → ClassId} {tF : Nat} {wOf : Mm → va_W} {po ad : Nat → Nat} (hw : KF wOf po ad ct) (M : Mm) {v1 : Int32} {v2 : Int32} {r : Int32} (h : fX0_greatestWith (M.1 2) (M.1 3) v1 v2 = some r) : CtI l yX0_greatestWith cX0_greatestWith 4 .int { frames := 2, cells := 0, slots := 0, locals := 45 } D ct tF wOf [.ref (ad 1), .int v1, .int v2] M r M := by
  refine metI (by decide) (Nat.le_of_ble_eq_true rfl) fun κ X e1 eR e3 e4 hs => ?_
  subst e1; subst e3; subst e4
  unfold fX0_greatestWith at h
  refine z_sub (lv' := [(0, .ref (ad 1)), (1, .int v1), (2, .int v2)]) [0, 1, 2] rfl ?_
  refine z_aload_n X dX0_greatestWith_0 0 rfl rfl ?_
  refine z_iload_n X dX0_greatestWith_1 1 rfl rfl ?_
  obtain ⟨r1, hr1, h⟩ := ob h
  refine z_cVI (As := [.int v1]) (st := []) X (tX0_lastOf hw M hr1) w_34 mvX0_lastOf (by rw [eR]; exact ⟨Nat.le_of_ble_eq_true rfl, Nat.le_of_ble_eq_true rfl⟩) ⟨rfl, rfl⟩ rfl (Nat.le_of_ble_eq_true rfl) (hw.1 _) rfl rfl dX0_greatestWith_2 ?_
  refine z_istore_n (lv' := [(3, .int r1), (0, .ref (ad 1)), (1, .int v1), (2, .int v2)]) X dX0_greatestWith_5 rfl (by decide) rfl ?_
  refine z_sub [1, 2, 3, 0] rfl ?_
  obtain ⟨y2_, hy2, h⟩ := ob h
  cases y2_ with
  | inl y2 =>
    rw [Sum.elim_inl] at h
    refine (it_Z (bX0_greatestWith_B6 X eR hw M v1 v2) FU _ (.inl y2) hy2) ?_
    refine z_iconst (v := (nI 0)) X dX0_greatestWith_32 (by decide) ?_
    have hq := Option.some.inj h
    subst hq
    exact z_iret hs dX0_greatestWith_33 rfl
  | inr y2 =>
    rw [Sum.elim_inr] at h
    have hq := Option.some.inj h
    subst hq
    exact (it_Z (bX0_greatestWith_B6 X eR hw M v1 v2) FU _ (.inr _) hy2) hs
set_option maxHeartbeats 4000000 in
theorem bX0_leastWith_B6 {κ : Rx} {ct : Nat → ClassId} {tF : Nat} {po ad : Nat → Nat} (X : CX κ ct tF cX0_leastWith 4 RX0) (eR : kR κ = { frames := 2, cells := 0, slots := 0, locals := 45 }) (hw : KF (kw κ) po ad ct) (M : Mm)  (v1 : Int32) (v2 : Int32) : ∀ (x : Int32) (s : Int32 ⊕ (Unit ⊕ Int32)), fX0_leastWith_B6 (M.1 2) (M.1 3) v1 v2 x = some s → Sum.elim (fun x => Zj κ 4 6 [(0, .ref (ad 1)), (1, .int v1), (2, .int v2), (3, .int x)] [] M) (Sum.elim (fun y => Zj κ 4 32 [] [] M) (fun r => ZI κ cX0_leastWith .int r M)) s → Zj κ 4 6 [(0, .ref (ad 1)), (1, .int v1), (2, .int v2), (3, .int x)] [] M := by
  intro x s h hs
  unfold fX0_leastWith_B6 at h
  refine z_iload_n X dX0_leastWith_6 3 rfl rfl ?_
  refine z_aload_n X dX0_leastWith_7 0 rfl rfl ?_
  refine z_iload_n X dX0_leastWith_8 1 rfl rfl ?_
  obtain ⟨r1, hr1, h⟩ := ob h
  refine z_cVI (As := [.int v1]) (st := [.int x]) X (tX0_lastOf hw M hr1) w_34 mvX0_lastOf (by rw [eR]; exact ⟨Nat.le_of_ble_eq_true rfl, Nat.le_of_ble_eq_true rfl⟩) ⟨rfl, rfl⟩ rfl (Nat.le_of_ble_eq_true rfl) (hw.1 _) rfl rfl dX0_leastWith_9 ?_
  refine z_icmp_gt (tgt := 32) X dX0_leastWith_12 (by decide) (fun c12 => ?_) (fun c12 => ?_)
  · rw [if_pos c12] at h
    have hq := Option.some.inj h
    subst hq
    exact z_sub [] rfl hs
  · rw [if_neg c12] at h
    refine z_aload_n X dX0_leastWith_15 0 rfl rfl ?_
    refine z_iload_n X dX0_leastWith_16 3 rfl rfl ?_
    obtain ⟨r2, hr2, h⟩ := ob h
    refine z_cVI (As := [.int x]) (st := []) X (tX0_withRightChild hw M hr2) w_301 mvX0_withRightChild (by rw [eR]; exact ⟨Nat.le_of_ble_eq_true rfl, Nat.le_of_ble_eq_true rfl⟩) ⟨rfl, rfl⟩ rfl (Nat.le_of_ble_eq_true rfl) (hw.1 _) rfl rfl dX0_leastWith_17 ?_
    refine z_iload_n X dX0_leastWith_20 2 rfl rfl ?_
    refine z_icmp_ne (tgt := 26) X dX0_leastWith_21 (by decide) (fun c21 => ?_) (fun c21 => ?_)
    · rw [if_neg c21] at h
      refine z_iinc (v := (x + nI 1)) (lv' := [(3, .int (x + nI 1)), (0, .ref (ad 1)), (1, .int v1), (2, .int v2)]) X dX0_leastWith_26 3 rfl rfl (by decide) rfl ?_
      refine z_goto (tgt := 6) X dX0_leastWith_29 (by decide) ?_
      have hq := Option.some.inj h
      subst hq
      exact z_sub [1, 2, 3, 0] rfl hs
    · rw [if_pos c21] at h
      refine z_iload_n X dX0_leastWith_24 3 rfl rfl ?_
      have hq := Option.some.inj h
      subst hq
      exact z_iret hs dX0_leastWith_25 rfl
set_option maxHeartbeats 4000000 in
theorem tX0_leastWith {l : Launch} {D : va_G} {ct : Nat → ClassId} {tF : Nat} {wOf : Mm → va_W} {po ad : Nat → Nat} (hw : KF wOf po ad ct) (M : Mm) {v1 : Int32} {v2 : Int32} {r : Int32} (h : fX0_leastWith (M.1 2) (M.1 3) v1 v2 = some r) : CtI l yX0_leastWith cX0_leastWith 4 .int { frames := 2, cells := 0, slots := 0, locals := 45 } D ct tF wOf [.ref (ad 1), .int v1, .int v2] M r M := by
  refine metI (by decide) (Nat.le_of_ble_eq_true rfl) fun κ X e1 eR e3 e4 hs => ?_
  subst e1; subst e3; subst e4
  unfold fX0_leastWith at h
  refine z_sub (lv' := [(0, .ref (ad 1)), (1, .int v1), (2, .int v2)]) [0, 1, 2] rfl ?_
  refine z_aload_n X dX0_leastWith_0 0 rfl rfl ?_
  refine z_iload_n X dX0_leastWith_1 1 rfl rfl ?_
  obtain ⟨r1, hr1, h⟩ := ob h
  refine z_cVI (As := [.int v1]) (st := []) X (tX0_firstOf hw M hr1) w_38 mvX0_firstOf (by rw [eR]; exact ⟨Nat.le_of_ble_eq_true rfl, Nat.le_of_ble_eq_true rfl⟩) ⟨rfl, rfl⟩ rfl (Nat.le_of_ble_eq_true rfl) (hw.1 _) rfl rfl dX0_leastWith_2 ?_
  refine z_istore_n (lv' := [(3, .int r1), (0, .ref (ad 1)), (1, .int v1), (2, .int v2)]) X dX0_leastWith_5 rfl (by decide) rfl ?_
  refine z_sub [1, 2, 3, 0] rfl ?_
  obtain ⟨y2_, hy2, h⟩ := ob h
  cases y2_ with
  | inl y2 =>
    rw [Sum.elim_inl] at h
    refine (it_Z (bX0_leastWith_B6 X eR hw M v1 v2) FU _ (.inl y2) hy2) ?_
    refine z_iconst (v := (nI 0)) X dX0_leastWith_32 (by decide) ?_
    have hq := Option.some.inj h
    subst hq
    exact z_iret hs dX0_leastWith_33 rfl
  | inr y2 =>
    rw [Sum.elim_inr] at h
    have hq := Option.some.inj h
    subst hq
    exact (it_Z (bX0_leastWith_B6 X eR hw M v1 v2) FU _ (.inr _) hy2) hs
set_option maxHeartbeats 4000000 in
theorem jX0_howManyWith_J32 {κ : Rx} {ct : Nat → ClassId} {tF : Nat} {po ad : Nat → Nat} (X : CX κ ct tF cX0_howManyWith 5 RX0) (eR : kR κ = { frames := 2, cells := 0, slots := 0, locals := 45 }) (hw : KF (kw κ) po ad ct) (M : Mm)   (v1 : Int32) (v2 : Int32) (v3 : Int32) (v4 : Int32)  (s : ((Int32 × Int32) ⊕ Int32)) (h : fX0_howManyWith_J32 (M.1 2) (M.1 3) v1 v2 v3 v4 = some s) (hs : (Sum.elim (fun x => Zj κ 5 9 [(0, .ref (ad 1)), (1, .int v1), (2, .int v2), (3, .int x.1), (4, .int x.2)] [] M) (fun y => Zj κ 5 38 [(3, .int y)] [] M) s)) : Zj κ 5 32 [(0, .ref (ad 1)), (1, .int v1), (2, .int v2), (3, .int v3), (4, .int v4)] [] M := by
  unfold fX0_howManyWith_J32 at h
  refine z_iinc (v := (v4 + nI 1)) (lv' := [(4, .int (v4 + nI 1)), (0, .ref (ad 1)), (1, .int v1), (2, .int v2), (3, .int v3)]) X dX0_howManyWith_32 4 rfl rfl (by decide) rfl ?_
  refine z_goto (tgt := 9) X dX0_howManyWith_35 (by decide) ?_
  have hq := Option.some.inj h
  subst hq
  exact z_sub [1, 2, 3, 4, 0] rfl hs
set_option maxHeartbeats 4000000 in
theorem bX0_howManyWith_B9 {κ : Rx} {ct : Nat → ClassId} {tF : Nat} {po ad : Nat → Nat} (X : CX κ ct tF cX0_howManyWith 5 RX0) (eR : kR κ = { frames := 2, cells := 0, slots := 0, locals := 45 }) (hw : KF (kw κ) po ad ct) (M : Mm)  (v1 : Int32) (v2 : Int32) : ∀ (x : (Int32 × Int32)) (s : (Int32 × Int32) ⊕ Int32), fX0_howManyWith_B9 (M.1 2) (M.1 3) v1 v2 x = some s → Sum.elim (fun x => Zj κ 5 9 [(0, .ref (ad 1)), (1, .int v1), (2, .int v2), (3, .int x.1), (4, .int x.2)] [] M) (fun y => Zj κ 5 38 [(3, .int y)] [] M) s → Zj κ 5 9 [(0, .ref (ad 1)), (1, .int v1), (2, .int v2), (3, .int x.1), (4, .int x.2)] [] M := by
  intro x s h hs
  unfold fX0_howManyWith_B9 at h
  refine z_iload X dX0_howManyWith_9 4 rfl ?_
  refine z_aload_n X dX0_howManyWith_11 0 rfl rfl ?_
  refine z_iload_n X dX0_howManyWith_12 1 rfl rfl ?_
  obtain ⟨r1, hr1, h⟩ := ob h
  refine z_cVI (As := [.int v1]) (st := [.int x.2]) X (tX0_lastOf hw M hr1) w_34 mvX0_lastOf (by rw [eR]; exact ⟨Nat.le_of_ble_eq_true rfl, Nat.le_of_ble_eq_true rfl⟩) ⟨rfl, rfl⟩ rfl (Nat.le_of_ble_eq_true rfl) (hw.1 _) rfl rfl dX0_howManyWith_13 ?_
  refine z_icmp_gt (tgt := 38) X dX0_howManyWith_16 (by decide) (fun c16 => ?_) (fun c16 => ?_)
  · rw [if_pos c16] at h
    have hq := Option.some.inj h
    subst hq
    exact z_sub [3] rfl hs
  · rw [if_neg c16] at h
    refine z_aload_n X dX0_howManyWith_19 0 rfl rfl ?_
    refine z_iload X dX0_howManyWith_20 4 rfl ?_
    obtain ⟨r2, hr2, h⟩ := ob h
    refine z_cVI (As := [.int x.2]) (st := []) X (tX0_withRightChild hw M hr2) w_301 mvX0_withRightChild (by rw [eR]; exact ⟨Nat.le_of_ble_eq_true rfl, Nat.le_of_ble_eq_true rfl⟩) ⟨rfl, rfl⟩ rfl (Nat.le_of_ble_eq_true rfl) (hw.1 _) rfl rfl dX0_howManyWith_22 ?_
    refine z_iload_n X dX0_howManyWith_25 2 rfl rfl ?_
    refine z_icmp_ne (tgt := 32) X dX0_howManyWith_26 (by decide) (fun c26 => ?_) (fun c26 => ?_)
    · rw [if_neg c26] at h
      exact (jX0_howManyWith_J32 X eR hw M v1 v2 x.1 x.2 _ h hs)
    · rw [if_pos c26] at h
      refine z_iinc (v := (x.1 + nI 1)) (lv' := [(3, .int (x.1 + nI 1)), (0, .ref (ad 1)), (1, .int v1), (2, .int v2), (4, .int x.2)]) X dX0_howManyWith_29 3 rfl rfl (by decide) rfl ?_
      exact z_sub [1, 2, 3, 0, 4] rfl (jX0_howManyWith_J32 X eR hw M v1 v2 (x.1 + nI 1) x.2 _ h hs)
set_option maxHeartbeats 4000000 in
theorem tX0_howManyWith {l : Launch} {D : va_G} {ct : Nat → ClassId} {tF : Nat} {wOf : Mm → va_W} {po ad : Nat → Nat} (hw : KF wOf po ad ct) (M : Mm) {v1 : Int32} {v2 : Int32} {r : Int32} (h : fX0_howManyWith (M.1 2) (M.1 3) v1 v2 = some r) : CtI l yX0_howManyWith cX0_howManyWith 5 .int { frames := 2, cells := 0, slots := 0, locals := 45 } D ct tF wOf [.ref (ad 1), .int v1, .int v2] M r M := by
  refine metI (by decide) (Nat.le_of_ble_eq_true rfl) fun κ X e1 eR e3 e4 hs => ?_
  subst e1; subst e3; subst e4
  unfold fX0_howManyWith at h
  refine z_sub (lv' := [(0, .ref (ad 1)), (1, .int v1), (2, .int v2)]) [0, 1, 2] rfl ?_
  refine z_iconst (v := (nI 0)) X dX0_howManyWith_0 (by decide) ?_
  refine z_istore_n (lv' := [(3, .int (nI 0)), (0, .ref (ad 1)), (1, .int v1), (2, .int v2)]) X dX0_howManyWith_1 rfl (by decide) rfl ?_
  refine z_aload_n X dX0_howManyWith_2 1 rfl rfl ?_
  refine z_iload_n X dX0_howManyWith_3 2 rfl rfl ?_
  obtain ⟨r1, hr1, h⟩ := ob h
  refine z_cVI (As := [.int v1]) (st := []) X (tX0_firstOf hw M hr1) w_38 mvX0_firstOf (by rw [eR]; exact ⟨Nat.le_of_ble_eq_true rfl, Nat.le_of_ble_eq_true rfl⟩) ⟨rfl, rfl⟩ rfl (Nat.le_of_ble_eq_true rfl) (hw.1 _) rfl rfl dX0_howManyWith_4 ?_
  refine z_istore (lv' := [(4, .int r1), (3, .int (nI 0)), (0, .ref (ad 1)), (1, .int v1), (2, .int v2)]) X dX0_howManyWith_7 (by decide) rfl ?_
  refine z_sub [2, 3, 4, 1, 0] rfl ?_
  obtain ⟨y2, hy2, h⟩ := ob h
  refine (it_Z (bX0_howManyWith_B9 X eR hw M v1 v2) FU _ y2 hy2) ?_
  refine z_iload_n X dX0_howManyWith_38 0 rfl rfl ?_
  have hq := Option.some.inj h
  subst hq
  exact z_iret hs dX0_howManyWith_39 rfl
set_option maxHeartbeats 4000000 in
theorem tX0_sideBySide {l : Launch} {D : va_G} {ct : Nat → ClassId} {tF : Nat} {wOf : Mm → va_W} {po ad : Nat → Nat} (hw : KF wOf po ad ct) (M : Mm) {v1 : Int32} {v2 : Int32} {v3 : Int32} {r : Int32} (h : fX0_sideBySide (M.1 2) (M.1 3) v1 v2 v3 = some r) : CtI l yX0_sideBySide cX0_sideBySide 4 .int { frames := 3, cells := 0, slots := 0, locals := 66 } D ct tF wOf [.ref (ad 1), .int v1, .int v2, .int v3] M r M := by
  refine metI (by decide) (Nat.le_of_ble_eq_true rfl) fun κ X e1 eR e3 e4 hs => ?_
  subst e1; subst e3; subst e4
  unfold fX0_sideBySide at h
  refine z_sub (lv' := [(0, .ref (ad 1)), (1, .int v1), (2, .int v2), (3, .int v3)]) [0, 1, 2, 3] rfl ?_
  refine z_aload_n X dX0_sideBySide_0 0 rfl rfl ?_
  refine z_aload_n X dX0_sideBySide_1 0 rfl rfl ?_
  refine z_iload_n X dX0_sideBySide_2 2 rfl rfl ?_
  obtain ⟨r1, hr1, h⟩ := ob h
  refine z_cVI (As := [.int v2]) (st := [.ref (ad 1)]) X (tX0_sizeOf hw M hr1) w_53 mvX0_sizeOf (by rw [eR]; exact ⟨Nat.le_of_ble_eq_true rfl, Nat.le_of_ble_eq_true rfl⟩) ⟨rfl, rfl⟩ rfl (Nat.le_of_ble_eq_true rfl) (hw.1 _) rfl rfl dX0_sideBySide_3 ?_
  refine z_aload_n X dX0_sideBySide_6 0 rfl rfl ?_
  refine z_iload_n X dX0_sideBySide_7 3 rfl rfl ?_
  obtain ⟨r2, hr2, h⟩ := ob h
  refine z_cVI (As := [.int v3]) (st := [.int r1, .ref (ad 1)]) X (tX0_sizeOf hw M hr2) w_53 mvX0_sizeOf (by rw [eR]; exact ⟨Nat.le_of_ble_eq_true rfl, Nat.le_of_ble_eq_true rfl⟩) ⟨rfl, rfl⟩ rfl (Nat.le_of_ble_eq_true rfl) (hw.1 _) rfl rfl dX0_sideBySide_8 ?_
  refine z_iadd X dX0_sideBySide_11 ?_
  refine z_iload_n X dX0_sideBySide_12 1 rfl rfl ?_
  refine z_iconst (v := (nI 4)) X dX0_sideBySide_13 (by decide) ?_
  refine z_aload_n X dX0_sideBySide_14 0 rfl rfl ?_
  refine z_iload_n X dX0_sideBySide_15 3 rfl rfl ?_
  obtain ⟨r3, hr3, h⟩ := ob h
  refine z_cVI (As := [.int v3]) (st := [.int (nI 4), .int v1, .int (r1 + r2), .ref (ad 1)]) X (tX0_sizeOf hw M hr3) w_53 mvX0_sizeOf (by rw [eR]; exact ⟨Nat.le_of_ble_eq_true rfl, Nat.le_of_ble_eq_true rfl⟩) ⟨rfl, rfl⟩ rfl (Nat.le_of_ble_eq_true rfl) (hw.1 _) rfl rfl dX0_sideBySide_16 ?_
  refine z_imul X dX0_sideBySide_19 ?_
  refine z_ishl X dX0_sideBySide_20 ?_
  refine z_aload_n X dX0_sideBySide_21 0 rfl rfl ?_
  refine z_iload_n X dX0_sideBySide_22 3 rfl rfl ?_
  obtain ⟨r4, hr4, h⟩ := ob h
  refine z_cVI (As := [.int v3]) (st := [.int (v1 <<< (((nI 4) * r3) &&& 31)), .int (r1 + r2), .ref (ad 1)]) X (tX0_codeOf hw M hr4) w_39 mvX0_codeOf (by rw [eR]; exact ⟨Nat.le_of_ble_eq_true rfl, Nat.le_of_ble_eq_true rfl⟩) ⟨rfl, rfl⟩ rfl (Nat.le_of_ble_eq_true rfl) (hw.1 _) rfl rfl dX0_sideBySide_23 ?_
  refine z_ior X dX0_sideBySide_26 ?_
  obtain ⟨r5, hr5, h⟩ := ob h
  refine z_cVI (As := [.int (r1 + r2), .int ((v1 <<< (((nI 4) * r3) &&& 31)) ||| r4)]) (st := []) X (tX0_find hw M hr5) w_43 mvX0_find (by rw [eR]; exact ⟨Nat.le_of_ble_eq_true rfl, Nat.le_of_ble_eq_true rfl⟩) ⟨rfl, rfl⟩ rfl (Nat.le_of_ble_eq_true rfl) (hw.1 _) rfl rfl dX0_sideBySide_27 ?_
  have hq := Option.some.inj h
  subst hq
  exact z_iret hs dX0_sideBySide_30 rfl
set_option maxHeartbeats 4000000 in
theorem tX0_setOver {l : Launch} {D : va_G} {ct : Nat → ClassId} {tF : Nat} {wOf : Mm → va_W} {po ad : Nat → Nat} (hw : KF wOf po ad ct) (M : Mm) {v1 : Int32} {v2 : Int32} {r : Int32} (h : fX0_setOver (M.1 2) (M.1 3) v1 v2 = some r) : CtI l yX0_setOver cX0_setOver 3 .int { frames := 4, cells := 0, slots := 0, locals := 89 } D ct tF wOf [.ref (ad 1), .int v1, .int v2] M r M := by
  refine metI (by decide) (Nat.le_of_ble_eq_true rfl) fun κ X e1 eR e3 e4 hs => ?_
  subst e1; subst e3; subst e4
  unfold fX0_setOver at h
  refine z_sub (lv' := [(0, .ref (ad 1)), (1, .int v1), (2, .int v2)]) [0, 1, 2] rfl ?_
  refine z_aload_n X dX0_setOver_0 0 rfl rfl ?_
  refine z_aload_n X dX0_setOver_1 0 rfl rfl ?_
  refine z_iload_n X dX0_setOver_2 1 rfl rfl ?_
  obtain ⟨r1, hr1, h⟩ := ob h
  refine z_cVI (As := [.int v1]) (st := [.ref (ad 1)]) X (tX0_codeOf hw M hr1) w_39 mvX0_codeOf (by rw [eR]; exact ⟨Nat.le_of_ble_eq_true rfl, Nat.le_of_ble_eq_true rfl⟩) ⟨rfl, rfl⟩ rfl (Nat.le_of_ble_eq_true rfl) (hw.1 _) rfl rfl dX0_setOver_3 ?_
  refine z_iload_n X dX0_setOver_6 1 rfl rfl ?_
  refine z_iload_n X dX0_setOver_7 2 rfl rfl ?_
  obtain ⟨r2, hr2, h⟩ := ob h
  refine z_cVI (As := [.int r1, .int v1, .int v2]) (st := []) X (tX0_sideBySide hw M hr2) w_314 mvX0_sideBySide (by rw [eR]; exact ⟨Nat.le_of_ble_eq_true rfl, Nat.le_of_ble_eq_true rfl⟩) ⟨rfl, rfl⟩ rfl (Nat.le_of_ble_eq_true rfl) (hw.1 _) rfl rfl dX0_setOver_8 ?_
  have hq := Option.some.inj h
  subst hq
  exact z_iret hs dX0_setOver_11 rfl
set_option maxHeartbeats 4000000 in
theorem jX0_setUnder_J51 {κ : Rx} {ct : Nat → ClassId} {tF : Nat} {po ad : Nat → Nat} (X : CX κ ct tF cX0_setUnder 6 RX0) (eR : kR κ = { frames := 4, cells := 0, slots := 0, locals := 89 }) (hw : KF (kw κ) po ad ct) (M : Mm)   (v1 : Int32) (v2 : Int32) (v3 : Int32) (v4 : Int32) (v5 : Int32)  (s : ((Int32 × Int32) ⊕ Int32)) (h : fX0_setUnder_J51 (M.1 2) (M.1 3) v1 v2 v3 v4 v5 = some s) (hs : (Sum.elim (fun x => Zj κ 6 16 [(0, .ref (ad 1)), (1, .int v1), (2, .int v2), (3, .int v3), (4, .int x.1), (5, .int x.2)] [] M) (fun y => Zj κ 6 57 [(0, .ref (ad 1)), (1, .int v1), (2, .int v2), (4, .int y)] [] M) s)) : Zj κ 6 51 [(0, .ref (ad 1)), (1, .int v1), (2, .int v2), (3, .int v3), (4, .int v4), (5, .int v5)] [] M := by
  unfold fX0_setUnder_J51 at h
  refine z_iinc (v := (v5 + nI 1)) (lv' := [(5, .int (v5 + nI 1)), (0, .ref (ad 1)), (1, .int v1), (2, .int v2), (3, .int v3), (4, .int v4)]) X dX0_setUnder_51 5 rfl rfl (by decide) rfl ?_
  refine z_goto (tgt := 16) X dX0_setUnder_54 (by decide) ?_
  have hq := Option.some.inj h
  subst hq
  exact z_sub [1, 2, 3, 4, 5, 0] rfl hs
set_option maxHeartbeats 4000000 in
theorem bX0_setUnder_B16 {κ : Rx} {ct : Nat → ClassId} {tF : Nat} {po ad : Nat → Nat} (X : CX κ ct tF cX0_setUnder 6 RX0) (eR : kR κ = { frames := 4, cells := 0, slots := 0, locals := 89 }) (hw : KF (kw κ) po ad ct) (M : Mm)  (v1 : Int32) (v2 : Int32) (v3 : Int32) : ∀ (x : (Int32 × Int32)) (s : (Int32 × Int32) ⊕ Int32), fX0_setUnder_B16 (M.1 2) (M.1 3) v1 v2 v3 x = some s → Sum.elim (fun x => Zj κ 6 16 [(0, .ref (ad 1)), (1, .int v1), (2, .int v2), (3, .int v3), (4, .int x.1), (5, .int x.2)] [] M) (fun y => Zj κ 6 57 [(0, .ref (ad 1)), (1, .int v1), (2, .int v2), (4, .int y)] [] M) s → Zj κ 6 16 [(0, .ref (ad 1)), (1, .int v1), (2, .int v2), (3, .int v3), (4, .int x.1), (5, .int x.2)] [] M := by
  intro x s h hs
  unfold fX0_setUnder_B16 at h
  refine z_iload X dX0_setUnder_16 5 rfl ?_
  refine z_iload_n X dX0_setUnder_18 3 rfl rfl ?_
  refine z_icmp_ge (tgt := 57) X dX0_setUnder_19 (by decide) (fun c19 => ?_) (fun c19 => ?_)
  · rw [if_pos c19] at h
    have hq := Option.some.inj h
    subst hq
    exact z_sub [0, 1, 2, 4] rfl hs
  · rw [if_neg c19] at h
    refine z_aload_n X dX0_setUnder_22 0 rfl rfl ?_
    refine z_iload_n X dX0_setUnder_23 1 rfl rfl ?_
    refine z_iload X dX0_setUnder_24 5 rfl ?_
    obtain ⟨r1, hr1, h⟩ := ob h
    refine z_cVI (As := [.int v1, .int x.2]) (st := []) X (tX0_end hw M hr1) w_74 mvX0_end (by rw [eR]; exact ⟨Nat.le_of_ble_eq_true rfl, Nat.le_of_ble_eq_true rfl⟩) ⟨rfl, rfl⟩ rfl (Nat.le_of_ble_eq_true rfl) (hw.1 _) rfl rfl dX0_setUnder_26 ?_
    refine z_iload_n X dX0_setUnder_29 3 rfl rfl ?_
    refine z_iconst (v := (nI 1)) X dX0_setUnder_30 (by decide) ?_
    refine z_isub X dX0_setUnder_31 ?_
    refine z_icmp_ne (tgt := 51) X dX0_setUnder_32 (by decide) (fun c32 => ?_) (fun c32 => ?_)
    · rw [if_neg c32] at h
      exact (jX0_setUnder_J51 X eR hw M v1 v2 v3 x.1 x.2 _ h hs)
    · rw [if_pos c32] at h
      refine z_iload X dX0_setUnder_35 4 rfl ?_
      refine z_aload_n X dX0_setUnder_37 0 rfl rfl ?_
      refine z_iload_n X dX0_setUnder_38 2 rfl rfl ?_
      obtain ⟨r2, hr2, h⟩ := ob h
      refine z_cVI (As := [.int v2]) (st := [.int x.1]) X (tX0_sizeOf hw M hr2) w_53 mvX0_sizeOf (by rw [eR]; exact ⟨Nat.le_of_ble_eq_true rfl, Nat.le_of_ble_eq_true rfl⟩) ⟨rfl, rfl⟩ rfl (Nat.le_of_ble_eq_true rfl) (hw.1 _) rfl rfl dX0_setUnder_39 ?_
      refine z_iload_n X dX0_setUnder_42 3 rfl rfl ?_
      refine z_iload X dX0_setUnder_43 5 rfl ?_
      obtain ⟨r3, hr3, h⟩ := ob h
      refine z_cSI (As := [.int r2, .int v3, .int x.2]) (st := [.int x.1]) X (tX0_digitAt hw M hr3) w_120 msX0_digitAt (by rw [eR]; exact ⟨Nat.le_of_ble_eq_true rfl, Nat.le_of_ble_eq_true rfl⟩) ⟨rfl, rfl⟩ rfl (Nat.le_of_ble_eq_true rfl) rfl dX0_setUnder_45 ?_
      refine z_iadd X dX0_setUnder_48 ?_
      refine z_istore (lv' := [(4, .int (x.1 + r3)), (0, .ref (ad 1)), (1, .int v1), (2, .int v2), (3, .int v3), (5, .int x.2)]) X dX0_setUnder_49 (by decide) rfl ?_
      exact z_sub [1, 2, 3, 4, 0, 5] rfl (jX0_setUnder_J51 X eR hw M v1 v2 v3 (x.1 + r3) x.2 _ h hs)
set_option maxHeartbeats 4000000 in
theorem tX0_setUnder {l : Launch} {D : va_G} {ct : Nat → ClassId} {tF : Nat} {wOf : Mm → va_W} {po ad : Nat → Nat} (hw : KF wOf po ad ct) (M : Mm) {v1 : Int32} {v2 : Int32} {r : Int32} (h : fX0_setUnder (M.1 2) (M.1 3) v1 v2 = some r) : CtI l yX0_setUnder cX0_setUnder 6 .int { frames := 4, cells := 0, slots := 0, locals := 89 } D ct tF wOf [.ref (ad 1), .int v1, .int v2] M r M := by
  refine metI (by decide) (Nat.le_of_ble_eq_true rfl) fun κ X e1 eR e3 e4 hs => ?_
  subst e1; subst e3; subst e4
  unfold fX0_setUnder at h
  refine z_sub (lv' := [(0, .ref (ad 1)), (1, .int v1), (2, .int v2)]) [0, 1, 2] rfl ?_
  refine z_aload_n X dX0_setUnder_0 0 rfl rfl ?_
  refine z_iload_n X dX0_setUnder_1 1 rfl rfl ?_
  obtain ⟨r1, hr1, h⟩ := ob h
  refine z_cVI (As := [.int v1]) (st := []) X (tX0_sizeOf hw M hr1) w_53 mvX0_sizeOf (by rw [eR]; exact ⟨Nat.le_of_ble_eq_true rfl, Nat.le_of_ble_eq_true rfl⟩) ⟨rfl, rfl⟩ rfl (Nat.le_of_ble_eq_true rfl) (hw.1 _) rfl rfl dX0_setUnder_2 ?_
  refine z_istore_n (lv' := [(3, .int r1), (0, .ref (ad 1)), (1, .int v1), (2, .int v2)]) X dX0_setUnder_5 rfl (by decide) rfl ?_
  refine z_aload_n X dX0_setUnder_6 1 rfl rfl ?_
  refine z_iload_n X dX0_setUnder_7 2 rfl rfl ?_
  obtain ⟨r2, hr2, h⟩ := ob h
  refine z_cVI (As := [.int v1]) (st := []) X (tX0_codeOf hw M hr2) w_39 mvX0_codeOf (by rw [eR]; exact ⟨Nat.le_of_ble_eq_true rfl, Nat.le_of_ble_eq_true rfl⟩) ⟨rfl, rfl⟩ rfl (Nat.le_of_ble_eq_true rfl) (hw.1 _) rfl rfl dX0_setUnder_8 ?_
  refine z_istore (lv' := [(4, .int r2), (3, .int r1), (0, .ref (ad 1)), (1, .int v1), (2, .int v2)]) X dX0_setUnder_11 (by decide) rfl ?_
  refine z_iconst (v := (nI 0)) X dX0_setUnder_13 (by decide) ?_
  refine z_istore (lv' := [(5, .int (nI 0)), (4, .int r2), (3, .int r1), (0, .ref (ad 1)), (1, .int v1), (2, .int v2)]) X dX0_setUnder_14 (by decide) rfl ?_
  refine z_sub [3, 4, 5, 2, 1, 0] rfl ?_
  obtain ⟨y3, hy3, h⟩ := ob h
  refine (it_Z (bX0_setUnder_B16 X eR hw M v1 v2 r1) FU _ y3 hy3) ?_
  refine z_aload_n X dX0_setUnder_57 0 rfl rfl ?_
  refine z_iload X dX0_setUnder_58 3 rfl ?_
  refine z_iload_n X dX0_setUnder_60 1 rfl rfl ?_
  refine z_iload_n X dX0_setUnder_61 2 rfl rfl ?_
  obtain ⟨r4, hr4, h⟩ := ob h
  refine z_cVI (As := [.int y3, .int v1, .int v2]) (st := []) X (tX0_sideBySide hw M hr4) w_314 mvX0_sideBySide (by rw [eR]; exact ⟨Nat.le_of_ble_eq_true rfl, Nat.le_of_ble_eq_true rfl⟩) ⟨rfl, rfl⟩ rfl (Nat.le_of_ble_eq_true rfl) (hw.1 _) rfl rfl dX0_setUnder_62 ?_
  have hq := Option.some.inj h
  subst hq
  exact z_iret hs dX0_setUnder_65 rfl
set_option maxHeartbeats 4000000 in
theorem tX0_turnedAsTold {l : Launch} {D : va_G} {ct : Nat → ClassId} {tF : Nat} {wOf : Mm → va_W} {po ad : Nat → Nat} (hw : KF wOf po ad ct) (M : Mm) {v1 : Int32} {v2 : Int64} {r : Int32} (h : fX0_turnedAsTold (M.1 2) (M.1 3) v1 v2 = some r) : CtI l yX0_turnedAsTold cX0_turnedAsTold 5 .int { frames := 4, cells := 0, slots := 0, locals := 92 } D ct tF wOf [.ref (ad 1), .int v1, .long v2] M r M := by
  refine metI (by decide) (Nat.le_of_ble_eq_true rfl) fun κ X e1 eR e3 e4 hs => ?_
  subst e1; subst e3; subst e4
  unfold fX0_turnedAsTold at h
  refine z_sub (lv' := [(0, .ref (ad 1)), (1, .int v1), (2, .long v2)]) [0, 1, 2] rfl ?_
  refine z_aload_n X dX0_turnedAsTold_0 0 rfl rfl ?_
  refine z_iload_n X dX0_turnedAsTold_1 1 rfl rfl ?_
  obtain ⟨r1, hr1, h⟩ := ob h
  refine z_cVI (As := [.int v1]) (st := []) X (tX0_sizeOf hw M hr1) w_53 mvX0_sizeOf (by rw [eR]; exact ⟨Nat.le_of_ble_eq_true rfl, Nat.le_of_ble_eq_true rfl⟩) ⟨rfl, rfl⟩ rfl (Nat.le_of_ble_eq_true rfl) (hw.1 _) rfl rfl dX0_turnedAsTold_2 ?_
  refine z_istore (lv' := [(4, .int r1), (0, .ref (ad 1)), (1, .int v1), (2, .long v2)]) X dX0_turnedAsTold_5 (by decide) rfl ?_
  refine z_lload_n X dX0_turnedAsTold_7 3 rfl rfl ?_
  refine z_iload X dX0_turnedAsTold_8 0 rfl ?_
  refine z_i2l X dX0_turnedAsTold_10 ?_
  refine z_lcmp X dX0_turnedAsTold_11 ?_
  refine z_if_ge (tgt := 24) X dX0_turnedAsTold_12 (by decide) (fun c12 => ?_) (fun c12 => ?_)
  · rw [if_pos c12] at h
    refine z_iconst (v := (nI 0)) X dX0_turnedAsTold_24 (by decide) ?_
    have hq := Option.some.inj h
    subst hq
    exact z_iret hs dX0_turnedAsTold_25 rfl
  · rw [if_neg c12] at h
    refine z_lload_n X dX0_turnedAsTold_15 3 rfl rfl ?_
    refine z_iload X dX0_turnedAsTold_16 0 rfl ?_
    refine z_ineg X dX0_turnedAsTold_18 ?_
    refine z_i2l X dX0_turnedAsTold_19 ?_
    refine z_lcmp X dX0_turnedAsTold_20 ?_
    refine z_if_ge (tgt := 26) X dX0_turnedAsTold_21 (by decide) (fun c21 => ?_) (fun c21 => ?_)
    · rw [if_pos c21] at h
      refine z_lload_n X dX0_turnedAsTold_26 3 rfl rfl ?_
      refine z_lconst (v := (0 : Int64)) X dX0_turnedAsTold_27 (by decide) ?_
      refine z_lcmp X dX0_turnedAsTold_28 ?_
      refine z_if_lt (tgt := 42) X dX0_turnedAsTold_29 (by decide) (fun c29 => ?_) (fun c29 => ?_)
      · rw [if_pos c29] at h
        refine z_aload_n X dX0_turnedAsTold_42 1 rfl rfl ?_
        refine z_iload_n X dX0_turnedAsTold_43 2 rfl rfl ?_
        refine z_ldc2 X w_366 dX0_turnedAsTold_44 ?_
        refine z_lload_n X dX0_turnedAsTold_47 3 rfl rfl ?_
        refine z_lsub X dX0_turnedAsTold_48 ?_
        refine z_l2i X dX0_turnedAsTold_49 ?_
        obtain ⟨r2, hr2, h⟩ := ob h
        refine z_cVI (As := [.int v1, .int ((((-1 : Int64) - v2)).toInt32)]) (st := []) X (tX0_turnedBack hw M hr2) w_367 mvX0_turnedBack (by rw [eR]; exact ⟨Nat.le_of_ble_eq_true rfl, Nat.le_of_ble_eq_true rfl⟩) ⟨rfl, rfl⟩ rfl (Nat.le_of_ble_eq_true rfl) (hw.1 _) rfl rfl dX0_turnedAsTold_50 ?_
        have hq := Option.some.inj h
        subst hq
        exact z_iret hs dX0_turnedAsTold_53 rfl
      · rw [if_neg c29] at h
        refine z_aload_n X dX0_turnedAsTold_32 1 rfl rfl ?_
        refine z_iload_n X dX0_turnedAsTold_33 2 rfl rfl ?_
        refine z_lload_n X dX0_turnedAsTold_34 3 rfl rfl ?_
        refine z_l2i X dX0_turnedAsTold_35 ?_
        obtain ⟨r3, hr3, h⟩ := ob h
        refine z_cVI (As := [.int v1, .int ((v2).toInt32)]) (st := []) X (tX0_turnedUp hw M hr3) w_368 mvX0_turnedUp (by rw [eR]; exact ⟨Nat.le_of_ble_eq_true rfl, Nat.le_of_ble_eq_true rfl⟩) ⟨rfl, rfl⟩ rfl (Nat.le_of_ble_eq_true rfl) (hw.1 _) rfl rfl dX0_turnedAsTold_36 ?_
        refine z_goto (tgt := 53) X dX0_turnedAsTold_39 (by decide) ?_
        have hq := Option.some.inj h
        subst hq
        exact z_iret hs dX0_turnedAsTold_53 rfl
    · rw [if_neg c21] at h
      refine z_iconst (v := (nI 0)) X dX0_turnedAsTold_24 (by decide) ?_
      have hq := Option.some.inj h
      subst hq
      exact z_iret hs dX0_turnedAsTold_25 rfl
set_option maxHeartbeats 4000000 in
theorem tX0_textLength {l : Launch} {D : va_G} {ct : Nat → ClassId} {tF : Nat} {wOf : Mm → va_W} {po ad : Nat → Nat} (hw : KF wOf po ad ct) (M : Mm) {v1 : Int32} {r : Int32} (h : fX0_textLength (M.1 3) v1 = some r) : CtI l yX0_textLength cX0_textLength 2 .int { frames := 1, cells := 0, slots := 0, locals := 21 } D ct tF wOf [.ref (ad 1), .int v1] M r M := by
  refine metI (by decide) (Nat.le_of_ble_eq_true rfl) fun κ X e1 eR e3 e4 hs => ?_
  subst e1; subst e3; subst e4
  unfold fX0_textLength at h
  refine z_sub (lv' := [(0, .ref (ad 1)), (1, .int v1)]) [0, 1] rfl ?_
  refine z_iconst (v := (nI 3)) X dX0_textLength_0 (by decide) ?_
  refine z_aload_n X dX0_textLength_1 0 rfl rfl ?_
  refine z_iload_n X dX0_textLength_2 1 rfl rfl ?_
  obtain ⟨r1, hr1, h⟩ := ob h
  refine z_cVI (As := [.int v1]) (st := [.int (nI 3)]) X (tX0_sizeOf hw M hr1) w_53 mvX0_sizeOf (by rw [eR]; exact ⟨Nat.le_of_ble_eq_true rfl, Nat.le_of_ble_eq_true rfl⟩) ⟨rfl, rfl⟩ rfl (Nat.le_of_ble_eq_true rfl) (hw.1 _) rfl rfl dX0_textLength_3 ?_
  refine z_imul X dX0_textLength_6 ?_
  refine z_iconst (v := (nI 1)) X dX0_textLength_7 (by decide) ?_
  refine z_iadd X dX0_textLength_8 ?_
  have hq := Option.some.inj h
  subst hq
  exact z_iret hs dX0_textLength_9 rfl
set_option maxHeartbeats 4000000 in
theorem jX0_opening_J32 {κ : Rx} {ct : Nat → ClassId} {tF : Nat} {po ad : Nat → Nat} (X : CX κ ct tF cX0_opening 5 RX0) (eR : kR κ = { frames := 3, cells := 0, slots := 0, locals := 68 }) (hw : KF (kw κ) po ad ct) (M : Mm)   (v1 : Int32) (v2 : Int32) (v3 : Int32) (v4 : Int32)  (s : ((Int32 × Int32) ⊕ Int32)) (h : fX0_opening_J32 (M.1 2) (M.1 3) v1 v2 v3 v4 = some s) (hs : (Sum.elim (fun x => Zj κ 5 5 [(0, .ref (ad 1)), (1, .int v1), (2, .int v2), (3, .int x.1), (4, .int x.2)] [] M) (fun y => Zj κ 5 38 [(3, .int y)] [] M) s)) : Zj κ 5 32 [(0, .ref (ad 1)), (1, .int v1), (2, .int v2), (3, .int v3), (4, .int v4)] [] M := by
  unfold fX0_opening_J32 at h
  refine z_iinc (v := (v4 + nI 1)) (lv' := [(4, .int (v4 + nI 1)), (0, .ref (ad 1)), (1, .int v1), (2, .int v2), (3, .int v3)]) X dX0_opening_32 4 rfl rfl (by decide) rfl ?_
  refine z_goto (tgt := 5) X dX0_opening_35 (by decide) ?_
  have hq := Option.some.inj h
  subst hq
  exact z_sub [1, 2, 3, 4, 0] rfl hs
set_option maxHeartbeats 4000000 in
theorem bX0_opening_B5 {κ : Rx} {ct : Nat → ClassId} {tF : Nat} {po ad : Nat → Nat} (X : CX κ ct tF cX0_opening 5 RX0) (eR : kR κ = { frames := 3, cells := 0, slots := 0, locals := 68 }) (hw : KF (kw κ) po ad ct) (M : Mm)  (v1 : Int32) (v2 : Int32) : ∀ (x : (Int32 × Int32)) (s : (Int32 × Int32) ⊕ Int32), fX0_opening_B5 (M.1 2) (M.1 3) v1 v2 x = some s → Sum.elim (fun x => Zj κ 5 5 [(0, .ref (ad 1)), (1, .int v1), (2, .int v2), (3, .int x.1), (4, .int x.2)] [] M) (fun y => Zj κ 5 38 [(3, .int y)] [] M) s → Zj κ 5 5 [(0, .ref (ad 1)), (1, .int v1), (2, .int v2), (3, .int x.1), (4, .int x.2)] [] M := by
  intro x s h hs
  unfold fX0_opening_B5 at h
  refine z_iload X dX0_opening_5 4 rfl ?_
  refine z_aload_n X dX0_opening_7 0 rfl rfl ?_
  refine z_iload_n X dX0_opening_8 1 rfl rfl ?_
  obtain ⟨r1, hr1, h⟩ := ob h
  refine z_cVI (As := [.int v1]) (st := [.int x.2]) X (tX0_sizeOf hw M hr1) w_53 mvX0_sizeOf (by rw [eR]; exact ⟨Nat.le_of_ble_eq_true rfl, Nat.le_of_ble_eq_true rfl⟩) ⟨rfl, rfl⟩ rfl (Nat.le_of_ble_eq_true rfl) (hw.1 _) rfl rfl dX0_opening_9 ?_
  refine z_icmp_ge (tgt := 38) X dX0_opening_12 (by decide) (fun c12 => ?_) (fun c12 => ?_)
  · rw [if_pos c12] at h
    have hq := Option.some.inj h
    subst hq
    exact z_sub [3] rfl hs
  · rw [if_neg c12] at h
    refine z_iload X dX0_opening_15 4 rfl ?_
    refine z_aload_n X dX0_opening_17 0 rfl rfl ?_
    refine z_iload_n X dX0_opening_18 1 rfl rfl ?_
    refine z_iload X dX0_opening_19 4 rfl ?_
    obtain ⟨r2, hr2, h⟩ := ob h
    refine z_cVI (As := [.int v1, .int x.2]) (st := [.int x.2]) X (tX0_leftSize hw M hr2) w_78 mvX0_leftSize (by rw [eR]; exact ⟨Nat.le_of_ble_eq_true rfl, Nat.le_of_ble_eq_true rfl⟩) ⟨rfl, rfl⟩ rfl (Nat.le_of_ble_eq_true rfl) (hw.1 _) rfl rfl dX0_opening_21 ?_
    refine z_isub X dX0_opening_24 ?_
    refine z_iload_n X dX0_opening_25 2 rfl rfl ?_
    refine z_icmp_ne (tgt := 32) X dX0_opening_26 (by decide) (fun c26 => ?_) (fun c26 => ?_)
    · rw [if_neg c26] at h
      exact (jX0_opening_J32 X eR hw M v1 v2 x.1 x.2 _ h hs)
    · rw [if_pos c26] at h
      refine z_iinc (v := (x.1 + nI 1)) (lv' := [(3, .int (x.1 + nI 1)), (0, .ref (ad 1)), (1, .int v1), (2, .int v2), (4, .int x.2)]) X dX0_opening_29 3 rfl rfl (by decide) rfl ?_
      exact z_sub [1, 2, 3, 0, 4] rfl (jX0_opening_J32 X eR hw M v1 v2 (x.1 + nI 1) x.2 _ h hs)
set_option maxHeartbeats 4000000 in
theorem tX0_opening {l : Launch} {D : va_G} {ct : Nat → ClassId} {tF : Nat} {wOf : Mm → va_W} {po ad : Nat → Nat} (hw : KF wOf po ad ct) (M : Mm) {v1 : Int32} {v2 : Int32} {r : Int32} (h : fX0_opening (M.1 2) (M.1 3) v1 v2 = some r) : CtI l yX0_opening cX0_opening 5 .int { frames := 3, cells := 0, slots := 0, locals := 68 } D ct tF wOf [.ref (ad 1), .int v1, .int v2] M r M := by
  refine metI (by decide) (Nat.le_of_ble_eq_true rfl) fun κ X e1 eR e3 e4 hs => ?_
  subst e1; subst e3; subst e4
  unfold fX0_opening at h
  refine z_sub (lv' := [(0, .ref (ad 1)), (1, .int v1), (2, .int v2)]) [0, 1, 2] rfl ?_
  refine z_iconst (v := (nI 0)) X dX0_opening_0 (by decide) ?_
  refine z_istore_n (lv' := [(3, .int (nI 0)), (0, .ref (ad 1)), (1, .int v1), (2, .int v2)]) X dX0_opening_1 rfl (by decide) rfl ?_
  refine z_iload_n X dX0_opening_2 3 rfl rfl ?_
  refine z_istore (lv' := [(4, .int v2), (3, .int (nI 0)), (0, .ref (ad 1)), (1, .int v1), (2, .int v2)]) X dX0_opening_3 (by decide) rfl ?_
  refine z_sub [2, 3, 4, 1, 0] rfl ?_
  obtain ⟨y1, hy1, h⟩ := ob h
  refine (it_Z (bX0_opening_B5 X eR hw M v1 v2) FU _ y1 hy1) ?_
  refine z_iload_n X dX0_opening_38 0 rfl rfl ?_
  have hq := Option.some.inj h
  subst hq
  exact z_iret hs dX0_opening_39 rfl
set_option maxHeartbeats 4000000 in
theorem jX0_closing_J27 {κ : Rx} {ct : Nat → ClassId} {tF : Nat} {po ad : Nat → Nat} (X : CX κ ct tF cX0_closing 5 RX0) (eR : kR κ = { frames := 2, cells := 0, slots := 0, locals := 44 }) (hw : KF (kw κ) po ad ct) (M : Mm)   (v1 : Int32) (v2 : Int32) (v3 : Int32) (v4 : Int32)  (s : ((Int32 × Int32) ⊕ Int32)) (h : fX0_closing_J27 (M.1 2) (M.1 3) v1 v2 v3 v4 = some s) (hs : (Sum.elim (fun x => Zj κ 5 5 [(0, .ref (ad 1)), (1, .int v1), (2, .int v2), (3, .int x.1), (4, .int x.2)] [] M) (fun y => Zj κ 5 33 [(3, .int y)] [] M) s)) : Zj κ 5 27 [(0, .ref (ad 1)), (1, .int v1), (2, .int v2), (3, .int v3), (4, .int v4)] [] M := by
  unfold fX0_closing_J27 at h
  refine z_iinc (v := (v4 + nI 1)) (lv' := [(4, .int (v4 + nI 1)), (0, .ref (ad 1)), (1, .int v1), (2, .int v2), (3, .int v3)]) X dX0_closing_27 4 rfl rfl (by decide) rfl ?_
  refine z_goto (tgt := 5) X dX0_closing_30 (by decide) ?_
  have hq := Option.some.inj h
  subst hq
  exact z_sub [1, 2, 3, 4, 0] rfl hs
set_option maxHeartbeats 4000000 in
theorem bX0_closing_B5 {κ : Rx} {ct : Nat → ClassId} {tF : Nat} {po ad : Nat → Nat} (X : CX κ ct tF cX0_closing 5 RX0) (eR : kR κ = { frames := 2, cells := 0, slots := 0, locals := 44 }) (hw : KF (kw κ) po ad ct) (M : Mm)  (v1 : Int32) (v2 : Int32) : ∀ (x : (Int32 × Int32)) (s : (Int32 × Int32) ⊕ Int32), fX0_closing_B5 (M.1 2) (M.1 3) v1 v2 x = some s → Sum.elim (fun x => Zj κ 5 5 [(0, .ref (ad 1)), (1, .int v1), (2, .int v2), (3, .int x.1), (4, .int x.2)] [] M) (fun y => Zj κ 5 33 [(3, .int y)] [] M) s → Zj κ 5 5 [(0, .ref (ad 1)), (1, .int v1), (2, .int v2), (3, .int x.1), (4, .int x.2)] [] M := by
  intro x s h hs
  unfold fX0_closing_B5 at h
  refine z_iload X dX0_closing_5 4 rfl ?_
  refine z_iload_n X dX0_closing_7 2 rfl rfl ?_
  refine z_icmp_ge (tgt := 33) X dX0_closing_8 (by decide) (fun c8 => ?_) (fun c8 => ?_)
  · rw [if_pos c8] at h
    have hq := Option.some.inj h
    subst hq
    exact z_sub [3] rfl hs
  · rw [if_neg c8] at h
    refine z_aload_n X dX0_closing_11 0 rfl rfl ?_
    refine z_iload_n X dX0_closing_12 1 rfl rfl ?_
    refine z_iload X dX0_closing_13 4 rfl ?_
    obtain ⟨r1, hr1, h⟩ := ob h
    refine z_cVI (As := [.int v1, .int x.2]) (st := []) X (tX0_end hw M hr1) w_74 mvX0_end (by rw [eR]; exact ⟨Nat.le_of_ble_eq_true rfl, Nat.le_of_ble_eq_true rfl⟩) ⟨rfl, rfl⟩ rfl (Nat.le_of_ble_eq_true rfl) (hw.1 _) rfl rfl dX0_closing_15 ?_
    refine z_iconst (v := (nI 1)) X dX0_closing_18 (by decide) ?_
    refine z_iadd X dX0_closing_19 ?_
    refine z_iload_n X dX0_closing_20 2 rfl rfl ?_
    refine z_icmp_ne (tgt := 27) X dX0_closing_21 (by decide) (fun c21 => ?_) (fun c21 => ?_)
    · rw [if_neg c21] at h
      exact (jX0_closing_J27 X eR hw M v1 v2 x.1 x.2 _ h hs)
    · rw [if_pos c21] at h
      refine z_iinc (v := (x.1 + nI 1)) (lv' := [(3, .int (x.1 + nI 1)), (0, .ref (ad 1)), (1, .int v1), (2, .int v2), (4, .int x.2)]) X dX0_closing_24 3 rfl rfl (by decide) rfl ?_
      exact z_sub [1, 2, 3, 0, 4] rfl (jX0_closing_J27 X eR hw M v1 v2 (x.1 + nI 1) x.2 _ h hs)
set_option maxHeartbeats 4000000 in
theorem tX0_closing {l : Launch} {D : va_G} {ct : Nat → ClassId} {tF : Nat} {wOf : Mm → va_W} {po ad : Nat → Nat} (hw : KF wOf po ad ct) (M : Mm) {v1 : Int32} {v2 : Int32} {r : Int32} (h : fX0_closing (M.1 2) (M.1 3) v1 v2 = some r) : CtI l yX0_closing cX0_closing 5 .int { frames := 2, cells := 0, slots := 0, locals := 44 } D ct tF wOf [.ref (ad 1), .int v1, .int v2] M r M := by
  refine metI (by decide) (Nat.le_of_ble_eq_true rfl) fun κ X e1 eR e3 e4 hs => ?_
  subst e1; subst e3; subst e4
  unfold fX0_closing at h
  refine z_sub (lv' := [(0, .ref (ad 1)), (1, .int v1), (2, .int v2)]) [0, 1, 2] rfl ?_
  refine z_iconst (v := (nI 0)) X dX0_closing_0 (by decide) ?_
  refine z_istore_n (lv' := [(3, .int (nI 0)), (0, .ref (ad 1)), (1, .int v1), (2, .int v2)]) X dX0_closing_1 rfl (by decide) rfl ?_
  refine z_iconst (v := (nI 0)) X dX0_closing_2 (by decide) ?_
  refine z_istore (lv' := [(4, .int (nI 0)), (3, .int (nI 0)), (0, .ref (ad 1)), (1, .int v1), (2, .int v2)]) X dX0_closing_3 (by decide) rfl ?_
  refine z_sub [2, 3, 4, 1, 0] rfl ?_
  obtain ⟨y1, hy1, h⟩ := ob h
  refine (it_Z (bX0_closing_B5 X eR hw M v1 v2) FU _ y1 hy1) ?_
  refine z_iload_n X dX0_closing_33 0 rfl rfl ?_
  have hq := Option.some.inj h
  subst hq
  exact z_iret hs dX0_closing_34 rfl
set_option maxHeartbeats 4000000 in
theorem bX0_textByte_B11 {κ : Rx} {ct : Nat → ClassId} {tF : Nat} {po ad : Nat → Nat} (X : CX κ ct tF cX0_textByte 5 RX0) (eR : kR κ = { frames := 4, cells := 0, slots := 0, locals := 92 }) (hw : KF (kw κ) po ad ct) (M : Mm)  (v1 : Int32) (v2 : Int32) : ∀ (x : (Int32 × Int32)) (s : (Int32 × Int32) ⊕ (Unit ⊕ Int32)), fX0_textByte_B11 (M.1 2) (M.1 3) v1 v2 x = some s → Sum.elim (fun x => Zj κ 5 11 [(0, .ref (ad 1)), (1, .int v1), (2, .int v2), (3, .int x.1), (4, .int x.2)] [] M) (Sum.elim (fun y => Zj κ 5 73 [] [] M) (fun r => ZI κ cX0_textByte .int r M)) s → Zj κ 5 11 [(0, .ref (ad 1)), (1, .int v1), (2, .int v2), (3, .int x.1), (4, .int x.2)] [] M := by
  intro x s h hs
  unfold fX0_textByte_B11 at h
  refine z_iload X dX0_textByte_11 4 rfl ?_
  refine z_aload_n X dX0_textByte_13 0 rfl rfl ?_
  refine z_iload_n X dX0_textByte_14 1 rfl rfl ?_
  obtain ⟨r1, hr1, h⟩ := ob h
  refine z_cVI (As := [.int v1]) (st := [.int x.2]) X (tX0_sizeOf hw M hr1) w_53 mvX0_sizeOf (by rw [eR]; exact ⟨Nat.le_of_ble_eq_true rfl, Nat.le_of_ble_eq_true rfl⟩) ⟨rfl, rfl⟩ rfl (Nat.le_of_ble_eq_true rfl) (hw.1 _) rfl rfl dX0_textByte_15 ?_
  refine z_icmp_gt (tgt := 73) X dX0_textByte_18 (by decide) (fun c18 => ?_) (fun c18 => ?_)
  · rw [if_pos c18] at h
    have hq := Option.some.inj h
    subst hq
    exact z_sub [] rfl hs
  · rw [if_neg c18] at h
    refine z_iload_n X dX0_textByte_21 3 rfl rfl ?_
    refine z_aload_n X dX0_textByte_22 0 rfl rfl ?_
    refine z_iload_n X dX0_textByte_23 1 rfl rfl ?_
    refine z_iload X dX0_textByte_24 4 rfl ?_
    obtain ⟨r2, hr2, h⟩ := ob h
    refine z_cVI (As := [.int v1, .int x.2]) (st := [.int x.1]) X (tX0_opening hw M hr2) w_438 mvX0_opening (by rw [eR]; exact ⟨Nat.le_of_ble_eq_true rfl, Nat.le_of_ble_eq_true rfl⟩) ⟨rfl, rfl⟩ rfl (Nat.le_of_ble_eq_true rfl) (hw.1 _) rfl rfl dX0_textByte_26 ?_
    refine z_iadd X dX0_textByte_29 ?_
    refine z_istore_n (lv' := [(3, .int (x.1 + r2)), (0, .ref (ad 1)), (1, .int v1), (2, .int v2), (4, .int x.2)]) X dX0_textByte_30 rfl (by decide) rfl ?_
    refine z_iload_n X dX0_textByte_31 3 rfl rfl ?_
    refine z_iload_n X dX0_textByte_32 0 rfl rfl ?_
    refine z_icmp_ge (tgt := 39) X dX0_textByte_33 (by decide) (fun c33 => ?_) (fun c33 => ?_)
    · rw [if_pos c33] at h
      refine z_iload_n X dX0_textByte_39 3 rfl rfl ?_
      refine z_iload_n X dX0_textByte_40 0 rfl rfl ?_
      refine z_icmp_ne (tgt := 47) X dX0_textByte_41 (by decide) (fun c41 => ?_) (fun c41 => ?_)
      · rw [if_neg c41] at h
        refine z_iload_n X dX0_textByte_47 0 rfl rfl ?_
        refine z_iconst (v := (nI 1)) X dX0_textByte_48 (by decide) ?_
        refine z_aload_n X dX0_textByte_49 1 rfl rfl ?_
        refine z_iload_n X dX0_textByte_50 2 rfl rfl ?_
        refine z_iload X dX0_textByte_51 4 rfl ?_
        obtain ⟨r3, hr3, h⟩ := ob h
        refine z_cVI (As := [.int v1, .int x.2]) (st := [.int (nI 1), .int (x.1 + r2)]) X (tX0_closing hw M hr3) w_442 mvX0_closing (by rw [eR]; exact ⟨Nat.le_of_ble_eq_true rfl, Nat.le_of_ble_eq_true rfl⟩) ⟨rfl, rfl⟩ rfl (Nat.le_of_ble_eq_true rfl) (hw.1 _) rfl rfl dX0_textByte_53 ?_
        refine z_iadd X dX0_textByte_56 ?_
        refine z_iadd X dX0_textByte_57 ?_
        refine z_istore_n (lv' := [(3, .int ((x.1 + r2) + ((nI 1) + r3))), (0, .ref (ad 1)), (1, .int v1), (2, .int v2), (4, .int x.2)]) X dX0_textByte_58 rfl (by decide) rfl ?_
        refine z_iload_n X dX0_textByte_59 3 rfl rfl ?_
        refine z_iload_n X dX0_textByte_60 0 rfl rfl ?_
        refine z_icmp_ge (tgt := 67) X dX0_textByte_61 (by decide) (fun c61 => ?_) (fun c61 => ?_)
        · rw [if_pos c61] at h
          refine z_iinc (v := (x.2 + nI 1)) (lv' := [(4, .int (x.2 + nI 1)), (3, .int ((x.1 + r2) + ((nI 1) + r3))), (0, .ref (ad 1)), (1, .int v1), (2, .int v2)]) X dX0_textByte_67 4 rfl rfl (by decide) rfl ?_
          refine z_goto (tgt := 11) X dX0_textByte_70 (by decide) ?_
          have hq := Option.some.inj h
          subst hq
          exact z_sub [2, 3, 4, 1, 0] rfl hs
        · rw [if_neg c61] at h
          refine z_bipush (v := (nI 41)) X dX0_textByte_64 (by decide) ?_
          have hq := Option.some.inj h
          subst hq
          exact z_iret hs dX0_textByte_66 rfl
      · rw [if_pos c41] at h
        refine z_bipush (v := (nI 46)) X dX0_textByte_44 (by decide) ?_
        have hq := Option.some.inj h
        subst hq
        exact z_iret hs dX0_textByte_46 rfl
    · rw [if_neg c33] at h
      refine z_bipush (v := (nI 40)) X dX0_textByte_36 (by decide) ?_
      have hq := Option.some.inj h
      subst hq
      exact z_iret hs dX0_textByte_38 rfl
set_option maxHeartbeats 4000000 in
theorem tX0_textByte {l : Launch} {D : va_G} {ct : Nat → ClassId} {tF : Nat} {wOf : Mm → va_W} {po ad : Nat → Nat} (hw : KF wOf po ad ct) (M : Mm) {v1 : Int32} {v2 : Int32} {r : Int32} (h : fX0_textByte (M.1 2) (M.1 3) v1 v2 = some r) : CtI l yX0_textByte cX0_textByte 5 .int { frames := 4, cells := 0, slots := 0, locals := 92 } D ct tF wOf [.ref (ad 1), .int v1, .int v2] M r M := by
  refine metI (by decide) (Nat.le_of_ble_eq_true rfl) fun κ X e1 eR e3 e4 hs => ?_
  subst e1; subst e3; subst e4
  unfold fX0_textByte at h
  refine z_sub (lv' := [(0, .ref (ad 1)), (1, .int v1), (2, .int v2)]) [0, 1, 2] rfl ?_
  refine z_iload_n X dX0_textByte_0 2 rfl rfl ?_
  refine z_if_ge (tgt := 6) X dX0_textByte_1 (by decide) (fun c1 => ?_) (fun c1 => ?_)
  · rw [if_pos c1] at h
    refine z_iconst (v := (nI 0)) X dX0_textByte_6 (by decide) ?_
    refine z_istore_n (lv' := [(3, .int (nI 0)), (0, .ref (ad 1)), (1, .int v1), (2, .int v2)]) X dX0_textByte_7 rfl (by decide) rfl ?_
    refine z_iconst (v := (nI 0)) X dX0_textByte_8 (by decide) ?_
    refine z_istore (lv' := [(4, .int (nI 0)), (3, .int (nI 0)), (0, .ref (ad 1)), (1, .int v1), (2, .int v2)]) X dX0_textByte_9 (by decide) rfl ?_
    refine z_sub [2, 3, 4, 1, 0] rfl ?_
    obtain ⟨y1_, hy1, h⟩ := ob h
    cases y1_ with
    | inl y1 =>
      rw [Sum.elim_inl] at h
      refine (it_Z (bX0_textByte_B11 X eR hw M v1 v2) FU _ (.inl y1) hy1) ?_
      refine z_iconst (v := (-1 : Int32)) X dX0_textByte_73 (by decide) ?_
      have hq := Option.some.inj h
      subst hq
      exact z_iret hs dX0_textByte_74 rfl
    | inr y1 =>
      rw [Sum.elim_inr] at h
      have hq := Option.some.inj h
      subst hq
      exact (it_Z (bX0_textByte_B11 X eR hw M v1 v2) FU _ (.inr _) hy1) hs
  · rw [if_neg c1] at h
    refine z_iconst (v := (-1 : Int32)) X dX0_textByte_4 (by decide) ?_
    have hq := Option.some.inj h
    subst hq
    exact z_iret hs dX0_textByte_5 rfl
set_option maxHeartbeats 4000000 in
theorem bX0_growAll_B57 {κ : Rx} {ct : Nat → ClassId} {tF : Nat} {po ad : Nat → Nat} (X : CX κ ct tF cX0_growAll 9 RX0) (eR : kR κ = { frames := 0, cells := 0, slots := 0, locals := 0 }) (hw : KF (kw κ) po ad ct) (M : Mm)  (v2 : Int32) (v3 : Int32) (v4 : Int32) (v6 : Int32) (v7 : Int32) : ∀ (x : (Int32 × Int32 × (Nat → Int32) × (Nat → Int32))) (s : (Int32 × Int32 × (Nat → Int32) × (Nat → Int32)) ⊕ (Int32 × (Nat → Int32) × (Nat → Int32))), fX0_growAll_B57 v2 v3 v4 v6 v7 x = some s → Sum.elim (fun x => Zj κ 9 57 [(0, .ref (ad 1)), (2, .int v2), (3, .int v3), (4, .int v4), (5, .int x.1), (6, .int v6), (7, .int v7), (8, .int x.2.1)] [] (mk M [(2, x.2.2.1), (3, x.2.2.2)] M.2.1 [])) (fun y => Zj κ 9 112 [(0, .ref (ad 1)), (2, .int v2), (3, .int v3), (4, .int v4), (5, .int y.1), (6, .int v6)] [] (mk M [(2, y.2.1), (3, y.2.2)] M.2.1 [])) s → Zj κ 9 57 [(0, .ref (ad 1)), (2, .int v2), (3, .int v3), (4, .int v4), (5, .int x.1), (6, .int v6), (7, .int v7), (8, .int x.2.1)] [] (mk M [(2, x.2.2.1), (3, x.2.2.2)] M.2.1 []) := by
  intro x s h hs
  unfold fX0_growAll_B57 at h
  refine z_iload X dX0_growAll_57 7 rfl ?_
  refine z_gets X w_0 dX0_growAll_59 ?_
  refine z_iload X dX0_growAll_62 3 rfl ?_
  refine z_iconst (v := (nI 1)) X dX0_growAll_64 (by decide) ?_
  refine z_iadd X dX0_growAll_65 ?_
  obtain ⟨t1, ht1, h⟩ := ob h
  refine z_tald X (rd_ok ht1) dX0_growAll_66 ?_
  refine z_icmp_ge (tgt := 112) X dX0_growAll_67 (by decide) (fun c67 => ?_) (fun c67 => ?_)
  · rw [if_pos c67] at h
    have hq := Option.some.inj h
    subst hq
    exact z_sub [0, 1, 2, 3, 4, 5] rfl hs
  · rw [if_neg c67] at h
    refine z_iload X dX0_growAll_70 4 rfl ?_
    refine z_sipush (v := (nI 626)) X dX0_growAll_72 (by decide) ?_
    refine z_icmp_ge (tgt := 112) X dX0_growAll_75 (by decide) (fun c75 => ?_) (fun c75 => ?_)
    · rw [if_pos c75] at h
      have hq := Option.some.inj h
      subst hq
      exact z_sub [0, 1, 2, 3, 4, 5] rfl hs
    · rw [if_neg c75] at h
      refine z_aload_n X dX0_growAll_78 0 rfl rfl ?_
      refine z_get (j := 0) (v := .ref (ad 2)) X inX0 rfl (by decide) w_33 (hw.1 _) rfl dX0_growAll_79 ?_
      refine z_iload X dX0_growAll_82 4 rfl ?_
      refine z_iload X dX0_growAll_84 6 rfl ?_
      refine z_aload_n X dX0_growAll_86 0 rfl rfl ?_
      refine z_get (j := 0) (v := .ref (ad 2)) X inX0 rfl (by decide) w_33 (hw.1 _) rfl dX0_growAll_87 ?_
      refine z_iload X dX0_growAll_90 7 rfl ?_
      obtain ⟨t2, ht2, h⟩ := ob h
      refine z_iald X (hw.2.1 _).1 (rd_ok ht2) dX0_growAll_92 ?_
      refine z_ior X dX0_growAll_93 ?_
      obtain ⟨u3, hu3, h⟩ := ob h
      refine z_iast (M' := (mk M [(2, u3), (3, x.2.2.2)] M.2.1 [])) X (hw.2.1 _).1 (wr_ok hu3) (mk_set1 (l' := [(2, u3), (3, x.2.2.2)]) (hw.2.1) rfl rfl) dX0_growAll_94 ?_
      refine z_aload_n X dX0_growAll_95 0 rfl rfl ?_
      refine z_get (j := 1) (v := .ref (ad 3)) X inX0 rfl (by decide) w_6 (hw.1 _) rfl dX0_growAll_96 ?_
      refine z_iload X dX0_growAll_99 4 rfl ?_
      refine z_iload_n X dX0_growAll_101 1 rfl rfl ?_
      obtain ⟨u4, hu4, h⟩ := ob h
      refine z_iast (M' := (mk M [(2, u3), (3, u4)] M.2.1 [])) X (hw.2.2 _).1 (wr_ok hu4) (mk_set1 (l' := [(2, u3), (3, u4)]) (hw.2.2) rfl rfl) dX0_growAll_102 ?_
      refine z_iinc (v := (x.1 + nI 1)) (lv' := [(5, .int (x.1 + nI 1)), (0, .ref (ad 1)), (2, .int v2), (3, .int v3), (4, .int v4), (6, .int v6), (7, .int v7), (8, .int x.2.1)]) X dX0_growAll_103 4 rfl rfl (by decide) rfl ?_
      refine z_iinc (v := (x.2.1 + nI 1)) (lv' := [(8, .int (x.2.1 + nI 1)), (5, .int (x.1 + nI 1)), (0, .ref (ad 1)), (2, .int v2), (3, .int v3), (4, .int v4), (6, .int v6), (7, .int v7)]) X dX0_growAll_106 7 rfl rfl (by decide) rfl ?_
      refine z_goto (tgt := 57) X dX0_growAll_109 (by decide) ?_
      have hq := Option.some.inj h
      subst hq
      exact z_sub [2, 3, 4, 5, 1, 6, 7, 0] rfl hs
set_option maxHeartbeats 4000000 in
theorem bX0_growAll_B17 {κ : Rx} {ct : Nat → ClassId} {tF : Nat} {po ad : Nat → Nat} (X : CX κ ct tF cX0_growAll 9 RX0) (eR : kR κ = { frames := 0, cells := 0, slots := 0, locals := 0 }) (hw : KF (kw κ) po ad ct) (M : Mm)  (v2 : Int32) (v3 : Int32) (v4 : Int32) : ∀ (x : (Int32 × Int32 × (Nat → Int32) × (Nat → Int32))) (s : (Int32 × Int32 × (Nat → Int32) × (Nat → Int32)) ⊕ (Int32 × (Nat → Int32) × (Nat → Int32))), fX0_growAll_B17 v2 v3 v4 x = some s → Sum.elim (fun x => Zj κ 9 17 [(0, .ref (ad 1)), (2, .int v2), (3, .int v3), (4, .int v4), (5, .int x.1), (6, .int x.2.1)] [] (mk M [(2, x.2.2.1), (3, x.2.2.2)] M.2.1 [])) (fun y => Zj κ 9 118 [(5, .int y.1)] [] (mk M [(2, y.2.1), (3, y.2.2)] M.2.1 [])) s → Zj κ 9 17 [(0, .ref (ad 1)), (2, .int v2), (3, .int v3), (4, .int v4), (5, .int x.1), (6, .int x.2.1)] [] (mk M [(2, x.2.2.1), (3, x.2.2.2)] M.2.1 []) := by
  intro x s h hs
  unfold fX0_growAll_B17 at h
  refine z_iload X dX0_growAll_17 5 rfl ?_
  refine z_gets X w_0 dX0_growAll_19 ?_
  refine z_iload_n X dX0_growAll_22 2 rfl rfl ?_
  refine z_iconst (v := (nI 1)) X dX0_growAll_23 (by decide) ?_
  refine z_iadd X dX0_growAll_24 ?_
  obtain ⟨t1, ht1, h⟩ := ob h
  refine z_tald X (rd_ok ht1) dX0_growAll_25 ?_
  refine z_icmp_ge (tgt := 118) X dX0_growAll_26 (by decide) (fun c26 => ?_) (fun c26 => ?_)
  · rw [if_pos c26] at h
    have hq := Option.some.inj h
    subst hq
    exact z_sub [4] rfl hs
  · rw [if_neg c26] at h
    refine z_iload_n X dX0_growAll_29 2 rfl rfl ?_
    refine z_iconst (v := (nI 4)) X dX0_growAll_30 (by decide) ?_
    refine z_iload_n X dX0_growAll_31 2 rfl rfl ?_
    refine z_imul X dX0_growAll_32 ?_
    refine z_ishl X dX0_growAll_33 ?_
    refine z_aload_n X dX0_growAll_34 0 rfl rfl ?_
    refine z_get (j := 0) (v := .ref (ad 2)) X inX0 rfl (by decide) w_33 (hw.1 _) rfl dX0_growAll_35 ?_
    refine z_iload X dX0_growAll_38 5 rfl ?_
    obtain ⟨t2, ht2, h⟩ := ob h
    refine z_iald X (hw.2.1 _).1 (rd_ok ht2) dX0_growAll_40 ?_
    refine z_ior X dX0_growAll_41 ?_
    refine z_iconst (v := (nI 4)) X dX0_growAll_42 (by decide) ?_
    refine z_iload X dX0_growAll_43 3 rfl ?_
    refine z_imul X dX0_growAll_45 ?_
    refine z_ishl X dX0_growAll_46 ?_
    refine z_istore (lv' := [(7, .int (((v3 <<< (((nI 4) * v3) &&& 31)) ||| t2) <<< (((nI 4) * v4) &&& 31))), (0, .ref (ad 1)), (2, .int v2), (3, .int v3), (4, .int v4), (5, .int x.1), (6, .int x.2.1)]) X dX0_growAll_47 (by decide) rfl ?_
    refine z_gets X w_0 dX0_growAll_49 ?_
    refine z_iload X dX0_growAll_52 4 rfl ?_
    obtain ⟨t3, ht3, h⟩ := ob h
    refine z_tald X (rd_ok ht3) dX0_growAll_54 ?_
    refine z_istore (lv' := [(8, .int t3), (7, .int (((v3 <<< (((nI 4) * v3) &&& 31)) ||| t2) <<< (((nI 4) * v4) &&& 31))), (0, .ref (ad 1)), (2, .int v2), (3, .int v3), (4, .int v4), (5, .int x.1), (6, .int x.2.1)]) X dX0_growAll_55 (by decide) rfl ?_
    refine z_sub [2, 3, 4, 5, 6, 7, 1, 0] rfl ?_
    obtain ⟨y4, hy4, h⟩ := ob h
    refine (it_Z (bX0_growAll_B57 X eR hw M v2 v3 v4 x.2.1 (((v3 <<< (((nI 4) * v3) &&& 31)) ||| t2) <<< (((nI 4) * v4) &&& 31))) FU _ y4 hy4) ?_
    refine z_iinc (v := (x.2.1 + nI 1)) (lv' := [(6, .int (x.2.1 + nI 1)), (0, .ref (ad 1)), (2, .int v2), (3, .int v3), (4, .int v4), (5, .int y4.1)]) X dX0_growAll_112 5 rfl rfl (by decide) rfl ?_
    refine z_goto (tgt := 17) X dX0_growAll_115 (by decide) ?_
    have hq := Option.some.inj h
    subst hq
    exact z_sub [1, 2, 3, 4, 5, 0] rfl hs
set_option maxHeartbeats 4000000 in
theorem tX0_growAll {l : Launch} {D : va_G} {ct : Nat → ClassId} {tF : Nat} {wOf : Mm → va_W} {po ad : Nat → Nat} (hw : KF wOf po ad ct) (M : Mm) {v1 : Int32} {v2 : Int32} {v3 : Int32} {r : (Int32 × (Nat → Int32) × (Nat → Int32))} (h : fX0_growAll (M.1 2) (M.1 3) v1 v2 v3 = some r) : CtI l yX0_growAll cX0_growAll 9 .int { frames := 0, cells := 0, slots := 0, locals := 0 } D ct tF wOf [.ref (ad 1), .int v1, .int v2, .int v3] M r.1 (mk M [(2, r.2.1), (3, r.2.2)] M.2.1 []) := by
  refine metI (by decide) (Nat.le_of_ble_eq_true rfl) fun κ X e1 eR e3 e4 hs => ?_
  subst e1; subst e3; subst e4
  unfold fX0_growAll at h
  refine z_mem (mk_self M [2, 3] []) ?_
  refine z_sub (lv' := [(0, .ref (ad 1)), (1, .int v1), (2, .int v2), (3, .int v3)]) [0, 1, 2, 3] rfl ?_
  show Zj κ 9 0 _ _ (mk M [(2, (M.1 2)), (3, (M.1 3))] M.2.1 [])
  refine z_iload_n X dX0_growAll_0 2 rfl rfl ?_
  refine z_iconst (v := (nI 1)) X dX0_growAll_1 (by decide) ?_
  refine z_isub X dX0_growAll_2 ?_
  refine z_iload_n X dX0_growAll_3 3 rfl rfl ?_
  refine z_isub X dX0_growAll_4 ?_
  refine z_istore (lv' := [(4, .int ((v2 - (nI 1)) - v3)), (0, .ref (ad 1)), (1, .int v1), (2, .int v2), (3, .int v3)]) X dX0_growAll_5 (by decide) rfl ?_
  refine z_iload_n X dX0_growAll_7 2 rfl rfl ?_
  refine z_istore (lv' := [(5, .int v1), (4, .int ((v2 - (nI 1)) - v3)), (0, .ref (ad 1)), (1, .int v1), (2, .int v2), (3, .int v3)]) X dX0_growAll_8 (by decide) rfl ?_
  refine z_gets X w_0 dX0_growAll_10 ?_
  refine z_iload_n X dX0_growAll_13 5 rfl rfl ?_
  obtain ⟨t1, ht1, h⟩ := ob h
  refine z_tald X (rd_ok ht1) dX0_growAll_14 ?_
  refine z_istore (lv' := [(6, .int t1), (5, .int v1), (4, .int ((v2 - (nI 1)) - v3)), (0, .ref (ad 1)), (1, .int v1), (2, .int v2), (3, .int v3)]) X dX0_growAll_15 (by decide) rfl ?_
  refine z_sub [3, 5, 6, 2, 1, 0] rfl ?_
  obtain ⟨y2, hy2, h⟩ := ob h
  refine (it_Z (bX0_growAll_B17 X eR hw M v2 v3 ((v2 - (nI 1)) - v3)) FU _ y2 hy2) ?_
  refine z_iload X dX0_growAll_118 0 rfl ?_
  have hq := Option.some.inj h
  subst hq
  exact z_iret hs dX0_growAll_120 rfl
set_option maxHeartbeats 4000000 in
theorem bX0_init_B38 {κ : Rx} {ct : Nat → ClassId} {tF : Nat} {po ad : Nat → Nat} (X : CX κ ct tF cX0_init 4 RX0) (eR : kR κ = { frames := 2, cells := 2, slots := 1252, locals := 64 }) (hw : KF (kw κ) po ad ct) (M : Mm)  (v2 : Int32) : ∀ (x : (Int32 × Int32 × (Nat → Int32) × (Nat → Int32))) (s : (Int32 × Int32 × (Nat → Int32) × (Nat → Int32)) ⊕ (Int32 × (Nat → Int32) × (Nat → Int32))), fX0_init_B38 v2 x = some s → Sum.elim (fun x => Zj κ 4 38 [(0, .ref (ad 1)), (1, .int x.1), (2, .int v2), (3, .int x.2.1)] [] (mk M [(2, x.2.2.1), (3, x.2.2.2)] M.2.1 [])) (fun y => Zj κ 4 57 [(0, .ref (ad 1)), (1, .int y.1), (2, .int v2)] [] (mk M [(2, y.2.1), (3, y.2.2)] M.2.1 [])) s → Zj κ 4 38 [(0, .ref (ad 1)), (1, .int x.1), (2, .int v2), (3, .int x.2.1)] [] (mk M [(2, x.2.2.1), (3, x.2.2.2)] M.2.1 []) := by
  intro x s h hs
  unfold fX0_init_B38 at h
  refine z_iload_n X dX0_init_38 3 rfl rfl ?_
  refine z_iload_n X dX0_init_39 2 rfl rfl ?_
  refine z_icmp_ge (tgt := 57) X dX0_init_40 (by decide) (fun c40 => ?_) (fun c40 => ?_)
  · rw [if_pos c40] at h
    have hq := Option.some.inj h
    subst hq
    exact z_sub [0, 1, 2] rfl hs
  · rw [if_neg c40] at h
    refine z_aload_n X dX0_init_43 0 rfl rfl ?_
    refine z_iload_n X dX0_init_44 1 rfl rfl ?_
    refine z_iload_n X dX0_init_45 2 rfl rfl ?_
    refine z_iload_n X dX0_init_46 3 rfl rfl ?_
    obtain ⟨r1, hr1, h⟩ := ob h
    refine z_cVI (As := [.int x.1, .int v2, .int x.2.1]) (st := []) X (tX0_growAll hw (mk M [(2, x.2.2.1), (3, x.2.2.2)] M.2.1 []) hr1) w_1 mvX0_growAll (by rw [eR]; exact ⟨Nat.le_of_ble_eq_true rfl, Nat.le_of_ble_eq_true rfl⟩) ⟨rfl, rfl⟩ rfl (Nat.le_of_ble_eq_true rfl) (hw.1 _) rfl rfl dX0_init_47 ?_
    refine z_mem (mk_mk (l' := [(2, r1.2.1), (3, r1.2.2)]) (sl' := []) rfl rfl rfl rfl) ?_
    refine z_istore_n (lv' := [(1, .int r1.1), (0, .ref (ad 1)), (2, .int v2), (3, .int x.2.1)]) X dX0_init_50 rfl (by decide) rfl ?_
    refine z_iinc (v := (x.2.1 + nI 1)) (lv' := [(3, .int (x.2.1 + nI 1)), (1, .int r1.1), (0, .ref (ad 1)), (2, .int v2)]) X dX0_init_51 3 rfl rfl (by decide) rfl ?_
    refine z_goto (tgt := 38) X dX0_init_54 (by decide) ?_
    have hq := Option.some.inj h
    subst hq
    exact z_sub [2, 1, 3, 0] rfl hs
set_option maxHeartbeats 4000000 in
theorem bX0_init_B30 {κ : Rx} {ct : Nat → ClassId} {tF : Nat} {po ad : Nat → Nat} (X : CX κ ct tF cX0_init 4 RX0) (eR : kR κ = { frames := 2, cells := 2, slots := 1252, locals := 64 }) (hw : KF (kw κ) po ad ct) (M : Mm)   : ∀ (x : (Int32 × Int32 × (Nat → Int32) × (Nat → Int32))) (s : (Int32 × Int32 × (Nat → Int32) × (Nat → Int32)) ⊕ ((Nat → Int32) × (Nat → Int32))), fX0_init_B30 x = some s → Sum.elim (fun x => Zj κ 4 30 [(0, .ref (ad 1)), (1, .int x.1), (2, .int x.2.1)] [] (mk M [(2, x.2.2.1), (3, x.2.2.2)] M.2.1 [])) (fun y => Zj κ 4 63 [] [] (mk M [(2, y.1), (3, y.2)] M.2.1 [])) s → Zj κ 4 30 [(0, .ref (ad 1)), (1, .int x.1), (2, .int x.2.1)] [] (mk M [(2, x.2.2.1), (3, x.2.2.2)] M.2.1 []) := by
  intro x s h hs
  unfold fX0_init_B30 at h
  refine z_iload_n X dX0_init_30 2 rfl rfl ?_
  refine z_bipush (v := (nI 7)) X dX0_init_31 (by decide) ?_
  refine z_icmp_gt (tgt := 63) X dX0_init_33 (by decide) (fun c33 => ?_) (fun c33 => ?_)
  · rw [if_pos c33] at h
    have hq := Option.some.inj h
    subst hq
    exact z_sub [] rfl hs
  · rw [if_neg c33] at h
    refine z_iconst (v := (nI 0)) X dX0_init_36 (by decide) ?_
    refine z_istore_n (lv' := [(3, .int (nI 0)), (0, .ref (ad 1)), (1, .int x.1), (2, .int x.2.1)]) X dX0_init_37 rfl (by decide) rfl ?_
    refine z_sub [1, 2, 3, 0] rfl ?_
    obtain ⟨y1, hy1, h⟩ := ob h
    refine (it_Z (bX0_init_B38 X eR hw M x.2.1) FU _ y1 hy1) ?_
    refine z_iinc (v := (x.2.1 + nI 1)) (lv' := [(2, .int (x.2.1 + nI 1)), (0, .ref (ad 1)), (1, .int y1.1)]) X dX0_init_57 2 rfl rfl (by decide) rfl ?_
    refine z_goto (tgt := 30) X dX0_init_60 (by decide) ?_
    have hq := Option.some.inj h
    subst hq
    exact z_sub [1, 2, 0] rfl hs
set_option maxHeartbeats 4000000 in
theorem jX0_init_J22 {κ : Rx} {ct : Nat → ClassId} {tF : Nat} {po ad : Nat → Nat} (X : CX κ ct tF cX0_init 4 RX0) (eR : kR κ = { frames := 2, cells := 2, slots := 1252, locals := 64 }) (hw : KF (kw κ) po ad ct) (M : Mm) (a_codes : Nat → Int32) (a_sizes : Nat → Int32)    (s : ((Nat → Int32) × (Nat → Int32))) (h : fX0_init_J22 a_codes a_sizes = some s) (hs : (ZV κ cX0_init (mk M [(2, s.1), (3, s.2)] M.2.1 []))) : Zj κ 4 22 [(0, .ref (ad 1))] [] (mk M [(2, a_codes), (3, a_sizes)] M.2.1 []) := by
  unfold fX0_init_J22 at h
  refine z_gets X w_0 dX0_init_22 ?_
  refine z_iconst (v := (nI 1)) X dX0_init_25 (by decide) ?_
  obtain ⟨t1, ht1, h⟩ := ob h
  refine z_tald X (rd_ok ht1) dX0_init_26 ?_
  refine z_istore_n (lv' := [(1, .int t1), (0, .ref (ad 1))]) X dX0_init_27 rfl (by decide) rfl ?_
  refine z_iconst (v := (nI 1)) X dX0_init_28 (by decide) ?_
  refine z_istore_n (lv' := [(2, .int (nI 1)), (1, .int t1), (0, .ref (ad 1))]) X dX0_init_29 rfl (by decide) rfl ?_
  refine z_sub [2, 1, 0] rfl ?_
  obtain ⟨y2, hy2, h⟩ := ob h
  refine (it_Z (bX0_init_B30 X eR hw M) FU _ y2 hy2) ?_
  have hq := Option.some.inj h
  subst hq
  exact z_vret hs dX0_init_63
