set_option maxHeartbeats 4000000 in
theorem tX4_append {l : Launch} {D : va_G} {ct : Nat → ClassId} {tF : Nat} {wOf : Mm → va_W} {po ad : Nat → Nat} (hw : KC wOf po ad ct) (M : Mm) {v1 : Int32} {r : (Int32 × (Nat → Int32) × Int32)} (h : fX4_append (M.1 23) (M.2.2 45) v1 = some r) : CtI l yX4_append cX4_append 2 .boolean { frames := 0, cells := 0, slots := 0, locals := 0 } D ct tF wOf [.ref (ad 22), .int v1] M r.1 (mk M [(23, r.2.1)] M.2.1 [(45, r.2.2)]) := by
  refine metI (by decide) (Nat.le_of_ble_eq_true rfl) fun κ X e1 eR e3 e4 hs => ?_
  subst e1; subst e3; subst e4
  unfold fX4_append at h
  refine z_mem (mk_self M [23] [45]) ?_
  refine z_sub (lv' := [(0, .ref (ad 22)), (1, .int v1)]) [0, 1] rfl ?_
  show Zj κ 2 0 _ _ (mk M [(23, (M.1 23))] M.2.1 [(45, (M.2.2 45))])
  refine z_aload_n X dX4_append_0 0 rfl rfl ?_
  refine z_get (j := 1) (v := .int (M.2.2 45)) X inX4 rfl (by decide) w_374 (hw.2.2.2.2.2.1 _) rfl dX4_append_1 ?_
  refine z_bipush (v := (nI 60)) X dX4_append_4 (by decide) ?_
  refine z_icmp_lt (tgt := 11) X dX4_append_6 (by decide) (fun c6 => ?_) (fun c6 => ?_)
  · rw [if_pos c6] at h
    refine z_aload_n X dX4_append_11 0 rfl rfl ?_
    refine z_get (j := 0) (v := .ref (ad 23)) X inX4 rfl (by decide) w_375 (hw.2.2.2.2.2.1 _) rfl dX4_append_12 ?_
    refine z_aload_n X dX4_append_15 0 rfl rfl ?_
    refine z_get (j := 1) (v := .int (M.2.2 45)) X inX4 rfl (by decide) w_374 (hw.2.2.2.2.2.1 _) rfl dX4_append_16 ?_
    refine z_iload_n X dX4_append_19 1 rfl rfl ?_
    obtain ⟨u1, hu1, h⟩ := ob h
    refine z_iast (M' := (mk M [(23, u1)] M.2.1 [(45, (M.2.2 45))])) X (hw.2.2.2.2.2.2.2.2.2.2.2.2.2.2.2.2.2.1 _).1 (wr_ok hu1) (mk_set1 (l' := [(23, u1)]) (hw.2.2.2.2.2.2.2.2.2.2.2.2.2.2.2.2.2.1) rfl rfl) dX4_append_20 ?_
    refine z_aload_n X dX4_append_21 0 rfl rfl ?_
    refine z_dup X dX4_append_22 rfl ?_
    refine z_get (j := 1) (v := .int (M.2.2 45)) X inX4 rfl (by decide) w_374 (hw.2.2.2.2.2.1 _) rfl dX4_append_23 ?_
    refine z_iconst (v := (nI 1)) X dX4_append_26 (by decide) ?_
    refine z_iadd X dX4_append_27 ?_
    refine z_put (j := 1) (ty := .int) (M' := (mk M [(23, u1)] M.2.1 [(45, ((M.2.2 45) + (nI 1)))])) X inX4 tyX4 tyX4_ok nmX4 rfl (by decide) w_374 rfl (by decide +kernel) rfl rfl (hw.2.2.2.2.2.1 _) (Nat.le_of_ble_eq_true rfl) (mk_setS (sl' := [(45, ((M.2.2 45) + (nI 1)))]) (hw.2.2.2.2.2.2.2.2.2.2.2.2.2.2.2.2.2.2.2.2.2.2.2.2.2.2.2.2.1) rfl rfl) dX4_append_28 ?_
    refine z_iconst (v := (nI 1)) X dX4_append_31 (by decide) ?_
    have hq := Option.some.inj h
    subst hq
    exact z_iret hs dX4_append_32 rfl
  · rw [if_neg c6] at h
    refine z_iconst (v := (nI 0)) X dX4_append_9 (by decide) ?_
    have hq := Option.some.inj h
    subst hq
    exact z_iret hs dX4_append_10 rfl
set_option maxHeartbeats 4000000 in
theorem tX4_length {l : Launch} {D : va_G} {ct : Nat → ClassId} {tF : Nat} {wOf : Mm → va_W} {po ad : Nat → Nat} (hw : KC wOf po ad ct) (M : Mm)  {r : Int32} (h : fX4_length (M.2.2 45) = some r) : CtI l yX4_length cX4_length 1 .int { frames := 0, cells := 0, slots := 0, locals := 0 } D ct tF wOf [.ref (ad 22)] M r M := by
  refine metI (by decide) (Nat.le_of_ble_eq_true rfl) fun κ X e1 eR e3 e4 hs => ?_
  subst e1; subst e3; subst e4
  unfold fX4_length at h
  refine z_sub (lv' := [(0, .ref (ad 22))]) [0] rfl ?_
  refine z_aload_n X dX4_length_0 0 rfl rfl ?_
  refine z_get (j := 1) (v := .int (M.2.2 45)) X inX4 rfl (by decide) w_374 (hw.2.2.2.2.2.1 _) rfl dX4_length_1 ?_
  have hq := Option.some.inj h
  subst hq
  exact z_iret hs dX4_length_4 rfl
set_option maxHeartbeats 4000000 in
theorem tX4_clear {l : Launch} {D : va_G} {ct : Nat → ClassId} {tF : Nat} {wOf : Mm → va_W} {po ad : Nat → Nat} (hw : KC wOf po ad ct) (M : Mm)  {r : Int32} (h : fX4_clear (M.2.2 45) = some r) : CtV l yX4_clear cX4_clear 1 { frames := 0, cells := 0, slots := 0, locals := 0 } D ct tF wOf [.ref (ad 22)] M (mk M [] M.2.1 [(45, r)]) := by
  refine metV (by decide) (Nat.le_of_ble_eq_true rfl) fun κ X e1 eR e3 e4 hs => ?_
  subst e1; subst e3; subst e4
  unfold fX4_clear at h
  refine z_mem (mk_self M [] [45]) ?_
  refine z_sub (lv' := [(0, .ref (ad 22))]) [0] rfl ?_
  show Zj κ 1 0 _ _ (mk M [] M.2.1 [(45, (M.2.2 45))])
  refine z_aload_n X dX4_clear_0 0 rfl rfl ?_
  refine z_iconst (v := (nI 0)) X dX4_clear_1 (by decide) ?_
  refine z_put (j := 1) (ty := .int) (M' := (mk M [] M.2.1 [(45, (nI 0))])) X inX4 tyX4 tyX4_ok nmX4 rfl (by decide) w_374 rfl (by decide +kernel) rfl rfl (hw.2.2.2.2.2.1 _) (Nat.le_of_ble_eq_true rfl) (mk_setS (sl' := [(45, (nI 0))]) (hw.2.2.2.2.2.2.2.2.2.2.2.2.2.2.2.2.2.2.2.2.2.2.2.2.2.2.2.2.1) rfl rfl) dX4_clear_2 ?_
  have hq := Option.some.inj h
  subst hq
  exact z_vret hs dX4_clear_5
set_option maxHeartbeats 4000000 in
theorem tX4_awaitedNow {l : Launch} {D : va_G} {ct : Nat → ClassId} {tF : Nat} {wOf : Mm → va_W} {po ad : Nat → Nat} (hw : KC wOf po ad ct) (M : Mm)  {r : Int32} (h : fX4_awaitedNow (M.1 24) (M.2.2 46) = some r) : CtI l yX4_awaitedNow cX4_awaitedNow 1 .int { frames := 0, cells := 0, slots := 0, locals := 0 } D ct tF wOf [.ref (ad 22)] M r M := by
  refine metI (by decide) (Nat.le_of_ble_eq_true rfl) fun κ X e1 eR e3 e4 hs => ?_
  subst e1; subst e3; subst e4
  unfold fX4_awaitedNow at h
  refine z_sub (lv' := [(0, .ref (ad 22))]) [0] rfl ?_
  refine z_aload_n X dX4_awaitedNow_0 0 rfl rfl ?_
  refine z_get (j := 5) (v := .int (M.2.2 46)) X inX4 rfl (by decide) w_390 (hw.2.2.2.2.2.1 _) rfl dX4_awaitedNow_1 ?_
  refine z_if_le (tgt := 30) X dX4_awaitedNow_4 (by decide) (fun c4 => ?_) (fun c4 => ?_)
  · rw [if_pos c4] at h
    refine z_iconst (v := (nI 2)) X dX4_awaitedNow_30 (by decide) ?_
    have hq := Option.some.inj h
    subst hq
    exact z_iret hs dX4_awaitedNow_31 rfl
  · rw [if_neg c4] at h
    refine z_aload_n X dX4_awaitedNow_7 0 rfl rfl ?_
    refine z_get (j := 5) (v := .int (M.2.2 46)) X inX4 rfl (by decide) w_390 (hw.2.2.2.2.2.1 _) rfl dX4_awaitedNow_8 ?_
    refine z_bipush (v := (nI 7)) X dX4_awaitedNow_11 (by decide) ?_
    refine z_icmp_gt (tgt := 30) X dX4_awaitedNow_13 (by decide) (fun c13 => ?_) (fun c13 => ?_)
    · rw [if_pos c13] at h
      refine z_iconst (v := (nI 2)) X dX4_awaitedNow_30 (by decide) ?_
      have hq := Option.some.inj h
      subst hq
      exact z_iret hs dX4_awaitedNow_31 rfl
    · rw [if_neg c13] at h
      refine z_aload_n X dX4_awaitedNow_16 0 rfl rfl ?_
      refine z_get (j := 2) (v := .ref (ad 24)) X inX4 rfl (by decide) w_391 (hw.2.2.2.2.2.1 _) rfl dX4_awaitedNow_17 ?_
      refine z_aload_n X dX4_awaitedNow_20 0 rfl rfl ?_
      refine z_get (j := 5) (v := .int (M.2.2 46)) X inX4 rfl (by decide) w_390 (hw.2.2.2.2.2.1 _) rfl dX4_awaitedNow_21 ?_
      refine z_iconst (v := (nI 1)) X dX4_awaitedNow_24 (by decide) ?_
      refine z_isub X dX4_awaitedNow_25 ?_
      obtain ⟨t1, ht1, h⟩ := ob h
      refine z_iald X (hw.2.2.2.2.2.2.2.2.2.2.2.2.2.2.2.2.2.2.1 _).1 (rd_ok ht1) dX4_awaitedNow_26 ?_
      refine z_goto (tgt := 31) X dX4_awaitedNow_27 (by decide) ?_
      have hq := Option.some.inj h
      subst hq
      exact z_iret hs dX4_awaitedNow_31 rfl
set_option maxHeartbeats 4000000 in
theorem tX4_endSubtree {l : Launch} {D : va_G} {ct : Nat → ClassId} {tF : Nat} {wOf : Mm → va_W} {po ad : Nat → Nat} (hw : KC wOf po ad ct) (M : Mm)  {r : ((Nat → Int32) × (Nat → Int32) × Int32)} (h : fX4_endSubtree (M.1 24) (M.1 25) (M.2.2 46) (M.2.2 48) = some r) : CtV l yX4_endSubtree cX4_endSubtree 2 { frames := 0, cells := 0, slots := 0, locals := 0 } D ct tF wOf [.ref (ad 22)] M (mk M [(24, r.1), (25, r.2.1)] M.2.1 [(48, r.2.2)]) := by
  refine metV (by decide) (Nat.le_of_ble_eq_true rfl) fun κ X e1 eR e3 e4 hs => ?_
  subst e1; subst e3; subst e4
  unfold fX4_endSubtree at h
  refine z_mem (mk_self M [24, 25] [48]) ?_
  refine z_sub (lv' := [(0, .ref (ad 22))]) [0] rfl ?_
  show Zj κ 2 0 _ _ (mk M [(24, (M.1 24)), (25, (M.1 25))] M.2.1 [(48, (M.2.2 48))])
  refine z_aload_n X dX4_endSubtree_0 0 rfl rfl ?_
  refine z_get (j := 5) (v := .int (M.2.2 46)) X inX4 rfl (by decide) w_390 (hw.2.2.2.2.2.1 _) rfl dX4_endSubtree_1 ?_
  refine z_if_le (tgt := 16) X dX4_endSubtree_4 (by decide) (fun c4 => ?_) (fun c4 => ?_)
  · rw [if_pos c4] at h
    have hq := Option.some.inj h
    subst hq
    exact z_vret hs dX4_endSubtree_16
  · rw [if_neg c4] at h
    refine z_aload_n X dX4_endSubtree_7 0 rfl rfl ?_
    refine z_get (j := 5) (v := .int (M.2.2 46)) X inX4 rfl (by decide) w_390 (hw.2.2.2.2.2.1 _) rfl dX4_endSubtree_8 ?_
    refine z_bipush (v := (nI 7)) X dX4_endSubtree_11 (by decide) ?_
    refine z_icmp_le (tgt := 17) X dX4_endSubtree_13 (by decide) (fun c13 => ?_) (fun c13 => ?_)
    · rw [if_pos c13] at h
      refine z_aload_n X dX4_endSubtree_17 0 rfl rfl ?_
      refine z_get (j := 5) (v := .int (M.2.2 46)) X inX4 rfl (by decide) w_390 (hw.2.2.2.2.2.1 _) rfl dX4_endSubtree_18 ?_
      refine z_iconst (v := (nI 1)) X dX4_endSubtree_21 (by decide) ?_
      refine z_isub X dX4_endSubtree_22 ?_
      refine z_istore_n (lv' := [(1, .int ((M.2.2 46) - (nI 1))), (0, .ref (ad 22))]) X dX4_endSubtree_23 rfl (by decide) rfl ?_
      refine z_aload_n X dX4_endSubtree_24 1 rfl rfl ?_
      refine z_get (j := 2) (v := .ref (ad 24)) X inX4 rfl (by decide) w_391 (hw.2.2.2.2.2.1 _) rfl dX4_endSubtree_25 ?_
      refine z_iload_n X dX4_endSubtree_28 0 rfl rfl ?_
      obtain ⟨t1, ht1, h⟩ := ob h
      refine z_iald X (hw.2.2.2.2.2.2.2.2.2.2.2.2.2.2.2.2.2.2.1 _).1 (rd_ok ht1) dX4_endSubtree_29 ?_
      refine z_if_ne (tgt := 63) X dX4_endSubtree_30 (by decide) (fun c30 => ?_) (fun c30 => ?_)
      · rw [if_neg c30] at h
        refine z_aload_n X dX4_endSubtree_63 1 rfl rfl ?_
        refine z_get (j := 2) (v := .ref (ad 24)) X inX4 rfl (by decide) w_391 (hw.2.2.2.2.2.1 _) rfl dX4_endSubtree_64 ?_
        refine z_iload_n X dX4_endSubtree_67 0 rfl rfl ?_
        refine z_iconst (v := (nI 2)) X dX4_endSubtree_68 (by decide) ?_
        obtain ⟨u2, hu2, h⟩ := ob h
        refine z_iast (M' := (mk M [(24, u2), (25, (M.1 25))] M.2.1 [(48, (M.2.2 48))])) X (hw.2.2.2.2.2.2.2.2.2.2.2.2.2.2.2.2.2.2.1 _).1 (wr_ok hu2) (mk_set1 (l' := [(24, u2), (25, (M.1 25))]) (hw.2.2.2.2.2.2.2.2.2.2.2.2.2.2.2.2.2.2.1) rfl rfl) dX4_endSubtree_69 ?_
        have hq := Option.some.inj h
        subst hq
        exact z_vret hs dX4_endSubtree_70
      · rw [if_pos c30] at h
        refine z_aload_n X dX4_endSubtree_33 1 rfl rfl ?_
        refine z_get (j := 2) (v := .ref (ad 24)) X inX4 rfl (by decide) w_391 (hw.2.2.2.2.2.1 _) rfl dX4_endSubtree_34 ?_
        refine z_iload_n X dX4_endSubtree_37 0 rfl rfl ?_
        refine z_iconst (v := (nI 1)) X dX4_endSubtree_38 (by decide) ?_
        obtain ⟨u3, hu3, h⟩ := ob h
        refine z_iast (M' := (mk M [(24, u3), (25, (M.1 25))] M.2.1 [(48, (M.2.2 48))])) X (hw.2.2.2.2.2.2.2.2.2.2.2.2.2.2.2.2.2.2.1 _).1 (wr_ok hu3) (mk_set1 (l' := [(24, u3), (25, (M.1 25))]) (hw.2.2.2.2.2.2.2.2.2.2.2.2.2.2.2.2.2.2.1) rfl rfl) dX4_endSubtree_39 ?_
        refine z_aload_n X dX4_endSubtree_40 1 rfl rfl ?_
        refine z_get (j := 3) (v := .ref (ad 25)) X inX4 rfl (by decide) w_392 (hw.2.2.2.2.2.1 _) rfl dX4_endSubtree_41 ?_
        refine z_iload_n X dX4_endSubtree_44 0 rfl rfl ?_
        refine z_aload_n X dX4_endSubtree_45 1 rfl rfl ?_
        refine z_get (j := 7) (v := .int (M.2.2 48)) X inX4 rfl (by decide) w_393 (hw.2.2.2.2.2.1 _) rfl dX4_endSubtree_46 ?_
        obtain ⟨u4, hu4, h⟩ := ob h
        refine z_iast (M' := (mk M [(24, u3), (25, u4)] M.2.1 [(48, (M.2.2 48))])) X (hw.2.2.2.2.2.2.2.2.2.2.2.2.2.2.2.2.2.2.2.1 _).1 (wr_ok hu4) (mk_set1 (l' := [(24, u3), (25, u4)]) (hw.2.2.2.2.2.2.2.2.2.2.2.2.2.2.2.2.2.2.2.1) rfl rfl) dX4_endSubtree_49 ?_
        refine z_aload_n X dX4_endSubtree_50 1 rfl rfl ?_
        refine z_dup X dX4_endSubtree_51 rfl ?_
        refine z_get (j := 7) (v := .int (M.2.2 48)) X inX4 rfl (by decide) w_393 (hw.2.2.2.2.2.1 _) rfl dX4_endSubtree_52 ?_
        refine z_iconst (v := (nI 1)) X dX4_endSubtree_55 (by decide) ?_
        refine z_iadd X dX4_endSubtree_56 ?_
        refine z_put (j := 7) (ty := .int) (M' := (mk M [(24, u3), (25, u4)] M.2.1 [(48, ((M.2.2 48) + (nI 1)))])) X inX4 tyX4 tyX4_ok nmX4 rfl (by decide) w_393 rfl (by decide +kernel) rfl rfl (hw.2.2.2.2.2.1 _) (Nat.le_of_ble_eq_true rfl) (mk_setS (sl' := [(48, ((M.2.2 48) + (nI 1)))]) (hw.2.2.2.2.2.2.2.2.2.2.2.2.2.2.2.2.2.2.2.2.2.2.2.2.2.2.2.2.2.2.2.1) rfl rfl) dX4_endSubtree_57 ?_
        refine z_goto (tgt := 70) X dX4_endSubtree_60 (by decide) ?_
        have hq := Option.some.inj h
        subst hq
        exact z_vret hs dX4_endSubtree_70
    · rw [if_neg c13] at h
      have hq := Option.some.inj h
      subst hq
      exact z_vret hs dX4_endSubtree_16
set_option maxHeartbeats 4000000 in
theorem tX4_staysNothing {l : Launch} {D : va_G} {ct : Nat → ClassId} {tF : Nat} {wOf : Mm → va_W} {po ad : Nat → Nat} (hw : KC wOf po ad ct) (M : Mm)  {r : (Int32 × (Nat → Int32) × (Nat → Int32) × Int32)} (h : fX4_staysNothing (M.1 24) (M.1 25) (M.2.2 46) (M.2.2 48) = some r) : CtI l yX4_staysNothing cX4_staysNothing 1 .boolean { frames := 1, cells := 0, slots := 0, locals := 21 } D ct tF wOf [.ref (ad 22)] M r.1 (mk M [(24, r.2.1), (25, r.2.2.1)] M.2.1 [(48, r.2.2.2)]) := by
  refine metI (by decide) (Nat.le_of_ble_eq_true rfl) fun κ X e1 eR e3 e4 hs => ?_
  subst e1; subst e3; subst e4
  unfold fX4_staysNothing at h
  refine z_mem (mk_self M [24, 25] [48]) ?_
  refine z_sub (lv' := [(0, .ref (ad 22))]) [0] rfl ?_
  show Zj κ 1 0 _ _ (mk M [(24, (M.1 24)), (25, (M.1 25))] M.2.1 [(48, (M.2.2 48))])
  refine z_aload_n X dX4_staysNothing_0 0 rfl rfl ?_
  obtain ⟨r1, hr1, h⟩ := ob h
  refine z_cVI (As := []) (st := []) X (tX4_awaitedNow hw (mk M [(24, (M.1 24)), (25, (M.1 25))] M.2.1 [(48, (M.2.2 48))]) hr1) w_394 mvX4_awaitedNow (by rw [eR]; exact ⟨Nat.le_of_ble_eq_true rfl, Nat.le_of_ble_eq_true rfl⟩) ⟨rfl, rfl⟩ rfl (Nat.le_of_ble_eq_true rfl) (hw.2.2.2.2.2.1 _) rfl rfl dX4_staysNothing_1 ?_
  refine z_iconst (v := (nI 2)) X dX4_staysNothing_4 (by decide) ?_
  refine z_icmp_ne (tgt := 10) X dX4_staysNothing_5 (by decide) (fun c5 => ?_) (fun c5 => ?_)
  · rw [if_neg c5] at h
    refine z_aload_n X dX4_staysNothing_10 0 rfl rfl ?_
    obtain ⟨r2, hr2, h⟩ := ob h
    refine z_cVV (As := []) (st := []) X (tX4_endSubtree hw (mk M [(24, (M.1 24)), (25, (M.1 25))] M.2.1 [(48, (M.2.2 48))]) hr2) w_398 mvX4_endSubtree (by rw [eR]; exact ⟨Nat.le_of_ble_eq_true rfl, Nat.le_of_ble_eq_true rfl⟩) ⟨rfl, rfl⟩ rfl (Nat.le_of_ble_eq_true rfl) (hw.2.2.2.2.2.1 _) rfl rfl dX4_staysNothing_11 ?_
    refine z_mem (mk_mk (l' := [(24, r2.1), (25, r2.2.1)]) (sl' := [(48, r2.2.2)]) rfl rfl rfl rfl) ?_
    refine z_iconst (v := (nI 1)) X dX4_staysNothing_14 (by decide) ?_
    have hq := Option.some.inj h
    subst hq
    exact z_iret hs dX4_staysNothing_15 rfl
  · rw [if_pos c5] at h
    refine z_iconst (v := (nI 0)) X dX4_staysNothing_8 (by decide) ?_
    have hq := Option.some.inj h
    subst hq
    exact z_iret hs dX4_staysNothing_9 rfl
set_option maxHeartbeats 4000000 in
theorem jX4_closesNode_J77 {κ : Rx} {ct : Nat → ClassId} {tF : Nat} {po ad : Nat → Nat} (X : CX κ ct tF cX4_closesNode 2 RX4) (eR : kR κ = { frames := 1, cells := 0, slots := 0, locals := 21 }) (hw : KC (kw κ) po ad ct) (M : Mm) (a_awaited : Nat → Int32) (a_openNodes : Nat → Int32) (a_rightSizes : Nat → Int32) (s_opn : Int32) (s_numbered : Int32)    (s : (Int32 × (Nat → Int32) × (Nat → Int32) × (Nat → Int32) × Int32 × Int32)) (h : fX4_closesNode_J77 a_awaited a_openNodes a_rightSizes s_opn s_numbered = some s) (hs : (ZI κ cX4_closesNode .boolean s.1 (mk M [(24, s.2.1), (25, s.2.2.1), (26, s.2.2.2.1)] M.2.1 [(46, s.2.2.2.2.1), (48, s.2.2.2.2.2)]))) : Zj κ 2 77 [(0, .ref (ad 22))] [] (mk M [(24, a_awaited), (25, a_openNodes), (26, a_rightSizes)] M.2.1 [(46, s_opn), (48, s_numbered)]) := by
  unfold fX4_closesNode_J77 at h
  refine z_aload_n X dX4_closesNode_77 0 rfl rfl ?_
  obtain ⟨r1, hr1, h⟩ := ob h
  refine z_cVV (As := []) (st := []) X (tX4_endSubtree hw (mk M [(24, a_awaited), (25, a_openNodes), (26, a_rightSizes)] M.2.1 [(46, s_opn), (48, s_numbered)]) hr1) w_398 mvX4_endSubtree (by rw [eR]; exact ⟨Nat.le_of_ble_eq_true rfl, Nat.le_of_ble_eq_true rfl⟩) ⟨rfl, rfl⟩ rfl (Nat.le_of_ble_eq_true rfl) (hw.2.2.2.2.2.1 _) rfl rfl dX4_closesNode_78 ?_
  refine z_mem (mk_mk (l' := [(24, r1.1), (25, r1.2.1), (26, a_rightSizes)]) (sl' := [(46, s_opn), (48, r1.2.2)]) rfl rfl rfl rfl) ?_
  refine z_iconst (v := (nI 1)) X dX4_closesNode_81 (by decide) ?_
  have hq := Option.some.inj h
  subst hq
  exact z_iret hs dX4_closesNode_82 rfl
set_option maxHeartbeats 4000000 in
theorem tX4_closesNode {l : Launch} {D : va_G} {ct : Nat → ClassId} {tF : Nat} {wOf : Mm → va_W} {po ad : Nat → Nat} (hw : KC wOf po ad ct) (M : Mm)  {r : (Int32 × (Nat → Int32) × (Nat → Int32) × (Nat → Int32) × Int32 × Int32)} (h : fX4_closesNode (M.1 24) (M.1 25) (M.1 26) (M.2.2 46) (M.2.2 48) = some r) : CtI l yX4_closesNode cX4_closesNode 2 .boolean { frames := 1, cells := 0, slots := 0, locals := 21 } D ct tF wOf [.ref (ad 22)] M r.1 (mk M [(24, r.2.1), (25, r.2.2.1), (26, r.2.2.2.1)] M.2.1 [(46, r.2.2.2.2.1), (48, r.2.2.2.2.2)]) := by
  refine metI (by decide) (Nat.le_of_ble_eq_true rfl) fun κ X e1 eR e3 e4 hs => ?_
  subst e1; subst e3; subst e4
  unfold fX4_closesNode at h
  refine z_mem (mk_self M [24, 25, 26] [46, 48]) ?_
  refine z_sub (lv' := [(0, .ref (ad 22))]) [0] rfl ?_
  show Zj κ 2 0 _ _ (mk M [(24, (M.1 24)), (25, (M.1 25)), (26, (M.1 26))] M.2.1 [(46, (M.2.2 46)), (48, (M.2.2 48))])
  refine z_aload_n X dX4_closesNode_0 0 rfl rfl ?_
  refine z_get (j := 5) (v := .int (M.2.2 46)) X inX4 rfl (by decide) w_390 (hw.2.2.2.2.2.1 _) rfl dX4_closesNode_1 ?_
  refine z_if_le (tgt := 31) X dX4_closesNode_4 (by decide) (fun c4 => ?_) (fun c4 => ?_)
  · rw [if_pos c4] at h
    refine z_iconst (v := (nI 0)) X dX4_closesNode_31 (by decide) ?_
    have hq := Option.some.inj h
    subst hq
    exact z_iret hs dX4_closesNode_32 rfl
  · rw [if_neg c4] at h
    refine z_aload_n X dX4_closesNode_7 0 rfl rfl ?_
    refine z_get (j := 5) (v := .int (M.2.2 46)) X inX4 rfl (by decide) w_390 (hw.2.2.2.2.2.1 _) rfl dX4_closesNode_8 ?_
    refine z_bipush (v := (nI 7)) X dX4_closesNode_11 (by decide) ?_
    refine z_icmp_gt (tgt := 31) X dX4_closesNode_13 (by decide) (fun c13 => ?_) (fun c13 => ?_)
    · rw [if_pos c13] at h
      refine z_iconst (v := (nI 0)) X dX4_closesNode_31 (by decide) ?_
      have hq := Option.some.inj h
      subst hq
      exact z_iret hs dX4_closesNode_32 rfl
    · rw [if_neg c13] at h
      refine z_aload_n X dX4_closesNode_16 0 rfl rfl ?_
      refine z_get (j := 2) (v := .ref (ad 24)) X inX4 rfl (by decide) w_391 (hw.2.2.2.2.2.1 _) rfl dX4_closesNode_17 ?_
      refine z_aload_n X dX4_closesNode_20 0 rfl rfl ?_
      refine z_get (j := 5) (v := .int (M.2.2 46)) X inX4 rfl (by decide) w_390 (hw.2.2.2.2.2.1 _) rfl dX4_closesNode_21 ?_
      refine z_iconst (v := (nI 1)) X dX4_closesNode_24 (by decide) ?_
      refine z_isub X dX4_closesNode_25 ?_
      obtain ⟨t1, ht1, h⟩ := ob h
      refine z_iald X (hw.2.2.2.2.2.2.2.2.2.2.2.2.2.2.2.2.2.2.1 _).1 (rd_ok ht1) dX4_closesNode_26 ?_
      refine z_iconst (v := (nI 2)) X dX4_closesNode_27 (by decide) ?_
      refine z_icmp_eq (tgt := 33) X dX4_closesNode_28 (by decide) (fun c28 => ?_) (fun c28 => ?_)
      · rw [if_pos c28] at h
        refine z_aload_n X dX4_closesNode_33 0 rfl rfl ?_
        refine z_dup X dX4_closesNode_34 rfl ?_
        refine z_get (j := 5) (v := .int (M.2.2 46)) X inX4 rfl (by decide) w_390 (hw.2.2.2.2.2.1 _) rfl dX4_closesNode_35 ?_
        refine z_iconst (v := (nI 1)) X dX4_closesNode_38 (by decide) ?_
        refine z_isub X dX4_closesNode_39 ?_
        refine z_put (j := 5) (ty := .int) (M' := (mk M [(24, (M.1 24)), (25, (M.1 25)), (26, (M.1 26))] M.2.1 [(46, ((M.2.2 46) - (nI 1))), (48, (M.2.2 48))])) X inX4 tyX4 tyX4_ok nmX4 rfl (by decide) w_390 rfl (by decide +kernel) rfl rfl (hw.2.2.2.2.2.1 _) (Nat.le_of_ble_eq_true rfl) (mk_setS (sl' := [(46, ((M.2.2 46) - (nI 1))), (48, (M.2.2 48))]) (hw.2.2.2.2.2.2.2.2.2.2.2.2.2.2.2.2.2.2.2.2.2.2.2.2.2.2.2.2.2.1) rfl rfl) dX4_closesNode_40 ?_
        refine z_aload_n X dX4_closesNode_43 0 rfl rfl ?_
        refine z_get (j := 3) (v := .ref (ad 25)) X inX4 rfl (by decide) w_392 (hw.2.2.2.2.2.1 _) rfl dX4_closesNode_44 ?_
        refine z_aload_n X dX4_closesNode_47 0 rfl rfl ?_
        refine z_get (j := 5) (v := .int ((M.2.2 46) - (nI 1))) X inX4 rfl (by decide) w_390 (hw.2.2.2.2.2.1 _) rfl dX4_closesNode_48 ?_
        obtain ⟨t2, ht2, h⟩ := ob h
        refine z_iald X (hw.2.2.2.2.2.2.2.2.2.2.2.2.2.2.2.2.2.2.2.1 _).1 (rd_ok ht2) dX4_closesNode_51 ?_
        refine z_istore_n (lv' := [(1, .int t2), (0, .ref (ad 22))]) X dX4_closesNode_52 rfl (by decide) rfl ?_
        refine z_iload_n X dX4_closesNode_53 0 rfl rfl ?_
        refine z_if_lt (tgt := 77) X dX4_closesNode_54 (by decide) (fun c54 => ?_) (fun c54 => ?_)
        · rw [if_pos c54] at h
          exact z_sub [1] rfl (jX4_closesNode_J77 X eR hw M (M.1 24) (M.1 25) (M.1 26) ((M.2.2 46) - (nI 1)) (M.2.2 48) _ h hs)
        · rw [if_neg c54] at h
          refine z_iload_n X dX4_closesNode_57 0 rfl rfl ?_
          refine z_bipush (v := (nI 7)) X dX4_closesNode_58 (by decide) ?_
          refine z_icmp_ge (tgt := 77) X dX4_closesNode_60 (by decide) (fun c60 => ?_) (fun c60 => ?_)
          · rw [if_pos c60] at h
            exact z_sub [1] rfl (jX4_closesNode_J77 X eR hw M (M.1 24) (M.1 25) (M.1 26) ((M.2.2 46) - (nI 1)) (M.2.2 48) _ h hs)
          · rw [if_neg c60] at h
            refine z_aload_n X dX4_closesNode_63 1 rfl rfl ?_
            refine z_get (j := 4) (v := .ref (ad 26)) X inX4 rfl (by decide) w_402 (hw.2.2.2.2.2.1 _) rfl dX4_closesNode_64 ?_
            refine z_iload_n X dX4_closesNode_67 0 rfl rfl ?_
            refine z_aload_n X dX4_closesNode_68 1 rfl rfl ?_
            refine z_get (j := 7) (v := .int (M.2.2 48)) X inX4 rfl (by decide) w_393 (hw.2.2.2.2.2.1 _) rfl dX4_closesNode_69 ?_
            refine z_iload_n X dX4_closesNode_72 0 rfl rfl ?_
            refine z_isub X dX4_closesNode_73 ?_
            refine z_iconst (v := (nI 1)) X dX4_closesNode_74 (by decide) ?_
            refine z_isub X dX4_closesNode_75 ?_
            obtain ⟨u3, hu3, h⟩ := ob h
            refine z_iast (M' := (mk M [(24, (M.1 24)), (25, (M.1 25)), (26, u3)] M.2.1 [(46, ((M.2.2 46) - (nI 1))), (48, (M.2.2 48))])) X (hw.2.2.2.2.2.2.2.2.2.2.2.2.2.2.2.2.2.2.2.2.1 _).1 (wr_ok hu3) (mk_set1 (l' := [(24, (M.1 24)), (25, (M.1 25)), (26, u3)]) (hw.2.2.2.2.2.2.2.2.2.2.2.2.2.2.2.2.2.2.2.2.1) rfl rfl) dX4_closesNode_76 ?_
            exact z_sub [1] rfl (jX4_closesNode_J77 X eR hw M (M.1 24) (M.1 25) u3 ((M.2.2 46) - (nI 1)) (M.2.2 48) _ h hs)
      · rw [if_neg c28] at h
        refine z_iconst (v := (nI 0)) X dX4_closesNode_31 (by decide) ?_
        have hq := Option.some.inj h
        subst hq
        exact z_iret hs dX4_closesNode_32 rfl
set_option maxHeartbeats 4000000 in
theorem jX4_opensNode_J45 {κ : Rx} {ct : Nat → ClassId} {tF : Nat} {po ad : Nat → Nat} (X : CX κ ct tF cX4_opensNode 2 RX4) (eR : kR κ = { frames := 1, cells := 0, slots := 0, locals := 20 }) (hw : KC (kw κ) po ad ct) (M : Mm) (a_awaited : Nat → Int32) (s_opn : Int32) (s_opened : Int32)    (s : (Int32 × (Nat → Int32) × Int32 × Int32)) (h : fX4_opensNode_J45 a_awaited s_opn s_opened = some s) (hs : (ZI κ cX4_opensNode .boolean s.1 (mk M [(24, s.2.1)] M.2.1 [(46, s.2.2.1), (47, s.2.2.2)]))) : Zj κ 2 45 [(0, .ref (ad 22))] [] (mk M [(24, a_awaited)] M.2.1 [(46, s_opn), (47, s_opened)]) := by
  unfold fX4_opensNode_J45 at h
  refine z_aload_n X dX4_opensNode_45 0 rfl rfl ?_
  refine z_get (j := 2) (v := .ref (ad 24)) X inX4 rfl (by decide) w_391 (hw.2.2.2.2.2.1 _) rfl dX4_opensNode_46 ?_
  refine z_aload_n X dX4_opensNode_49 0 rfl rfl ?_
  refine z_get (j := 5) (v := .int s_opn) X inX4 rfl (by decide) w_390 (hw.2.2.2.2.2.1 _) rfl dX4_opensNode_50 ?_
  refine z_iconst (v := (nI 0)) X dX4_opensNode_53 (by decide) ?_
  obtain ⟨u1, hu1, h⟩ := ob h
  refine z_iast (M' := (mk M [(24, u1)] M.2.1 [(46, s_opn), (47, s_opened)])) X (hw.2.2.2.2.2.2.2.2.2.2.2.2.2.2.2.2.2.2.1 _).1 (wr_ok hu1) (mk_set1 (l' := [(24, u1)]) (hw.2.2.2.2.2.2.2.2.2.2.2.2.2.2.2.2.2.2.1) rfl rfl) dX4_opensNode_54 ?_
  refine z_aload_n X dX4_opensNode_55 0 rfl rfl ?_
  refine z_dup X dX4_opensNode_56 rfl ?_
  refine z_get (j := 5) (v := .int s_opn) X inX4 rfl (by decide) w_390 (hw.2.2.2.2.2.1 _) rfl dX4_opensNode_57 ?_
  refine z_iconst (v := (nI 1)) X dX4_opensNode_60 (by decide) ?_
  refine z_iadd X dX4_opensNode_61 ?_
  refine z_put (j := 5) (ty := .int) (M' := (mk M [(24, u1)] M.2.1 [(46, (s_opn + (nI 1))), (47, s_opened)])) X inX4 tyX4 tyX4_ok nmX4 rfl (by decide) w_390 rfl (by decide +kernel) rfl rfl (hw.2.2.2.2.2.1 _) (Nat.le_of_ble_eq_true rfl) (mk_setS (sl' := [(46, (s_opn + (nI 1))), (47, s_opened)]) (hw.2.2.2.2.2.2.2.2.2.2.2.2.2.2.2.2.2.2.2.2.2.2.2.2.2.2.2.2.2.1) rfl rfl) dX4_opensNode_62 ?_
  refine z_aload_n X dX4_opensNode_65 0 rfl rfl ?_
  refine z_dup X dX4_opensNode_66 rfl ?_
  refine z_get (j := 6) (v := .int s_opened) X inX4 rfl (by decide) w_403 (hw.2.2.2.2.2.1 _) rfl dX4_opensNode_67 ?_
  refine z_iconst (v := (nI 1)) X dX4_opensNode_70 (by decide) ?_
  refine z_iadd X dX4_opensNode_71 ?_
  refine z_put (j := 6) (ty := .int) (M' := (mk M [(24, u1)] M.2.1 [(46, (s_opn + (nI 1))), (47, (s_opened + (nI 1)))])) X inX4 tyX4 tyX4_ok nmX4 rfl (by decide) w_403 rfl (by decide +kernel) rfl rfl (hw.2.2.2.2.2.1 _) (Nat.le_of_ble_eq_true rfl) (mk_setS (sl' := [(46, (s_opn + (nI 1))), (47, (s_opened + (nI 1)))]) (hw.2.2.2.2.2.2.2.2.2.2.2.2.2.2.2.2.2.2.2.2.2.2.2.2.2.2.2.2.2.2.1) rfl rfl) dX4_opensNode_72 ?_
  refine z_iconst (v := (nI 1)) X dX4_opensNode_75 (by decide) ?_
  have hq := Option.some.inj h
  subst hq
  exact z_iret hs dX4_opensNode_76 rfl
set_option maxHeartbeats 4000000 in
theorem jX4_opensNode_J12 {κ : Rx} {ct : Nat → ClassId} {tF : Nat} {po ad : Nat → Nat} (X : CX κ ct tF cX4_opensNode 2 RX4) (eR : kR κ = { frames := 1, cells := 0, slots := 0, locals := 20 }) (hw : KC (kw κ) po ad ct) (M : Mm) (a_awaited : Nat → Int32) (s_opn : Int32) (s_opened : Int32)   (k0 : Int32) (s : (Int32 × (Nat → Int32) × Int32 × Int32)) (h : fX4_opensNode_J12 a_awaited s_opn s_opened k0 = some s) (hs : (ZI κ cX4_opensNode .boolean s.1 (mk M [(24, s.2.1)] M.2.1 [(46, s.2.2.1), (47, s.2.2.2)]))) : Zj κ 2 12 [(0, .ref (ad 22))] [.int k0] (mk M [(24, a_awaited)] M.2.1 [(46, s_opn), (47, s_opened)]) := by
  unfold fX4_opensNode_J12 at h
  refine z_istore_n (lv' := [(1, .int k0), (0, .ref (ad 22))]) X dX4_opensNode_12 rfl (by decide) rfl ?_
  refine z_aload_n X dX4_opensNode_13 1 rfl rfl ?_
  refine z_get (j := 6) (v := .int s_opened) X inX4 rfl (by decide) w_403 (hw.2.2.2.2.2.1 _) rfl dX4_opensNode_14 ?_
  refine z_bipush (v := (nI 7)) X dX4_opensNode_17 (by decide) ?_
  refine z_icmp_ge (tgt := 43) X dX4_opensNode_19 (by decide) (fun c19 => ?_) (fun c19 => ?_)
  · rw [if_pos c19] at h
    refine z_iconst (v := (nI 0)) X dX4_opensNode_43 (by decide) ?_
    have hq := Option.some.inj h
    subst hq
    exact z_iret hs dX4_opensNode_44 rfl
  · rw [if_neg c19] at h
    refine z_aload_n X dX4_opensNode_22 1 rfl rfl ?_
    refine z_get (j := 5) (v := .int s_opn) X inX4 rfl (by decide) w_390 (hw.2.2.2.2.2.1 _) rfl dX4_opensNode_23 ?_
    refine z_bipush (v := (nI 7)) X dX4_opensNode_26 (by decide) ?_
    refine z_icmp_ge (tgt := 43) X dX4_opensNode_28 (by decide) (fun c28 => ?_) (fun c28 => ?_)
    · rw [if_pos c28] at h
      refine z_iconst (v := (nI 0)) X dX4_opensNode_43 (by decide) ?_
      have hq := Option.some.inj h
      subst hq
      exact z_iret hs dX4_opensNode_44 rfl
    · rw [if_neg c28] at h
      refine z_iload_n X dX4_opensNode_31 0 rfl rfl ?_
      refine z_if_ne (tgt := 45) X dX4_opensNode_32 (by decide) (fun c32 => ?_) (fun c32 => ?_)
      · rw [if_neg c32] at h
        exact z_sub [1] rfl (jX4_opensNode_J45 X eR hw M a_awaited s_opn s_opened _ h hs)
      · rw [if_pos c32] at h
        refine z_aload_n X dX4_opensNode_35 1 rfl rfl ?_
        obtain ⟨r1, hr1, h⟩ := ob h
        refine z_cVI (As := []) (st := []) X (tX4_awaitedNow hw (mk M [(24, a_awaited)] M.2.1 [(46, s_opn), (47, s_opened)]) hr1) w_394 mvX4_awaitedNow (by rw [eR]; exact ⟨Nat.le_of_ble_eq_true rfl, Nat.le_of_ble_eq_true rfl⟩) ⟨rfl, rfl⟩ rfl (Nat.le_of_ble_eq_true rfl) (hw.2.2.2.2.2.1 _) rfl rfl dX4_opensNode_36 ?_
        refine z_iconst (v := (nI 2)) X dX4_opensNode_39 (by decide) ?_
        refine z_icmp_ne (tgt := 45) X dX4_opensNode_40 (by decide) (fun c40 => ?_) (fun c40 => ?_)
        · rw [if_neg c40] at h
          exact z_sub [1] rfl (jX4_opensNode_J45 X eR hw M a_awaited s_opn s_opened _ h hs)
        · rw [if_pos c40] at h
          refine z_iconst (v := (nI 0)) X dX4_opensNode_43 (by decide) ?_
          have hq := Option.some.inj h
          subst hq
          exact z_iret hs dX4_opensNode_44 rfl
set_option maxHeartbeats 4000000 in
theorem tX4_opensNode {l : Launch} {D : va_G} {ct : Nat → ClassId} {tF : Nat} {wOf : Mm → va_W} {po ad : Nat → Nat} (hw : KC wOf po ad ct) (M : Mm)  {r : (Int32 × (Nat → Int32) × Int32 × Int32)} (h : fX4_opensNode (M.1 24) (M.2.2 46) (M.2.2 47) = some r) : CtI l yX4_opensNode cX4_opensNode 2 .boolean { frames := 1, cells := 0, slots := 0, locals := 20 } D ct tF wOf [.ref (ad 22)] M r.1 (mk M [(24, r.2.1)] M.2.1 [(46, r.2.2.1), (47, r.2.2.2)]) := by
  refine metI (by decide) (Nat.le_of_ble_eq_true rfl) fun κ X e1 eR e3 e4 hs => ?_
  subst e1; subst e3; subst e4
  unfold fX4_opensNode at h
  refine z_mem (mk_self M [24] [46, 47]) ?_
  refine z_sub (lv' := [(0, .ref (ad 22))]) [0] rfl ?_
  show Zj κ 2 0 _ _ (mk M [(24, (M.1 24))] M.2.1 [(46, (M.2.2 46)), (47, (M.2.2 47))])
  refine z_aload_n X dX4_opensNode_0 0 rfl rfl ?_
  refine z_get (j := 6) (v := .int (M.2.2 47)) X inX4 rfl (by decide) w_403 (hw.2.2.2.2.2.1 _) rfl dX4_opensNode_1 ?_
  refine z_if_ne (tgt := 11) X dX4_opensNode_4 (by decide) (fun c4 => ?_) (fun c4 => ?_)
  · rw [if_neg c4] at h
    refine z_iconst (v := (nI 0)) X dX4_opensNode_11 (by decide) ?_
    exact (jX4_opensNode_J12 X eR hw M (M.1 24) (M.2.2 46) (M.2.2 47) (nI 0) _ h hs)
  · rw [if_pos c4] at h
    refine z_iconst (v := (nI 1)) X dX4_opensNode_7 (by decide) ?_
    refine z_goto (tgt := 12) X dX4_opensNode_8 (by decide) ?_
    exact (jX4_opensNode_J12 X eR hw M (M.1 24) (M.2.2 46) (M.2.2 47) (nI 1) _ h hs)
set_option maxHeartbeats 4000000 in
theorem tX4_accepts {l : Launch} {D : va_G} {ct : Nat → ClassId} {tF : Nat} {wOf : Mm → va_W} {po ad : Nat → Nat} (hw : KC wOf po ad ct) (M : Mm) {v1 : Int32} {r : (Int32 × (Nat → Int32) × (Nat → Int32) × (Nat → Int32) × Int32 × Int32 × Int32)} (h : fX4_accepts (M.1 24) (M.1 25) (M.1 26) (M.2.2 46) (M.2.2 47) (M.2.2 48) v1 = some r) : CtI l yX4_accepts cX4_accepts 2 .boolean { frames := 2, cells := 0, slots := 0, locals := 42 } D ct tF wOf [.ref (ad 22), .int v1] M r.1 (mk M [(24, r.2.1), (25, r.2.2.1), (26, r.2.2.2.1)] M.2.1 [(46, r.2.2.2.2.1), (47, r.2.2.2.2.2.1), (48, r.2.2.2.2.2.2)]) := by
  refine metI (by decide) (Nat.le_of_ble_eq_true rfl) fun κ X e1 eR e3 e4 hs => ?_
  subst e1; subst e3; subst e4
  unfold fX4_accepts at h
  refine z_mem (mk_self M [24, 25, 26] [46, 47, 48]) ?_
  refine z_sub (lv' := [(0, .ref (ad 22)), (1, .int v1)]) [0, 1] rfl ?_
  show Zj κ 2 0 _ _ (mk M [(24, (M.1 24)), (25, (M.1 25)), (26, (M.1 26))] M.2.1 [(46, (M.2.2 46)), (47, (M.2.2 47)), (48, (M.2.2 48))])
  refine z_iload_n X dX4_accepts_0 1 rfl rfl ?_
  by_cases c1_0 : v1 = nI 40
  · rw [if_pos c1_0] at h
    refine z_look (off := 35) (tgt := 36) X dX4_accepts_1 (by decide) (by rw [c1_0]; decide) (by decide) ?_
    refine z_aload_n X dX4_accepts_36 0 rfl rfl ?_
    obtain ⟨r1, hr1, h⟩ := ob h
    refine z_cVI (As := []) (st := []) X (tX4_opensNode hw (mk M [(24, (M.1 24)), (25, (M.1 25)), (26, (M.1 26))] M.2.1 [(46, (M.2.2 46)), (47, (M.2.2 47)), (48, (M.2.2 48))]) hr1) w_404 mvX4_opensNode (by rw [eR]; exact ⟨Nat.le_of_ble_eq_true rfl, Nat.le_of_ble_eq_true rfl⟩) ⟨rfl, rfl⟩ rfl (Nat.le_of_ble_eq_true rfl) (hw.2.2.2.2.2.1 _) rfl rfl dX4_accepts_37 ?_
    refine z_mem (mk_mk (l' := [(24, r1.2.1), (25, (M.1 25)), (26, (M.1 26))]) (sl' := [(46, r1.2.2.1), (47, r1.2.2.2), (48, (M.2.2 48))]) rfl rfl rfl rfl) ?_
    obtain ⟨z2, hz2, h⟩ := ob h
    obtain ⟨qz2, nz2⟩ := zro_ok hz2
    subst qz2
    have hq := Option.some.inj h
    subst hq
    exact z_iret hs dX4_accepts_40 nz2
  · rw [if_neg c1_0] at h
    by_cases c1_1 : v1 = nI 41
    · rw [if_pos c1_1] at h
      refine z_look (off := 45) (tgt := 46) X dX4_accepts_1 (by decide) (by rw [c1_1]; decide) (by decide) ?_
      refine z_aload_n X dX4_accepts_46 0 rfl rfl ?_
      obtain ⟨r3, hr3, h⟩ := ob h
      refine z_cVI (As := []) (st := []) X (tX4_closesNode hw (mk M [(24, (M.1 24)), (25, (M.1 25)), (26, (M.1 26))] M.2.1 [(46, (M.2.2 46)), (47, (M.2.2 47)), (48, (M.2.2 48))]) hr3) w_408 mvX4_closesNode (by rw [eR]; exact ⟨Nat.le_of_ble_eq_true rfl, Nat.le_of_ble_eq_true rfl⟩) ⟨rfl, rfl⟩ rfl (Nat.le_of_ble_eq_true rfl) (hw.2.2.2.2.2.1 _) rfl rfl dX4_accepts_47 ?_
      refine z_mem (mk_mk (l' := [(24, r3.2.1), (25, r3.2.2.1), (26, r3.2.2.2.1)]) (sl' := [(46, r3.2.2.2.2.1), (47, (M.2.2 47)), (48, r3.2.2.2.2.2)]) rfl rfl rfl rfl) ?_
      obtain ⟨z4, hz4, h⟩ := ob h
      obtain ⟨qz4, nz4⟩ := zro_ok hz4
      subst qz4
      have hq := Option.some.inj h
      subst hq
      exact z_iret hs dX4_accepts_50 nz4
    · rw [if_neg c1_1] at h
      by_cases c1_2 : v1 = nI 46
      · rw [if_pos c1_2] at h
        refine z_look (off := 40) (tgt := 41) X dX4_accepts_1 (by decide) (by rw [c1_2]; decide) (by decide) ?_
        refine z_aload_n X dX4_accepts_41 0 rfl rfl ?_
        obtain ⟨r5, hr5, h⟩ := ob h
        refine z_cVI (As := []) (st := []) X (tX4_staysNothing hw (mk M [(24, (M.1 24)), (25, (M.1 25)), (26, (M.1 26))] M.2.1 [(46, (M.2.2 46)), (47, (M.2.2 47)), (48, (M.2.2 48))]) hr5) w_412 mvX4_staysNothing (by rw [eR]; exact ⟨Nat.le_of_ble_eq_true rfl, Nat.le_of_ble_eq_true rfl⟩) ⟨rfl, rfl⟩ rfl (Nat.le_of_ble_eq_true rfl) (hw.2.2.2.2.2.1 _) rfl rfl dX4_accepts_42 ?_
        refine z_mem (mk_mk (l' := [(24, r5.2.1), (25, r5.2.2.1), (26, (M.1 26))]) (sl' := [(46, (M.2.2 46)), (47, (M.2.2 47)), (48, r5.2.2.2)]) rfl rfl rfl rfl) ?_
        obtain ⟨z6, hz6, h⟩ := ob h
        obtain ⟨qz6, nz6⟩ := zro_ok hz6
        subst qz6
        have hq := Option.some.inj h
        subst hq
        exact z_iret hs dX4_accepts_45 nz6
      · rw [if_neg c1_2] at h
        refine z_look (off := 50) (tgt := 51) X dX4_accepts_1 (by decide) (by show Op.lookupswitch.offset [(40, 35), (41, 45), (46, 40)] 50 _ = _; rw [lv_osw c1_0 (show (nI 40).toInt = 40 from rfl), lv_osw c1_1 (show (nI 41).toInt = 41 from rfl), lv_osw c1_2 (show (nI 46).toInt = 46 from rfl)]; rfl) (by decide) ?_
        refine z_iconst (v := (nI 0)) X dX4_accepts_51 (by decide) ?_
        have hq := Option.some.inj h
        subst hq
        exact z_iret hs dX4_accepts_52 rfl
set_option maxHeartbeats 4000000 in
theorem tX4_isWhole {l : Launch} {D : va_G} {ct : Nat → ClassId} {tF : Nat} {wOf : Mm → va_W} {po ad : Nat → Nat} (hw : KC wOf po ad ct) (M : Mm)  {r : Int32} (h : fX4_isWhole (M.2.2 46) (M.2.2 47) = some r) : CtI l yX4_isWhole cX4_isWhole 1 .boolean { frames := 0, cells := 0, slots := 0, locals := 0 } D ct tF wOf [.ref (ad 22)] M r M := by
  refine metI (by decide) (Nat.le_of_ble_eq_true rfl) fun κ X e1 eR e3 e4 hs => ?_
  subst e1; subst e3; subst e4
  unfold fX4_isWhole at h
  refine z_sub (lv' := [(0, .ref (ad 22))]) [0] rfl ?_
  refine z_aload_n X dX4_isWhole_0 0 rfl rfl ?_
  refine z_get (j := 6) (v := .int (M.2.2 47)) X inX4 rfl (by decide) w_403 (hw.2.2.2.2.2.1 _) rfl dX4_isWhole_1 ?_
  refine z_if_le (tgt := 18) X dX4_isWhole_4 (by decide) (fun c4 => ?_) (fun c4 => ?_)
  · rw [if_pos c4] at h
    refine z_iconst (v := (nI 0)) X dX4_isWhole_18 (by decide) ?_
    have hq := Option.some.inj h
    subst hq
    exact z_iret hs dX4_isWhole_19 rfl
  · rw [if_neg c4] at h
    refine z_aload_n X dX4_isWhole_7 0 rfl rfl ?_
    refine z_get (j := 5) (v := .int (M.2.2 46)) X inX4 rfl (by decide) w_390 (hw.2.2.2.2.2.1 _) rfl dX4_isWhole_8 ?_
    refine z_if_ne (tgt := 18) X dX4_isWhole_11 (by decide) (fun c11 => ?_) (fun c11 => ?_)
    · rw [if_neg c11] at h
      refine z_iconst (v := (nI 0)) X dX4_isWhole_18 (by decide) ?_
      have hq := Option.some.inj h
      subst hq
      exact z_iret hs dX4_isWhole_19 rfl
    · rw [if_pos c11] at h
      refine z_iconst (v := (nI 1)) X dX4_isWhole_14 (by decide) ?_
      refine z_goto (tgt := 19) X dX4_isWhole_15 (by decide) ?_
      have hq := Option.some.inj h
      subst hq
      exact z_iret hs dX4_isWhole_19 rfl
set_option maxHeartbeats 4000000 in
theorem bX4_parse_B17 {κ : Rx} {ct : Nat → ClassId} {tF : Nat} {po ad : Nat → Nat} (X : CX κ ct tF cX4_parse 2 RX4) (eR : kR κ = { frames := 3, cells := 0, slots := 0, locals := 63 }) (hw : KC (kw κ) po ad ct) (M : Mm)   : ∀ (x : (Int32 × (Nat → Int32) × (Nat → Int32) × (Nat → Int32) × Int32 × Int32 × Int32)) (s : (Int32 × (Nat → Int32) × (Nat → Int32) × (Nat → Int32) × Int32 × Int32 × Int32) ⊕ (((Nat → Int32) × (Nat → Int32) × (Nat → Int32) × Int32 × Int32 × Int32) ⊕ (Int32 × (Nat → Int32) × (Nat → Int32) × (Nat → Int32) × Int32 × Int32 × Int32))), fX4_parse_B17 (M.1 23) (M.2.2 45) x = some s → Sum.elim (fun x => Zj κ 2 17 [(0, .ref (ad 22)), (1, .int x.1)] [] (mk M [(24, x.2.1), (25, x.2.2.1), (26, x.2.2.2.1)] M.2.1 [(46, x.2.2.2.2.1), (47, x.2.2.2.2.2.1), (48, x.2.2.2.2.2.2)])) (Sum.elim (fun y => Zj κ 2 52 [(0, .ref (ad 22))] [] (mk M [(24, y.1), (25, y.2.1), (26, y.2.2.1)] M.2.1 [(46, y.2.2.2.1), (47, y.2.2.2.2.1), (48, y.2.2.2.2.2)])) (fun r => ZI κ cX4_parse .int r.1 (mk M [(24, r.2.1), (25, r.2.2.1), (26, r.2.2.2.1)] M.2.1 [(46, r.2.2.2.2.1), (47, r.2.2.2.2.2.1), (48, r.2.2.2.2.2.2)]))) s → Zj κ 2 17 [(0, .ref (ad 22)), (1, .int x.1)] [] (mk M [(24, x.2.1), (25, x.2.2.1), (26, x.2.2.2.1)] M.2.1 [(46, x.2.2.2.2.1), (47, x.2.2.2.2.2.1), (48, x.2.2.2.2.2.2)]) := by
  intro x s h hs
  unfold fX4_parse_B17 at h
  refine z_iload_n X dX4_parse_17 1 rfl rfl ?_
  refine z_aload_n X dX4_parse_18 0 rfl rfl ?_
  refine z_get (j := 1) (v := .int (M.2.2 45)) X inX4 rfl (by decide) w_374 (hw.2.2.2.2.2.1 _) rfl dX4_parse_19 ?_
  refine z_icmp_ge (tgt := 52) X dX4_parse_22 (by decide) (fun c22 => ?_) (fun c22 => ?_)
  · rw [if_pos c22] at h
    have hq := Option.some.inj h
    subst hq
    exact z_sub [0] rfl hs
  · rw [if_neg c22] at h
    refine z_iload_n X dX4_parse_25 1 rfl rfl ?_
    refine z_bipush (v := (nI 60)) X dX4_parse_26 (by decide) ?_
    refine z_icmp_ge (tgt := 52) X dX4_parse_28 (by decide) (fun c28 => ?_) (fun c28 => ?_)
    · rw [if_pos c28] at h
      have hq := Option.some.inj h
      subst hq
      exact z_sub [0] rfl hs
    · rw [if_neg c28] at h
      refine z_aload_n X dX4_parse_31 0 rfl rfl ?_
      refine z_aload_n X dX4_parse_32 0 rfl rfl ?_
      refine z_get (j := 0) (v := .ref (ad 23)) X inX4 rfl (by decide) w_375 (hw.2.2.2.2.2.1 _) rfl dX4_parse_33 ?_
      refine z_iload_n X dX4_parse_36 1 rfl rfl ?_
      obtain ⟨t1, ht1, h⟩ := ob h
      refine z_iald X (hw.2.2.2.2.2.2.2.2.2.2.2.2.2.2.2.2.2.1 _).1 (rd_ok ht1) dX4_parse_37 ?_
      obtain ⟨r2, hr2, h⟩ := ob h
      refine z_cVI (As := [.int t1]) (st := []) X (tX4_accepts hw (mk M [(24, x.2.1), (25, x.2.2.1), (26, x.2.2.2.1)] M.2.1 [(46, x.2.2.2.2.1), (47, x.2.2.2.2.2.1), (48, x.2.2.2.2.2.2)]) hr2) w_416 mvX4_accepts (by rw [eR]; exact ⟨Nat.le_of_ble_eq_true rfl, Nat.le_of_ble_eq_true rfl⟩) ⟨rfl, rfl⟩ rfl (Nat.le_of_ble_eq_true rfl) (hw.2.2.2.2.2.1 _) rfl rfl dX4_parse_38 ?_
      refine z_mem (mk_mk (l' := [(24, r2.2.1), (25, r2.2.2.1), (26, r2.2.2.2.1)]) (sl' := [(46, r2.2.2.2.2.1), (47, r2.2.2.2.2.2.1), (48, r2.2.2.2.2.2.2)]) rfl rfl rfl rfl) ?_
      refine z_if_ne (tgt := 46) X dX4_parse_41 (by decide) (fun c41 => ?_) (fun c41 => ?_)
      · rw [if_neg c41] at h
        refine z_iinc (v := (x.1 + nI 1)) (lv' := [(1, .int (x.1 + nI 1)), (0, .ref (ad 22))]) X dX4_parse_46 1 rfl rfl (by decide) rfl ?_
        refine z_goto (tgt := 17) X dX4_parse_49 (by decide) ?_
        have hq := Option.some.inj h
        subst hq
        exact z_sub [1, 0] rfl hs
      · rw [if_pos c41] at h
        refine z_iload_n X dX4_parse_44 1 rfl rfl ?_
        have hq := Option.some.inj h
        subst hq
        exact z_iret hs dX4_parse_45 rfl
set_option maxHeartbeats 4000000 in
theorem tX4_parse {l : Launch} {D : va_G} {ct : Nat → ClassId} {tF : Nat} {wOf : Mm → va_W} {po ad : Nat → Nat} (hw : KC wOf po ad ct) (M : Mm)  {r : (Int32 × (Nat → Int32) × (Nat → Int32) × (Nat → Int32) × Int32 × Int32 × Int32)} (h : fX4_parse (M.1 23) (M.1 24) (M.1 25) (M.1 26) (M.2.2 45) (M.2.2 46) (M.2.2 47) (M.2.2 48) = some r) : CtI l yX4_parse cX4_parse 2 .int { frames := 3, cells := 0, slots := 0, locals := 63 } D ct tF wOf [.ref (ad 22)] M r.1 (mk M [(24, r.2.1), (25, r.2.2.1), (26, r.2.2.2.1)] M.2.1 [(46, r.2.2.2.2.1), (47, r.2.2.2.2.2.1), (48, r.2.2.2.2.2.2)]) := by
  refine metI (by decide) (Nat.le_of_ble_eq_true rfl) fun κ X e1 eR e3 e4 hs => ?_
  subst e1; subst e3; subst e4
  unfold fX4_parse at h
  refine z_mem (mk_self M [24, 25, 26] [46, 47, 48]) ?_
  refine z_sub (lv' := [(0, .ref (ad 22))]) [0] rfl ?_
  show Zj κ 2 0 _ _ (mk M [(24, (M.1 24)), (25, (M.1 25)), (26, (M.1 26))] M.2.1 [(46, (M.2.2 46)), (47, (M.2.2 47)), (48, (M.2.2 48))])
  refine z_aload_n X dX4_parse_0 0 rfl rfl ?_
  refine z_iconst (v := (nI 0)) X dX4_parse_1 (by decide) ?_
  refine z_put (j := 5) (ty := .int) (M' := (mk M [(24, (M.1 24)), (25, (M.1 25)), (26, (M.1 26))] M.2.1 [(46, (nI 0)), (47, (M.2.2 47)), (48, (M.2.2 48))])) X inX4 tyX4 tyX4_ok nmX4 rfl (by decide) w_390 rfl (by decide +kernel) rfl rfl (hw.2.2.2.2.2.1 _) (Nat.le_of_ble_eq_true rfl) (mk_setS (sl' := [(46, (nI 0)), (47, (M.2.2 47)), (48, (M.2.2 48))]) (hw.2.2.2.2.2.2.2.2.2.2.2.2.2.2.2.2.2.2.2.2.2.2.2.2.2.2.2.2.2.1) rfl rfl) dX4_parse_2 ?_
  refine z_aload_n X dX4_parse_5 0 rfl rfl ?_
  refine z_iconst (v := (nI 0)) X dX4_parse_6 (by decide) ?_
  refine z_put (j := 6) (ty := .int) (M' := (mk M [(24, (M.1 24)), (25, (M.1 25)), (26, (M.1 26))] M.2.1 [(46, (nI 0)), (47, (nI 0)), (48, (M.2.2 48))])) X inX4 tyX4 tyX4_ok nmX4 rfl (by decide) w_403 rfl (by decide +kernel) rfl rfl (hw.2.2.2.2.2.1 _) (Nat.le_of_ble_eq_true rfl) (mk_setS (sl' := [(46, (nI 0)), (47, (nI 0)), (48, (M.2.2 48))]) (hw.2.2.2.2.2.2.2.2.2.2.2.2.2.2.2.2.2.2.2.2.2.2.2.2.2.2.2.2.2.2.1) rfl rfl) dX4_parse_7 ?_
  refine z_aload_n X dX4_parse_10 0 rfl rfl ?_
  refine z_iconst (v := (nI 0)) X dX4_parse_11 (by decide) ?_
  refine z_put (j := 7) (ty := .int) (M' := (mk M [(24, (M.1 24)), (25, (M.1 25)), (26, (M.1 26))] M.2.1 [(46, (nI 0)), (47, (nI 0)), (48, (nI 0))])) X inX4 tyX4 tyX4_ok nmX4 rfl (by decide) w_393 rfl (by decide +kernel) rfl rfl (hw.2.2.2.2.2.1 _) (Nat.le_of_ble_eq_true rfl) (mk_setS (sl' := [(46, (nI 0)), (47, (nI 0)), (48, (nI 0))]) (hw.2.2.2.2.2.2.2.2.2.2.2.2.2.2.2.2.2.2.2.2.2.2.2.2.2.2.2.2.2.2.2.1) rfl rfl) dX4_parse_12 ?_
  refine z_iconst (v := (nI 0)) X dX4_parse_15 (by decide) ?_
  refine z_istore_n (lv' := [(1, .int (nI 0)), (0, .ref (ad 22))]) X dX4_parse_16 rfl (by decide) rfl ?_
  refine z_sub [1, 0] rfl ?_
  obtain ⟨y1_, hy1, h⟩ := ob h
  cases y1_ with
  | inl y1 =>
    rw [Sum.elim_inl] at h
    refine (it_Z (bX4_parse_B17 X eR hw M) FU _ (.inl y1) hy1) ?_
    refine z_aload_n X dX4_parse_52 0 rfl rfl ?_
    obtain ⟨r2, hr2, h⟩ := ob h
    refine z_cVI (As := []) (st := []) X (tX4_isWhole hw (mk M [(24, y1.1), (25, y1.2.1), (26, y1.2.2.1)] M.2.1 [(46, y1.2.2.2.1), (47, y1.2.2.2.2.1), (48, y1.2.2.2.2.2)]) hr2) w_420 mvX4_isWhole (by rw [eR]; exact ⟨Nat.le_of_ble_eq_true rfl, Nat.le_of_ble_eq_true rfl⟩) ⟨rfl, rfl⟩ rfl (Nat.le_of_ble_eq_true rfl) (hw.2.2.2.2.2.1 _) rfl rfl dX4_parse_53 ?_
    refine z_if_eq (tgt := 63) X dX4_parse_56 (by decide) (fun c56 => ?_) (fun c56 => ?_)
    · rw [if_pos c56] at h
      refine z_aload_n X dX4_parse_63 0 rfl rfl ?_
      refine z_get (j := 1) (v := .int (M.2.2 45)) X inX4 rfl (by decide) w_374 (hw.2.2.2.2.2.1 _) rfl dX4_parse_64 ?_
      have hq := Option.some.inj h
      subst hq
      exact z_iret hs dX4_parse_67 rfl
    · rw [if_neg c56] at h
      refine z_iconst (v := (-1 : Int32)) X dX4_parse_59 (by decide) ?_
      refine z_goto (tgt := 67) X dX4_parse_60 (by decide) ?_
      have hq := Option.some.inj h
      subst hq
      exact z_iret hs dX4_parse_67 rfl
  | inr y1 =>
    rw [Sum.elim_inr] at h
    have hq := Option.some.inj h
    subst hq
    exact (it_Z (bX4_parse_B17 X eR hw M) FU _ (.inr _) hy1) hs
set_option maxHeartbeats 4000000 in
theorem tX4_parsedNodes {l : Launch} {D : va_G} {ct : Nat → ClassId} {tF : Nat} {wOf : Mm → va_W} {po ad : Nat → Nat} (hw : KC wOf po ad ct) (M : Mm)  {r : Int32} (h : fX4_parsedNodes (M.2.2 48) = some r) : CtI l yX4_parsedNodes cX4_parsedNodes 1 .int { frames := 0, cells := 0, slots := 0, locals := 0 } D ct tF wOf [.ref (ad 22)] M r M := by
  refine metI (by decide) (Nat.le_of_ble_eq_true rfl) fun κ X e1 eR e3 e4 hs => ?_
  subst e1; subst e3; subst e4
  unfold fX4_parsedNodes at h
  refine z_sub (lv' := [(0, .ref (ad 22))]) [0] rfl ?_
  refine z_aload_n X dX4_parsedNodes_0 0 rfl rfl ?_
  refine z_get (j := 7) (v := .int (M.2.2 48)) X inX4 rfl (by decide) w_393 (hw.2.2.2.2.2.1 _) rfl dX4_parsedNodes_1 ?_
  have hq := Option.some.inj h
  subst hq
  exact z_iret hs dX4_parsedNodes_4 rfl
set_option maxHeartbeats 4000000 in
theorem bX4_parsedCode_B4 {κ : Rx} {ct : Nat → ClassId} {tF : Nat} {po ad : Nat → Nat} (X : CX κ ct tF cX4_parsedCode 3 RX4) (eR : kR κ = { frames := 1, cells := 0, slots := 0, locals := 22 }) (hw : KC (kw κ) po ad ct) (M : Mm)   : ∀ (x : (Int32 × Int32)) (s : (Int32 × Int32) ⊕ Int32), fX4_parsedCode_B4 (M.1 26) (M.2.2 48) x = some s → Sum.elim (fun x => Zj κ 3 4 [(0, .ref (ad 22)), (1, .int x.1), (2, .int x.2)] [] M) (fun y => Zj κ 3 41 [(1, .int y)] [] M) s → Zj κ 3 4 [(0, .ref (ad 22)), (1, .int x.1), (2, .int x.2)] [] M := by
  intro x s h hs
  unfold fX4_parsedCode_B4 at h
  refine z_iload_n X dX4_parsedCode_4 2 rfl rfl ?_
  refine z_aload_n X dX4_parsedCode_5 0 rfl rfl ?_
  refine z_get (j := 7) (v := .int (M.2.2 48)) X inX4 rfl (by decide) w_393 (hw.2.2.2.2.2.1 _) rfl dX4_parsedCode_6 ?_
  refine z_icmp_ge (tgt := 41) X dX4_parsedCode_9 (by decide) (fun c9 => ?_) (fun c9 => ?_)
  · rw [if_pos c9] at h
    have hq := Option.some.inj h
    subst hq
    exact z_sub [1] rfl hs
  · rw [if_neg c9] at h
    refine z_iload_n X dX4_parsedCode_12 2 rfl rfl ?_
    refine z_bipush (v := (nI 7)) X dX4_parsedCode_13 (by decide) ?_
    refine z_icmp_ge (tgt := 41) X dX4_parsedCode_15 (by decide) (fun c15 => ?_) (fun c15 => ?_)
    · rw [if_pos c15] at h
      have hq := Option.some.inj h
      subst hq
      exact z_sub [1] rfl hs
    · rw [if_neg c15] at h
      refine z_iload_n X dX4_parsedCode_18 1 rfl rfl ?_
      refine z_aload_n X dX4_parsedCode_19 0 rfl rfl ?_
      refine z_get (j := 4) (v := .ref (ad 26)) X inX4 rfl (by decide) w_402 (hw.2.2.2.2.2.1 _) rfl dX4_parsedCode_20 ?_
      refine z_iload_n X dX4_parsedCode_23 2 rfl rfl ?_
      obtain ⟨t1, ht1, h⟩ := ob h
      refine z_iald X (hw.2.2.2.2.2.2.2.2.2.2.2.2.2.2.2.2.2.2.2.2.1 _).1 (rd_ok ht1) dX4_parsedCode_24 ?_
      refine z_aload_n X dX4_parsedCode_25 0 rfl rfl ?_
      refine z_get (j := 7) (v := .int (M.2.2 48)) X inX4 rfl (by decide) w_393 (hw.2.2.2.2.2.1 _) rfl dX4_parsedCode_26 ?_
      refine z_iload_n X dX4_parsedCode_29 2 rfl rfl ?_
      obtain ⟨r2, hr2, h⟩ := ob h
      refine z_cSI (As := [.int t1, .int (M.2.2 48), .int x.2]) (st := [.int x.1]) X (tX0_digitAt hw.1 M hr2) w_424 msX0_digitAt (by rw [eR]; exact ⟨Nat.le_of_ble_eq_true rfl, Nat.le_of_ble_eq_true rfl⟩) ⟨rfl, rfl⟩ rfl (Nat.le_of_ble_eq_true rfl) rfl dX4_parsedCode_30 ?_
      refine z_ior X dX4_parsedCode_33 ?_
      refine z_istore_n (lv' := [(1, .int (x.1 ||| r2)), (0, .ref (ad 22)), (2, .int x.2)]) X dX4_parsedCode_34 rfl (by decide) rfl ?_
      refine z_iinc (v := (x.2 + nI 1)) (lv' := [(2, .int (x.2 + nI 1)), (1, .int (x.1 ||| r2)), (0, .ref (ad 22))]) X dX4_parsedCode_35 2 rfl rfl (by decide) rfl ?_
      refine z_goto (tgt := 4) X dX4_parsedCode_38 (by decide) ?_
      have hq := Option.some.inj h
      subst hq
      exact z_sub [2, 1, 0] rfl hs
set_option maxHeartbeats 4000000 in
theorem tX4_parsedCode {l : Launch} {D : va_G} {ct : Nat → ClassId} {tF : Nat} {wOf : Mm → va_W} {po ad : Nat → Nat} (hw : KC wOf po ad ct) (M : Mm)  {r : Int32} (h : fX4_parsedCode (M.1 26) (M.2.2 48) = some r) : CtI l yX4_parsedCode cX4_parsedCode 3 .int { frames := 1, cells := 0, slots := 0, locals := 22 } D ct tF wOf [.ref (ad 22)] M r M := by
  refine metI (by decide) (Nat.le_of_ble_eq_true rfl) fun κ X e1 eR e3 e4 hs => ?_
  subst e1; subst e3; subst e4
  unfold fX4_parsedCode at h
  refine z_sub (lv' := [(0, .ref (ad 22))]) [0] rfl ?_
  refine z_iconst (v := (nI 0)) X dX4_parsedCode_0 (by decide) ?_
  refine z_istore_n (lv' := [(1, .int (nI 0)), (0, .ref (ad 22))]) X dX4_parsedCode_1 rfl (by decide) rfl ?_
  refine z_iconst (v := (nI 0)) X dX4_parsedCode_2 (by decide) ?_
  refine z_istore_n (lv' := [(2, .int (nI 0)), (1, .int (nI 0)), (0, .ref (ad 22))]) X dX4_parsedCode_3 rfl (by decide) rfl ?_
  refine z_sub [2, 1, 0] rfl ?_
  obtain ⟨y1, hy1, h⟩ := ob h
  refine (it_Z (bX4_parsedCode_B4 X eR hw M) FU _ y1 hy1) ?_
  refine z_iload_n X dX4_parsedCode_41 0 rfl rfl ?_
  have hq := Option.some.inj h
  subst hq
  exact z_iret hs dX4_parsedCode_42 rfl
