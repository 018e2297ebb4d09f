set_option maxHeartbeats 4000000 in
theorem tX3_clear {l : Launch} {D : va_G} {ct : Nat → ClassId} {tF : Nat} {wOf : Mm → va_W} {po ad : Nat → Nat} (hw : KC wOf po ad ct) (M : Mm)  {r : Int32} (h : fX3_clear (M.2.2 44) = some r) : CtV l yX3_clear cX3_clear 1 { frames := 0, cells := 0, slots := 0, locals := 0 } D ct tF wOf [.ref (ad 14)] M (mk M [] M.2.1 [(44, r)]) := by
  refine metV (by decide) (Nat.le_of_ble_eq_true rfl) fun κ X e1 eR e3 e4 hs => ?_
  subst e1; subst e3; subst e4
  unfold fX3_clear at h
  refine z_mem (mk_self M [] [44]) ?_
  refine z_sub (lv' := [(0, .ref (ad 14))]) [0] rfl ?_
  show Zj κ 1 0 _ _ (mk M [] M.2.1 [(44, (M.2.2 44))])
  refine z_aload_n X dX3_clear_0 0 rfl rfl ?_
  refine z_iconst (v := (nI 0)) X dX3_clear_1 (by decide) ?_
  refine z_put (j := 1) (ty := .int) (M' := (mk M [] M.2.1 [(44, (nI 0))])) X inX3 tyX3 tyX3_ok nmX3 rfl (by decide) w_16 rfl (by decide +kernel) rfl rfl (hw.2.2.2.1 _) (Nat.le_of_ble_eq_true rfl) (mk_setS (sl' := [(44, (nI 0))]) (hw.2.2.2.2.2.2.2.2.2.2.2.2.2.2.2.2.2.2.2.2.2.2.2.2.2.2.2.1) rfl rfl) dX3_clear_2 ?_
  have hq := Option.some.inj h
  subst hq
  exact z_vret hs dX3_clear_5
set_option maxHeartbeats 4000000 in
theorem jX3_add_J30 {κ : Rx} {ct : Nat → ClassId} {tF : Nat} {po ad : Nat → Nat} (X : CX κ ct tF cX3_add 2 RX3) (eR : kR κ = { frames := 1, cells := 0, slots := 0, locals := 64 }) (hw : KC (kw κ) po ad ct) (M : Mm) (a_trees : Nat → Int32) (s_held : Int32)  (v1 : Int32)  (s : ((Nat → Int32) × Int32)) (h : fX3_add_J30 a_trees s_held v1 = some s) (hs : (ZV κ cX3_add (mk M [(15, s.1)] M.2.1 [(44, s.2)]))) : Zj κ 2 30 [(0, .ref (ad 14)), (1, .int v1)] [] (mk M [(15, a_trees)] M.2.1 [(44, s_held)]) := by
  unfold fX3_add_J30 at h
  refine z_aload_n X dX3_add_30 0 rfl rfl ?_
  refine z_get (j := 0) (v := .ref (ad 15)) X inX3 rfl (by decide) w_47 (hw.2.2.2.1 _) rfl dX3_add_31 ?_
  refine z_aload_n X dX3_add_34 0 rfl rfl ?_
  refine z_get (j := 1) (v := .int s_held) X inX3 rfl (by decide) w_16 (hw.2.2.2.1 _) rfl dX3_add_35 ?_
  refine z_iload_n X dX3_add_38 1 rfl rfl ?_
  obtain ⟨u1, hu1, h⟩ := ob h
  refine z_iast (M' := (mk M [(15, u1)] M.2.1 [(44, s_held)])) X (hw.2.2.2.2.2.2.2.2.2.2.2.2.2.2.2.1 _).1 (wr_ok hu1) (mk_set1 (l' := [(15, u1)]) (hw.2.2.2.2.2.2.2.2.2.2.2.2.2.2.2.1) rfl rfl) dX3_add_39 ?_
  refine z_aload_n X dX3_add_40 0 rfl rfl ?_
  refine z_dup X dX3_add_41 rfl ?_
  refine z_get (j := 1) (v := .int s_held) X inX3 rfl (by decide) w_16 (hw.2.2.2.1 _) rfl dX3_add_42 ?_
  refine z_iconst (v := (nI 1)) X dX3_add_45 (by decide) ?_
  refine z_iadd X dX3_add_46 ?_
  refine z_put (j := 1) (ty := .int) (M' := (mk M [(15, u1)] M.2.1 [(44, (s_held + (nI 1)))])) X inX3 tyX3 tyX3_ok nmX3 rfl (by decide) w_16 rfl (by decide +kernel) rfl rfl (hw.2.2.2.1 _) (Nat.le_of_ble_eq_true rfl) (mk_setS (sl' := [(44, (s_held + (nI 1)))]) (hw.2.2.2.2.2.2.2.2.2.2.2.2.2.2.2.2.2.2.2.2.2.2.2.2.2.2.2.1) rfl rfl) dX3_add_47 ?_
  have hq := Option.some.inj h
  subst hq
  exact z_vret hs dX3_add_50
set_option maxHeartbeats 4000000 in
theorem tX3_add {l : Launch} {D : va_G} {ct : Nat → ClassId} {tF : Nat} {wOf : Mm → va_W} {po ad : Nat → Nat} (hw : KC wOf po ad ct) (M : Mm) {v1 : Int32} {r : ((Nat → Int32) × Int32)} (h : fX3_add (M.1 15) (M.2.2 44) v1 = some r) : CtV l yX3_add cX3_add 2 { frames := 1, cells := 0, slots := 0, locals := 64 } D ct tF wOf [.ref (ad 14), .int v1] M (mk M [(15, r.1)] M.2.1 [(44, r.2)]) := by
  refine metV (by decide) (Nat.le_of_ble_eq_true rfl) fun κ X e1 eR e3 e4 hs => ?_
  subst e1; subst e3; subst e4
  unfold fX3_add at h
  refine z_mem (mk_self M [15] [44]) ?_
  refine z_sub (lv' := [(0, .ref (ad 14)), (1, .int v1)]) [0, 1] rfl ?_
  show Zj κ 2 0 _ _ (mk M [(15, (M.1 15))] M.2.1 [(44, (M.2.2 44))])
  refine z_aload_n X dX3_add_0 0 rfl rfl ?_
  refine z_get (j := 1) (v := .int (M.2.2 44)) X inX3 rfl (by decide) w_16 (hw.2.2.2.1 _) rfl dX3_add_1 ?_
  refine z_bipush (v := (nI 10)) X dX3_add_4 (by decide) ?_
  refine z_icmp_lt (tgt := 30) X dX3_add_6 (by decide) (fun c6 => ?_) (fun c6 => ?_)
  · rw [if_pos c6] at h
    exact (jX3_add_J30 X eR hw M (M.1 15) (M.2.2 44) v1 _ h hs)
  · rw [if_neg c6] at h
    refine z_aload_n X dX3_add_9 0 rfl rfl ?_
    refine z_get (j := 0) (v := .ref (ad 15)) X inX3 rfl (by decide) w_47 (hw.2.2.2.1 _) rfl dX3_add_10 ?_
    refine z_iconst (v := (nI 1)) X dX3_add_13 (by decide) ?_
    refine z_aload_n X dX3_add_14 0 rfl rfl ?_
    refine z_get (j := 0) (v := .ref (ad 15)) X inX3 rfl (by decide) w_47 (hw.2.2.2.1 _) rfl dX3_add_15 ?_
    refine z_iconst (v := (nI 0)) X dX3_add_18 (by decide) ?_
    refine z_bipush (v := (nI 9)) X dX3_add_19 (by decide) ?_
    obtain ⟨u1, hu1, h⟩ := ob h
    refine z_copy (M' := (mk M [(15, u1)] M.2.1 [(44, (M.2.2 44))])) X w_48 w_copy (hw.2.2.2.2.2.2.2.2.2.2.2.2.2.2.2.1 _).1 (hw.2.2.2.2.2.2.2.2.2.2.2.2.2.2.2.1 _).1 (cpo_ok hu1) (mk_set1 (l' := [(15, u1)]) (hw.2.2.2.2.2.2.2.2.2.2.2.2.2.2.2.1) rfl rfl) (by rw [eR]; exact Nat.le_of_ble_eq_true rfl) (by rw [eR]; decide +kernel) dX3_add_21 ?_
    refine z_aload_n X dX3_add_24 0 rfl rfl ?_
    refine z_bipush (v := (nI 9)) X dX3_add_25 (by decide) ?_
    refine z_put (j := 1) (ty := .int) (M' := (mk M [(15, u1)] M.2.1 [(44, (nI 9))])) X inX3 tyX3 tyX3_ok nmX3 rfl (by decide) w_16 rfl (by decide +kernel) rfl rfl (hw.2.2.2.1 _) (Nat.le_of_ble_eq_true rfl) (mk_setS (sl' := [(44, (nI 9))]) (hw.2.2.2.2.2.2.2.2.2.2.2.2.2.2.2.2.2.2.2.2.2.2.2.2.2.2.2.1) rfl rfl) dX3_add_27 ?_
    exact (jX3_add_J30 X eR hw M u1 (nI 9) v1 _ h hs)
set_option maxHeartbeats 4000000 in
theorem tX3_takeLatest {l : Launch} {D : va_G} {ct : Nat → ClassId} {tF : Nat} {wOf : Mm → va_W} {po ad : Nat → Nat} (hw : KC wOf po ad ct) (M : Mm)  {r : (Int32 × Int32)} (h : fX3_takeLatest (M.1 15) (M.2.2 44) = some r) : CtI l yX3_takeLatest cX3_takeLatest 1 .int { frames := 0, cells := 0, slots := 0, locals := 0 } D ct tF wOf [.ref (ad 14)] M r.1 (mk M [] M.2.1 [(44, r.2)]) := by
  refine metI (by decide) (Nat.le_of_ble_eq_true rfl) fun κ X e1 eR e3 e4 hs => ?_
  subst e1; subst e3; subst e4
  unfold fX3_takeLatest at h
  refine z_mem (mk_self M [] [44]) ?_
  refine z_sub (lv' := [(0, .ref (ad 14))]) [0] rfl ?_
  show Zj κ 1 0 _ _ (mk M [] M.2.1 [(44, (M.2.2 44))])
  refine z_aload_n X dX3_takeLatest_0 0 rfl rfl ?_
  refine z_get (j := 1) (v := .int (M.2.2 44)) X inX3 rfl (by decide) w_16 (hw.2.2.2.1 _) rfl dX3_takeLatest_1 ?_
  refine z_if_gt (tgt := 9) X dX3_takeLatest_4 (by decide) (fun c4 => ?_) (fun c4 => ?_)
  · rw [if_pos c4] at h
    refine z_aload_n X dX3_takeLatest_9 0 rfl rfl ?_
    refine z_dup X dX3_takeLatest_10 rfl ?_
    refine z_get (j := 1) (v := .int (M.2.2 44)) X inX3 rfl (by decide) w_16 (hw.2.2.2.1 _) rfl dX3_takeLatest_11 ?_
    refine z_iconst (v := (nI 1)) X dX3_takeLatest_14 (by decide) ?_
    refine z_isub X dX3_takeLatest_15 ?_
    refine z_put (j := 1) (ty := .int) (M' := (mk M [] M.2.1 [(44, ((M.2.2 44) - (nI 1)))])) X inX3 tyX3 tyX3_ok nmX3 rfl (by decide) w_16 rfl (by decide +kernel) rfl rfl (hw.2.2.2.1 _) (Nat.le_of_ble_eq_true rfl) (mk_setS (sl' := [(44, ((M.2.2 44) - (nI 1)))]) (hw.2.2.2.2.2.2.2.2.2.2.2.2.2.2.2.2.2.2.2.2.2.2.2.2.2.2.2.1) rfl rfl) dX3_takeLatest_16 ?_
    refine z_aload_n X dX3_takeLatest_19 0 rfl rfl ?_
    refine z_get (j := 0) (v := .ref (ad 15)) X inX3 rfl (by decide) w_47 (hw.2.2.2.1 _) rfl dX3_takeLatest_20 ?_
    refine z_aload_n X dX3_takeLatest_23 0 rfl rfl ?_
    refine z_get (j := 1) (v := .int ((M.2.2 44) - (nI 1))) X inX3 rfl (by decide) w_16 (hw.2.2.2.1 _) rfl dX3_takeLatest_24 ?_
    obtain ⟨t1, ht1, h⟩ := ob h
    refine z_iald X (hw.2.2.2.2.2.2.2.2.2.2.2.2.2.2.2.1 _).1 (rd_ok ht1) dX3_takeLatest_27 ?_
    have hq := Option.some.inj h
    subst hq
    exact z_iret hs dX3_takeLatest_28 rfl
  · rw [if_neg c4] at h
    refine z_iconst (v := (nI 0)) X dX3_takeLatest_7 (by decide) ?_
    have hq := Option.some.inj h
    subst hq
    exact z_iret hs dX3_takeLatest_8 rfl
set_option maxHeartbeats 4000000 in
theorem tX3_held {l : Launch} {D : va_G} {ct : Nat → ClassId} {tF : Nat} {wOf : Mm → va_W} {po ad : Nat → Nat} (hw : KC wOf po ad ct) (M : Mm)  {r : Int32} (h : fX3_held (M.2.2 44) = some r) : CtI l yX3_held cX3_held 1 .int { frames := 0, cells := 0, slots := 0, locals := 0 } D ct tF wOf [.ref (ad 14)] M r M := by
  refine metI (by decide) (Nat.le_of_ble_eq_true rfl) fun κ X e1 eR e3 e4 hs => ?_
  subst e1; subst e3; subst e4
  unfold fX3_held at h
  refine z_sub (lv' := [(0, .ref (ad 14))]) [0] rfl ?_
  refine z_aload_n X dX3_held_0 0 rfl rfl ?_
  refine z_get (j := 1) (v := .int (M.2.2 44)) X inX3 rfl (by decide) w_16 (hw.2.2.2.1 _) rfl dX3_held_1 ?_
  have hq := Option.some.inj h
  subst hq
  exact z_iret hs dX3_held_4 rfl
