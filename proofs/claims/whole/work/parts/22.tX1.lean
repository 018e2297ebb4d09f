set_option maxHeartbeats 4000000 in
theorem tX1_isList {l : Launch} {D : va_G} {ct : Nat → ClassId} {tF : Nat} {wOf : Mm → va_W} {po ad : Nat → Nat} (hw : KC wOf po ad ct) (M : Mm) {v0 : Int32} {r : Int32} (h : fX1_isList v0 = some r) : CtI l yX1_isList cX1_isList 1 .boolean { frames := 0, cells := 0, slots := 0, locals := 0 } D ct tF wOf [.int v0] M r M := by
  refine metI (by decide) (Nat.le_of_ble_eq_true rfl) fun κ X e1 eR e3 e4 hs => ?_
  subst e1; subst e3; subst e4
  unfold fX1_isList at h
  refine z_sub (lv' := [(0, .int v0)]) [0] rfl ?_
  refine z_iload_n X dX1_isList_0 0 rfl rfl ?_
  refine z_if_lt (tgt := 13) X dX1_isList_1 (by decide) (fun c1 => ?_) (fun c1 => ?_)
  · rw [if_pos c1] at h
    refine z_iconst (v := (nI 0)) X dX1_isList_13 (by decide) ?_
    have hq := Option.some.inj h
    subst hq
    exact z_iret hs dX1_isList_14 rfl
  · rw [if_neg c1] at h
    refine z_iload_n X dX1_isList_4 0 rfl rfl ?_
    refine z_iconst (v := (nI 3)) X dX1_isList_5 (by decide) ?_
    refine z_icmp_ge (tgt := 13) X dX1_isList_6 (by decide) (fun c6 => ?_) (fun c6 => ?_)
    · rw [if_pos c6] at h
      refine z_iconst (v := (nI 0)) X dX1_isList_13 (by decide) ?_
      have hq := Option.some.inj h
      subst hq
      exact z_iret hs dX1_isList_14 rfl
    · rw [if_neg c6] at h
      refine z_iconst (v := (nI 1)) X dX1_isList_9 (by decide) ?_
      refine z_goto (tgt := 14) X dX1_isList_10 (by decide) ?_
      have hq := Option.some.inj h
      subst hq
      exact z_iret hs dX1_isList_14 rfl
set_option maxHeartbeats 4000000 in
theorem tX1_renew {l : Launch} {D : va_G} {ct : Nat → ClassId} {tF : Nat} {wOf : Mm → va_W} {po ad : Nat → Nat} (hw : KC wOf po ad ct) (M : Mm) {v1 : Int32} {v2 : Int32} {r : ((Nat → Int32) × (Nat → Nat → Int64))} (h : fX1_renew (M.1 21) M.2.1 v1 v2 = some r) : CtV l yX1_renew cX1_renew 3 { frames := 1, cells := 0, slots := 0, locals := 24 } D ct tF wOf [.ref (ad 16), .int v1, .int v2] M (mk M [(21, r.1)] r.2 []) := by
  refine metV (by decide) (Nat.le_of_ble_eq_true rfl) fun κ X e1 eR e3 e4 hs => ?_
  subst e1; subst e3; subst e4
  unfold fX1_renew at h
  refine z_mem (mk_self M [21] []) ?_
  refine z_sub (lv' := [(0, .ref (ad 16)), (1, .int v1), (2, .int v2)]) [0, 1, 2] rfl ?_
  show Zj κ 3 0 _ _ (mk M [(21, (M.1 21))] M.2.1 [])
  refine z_iload_n X dX1_renew_0 1 rfl rfl ?_
  obtain ⟨r1, hr1, h⟩ := ob h
  refine z_cSI (As := [.int v1]) (st := []) X (tX1_isList hw (mk M [(21, (M.1 21))] M.2.1 []) hr1) w_330 msX1_isList (by rw [eR]; exact ⟨Nat.le_of_ble_eq_true rfl, Nat.le_of_ble_eq_true rfl⟩) ⟨rfl, rfl⟩ rfl (Nat.le_of_ble_eq_true rfl) rfl dX1_renew_1 ?_
  refine z_if_eq (tgt := 35) X dX1_renew_4 (by decide) (fun c4 => ?_) (fun c4 => ?_)
  · rw [if_pos c4] at h
    have hq := Option.some.inj h
    subst hq
    exact z_vret hs dX1_renew_35
  · rw [if_neg c4] at h
    refine z_iload_n X dX1_renew_7 2 rfl rfl ?_
    refine z_iconst (v := (-1 : Int32)) X dX1_renew_8 (by decide) ?_
    refine z_icmp_lt (tgt := 35) X dX1_renew_9 (by decide) (fun c9 => ?_) (fun c9 => ?_)
    · rw [if_pos c9] at h
      have hq := Option.some.inj h
      subst hq
      exact z_vret hs dX1_renew_35
    · rw [if_neg c9] at h
      refine z_iload_n X dX1_renew_12 2 rfl rfl ?_
      refine z_bipush (v := (nI 20)) X dX1_renew_13 (by decide) ?_
      refine z_icmp_gt (tgt := 35) X dX1_renew_15 (by decide) (fun c15 => ?_) (fun c15 => ?_)
      · rw [if_pos c15] at h
        have hq := Option.some.inj h
        subst hq
        exact z_vret hs dX1_renew_35
      · rw [if_neg c15] at h
        refine z_aload_n X dX1_renew_18 0 rfl rfl ?_
        refine z_get (j := 0) (v := .ref (ad 17)) X inX1 rfl (by decide) w_334 (hw.2.2.2.2.1 _) rfl dX1_renew_19 ?_
        refine z_iload_n X dX1_renew_22 1 rfl rfl ?_
        obtain ⟨t2, ht2, h⟩ := ob h
        refine z_aald (v := ad (18 + t2)) X (hw.2.2.2.2.2.2.2.2.2.2.2.2.2.2.2.2.2.2.2.2.2.2.2.1 _) ⟨(ixo_ok ht2).1, by rw [(ixo_ok ht2).2.1, if_pos (ixo_ok ht2).2.2]⟩ dX1_renew_23 ?_
        refine z_lconst (v := (0 : Int64)) X dX1_renew_24 (by decide) ?_
        refine z_cSV (As := [.ref (ad (18 + t2)), .long (0 : Int64)]) (st := []) X (tJ_fillL (hw.2.2.2.2.2.2.2.2.2.2.2.2.2.2.2.2.2.2.2.2.2.2.2.2.1 t2 (ixo_ok ht2).2.2) (by decide) (mk M [(21, (M.1 21))] M.2.1 []) (0 : Int64)) w_335 msJ_fillL (by rw [eR]; exact ⟨Nat.le_of_ble_eq_true rfl, Nat.le_of_ble_eq_true rfl⟩) ⟨rfl, rfl⟩ rfl (Nat.le_of_ble_eq_true rfl) rfl dX1_renew_25 ?_
        refine z_mem (mk_mk (l' := [(21, (M.1 21))]) (sl' := []) rfl rfl rfl rfl) ?_
        refine z_aload_n X dX1_renew_28 0 rfl rfl ?_
        refine z_get (j := 1) (v := .ref (ad 21)) X inX1 rfl (by decide) w_336 (hw.2.2.2.2.1 _) rfl dX1_renew_29 ?_
        refine z_iload_n X dX1_renew_32 1 rfl rfl ?_
        refine z_iload_n X dX1_renew_33 2 rfl rfl ?_
        obtain ⟨u3, hu3, h⟩ := ob h
        refine z_iast (M' := (mk M [(21, u3)] (pu M.2.1 [(t2, fillF 20 (0 : Int64) (M.2.1 t2))]) [])) X (hw.2.2.2.2.2.2.2.2.2.2.2.2.2.2.2.2.1 _).1 (wr_ok hu3) (mk_set1 (l' := [(21, u3)]) (hw.2.2.2.2.2.2.2.2.2.2.2.2.2.2.2.2.1) rfl rfl) dX1_renew_34 ?_
        have hq := Option.some.inj h
        subst hq
        exact z_vret hs dX1_renew_35
set_option maxHeartbeats 4000000 in
theorem tX1_lengthOf {l : Launch} {D : va_G} {ct : Nat → ClassId} {tF : Nat} {wOf : Mm → va_W} {po ad : Nat → Nat} (hw : KC wOf po ad ct) (M : Mm) {v1 : Int32} {r : Int32} (h : fX1_lengthOf (M.1 21) v1 = some r) : CtI l yX1_lengthOf cX1_lengthOf 2 .int { frames := 1, cells := 0, slots := 0, locals := 20 } D ct tF wOf [.ref (ad 16), .int v1] M r M := by
  refine metI (by decide) (Nat.le_of_ble_eq_true rfl) fun κ X e1 eR e3 e4 hs => ?_
  subst e1; subst e3; subst e4
  unfold fX1_lengthOf at h
  refine z_sub (lv' := [(0, .ref (ad 16)), (1, .int v1)]) [0, 1] rfl ?_
  refine z_iload_n X dX1_lengthOf_0 1 rfl rfl ?_
  obtain ⟨r1, hr1, h⟩ := ob h
  refine z_cSI (As := [.int v1]) (st := []) X (tX1_isList hw M hr1) w_330 msX1_isList (by rw [eR]; exact ⟨Nat.le_of_ble_eq_true rfl, Nat.le_of_ble_eq_true rfl⟩) ⟨rfl, rfl⟩ rfl (Nat.le_of_ble_eq_true rfl) rfl dX1_lengthOf_1 ?_
  refine z_if_eq (tgt := 16) X dX1_lengthOf_4 (by decide) (fun c4 => ?_) (fun c4 => ?_)
  · rw [if_pos c4] at h
    refine z_iconst (v := (-1 : Int32)) X dX1_lengthOf_16 (by decide) ?_
    have hq := Option.some.inj h
    subst hq
    exact z_iret hs dX1_lengthOf_17 rfl
  · rw [if_neg c4] at h
    refine z_aload_n X dX1_lengthOf_7 0 rfl rfl ?_
    refine z_get (j := 1) (v := .ref (ad 21)) X inX1 rfl (by decide) w_336 (hw.2.2.2.2.1 _) rfl dX1_lengthOf_8 ?_
    refine z_iload_n X dX1_lengthOf_11 1 rfl rfl ?_
    obtain ⟨t2, ht2, h⟩ := ob h
    refine z_iald X (hw.2.2.2.2.2.2.2.2.2.2.2.2.2.2.2.2.1 _).1 (rd_ok ht2) dX1_lengthOf_12 ?_
    refine z_goto (tgt := 17) X dX1_lengthOf_13 (by decide) ?_
    have hq := Option.some.inj h
    subst hq
    exact z_iret hs dX1_lengthOf_17 rfl
set_option maxHeartbeats 4000000 in
theorem tX1_isThere {l : Launch} {D : va_G} {ct : Nat → ClassId} {tF : Nat} {wOf : Mm → va_W} {po ad : Nat → Nat} (hw : KC wOf po ad ct) (M : Mm) {v1 : Int32} {r : Int32} (h : fX1_isThere (M.1 21) v1 = some r) : CtI l yX1_isThere cX1_isThere 2 .boolean { frames := 2, cells := 0, slots := 0, locals := 41 } D ct tF wOf [.ref (ad 16), .int v1] M r M := by
  refine metI (by decide) (Nat.le_of_ble_eq_true rfl) fun κ X e1 eR e3 e4 hs => ?_
  subst e1; subst e3; subst e4
  unfold fX1_isThere at h
  refine z_sub (lv' := [(0, .ref (ad 16)), (1, .int v1)]) [0, 1] rfl ?_
  refine z_aload_n X dX1_isThere_0 0 rfl rfl ?_
  refine z_iload_n X dX1_isThere_1 1 rfl rfl ?_
  obtain ⟨r1, hr1, h⟩ := ob h
  refine z_cVI (As := [.int v1]) (st := []) X (tX1_lengthOf hw M hr1) w_343 mvX1_lengthOf (by rw [eR]; exact ⟨Nat.le_of_ble_eq_true rfl, Nat.le_of_ble_eq_true rfl⟩) ⟨rfl, rfl⟩ rfl (Nat.le_of_ble_eq_true rfl) (hw.2.2.2.2.1 _) rfl rfl dX1_isThere_2 ?_
  refine z_iconst (v := (-1 : Int32)) X dX1_isThere_5 (by decide) ?_
  refine z_icmp_eq (tgt := 13) X dX1_isThere_6 (by decide) (fun c6 => ?_) (fun c6 => ?_)
  · rw [if_pos c6] at h
    refine z_iconst (v := (nI 0)) X dX1_isThere_13 (by decide) ?_
    have hq := Option.some.inj h
    subst hq
    exact z_iret hs dX1_isThere_14 rfl
  · rw [if_neg c6] at h
    refine z_iconst (v := (nI 1)) X dX1_isThere_9 (by decide) ?_
    refine z_goto (tgt := 14) X dX1_isThere_10 (by decide) ?_
    have hq := Option.some.inj h
    subst hq
    exact z_iret hs dX1_isThere_14 rfl
set_option maxHeartbeats 4000000 in
theorem tX1_isPlace {l : Launch} {D : va_G} {ct : Nat → ClassId} {tF : Nat} {wOf : Mm → va_W} {po ad : Nat → Nat} (hw : KC wOf po ad ct) (M : Mm) {v1 : Int32} {v2 : Int32} {r : Int32} (h : fX1_isPlace (M.1 21) v1 v2 = some r) : CtI l yX1_isPlace cX1_isPlace 3 .boolean { frames := 2, cells := 0, slots := 0, locals := 41 } D ct tF wOf [.ref (ad 16), .int v1, .int v2] M r M := by
  refine metI (by decide) (Nat.le_of_ble_eq_true rfl) fun κ X e1 eR e3 e4 hs => ?_
  subst e1; subst e3; subst e4
  unfold fX1_isPlace at h
  refine z_sub (lv' := [(0, .ref (ad 16)), (1, .int v1), (2, .int v2)]) [0, 1, 2] rfl ?_
  refine z_iload_n X dX1_isPlace_0 2 rfl rfl ?_
  refine z_if_lt (tgt := 17) X dX1_isPlace_1 (by decide) (fun c1 => ?_) (fun c1 => ?_)
  · rw [if_pos c1] at h
    refine z_iconst (v := (nI 0)) X dX1_isPlace_17 (by decide) ?_
    have hq := Option.some.inj h
    subst hq
    exact z_iret hs dX1_isPlace_18 rfl
  · rw [if_neg c1] at h
    refine z_iload_n X dX1_isPlace_4 2 rfl rfl ?_
    refine z_aload_n X dX1_isPlace_5 0 rfl rfl ?_
    refine z_iload_n X dX1_isPlace_6 1 rfl rfl ?_
    obtain ⟨r1, hr1, h⟩ := ob h
    refine z_cVI (As := [.int v1]) (st := [.int v2]) X (tX1_lengthOf hw M hr1) w_343 mvX1_lengthOf (by rw [eR]; exact ⟨Nat.le_of_ble_eq_true rfl, Nat.le_of_ble_eq_true rfl⟩) ⟨rfl, rfl⟩ rfl (Nat.le_of_ble_eq_true rfl) (hw.2.2.2.2.1 _) rfl rfl dX1_isPlace_7 ?_
    refine z_icmp_ge (tgt := 17) X dX1_isPlace_10 (by decide) (fun c10 => ?_) (fun c10 => ?_)
    · rw [if_pos c10] at h
      refine z_iconst (v := (nI 0)) X dX1_isPlace_17 (by decide) ?_
      have hq := Option.some.inj h
      subst hq
      exact z_iret hs dX1_isPlace_18 rfl
    · rw [if_neg c10] at h
      refine z_iconst (v := (nI 1)) X dX1_isPlace_13 (by decide) ?_
      refine z_goto (tgt := 18) X dX1_isPlace_14 (by decide) ?_
      have hq := Option.some.inj h
      subst hq
      exact z_iret hs dX1_isPlace_18 rfl
set_option maxHeartbeats 4000000 in
theorem tX1_store {l : Launch} {D : va_G} {ct : Nat → ClassId} {tF : Nat} {wOf : Mm → va_W} {po ad : Nat → Nat} (hw : KC wOf po ad ct) (M : Mm) {v1 : Int32} {v2 : Int32} {v3 : Int64} {r : (Nat → Nat → Int64)} (h : fX1_store (M.1 21) M.2.1 v1 v2 v3 = some r) : CtV l yX1_store cX1_store 5 { frames := 3, cells := 0, slots := 0, locals := 63 } D ct tF wOf [.ref (ad 16), .int v1, .int v2, .long v3] M (mk M [] r []) := by
  refine metV (by decide) (Nat.le_of_ble_eq_true rfl) fun κ X e1 eR e3 e4 hs => ?_
  subst e1; subst e3; subst e4
  unfold fX1_store at h
  refine z_mem (mk_self M [] []) ?_
  refine z_sub (lv' := [(0, .ref (ad 16)), (1, .int v1), (2, .int v2), (3, .long v3)]) [0, 1, 2, 3] rfl ?_
  show Zj κ 5 0 _ _ (mk M [] M.2.1 [])
  refine z_aload_n X dX1_store_0 0 rfl rfl ?_
  refine z_iload_n X dX1_store_1 1 rfl rfl ?_
  refine z_iload_n X dX1_store_2 2 rfl rfl ?_
  obtain ⟨r1, hr1, h⟩ := ob h
  refine z_cVI (As := [.int v1, .int v2]) (st := []) X (tX1_isPlace hw (mk M [] M.2.1 []) hr1) w_347 mvX1_isPlace (by rw [eR]; exact ⟨Nat.le_of_ble_eq_true rfl, Nat.le_of_ble_eq_true rfl⟩) ⟨rfl, rfl⟩ rfl (Nat.le_of_ble_eq_true rfl) (hw.2.2.2.2.1 _) rfl rfl dX1_store_3 ?_
  refine z_if_eq (tgt := 18) X dX1_store_6 (by decide) (fun c6 => ?_) (fun c6 => ?_)
  · rw [if_pos c6] at h
    have hq := Option.some.inj h
    subst hq
    exact z_vret hs dX1_store_18
  · rw [if_neg c6] at h
    refine z_aload_n X dX1_store_9 0 rfl rfl ?_
    refine z_get (j := 0) (v := .ref (ad 17)) X inX1 rfl (by decide) w_334 (hw.2.2.2.2.1 _) rfl dX1_store_10 ?_
    refine z_iload_n X dX1_store_13 1 rfl rfl ?_
    obtain ⟨t2, ht2, h⟩ := ob h
    refine z_aald (v := ad (18 + t2)) X (hw.2.2.2.2.2.2.2.2.2.2.2.2.2.2.2.2.2.2.2.2.2.2.2.1 _) ⟨(ixo_ok ht2).1, by rw [(ixo_ok ht2).2.1, if_pos (ixo_ok ht2).2.2]⟩ dX1_store_14 ?_
    refine z_iload_n X dX1_store_15 2 rfl rfl ?_
    refine z_lload_n X dX1_store_16 3 rfl rfl ?_
    obtain ⟨u3, hu3, h⟩ := ob h
    refine z_last (M' := (mk M [] (pu M.2.1 [(t2, u3)]) [])) X ((hw.2.2.2.2.2.2.2.2.2.2.2.2.2.2.2.2.2.2.2.2.2.2.2.2.1 t2 (ixo_ok ht2).2.2) _).1 (wrL_ok hu3) (mk_setL (hw.2.2.2.2.2.2.2.2.2.2.2.2.2.2.2.2.2.2.2.2.2.2.2.2.1 t2 (ixo_ok ht2).2.2) rfl) dX1_store_17 ?_
    have hq := Option.some.inj h
    subst hq
    exact z_vret hs dX1_store_18
set_option maxHeartbeats 4000000 in
theorem tX1_valueAt {l : Launch} {D : va_G} {ct : Nat → ClassId} {tF : Nat} {wOf : Mm → va_W} {po ad : Nat → Nat} (hw : KC wOf po ad ct) (M : Mm) {v1 : Int32} {v2 : Int32} {r : Int64} (h : fX1_valueAt (M.1 21) M.2.1 v1 v2 = some r) : CtL l yX1_valueAt cX1_valueAt 3 { frames := 3, cells := 0, slots := 0, locals := 63 } D ct tF wOf [.ref (ad 16), .int v1, .int v2] M r M := by
  refine metL (by decide) (Nat.le_of_ble_eq_true rfl) fun κ X e1 eR e3 e4 hs => ?_
  subst e1; subst e3; subst e4
  unfold fX1_valueAt at h
  refine z_sub (lv' := [(0, .ref (ad 16)), (1, .int v1), (2, .int v2)]) [0, 1, 2] rfl ?_
  refine z_aload_n X dX1_valueAt_0 0 rfl rfl ?_
  refine z_iload_n X dX1_valueAt_1 1 rfl rfl ?_
  refine z_iload_n X dX1_valueAt_2 2 rfl rfl ?_
  obtain ⟨r1, hr1, h⟩ := ob h
  refine z_cVI (As := [.int v1, .int v2]) (st := []) X (tX1_isPlace hw M hr1) w_347 mvX1_isPlace (by rw [eR]; exact ⟨Nat.le_of_ble_eq_true rfl, Nat.le_of_ble_eq_true rfl⟩) ⟨rfl, rfl⟩ rfl (Nat.le_of_ble_eq_true rfl) (hw.2.2.2.2.1 _) rfl rfl dX1_valueAt_3 ?_
  refine z_if_eq (tgt := 20) X dX1_valueAt_6 (by decide) (fun c6 => ?_) (fun c6 => ?_)
  · rw [if_pos c6] at h
    refine z_ldc2 X w_360 dX1_valueAt_20 ?_
    have hq := Option.some.inj h
    subst hq
    exact z_lret hs dX1_valueAt_23
  · rw [if_neg c6] at h
    refine z_aload_n X dX1_valueAt_9 0 rfl rfl ?_
    refine z_get (j := 0) (v := .ref (ad 17)) X inX1 rfl (by decide) w_334 (hw.2.2.2.2.1 _) rfl dX1_valueAt_10 ?_
    refine z_iload_n X dX1_valueAt_13 1 rfl rfl ?_
    obtain ⟨t2, ht2, h⟩ := ob h
    refine z_aald (v := ad (18 + t2)) X (hw.2.2.2.2.2.2.2.2.2.2.2.2.2.2.2.2.2.2.2.2.2.2.2.1 _) ⟨(ixo_ok ht2).1, by rw [(ixo_ok ht2).2.1, if_pos (ixo_ok ht2).2.2]⟩ dX1_valueAt_14 ?_
    refine z_iload_n X dX1_valueAt_15 2 rfl rfl ?_
    obtain ⟨t3, ht3, h⟩ := ob h
    refine z_lald X (hw.2.2.2.2.2.2.2.2.2.2.2.2.2.2.2.2.2.2.2.2.2.2.2.2.1 t2 (ixo_ok ht2).2.2 _).1 (rd_ok ht3) dX1_valueAt_16 ?_
    refine z_goto (tgt := 23) X dX1_valueAt_17 (by decide) ?_
    have hq := Option.some.inj h
    subst hq
    exact z_lret hs dX1_valueAt_23
set_option maxHeartbeats 4000000 in
theorem jX1_howManyThere_J34 {κ : Rx} {ct : Nat → ClassId} {tF : Nat} {po ad : Nat → Nat} (X : CX κ ct tF cX1_howManyThere 6 RX1) (eR : kR κ = { frames := 0, cells := 0, slots := 0, locals := 0 }) (hw : KC (kw κ) po ad ct) (M : Mm)   (v1 : Int32) (v3 : Int32) (v4 : Int32)  (s : ((Int32 × Int32) ⊕ Int32)) (h : fX1_howManyThere_J34 (M.1 21) v1 v3 v4 = some s) (hs : (Sum.elim (fun x => Zj κ 6 13 [(1, .int x.1), (2, .ref (ad 21)), (3, .int v3), (4, .int x.2)] [] M) (fun y => Zj κ 6 40 [(1, .int y)] [] M) s)) : Zj κ 6 34 [(1, .int v1), (2, .ref (ad 21)), (3, .int v3), (4, .int v4)] [] M := by
  unfold fX1_howManyThere_J34 at h
  refine z_iinc (v := (v4 + nI 1)) (lv' := [(4, .int (v4 + nI 1)), (1, .int v1), (2, .ref (ad 21)), (3, .int v3)]) X dX1_howManyThere_34 3 rfl rfl (by decide) rfl ?_
  refine z_goto (tgt := 13) X dX1_howManyThere_37 (by decide) ?_
  have hq := Option.some.inj h
  subst hq
  exact z_sub [1, 2, 3, 0] rfl hs
set_option maxHeartbeats 4000000 in
theorem bX1_howManyThere_B13 {κ : Rx} {ct : Nat → ClassId} {tF : Nat} {po ad : Nat → Nat} (X : CX κ ct tF cX1_howManyThere 6 RX1) (eR : kR κ = { frames := 0, cells := 0, slots := 0, locals := 0 }) (hw : KC (kw κ) po ad ct) (M : Mm)  (v3 : Int32) : ∀ (x : (Int32 × Int32)) (s : (Int32 × Int32) ⊕ Int32), fX1_howManyThere_B13 (M.1 21) v3 x = some s → Sum.elim (fun x => Zj κ 6 13 [(1, .int x.1), (2, .ref (ad 21)), (3, .int v3), (4, .int x.2)] [] M) (fun y => Zj κ 6 40 [(1, .int y)] [] M) s → Zj κ 6 13 [(1, .int x.1), (2, .ref (ad 21)), (3, .int v3), (4, .int x.2)] [] M := by
  intro x s h hs
  unfold fX1_howManyThere_B13 at h
  refine z_iload X dX1_howManyThere_13 3 rfl ?_
  refine z_iload_n X dX1_howManyThere_15 2 rfl rfl ?_
  refine z_icmp_ge (tgt := 40) X dX1_howManyThere_16 (by decide) (fun c16 => ?_) (fun c16 => ?_)
  · rw [if_pos c16] at h
    have hq := Option.some.inj h
    subst hq
    exact z_sub [0] rfl hs
  · rw [if_neg c16] at h
    refine z_aload_n X dX1_howManyThere_19 1 rfl rfl ?_
    refine z_iload X dX1_howManyThere_20 3 rfl ?_
    obtain ⟨t1, ht1, h⟩ := ob h
    refine z_iald X (hw.2.2.2.2.2.2.2.2.2.2.2.2.2.2.2.2.1 _).1 (rd_ok ht1) dX1_howManyThere_22 ?_
    refine z_istore (lv' := [(5, .int t1), (1, .int x.1), (2, .ref (ad 21)), (3, .int v3), (4, .int x.2)]) X dX1_howManyThere_23 (by decide) rfl ?_
    refine z_iload X dX1_howManyThere_25 0 rfl ?_
    refine z_iconst (v := (-1 : Int32)) X dX1_howManyThere_27 (by decide) ?_
    refine z_icmp_eq (tgt := 34) X dX1_howManyThere_28 (by decide) (fun c28 => ?_) (fun c28 => ?_)
    · rw [if_pos c28] at h
      exact z_sub [1, 2, 3, 4] rfl (jX1_howManyThere_J34 X eR hw M x.1 v3 x.2 _ h hs)
    · rw [if_neg c28] at h
      refine z_iinc (v := (x.1 + nI 1)) (lv' := [(1, .int (x.1 + nI 1)), (5, .int t1), (2, .ref (ad 21)), (3, .int v3), (4, .int x.2)]) X dX1_howManyThere_31 1 rfl rfl (by decide) rfl ?_
      exact z_sub [0, 2, 3, 4] rfl (jX1_howManyThere_J34 X eR hw M (x.1 + nI 1) v3 x.2 _ h hs)
set_option maxHeartbeats 4000000 in
theorem tX1_howManyThere {l : Launch} {D : va_G} {ct : Nat → ClassId} {tF : Nat} {wOf : Mm → va_W} {po ad : Nat → Nat} (hw : KC wOf po ad ct) (M : Mm)  {r : Int32} (h : fX1_howManyThere (M.1 21) = some r) : CtI l yX1_howManyThere cX1_howManyThere 6 .int { frames := 0, cells := 0, slots := 0, locals := 0 } D ct tF wOf [.ref (ad 16)] M r M := by
  refine metI (by decide) (Nat.le_of_ble_eq_true rfl) fun κ X e1 eR e3 e4 hs => ?_
  subst e1; subst e3; subst e4
  unfold fX1_howManyThere at h
  refine z_sub (lv' := [(0, .ref (ad 16))]) [0] rfl ?_
  refine z_iconst (v := (nI 0)) X dX1_howManyThere_0 (by decide) ?_
  refine z_istore_n (lv' := [(1, .int (nI 0)), (0, .ref (ad 16))]) X dX1_howManyThere_1 rfl (by decide) rfl ?_
  refine z_aload_n X dX1_howManyThere_2 1 rfl rfl ?_
  refine z_get (j := 1) (v := .ref (ad 21)) X inX1 rfl (by decide) w_336 (hw.2.2.2.2.1 _) rfl dX1_howManyThere_3 ?_
  refine z_astore_n (lv' := [(2, .ref (ad 21)), (1, .int (nI 0)), (0, .ref (ad 16))]) X dX1_howManyThere_6 rfl (by decide) rfl ?_
  refine z_aload_n X dX1_howManyThere_7 0 rfl rfl ?_
  refine z_alen (t0 := 0) (v := (nI 3)) X (hw.2.2.2.2.2.2.2.2.2.2.2.2.2.2.2.2.1 _).1 rfl rfl dX1_howManyThere_8 ?_
  refine z_istore_n (lv' := [(3, .int (nI 3)), (2, .ref (ad 21)), (1, .int (nI 0)), (0, .ref (ad 16))]) X dX1_howManyThere_9 rfl (by decide) rfl ?_
  refine z_iconst (v := (nI 0)) X dX1_howManyThere_10 (by decide) ?_
  refine z_istore (lv' := [(4, .int (nI 0)), (3, .int (nI 3)), (2, .ref (ad 21)), (1, .int (nI 0)), (0, .ref (ad 16))]) X dX1_howManyThere_11 (by decide) rfl ?_
  refine z_sub [3, 2, 1, 0] rfl ?_
  obtain ⟨y1, hy1, h⟩ := ob h
  refine (it_Z (bX1_howManyThere_B13 X eR hw M (nI 3)) FU _ y1 hy1) ?_
  refine z_iload_n X dX1_howManyThere_40 0 rfl rfl ?_
  have hq := Option.some.inj h
  subst hq
  exact z_iret hs dX1_howManyThere_41 rfl
