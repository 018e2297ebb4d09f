set_option maxHeartbeats 4000000 in
theorem tX7_likeness {l : Launch} {D : va_G} {ct : Nat → ClassId} {tF : Nat} {wOf : Mm → va_W} {po ad : Nat → Nat} (hw : KM wOf po ad ct) (M : Mm) {v1 : Int32} {r : Int32} (h : fX7_likeness (M.1 1) (M.1 2) (M.2.2 40) (M.2.2 41) v1 = some r) : CtI l yX7_likeness cX7_likeness 3 .int { frames := 4, cells := 0, slots := 0, locals := 87 } D ct tF wOf [.ref (ad 0), .int v1] M r M := by
  refine metI (by decide) (Nat.le_of_ble_eq_true rfl) fun κ X e1 eR e3 e4 hs => ?_
  subst e1; subst e3; subst e4
  unfold fX7_likeness at h
  refine z_sub (lv' := [(0, .ref (ad 0)), (1, .int v1)]) [0, 1] rfl ?_
  refine z_iload_n X dX7_likeness_0 1 rfl rfl ?_
  obtain ⟨r1, hr1, h⟩ := ob h
  refine z_cSI (As := [.int v1]) (st := []) X (tX7_isShelf hw M hr1) w_540 msX7_isShelf (by rw [eR]; exact ⟨Nat.le_of_ble_eq_true rfl, Nat.le_of_ble_eq_true rfl⟩) ⟨rfl, rfl⟩ rfl (Nat.le_of_ble_eq_true rfl) rfl dX7_likeness_1 ?_
  refine z_if_ne (tgt := 9) X dX7_likeness_4 (by decide) (fun c4 => ?_) (fun c4 => ?_)
  · rw [if_neg c4] at h
    refine z_aload_n X dX7_likeness_9 0 rfl rfl ?_
    refine z_iload_n X dX7_likeness_10 1 rfl rfl ?_
    obtain ⟨r2, hr2, h⟩ := ob h
    refine z_cVI (As := [.int v1]) (st := []) X (tX7_barOf hw M hr2) w_543 mvX7_barOf (by rw [eR]; exact ⟨Nat.le_of_ble_eq_true rfl, Nat.le_of_ble_eq_true rfl⟩) ⟨rfl, rfl⟩ rfl (Nat.le_of_ble_eq_true rfl) (hw.1 _) rfl rfl dX7_likeness_11 ?_
    refine z_istore_n (lv' := [(2, .int r2), (0, .ref (ad 0)), (1, .int v1)]) X dX7_likeness_14 rfl (by decide) rfl ?_
    refine z_iload_n X dX7_likeness_15 0 rfl rfl ?_
    refine z_if_eq (tgt := 23) X dX7_likeness_16 (by decide) (fun c16 => ?_) (fun c16 => ?_)
    · rw [if_pos c16] at h
      refine z_aload_n X dX7_likeness_23 1 rfl rfl ?_
      obtain ⟨r3, hr3, h⟩ := ob h
      refine z_cVI (As := []) (st := []) X (tX7_canopy hw M hr3) w_580 mvX7_canopy (by rw [eR]; exact ⟨Nat.le_of_ble_eq_true rfl, Nat.le_of_ble_eq_true rfl⟩) ⟨rfl, rfl⟩ rfl (Nat.le_of_ble_eq_true rfl) (hw.1 _) rfl rfl dX7_likeness_24 ?_
      refine z_aload_n X dX7_likeness_27 1 rfl rfl ?_
      refine z_get (j := 3) (v := .ref (ad 2)) X inX7 rfl (by decide) w_547 (hw.1 _) rfl dX7_likeness_28 ?_
      refine z_iload_n X dX7_likeness_31 2 rfl rfl ?_
      obtain ⟨t4, ht4, h⟩ := ob h
      refine z_iald X (hw.2.2.1 _).1 (rd_ok ht4) dX7_likeness_32 ?_
      refine z_aload_n X dX7_likeness_33 1 rfl rfl ?_
      refine z_get (j := 0) (v := .int (M.2.2 40)) X inX7 rfl (by decide) w_502 (hw.1 _) rfl dX7_likeness_34 ?_
      obtain ⟨r5, hr5, h⟩ := ob h
      refine z_cSI (As := [.int t4, .int (M.2.2 40)]) (st := [.int r3]) X (tX7_canopyOf hw M hr5) w_577 msX7_canopyOf (by rw [eR]; exact ⟨Nat.le_of_ble_eq_true rfl, Nat.le_of_ble_eq_true rfl⟩) ⟨rfl, rfl⟩ rfl (Nat.le_of_ble_eq_true rfl) rfl dX7_likeness_37 ?_
      refine z_ixor X dX7_likeness_40 ?_
      obtain ⟨r6, hr6, h⟩ := ob h
      refine z_cSI (As := [.int (r3 ^^^ r5)]) (st := []) X (tJ0_bitCount M hr6) w_534 msJ0_bitCount (by rw [eR]; exact ⟨Nat.le_of_ble_eq_true rfl, Nat.le_of_ble_eq_true rfl⟩) ⟨rfl, rfl⟩ rfl (Nat.le_of_ble_eq_true rfl) rfl dX7_likeness_41 ?_
      have hq := Option.some.inj h
      subst hq
      exact z_iret hs dX7_likeness_44 rfl
    · rw [if_neg c16] at h
      refine z_iload_n X dX7_likeness_19 0 rfl rfl ?_
      refine z_goto (tgt := 44) X dX7_likeness_20 (by decide) ?_
      have hq := Option.some.inj h
      subst hq
      exact z_iret hs dX7_likeness_44 rfl
  · rw [if_pos c4] at h
    refine z_iconst (v := (-1 : Int32)) X dX7_likeness_7 (by decide) ?_
    have hq := Option.some.inj h
    subst hq
    exact z_iret hs dX7_likeness_8 rfl
set_option maxHeartbeats 4000000 in
theorem tX7_keep {l : Launch} {D : va_G} {ct : Nat → ClassId} {tF : Nat} {wOf : Mm → va_W} {po ad : Nat → Nat} (hw : KM wOf po ad ct) (M : Mm) {v1 : Int32} {r : (Int32 × (Nat → Int32) × (Nat → Int32) × (Nat → Int32) × Int32 × Int32)} (h : fX7_keep (M.1 1) (M.1 2) (M.1 10) (M.2.2 40) (M.2.2 41) (M.2.2 48) (M.2.2 49) v1 = some r) : CtI l yX7_keep cX7_keep 2 .int { frames := 6, cells := 0, slots := 0, locals := 136 } D ct tF wOf [.ref (ad 0), .int v1] M r.1 (mk M [(1, r.2.1), (2, r.2.2.1), (10, r.2.2.2.1)] M.2.1 [(48, r.2.2.2.2.1), (49, r.2.2.2.2.2)]) := by
  refine metI (by decide) (Nat.le_of_ble_eq_true rfl) fun κ X e1 eR e3 e4 hs => ?_
  subst e1; subst e3; subst e4
  unfold fX7_keep at h
  refine z_mem (mk_self M [1, 2, 10] [48, 49]) ?_
  refine z_sub (lv' := [(0, .ref (ad 0)), (1, .int v1)]) [0, 1] rfl ?_
  show Zj κ 2 0 _ _ (mk M [(1, (M.1 1)), (2, (M.1 2)), (10, (M.1 10))] M.2.1 [(48, (M.2.2 48)), (49, (M.2.2 49))])
  refine z_iload_n X dX7_keep_0 1 rfl rfl ?_
  obtain ⟨r1, hr1, h⟩ := ob h
  refine z_cSI (As := [.int v1]) (st := []) X (tX7_isShelf hw (mk M [(1, (M.1 1)), (2, (M.1 2)), (10, (M.1 10))] M.2.1 [(48, (M.2.2 48)), (49, (M.2.2 49))]) hr1) w_540 msX7_isShelf (by rw [eR]; exact ⟨Nat.le_of_ble_eq_true rfl, Nat.le_of_ble_eq_true rfl⟩) ⟨rfl, rfl⟩ rfl (Nat.le_of_ble_eq_true rfl) rfl dX7_keep_1 ?_
  refine z_if_ne (tgt := 9) X dX7_keep_4 (by decide) (fun c4 => ?_) (fun c4 => ?_)
  · rw [if_neg c4] at h
    refine z_aload_n X dX7_keep_9 0 rfl rfl ?_
    refine z_get (j := 2) (v := .ref (ad 1)) X inX7 rfl (by decide) w_539 (hw.1 _) rfl dX7_keep_10 ?_
    refine z_iload_n X dX7_keep_13 1 rfl rfl ?_
    refine z_aload_n X dX7_keep_14 0 rfl rfl ?_
    refine z_get (j := 0) (v := .int (M.2.2 40)) X inX7 rfl (by decide) w_502 (hw.1 _) rfl dX7_keep_15 ?_
    obtain ⟨u2, hu2, h⟩ := ob h
    refine z_iast (M' := (mk M [(1, u2), (2, (M.1 2)), (10, (M.1 10))] M.2.1 [(48, (M.2.2 48)), (49, (M.2.2 49))])) X (hw.2.1 _).1 (wr_ok hu2) (mk_set1 (l' := [(1, u2), (2, (M.1 2)), (10, (M.1 10))]) (hw.2.1) rfl rfl) dX7_keep_18 ?_
    refine z_aload_n X dX7_keep_19 0 rfl rfl ?_
    refine z_get (j := 3) (v := .ref (ad 2)) X inX7 rfl (by decide) w_547 (hw.1 _) rfl dX7_keep_20 ?_
    refine z_iload_n X dX7_keep_23 1 rfl rfl ?_
    refine z_aload_n X dX7_keep_24 0 rfl rfl ?_
    refine z_get (j := 1) (v := .int (M.2.2 41)) X inX7 rfl (by decide) w_506 (hw.1 _) rfl dX7_keep_25 ?_
    obtain ⟨u3, hu3, h⟩ := ob h
    refine z_iast (M' := (mk M [(1, u2), (2, u3), (10, (M.1 10))] M.2.1 [(48, (M.2.2 48)), (49, (M.2.2 49))])) X (hw.2.2.1 _).1 (wr_ok hu3) (mk_set1 (l' := [(1, u2), (2, u3), (10, (M.1 10))]) (hw.2.2.1) rfl rfl) dX7_keep_28 ?_
    refine z_aload_n X dX7_keep_29 0 rfl rfl ?_
    obtain ⟨r4, hr4, h⟩ := ob h
    refine z_cVI (As := []) (st := []) X (tX7_which hw (mk M [(1, u2), (2, u3), (10, (M.1 10))] M.2.1 [(48, (M.2.2 48)), (49, (M.2.2 49))]) hr4) w_516 mvX7_which (by rw [eR]; exact ⟨Nat.le_of_ble_eq_true rfl, Nat.le_of_ble_eq_true rfl⟩) ⟨rfl, rfl⟩ rfl (Nat.le_of_ble_eq_true rfl) (hw.1 _) rfl rfl dX7_keep_30 ?_
    refine z_mem (mk_mk (l' := [(1, u2), (2, u3), (10, r4.2.1)]) (sl' := [(48, r4.2.2.1), (49, r4.2.2.2)]) rfl rfl rfl rfl) ?_
    have hq := Option.some.inj h
    subst hq
    exact z_iret hs dX7_keep_33 rfl
  · rw [if_pos c4] at h
    refine z_iconst (v := (-1 : Int32)) X dX7_keep_7 (by decide) ?_
    have hq := Option.some.inj h
    subst hq
    exact z_iret hs dX7_keep_8 rfl
set_option maxHeartbeats 4000000 in
theorem tX7_lay {l : Launch} {D : va_G} {ct : Nat → ClassId} {tF : Nat} {wOf : Mm → va_W} {po ad : Nat → Nat} (hw : KM wOf po ad ct) (M : Mm) {v1 : Int32} {r : (Int32 × (Nat → Int32) × (Nat → Int32) × Int32 × Int32 × Int32)} (h : fX7_lay (M.1 1) (M.1 2) (M.1 3) (M.1 4) (M.2.2 40) (M.2.2 41) (M.2.2 42) v1 = some r) : CtI l yX7_lay cX7_lay 2 .int { frames := 2, cells := 0, slots := 0, locals := 45 } D ct tF wOf [.ref (ad 0), .int v1] M r.1 (mk M [(3, r.2.1), (4, r.2.2.1)] M.2.1 [(40, r.2.2.2.1), (41, r.2.2.2.2.1), (42, r.2.2.2.2.2)]) := by
  refine metI (by decide) (Nat.le_of_ble_eq_true rfl) fun κ X e1 eR e3 e4 hs => ?_
  subst e1; subst e3; subst e4
  unfold fX7_lay at h
  refine z_mem (mk_self M [3, 4] [40, 41, 42]) ?_
  refine z_sub (lv' := [(0, .ref (ad 0)), (1, .int v1)]) [0, 1] rfl ?_
  show Zj κ 2 0 _ _ (mk M [(3, (M.1 3)), (4, (M.1 4))] M.2.1 [(40, (M.2.2 40)), (41, (M.2.2 41)), (42, (M.2.2 42))])
  refine z_iload_n X dX7_lay_0 1 rfl rfl ?_
  obtain ⟨r1, hr1, h⟩ := ob h
  refine z_cSI (As := [.int v1]) (st := []) X (tX7_isShelf hw (mk M [(3, (M.1 3)), (4, (M.1 4))] M.2.1 [(40, (M.2.2 40)), (41, (M.2.2 41)), (42, (M.2.2 42))]) hr1) w_540 msX7_isShelf (by rw [eR]; exact ⟨Nat.le_of_ble_eq_true rfl, Nat.le_of_ble_eq_true rfl⟩) ⟨rfl, rfl⟩ rfl (Nat.le_of_ble_eq_true rfl) rfl dX7_lay_1 ?_
  refine z_if_ne (tgt := 9) X dX7_lay_4 (by decide) (fun c4 => ?_) (fun c4 => ?_)
  · rw [if_neg c4] at h
    refine z_aload_n X dX7_lay_9 0 rfl rfl ?_
    refine z_get (j := 2) (v := .ref (ad 1)) X inX7 rfl (by decide) w_539 (hw.1 _) rfl dX7_lay_10 ?_
    refine z_iload_n X dX7_lay_13 1 rfl rfl ?_
    obtain ⟨t2, ht2, h⟩ := ob h
    refine z_iald X (hw.2.1 _).1 (rd_ok ht2) dX7_lay_14 ?_
    refine z_if_ne (tgt := 21) X dX7_lay_15 (by decide) (fun c15 => ?_) (fun c15 => ?_)
    · rw [if_neg c15] at h
      refine z_aload_n X dX7_lay_21 0 rfl rfl ?_
      refine z_aload_n X dX7_lay_22 0 rfl rfl ?_
      refine z_get (j := 2) (v := .ref (ad 1)) X inX7 rfl (by decide) w_539 (hw.1 _) rfl dX7_lay_23 ?_
      refine z_iload_n X dX7_lay_26 1 rfl rfl ?_
      obtain ⟨t3, ht3, h⟩ := ob h
      refine z_iald X (hw.2.1 _).1 (rd_ok ht3) dX7_lay_27 ?_
      refine z_aload_n X dX7_lay_28 0 rfl rfl ?_
      refine z_get (j := 3) (v := .ref (ad 2)) X inX7 rfl (by decide) w_547 (hw.1 _) rfl dX7_lay_29 ?_
      refine z_iload_n X dX7_lay_32 1 rfl rfl ?_
      obtain ⟨t4, ht4, h⟩ := ob h
      refine z_iald X (hw.2.2.1 _).1 (rd_ok ht4) dX7_lay_33 ?_
      obtain ⟨r5, hr5, h⟩ := ob h
      refine z_cVV (As := [.int t3, .int t4]) (st := []) X (tX7_becomes hw (mk M [(3, (M.1 3)), (4, (M.1 4))] M.2.1 [(40, (M.2.2 40)), (41, (M.2.2 41)), (42, (M.2.2 42))]) hr5) w_512 mvX7_becomes (by rw [eR]; exact ⟨Nat.le_of_ble_eq_true rfl, Nat.le_of_ble_eq_true rfl⟩) ⟨rfl, rfl⟩ rfl (Nat.le_of_ble_eq_true rfl) (hw.1 _) rfl rfl dX7_lay_34 ?_
      refine z_mem (mk_mk (l' := [(3, r5.1), (4, r5.2.1)]) (sl' := [(40, r5.2.2.1), (41, r5.2.2.2.1), (42, r5.2.2.2.2)]) rfl rfl rfl rfl) ?_
      refine z_aload_n X dX7_lay_37 0 rfl rfl ?_
      refine z_get (j := 0) (v := .int r5.2.2.1) X inX7 rfl (by decide) w_502 (hw.1 _) rfl dX7_lay_38 ?_
      have hq := Option.some.inj h
      subst hq
      exact z_iret hs dX7_lay_41 rfl
    · rw [if_pos c15] at h
      refine z_bipush (v := (-6 : Int32)) X dX7_lay_18 (by decide) ?_
      have hq := Option.some.inj h
      subst hq
      exact z_iret hs dX7_lay_20 rfl
  · rw [if_pos c4] at h
    refine z_iconst (v := (-1 : Int32)) X dX7_lay_7 (by decide) ?_
    have hq := Option.some.inj h
    subst hq
    exact z_iret hs dX7_lay_8 rfl
set_option maxHeartbeats 4000000 in
theorem tX7_lose {l : Launch} {D : va_G} {ct : Nat → ClassId} {tF : Nat} {wOf : Mm → va_W} {po ad : Nat → Nat} (hw : KM wOf po ad ct) (M : Mm) {v1 : Int32} {r : (Int32 × (Nat → Int32))} (h : fX7_lose (M.1 1) v1 = some r) : CtI l yX7_lose cX7_lose 3 .int { frames := 2, cells := 0, slots := 0, locals := 45 } D ct tF wOf [.ref (ad 0), .int v1] M r.1 (mk M [(1, r.2)] M.2.1 []) := by
  refine metI (by decide) (Nat.le_of_ble_eq_true rfl) fun κ X e1 eR e3 e4 hs => ?_
  subst e1; subst e3; subst e4
  unfold fX7_lose at h
  refine z_mem (mk_self M [1] []) ?_
  refine z_sub (lv' := [(0, .ref (ad 0)), (1, .int v1)]) [0, 1] rfl ?_
  show Zj κ 3 0 _ _ (mk M [(1, (M.1 1))] M.2.1 [])
  refine z_iload_n X dX7_lose_0 1 rfl rfl ?_
  obtain ⟨r1, hr1, h⟩ := ob h
  refine z_cSI (As := [.int v1]) (st := []) X (tX7_isShelf hw (mk M [(1, (M.1 1))] M.2.1 []) hr1) w_540 msX7_isShelf (by rw [eR]; exact ⟨Nat.le_of_ble_eq_true rfl, Nat.le_of_ble_eq_true rfl⟩) ⟨rfl, rfl⟩ rfl (Nat.le_of_ble_eq_true rfl) rfl dX7_lose_1 ?_
  refine z_if_ne (tgt := 9) X dX7_lose_4 (by decide) (fun c4 => ?_) (fun c4 => ?_)
  · rw [if_neg c4] at h
    refine z_aload_n X dX7_lose_9 0 rfl rfl ?_
    refine z_get (j := 2) (v := .ref (ad 1)) X inX7 rfl (by decide) w_539 (hw.1 _) rfl dX7_lose_10 ?_
    refine z_iload_n X dX7_lose_13 1 rfl rfl ?_
    obtain ⟨t2, ht2, h⟩ := ob h
    refine z_iald X (hw.2.1 _).1 (rd_ok ht2) dX7_lose_14 ?_
    refine z_if_ne (tgt := 21) X dX7_lose_15 (by decide) (fun c15 => ?_) (fun c15 => ?_)
    · rw [if_neg c15] at h
      refine z_aload_n X dX7_lose_21 0 rfl rfl ?_
      refine z_get (j := 2) (v := .ref (ad 1)) X inX7 rfl (by decide) w_539 (hw.1 _) rfl dX7_lose_22 ?_
      refine z_iload_n X dX7_lose_25 1 rfl rfl ?_
      obtain ⟨t3, ht3, h⟩ := ob h
      refine z_iald X (hw.2.1 _).1 (rd_ok ht3) dX7_lose_26 ?_
      refine z_istore_n (lv' := [(2, .int t3), (0, .ref (ad 0)), (1, .int v1)]) X dX7_lose_27 rfl (by decide) rfl ?_
      refine z_aload_n X dX7_lose_28 1 rfl rfl ?_
      refine z_get (j := 2) (v := .ref (ad 1)) X inX7 rfl (by decide) w_539 (hw.1 _) rfl dX7_lose_29 ?_
      refine z_iload_n X dX7_lose_32 2 rfl rfl ?_
      refine z_iconst (v := (nI 0)) X dX7_lose_33 (by decide) ?_
      obtain ⟨u4, hu4, h⟩ := ob h
      refine z_iast (M' := (mk M [(1, u4)] M.2.1 [])) X (hw.2.1 _).1 (wr_ok hu4) (mk_set1 (l' := [(1, u4)]) (hw.2.1) rfl rfl) dX7_lose_34 ?_
      refine z_iload_n X dX7_lose_35 0 rfl rfl ?_
      have hq := Option.some.inj h
      subst hq
      exact z_iret hs dX7_lose_36 rfl
    · rw [if_pos c15] at h
      refine z_bipush (v := (-6 : Int32)) X dX7_lose_18 (by decide) ?_
      have hq := Option.some.inj h
      subst hq
      exact z_iret hs dX7_lose_20 rfl
  · rw [if_pos c4] at h
    refine z_iconst (v := (-1 : Int32)) X dX7_lose_7 (by decide) ?_
    have hq := Option.some.inj h
    subst hq
    exact z_iret hs dX7_lose_8 rfl
set_option maxHeartbeats 4000000 in
theorem tX7_over {l : Launch} {D : va_G} {ct : Nat → ClassId} {tF : Nat} {wOf : Mm → va_W} {po ad : Nat → Nat} (hw : KM wOf po ad ct) (M : Mm) {v1 : Int32} {r : (Int32 × (Nat → Int32) × (Nat → Int32) × Int32 × Int32 × Int32)} (h : fX7_over (M.1 1) (M.1 2) (M.1 3) (M.1 4) (M.2.2 40) (M.2.2 41) (M.2.2 42) v1 = some r) : CtI l yX7_over cX7_over 2 .int { frames := 2, cells := 0, slots := 0, locals := 45 } D ct tF wOf [.ref (ad 0), .int v1] M r.1 (mk M [(3, r.2.1), (4, r.2.2.1)] M.2.1 [(40, r.2.2.2.1), (41, r.2.2.2.2.1), (42, r.2.2.2.2.2)]) := by
  refine metI (by decide) (Nat.le_of_ble_eq_true rfl) fun κ X e1 eR e3 e4 hs => ?_
  subst e1; subst e3; subst e4
  unfold fX7_over at h
  refine z_mem (mk_self M [3, 4] [40, 41, 42]) ?_
  refine z_sub (lv' := [(0, .ref (ad 0)), (1, .int v1)]) [0, 1] rfl ?_
  show Zj κ 2 0 _ _ (mk M [(3, (M.1 3)), (4, (M.1 4))] M.2.1 [(40, (M.2.2 40)), (41, (M.2.2 41)), (42, (M.2.2 42))])
  refine z_iload_n X dX7_over_0 1 rfl rfl ?_
  obtain ⟨r1, hr1, h⟩ := ob h
  refine z_cSI (As := [.int v1]) (st := []) X (tX7_isShelf hw (mk M [(3, (M.1 3)), (4, (M.1 4))] M.2.1 [(40, (M.2.2 40)), (41, (M.2.2 41)), (42, (M.2.2 42))]) hr1) w_540 msX7_isShelf (by rw [eR]; exact ⟨Nat.le_of_ble_eq_true rfl, Nat.le_of_ble_eq_true rfl⟩) ⟨rfl, rfl⟩ rfl (Nat.le_of_ble_eq_true rfl) rfl dX7_over_1 ?_
  refine z_if_ne (tgt := 9) X dX7_over_4 (by decide) (fun c4 => ?_) (fun c4 => ?_)
  · rw [if_neg c4] at h
    refine z_aload_n X dX7_over_9 0 rfl rfl ?_
    refine z_get (j := 2) (v := .ref (ad 1)) X inX7 rfl (by decide) w_539 (hw.1 _) rfl dX7_over_10 ?_
    refine z_iload_n X dX7_over_13 1 rfl rfl ?_
    obtain ⟨t2, ht2, h⟩ := ob h
    refine z_iald X (hw.2.1 _).1 (rd_ok ht2) dX7_over_14 ?_
    refine z_if_ne (tgt := 21) X dX7_over_15 (by decide) (fun c15 => ?_) (fun c15 => ?_)
    · rw [if_neg c15] at h
      refine z_aload_n X dX7_over_21 0 rfl rfl ?_
      refine z_get (j := 2) (v := .ref (ad 1)) X inX7 rfl (by decide) w_539 (hw.1 _) rfl dX7_over_22 ?_
      refine z_iload_n X dX7_over_25 1 rfl rfl ?_
      obtain ⟨t3, ht3, h⟩ := ob h
      refine z_iald X (hw.2.1 _).1 (rd_ok ht3) dX7_over_26 ?_
      refine z_aload_n X dX7_over_27 0 rfl rfl ?_
      refine z_get (j := 0) (v := .int (M.2.2 40)) X inX7 rfl (by decide) w_502 (hw.1 _) rfl dX7_over_28 ?_
      refine z_iadd X dX7_over_31 ?_
      refine z_bipush (v := (nI 7)) X dX7_over_32 (by decide) ?_
      refine z_icmp_le (tgt := 40) X dX7_over_34 (by decide) (fun c34 => ?_) (fun c34 => ?_)
      · rw [if_pos c34] at h
        refine z_aload_n X dX7_over_40 0 rfl rfl ?_
        refine z_aload_n X dX7_over_41 0 rfl rfl ?_
        refine z_get (j := 2) (v := .ref (ad 1)) X inX7 rfl (by decide) w_539 (hw.1 _) rfl dX7_over_42 ?_
        refine z_iload_n X dX7_over_45 1 rfl rfl ?_
        obtain ⟨t4, ht4, h⟩ := ob h
        refine z_iald X (hw.2.1 _).1 (rd_ok ht4) dX7_over_46 ?_
        refine z_aload_n X dX7_over_47 0 rfl rfl ?_
        refine z_get (j := 0) (v := .int (M.2.2 40)) X inX7 rfl (by decide) w_502 (hw.1 _) rfl dX7_over_48 ?_
        refine z_iadd X dX7_over_51 ?_
        refine z_aload_n X dX7_over_52 0 rfl rfl ?_
        refine z_get (j := 3) (v := .ref (ad 2)) X inX7 rfl (by decide) w_547 (hw.1 _) rfl dX7_over_53 ?_
        refine z_iload_n X dX7_over_56 1 rfl rfl ?_
        obtain ⟨t5, ht5, h⟩ := ob h
        refine z_iald X (hw.2.2.1 _).1 (rd_ok ht5) dX7_over_57 ?_
        refine z_aload_n X dX7_over_58 0 rfl rfl ?_
        refine z_get (j := 0) (v := .int (M.2.2 40)) X inX7 rfl (by decide) w_502 (hw.1 _) rfl dX7_over_59 ?_
        obtain ⟨r6, hr6, h⟩ := ob h
        refine z_cSI (As := [.int (M.2.2 40)]) (st := [.int t5, .int (t4 + (M.2.2 40)), .ref (ad 0)]) X (tX7_ten hw (mk M [(3, (M.1 3)), (4, (M.1 4))] M.2.1 [(40, (M.2.2 40)), (41, (M.2.2 41)), (42, (M.2.2 42))]) hr6) w_465 msX7_ten (by rw [eR]; exact ⟨Nat.le_of_ble_eq_true rfl, Nat.le_of_ble_eq_true rfl⟩) ⟨rfl, rfl⟩ rfl (Nat.le_of_ble_eq_true rfl) rfl dX7_over_62 ?_
        refine z_imul X dX7_over_65 ?_
        refine z_aload_n X dX7_over_66 0 rfl rfl ?_
        refine z_get (j := 1) (v := .int (M.2.2 41)) X inX7 rfl (by decide) w_506 (hw.1 _) rfl dX7_over_67 ?_
        refine z_iadd X dX7_over_70 ?_
        obtain ⟨r7, hr7, h⟩ := ob h
        refine z_cVV (As := [.int (t4 + (M.2.2 40)), .int ((t5 * r6) + (M.2.2 41))]) (st := []) X (tX7_becomes hw (mk M [(3, (M.1 3)), (4, (M.1 4))] M.2.1 [(40, (M.2.2 40)), (41, (M.2.2 41)), (42, (M.2.2 42))]) hr7) w_512 mvX7_becomes (by rw [eR]; exact ⟨Nat.le_of_ble_eq_true rfl, Nat.le_of_ble_eq_true rfl⟩) ⟨rfl, rfl⟩ rfl (Nat.le_of_ble_eq_true rfl) (hw.1 _) rfl rfl dX7_over_71 ?_
        refine z_mem (mk_mk (l' := [(3, r7.1), (4, r7.2.1)]) (sl' := [(40, r7.2.2.1), (41, r7.2.2.2.1), (42, r7.2.2.2.2)]) rfl rfl rfl rfl) ?_
        refine z_aload_n X dX7_over_74 0 rfl rfl ?_
        refine z_get (j := 0) (v := .int r7.2.2.1) X inX7 rfl (by decide) w_502 (hw.1 _) rfl dX7_over_75 ?_
        have hq := Option.some.inj h
        subst hq
        exact z_iret hs dX7_over_78 rfl
      · rw [if_neg c34] at h
        refine z_bipush (v := (-4 : Int32)) X dX7_over_37 (by decide) ?_
        have hq := Option.some.inj h
        subst hq
        exact z_iret hs dX7_over_39 rfl
    · rw [if_pos c15] at h
      refine z_bipush (v := (-6 : Int32)) X dX7_over_18 (by decide) ?_
      have hq := Option.some.inj h
      subst hq
      exact z_iret hs dX7_over_20 rfl
  · rw [if_pos c4] at h
    refine z_iconst (v := (-1 : Int32)) X dX7_over_7 (by decide) ?_
    have hq := Option.some.inj h
    subst hq
    exact z_iret hs dX7_over_8 rfl
set_option maxHeartbeats 4000000 in
theorem jX7_under_J105 {κ : Rx} {ct : Nat → ClassId} {tF : Nat} {po ad : Nat → Nat} (X : CX κ ct tF cX7_under 5 RX7) (eR : kR κ = { frames := 3, cells := 0, slots := 0, locals := 67 }) (hw : KM (kw κ) po ad ct) (M : Mm) (a_stepNodes : Nat → Int32) (a_stepTree : Nat → Int32) (s_nodes : Int32) (s_tree : Int32) (s_steps : Int32)  (v1 : Int32) (v2 : Int32) (v3 : Int32) (v4 : Int32)  (s : ((Int32 × Int32) ⊕ Int32)) (h : fX7_under_J105 s_nodes s_tree v1 v2 v3 v4 = some s) (hs : (Sum.elim (fun x => Zj κ 5 45 [(0, .ref (ad 0)), (1, .int v1), (2, .int v2), (3, .int x.1), (4, .int x.2)] [] (mk M [(3, a_stepNodes), (4, a_stepTree)] M.2.1 [(40, s_nodes), (41, s_tree), (42, s_steps)])) (fun y => Zj κ 5 111 [(0, .ref (ad 0)), (1, .int v1), (2, .int v2), (3, .int y)] [] (mk M [(3, a_stepNodes), (4, a_stepTree)] M.2.1 [(40, s_nodes), (41, s_tree), (42, s_steps)])) s)) : Zj κ 5 105 [(0, .ref (ad 0)), (1, .int v1), (2, .int v2), (3, .int v3), (4, .int v4)] [] (mk M [(3, a_stepNodes), (4, a_stepTree)] M.2.1 [(40, s_nodes), (41, s_tree), (42, s_steps)]) := by
  unfold fX7_under_J105 at h
  refine z_iinc (v := (v4 + nI 1)) (lv' := [(4, .int (v4 + nI 1)), (0, .ref (ad 0)), (1, .int v1), (2, .int v2), (3, .int v3)]) X dX7_under_105 4 rfl rfl (by decide) rfl ?_
  refine z_goto (tgt := 45) X dX7_under_108 (by decide) ?_
  have hq := Option.some.inj h
  subst hq
  exact z_sub [1, 2, 3, 4, 0] rfl hs
set_option maxHeartbeats 4000000 in
theorem bX7_under_B45 {κ : Rx} {ct : Nat → ClassId} {tF : Nat} {po ad : Nat → Nat} (X : CX κ ct tF cX7_under 5 RX7) (eR : kR κ = { frames := 3, cells := 0, slots := 0, locals := 67 }) (hw : KM (kw κ) po ad ct) (M : Mm) (a_stepNodes : Nat → Int32) (a_stepTree : Nat → Int32) (s_nodes : Int32) (s_tree : Int32) (s_steps : Int32) (v1 : Int32) (v2 : Int32) : ∀ (x : (Int32 × Int32)) (s : (Int32 × Int32) ⊕ Int32), fX7_under_B45 s_nodes s_tree v1 v2 x = some s → Sum.elim (fun x => Zj κ 5 45 [(0, .ref (ad 0)), (1, .int v1), (2, .int v2), (3, .int x.1), (4, .int x.2)] [] (mk M [(3, a_stepNodes), (4, a_stepTree)] M.2.1 [(40, s_nodes), (41, s_tree), (42, s_steps)])) (fun y => Zj κ 5 111 [(0, .ref (ad 0)), (1, .int v1), (2, .int v2), (3, .int y)] [] (mk M [(3, a_stepNodes), (4, a_stepTree)] M.2.1 [(40, s_nodes), (41, s_tree), (42, s_steps)])) s → Zj κ 5 45 [(0, .ref (ad 0)), (1, .int v1), (2, .int v2), (3, .int x.1), (4, .int x.2)] [] (mk M [(3, a_stepNodes), (4, a_stepTree)] M.2.1 [(40, s_nodes), (41, s_tree), (42, s_steps)]) := by
  intro x s h hs
  unfold fX7_under_B45 at h
  refine z_iload X dX7_under_45 4 rfl ?_
  refine z_aload_n X dX7_under_47 0 rfl rfl ?_
  refine z_get (j := 0) (v := .int s_nodes) X inX7 rfl (by decide) w_502 (hw.1 _) rfl dX7_under_48 ?_
  refine z_icmp_ge (tgt := 111) X dX7_under_51 (by decide) (fun c51 => ?_) (fun c51 => ?_)
  · rw [if_pos c51] at h
    have hq := Option.some.inj h
    subst hq
    exact z_sub [0, 1, 2, 3] rfl hs
  · rw [if_neg c51] at h
    refine z_iload X dX7_under_54 4 rfl ?_
    refine z_aload_n X dX7_under_56 0 rfl rfl ?_
    refine z_get (j := 1) (v := .int s_tree) X inX7 rfl (by decide) w_506 (hw.1 _) rfl dX7_under_57 ?_
    refine z_aload_n X dX7_under_60 0 rfl rfl ?_
    refine z_get (j := 0) (v := .int s_nodes) X inX7 rfl (by decide) w_502 (hw.1 _) rfl dX7_under_61 ?_
    refine z_iload X dX7_under_64 4 rfl ?_
    obtain ⟨r1, hr1, h⟩ := ob h
    refine z_cSI (As := [.int s_tree, .int s_nodes, .int x.2]) (st := [.int x.2]) X (tX7_at hw (mk M [(3, a_stepNodes), (4, a_stepTree)] M.2.1 [(40, s_nodes), (41, s_tree), (42, s_steps)]) hr1) w_469 msX7_at (by rw [eR]; exact ⟨Nat.le_of_ble_eq_true rfl, Nat.le_of_ble_eq_true rfl⟩) ⟨rfl, rfl⟩ rfl (Nat.le_of_ble_eq_true rfl) rfl dX7_under_66 ?_
    refine z_iadd X dX7_under_69 ?_
    refine z_aload_n X dX7_under_70 0 rfl rfl ?_
    refine z_get (j := 0) (v := .int s_nodes) X inX7 rfl (by decide) w_502 (hw.1 _) rfl dX7_under_71 ?_
    refine z_iconst (v := (nI 1)) X dX7_under_74 (by decide) ?_
    refine z_isub X dX7_under_75 ?_
    refine z_icmp_ne (tgt := 105) X dX7_under_76 (by decide) (fun c76 => ?_) (fun c76 => ?_)
    · rw [if_neg c76] at h
      exact (jX7_under_J105 X eR hw M a_stepNodes a_stepTree s_nodes s_tree s_steps v1 v2 x.1 x.2 _ h hs)
    · rw [if_pos c76] at h
      refine z_iload_n X dX7_under_79 3 rfl rfl ?_
      refine z_aload_n X dX7_under_80 0 rfl rfl ?_
      refine z_get (j := 0) (v := .int s_nodes) X inX7 rfl (by decide) w_502 (hw.1 _) rfl dX7_under_81 ?_
      refine z_iload X dX7_under_84 4 rfl ?_
      refine z_aload_n X dX7_under_86 0 rfl rfl ?_
      refine z_get (j := 1) (v := .int s_tree) X inX7 rfl (by decide) w_506 (hw.1 _) rfl dX7_under_87 ?_
      refine z_aload_n X dX7_under_90 0 rfl rfl ?_
      refine z_get (j := 0) (v := .int s_nodes) X inX7 rfl (by decide) w_502 (hw.1 _) rfl dX7_under_91 ?_
      refine z_iload X dX7_under_94 4 rfl ?_
      obtain ⟨r2, hr2, h⟩ := ob h
      refine z_cSI (As := [.int s_tree, .int s_nodes, .int x.2]) (st := [.int x.2, .int s_nodes, .int x.1]) X (tX7_at hw (mk M [(3, a_stepNodes), (4, a_stepTree)] M.2.1 [(40, s_nodes), (41, s_tree), (42, s_steps)]) hr2) w_469 msX7_at (by rw [eR]; exact ⟨Nat.le_of_ble_eq_true rfl, Nat.le_of_ble_eq_true rfl⟩) ⟨rfl, rfl⟩ rfl (Nat.le_of_ble_eq_true rfl) rfl dX7_under_96 ?_
      refine z_iload_n X dX7_under_99 2 rfl rfl ?_
      refine z_iadd X dX7_under_100 ?_
      obtain ⟨r3, hr3, h⟩ := ob h
      refine z_cSI (As := [.int x.1, .int s_nodes, .int x.2, .int (r2 + v2)]) (st := []) X (tX7_with hw (mk M [(3, a_stepNodes), (4, a_stepTree)] M.2.1 [(40, s_nodes), (41, s_tree), (42, s_steps)]) hr3) w_499 msX7_with (by rw [eR]; exact ⟨Nat.le_of_ble_eq_true rfl, Nat.le_of_ble_eq_true rfl⟩) ⟨rfl, rfl⟩ rfl (Nat.le_of_ble_eq_true rfl) rfl dX7_under_101 ?_
      refine z_istore_n (lv' := [(3, .int r3), (0, .ref (ad 0)), (1, .int v1), (2, .int v2), (4, .int x.2)]) X dX7_under_104 rfl (by decide) rfl ?_
      exact z_sub [1, 2, 3, 0, 4] rfl (jX7_under_J105 X eR hw M a_stepNodes a_stepTree s_nodes s_tree s_steps v1 v2 r3 x.2 _ h hs)
set_option maxHeartbeats 4000000 in
theorem tX7_under {l : Launch} {D : va_G} {ct : Nat → ClassId} {tF : Nat} {wOf : Mm → va_W} {po ad : Nat → Nat} (hw : KM wOf po ad ct) (M : Mm) {v1 : Int32} {r : (Int32 × (Nat → Int32) × (Nat → Int32) × Int32 × Int32 × Int32)} (h : fX7_under (M.1 1) (M.1 2) (M.1 3) (M.1 4) (M.2.2 40) (M.2.2 41) (M.2.2 42) v1 = some r) : CtI l yX7_under cX7_under 5 .int { frames := 3, cells := 0, slots := 0, locals := 67 } D ct tF wOf [.ref (ad 0), .int v1] M r.1 (mk M [(3, r.2.1), (4, r.2.2.1)] M.2.1 [(40, r.2.2.2.1), (41, r.2.2.2.2.1), (42, r.2.2.2.2.2)]) := by
  refine metI (by decide) (Nat.le_of_ble_eq_true rfl) fun κ X e1 eR e3 e4 hs => ?_
  subst e1; subst e3; subst e4
  unfold fX7_under at h
  refine z_mem (mk_self M [3, 4] [40, 41, 42]) ?_
  refine z_sub (lv' := [(0, .ref (ad 0)), (1, .int v1)]) [0, 1] rfl ?_
  show Zj κ 5 0 _ _ (mk M [(3, (M.1 3)), (4, (M.1 4))] M.2.1 [(40, (M.2.2 40)), (41, (M.2.2 41)), (42, (M.2.2 42))])
  refine z_iload_n X dX7_under_0 1 rfl rfl ?_
  obtain ⟨r1, hr1, h⟩ := ob h
  refine z_cSI (As := [.int v1]) (st := []) X (tX7_isShelf hw (mk M [(3, (M.1 3)), (4, (M.1 4))] M.2.1 [(40, (M.2.2 40)), (41, (M.2.2 41)), (42, (M.2.2 42))]) hr1) w_540 msX7_isShelf (by rw [eR]; exact ⟨Nat.le_of_ble_eq_true rfl, Nat.le_of_ble_eq_true rfl⟩) ⟨rfl, rfl⟩ rfl (Nat.le_of_ble_eq_true rfl) rfl dX7_under_1 ?_
  refine z_if_ne (tgt := 9) X dX7_under_4 (by decide) (fun c4 => ?_) (fun c4 => ?_)
  · rw [if_neg c4] at h
    refine z_aload_n X dX7_under_9 0 rfl rfl ?_
    refine z_get (j := 2) (v := .ref (ad 1)) X inX7 rfl (by decide) w_539 (hw.1 _) rfl dX7_under_10 ?_
    refine z_iload_n X dX7_under_13 1 rfl rfl ?_
    obtain ⟨t2, ht2, h⟩ := ob h
    refine z_iald X (hw.2.1 _).1 (rd_ok ht2) dX7_under_14 ?_
    refine z_istore_n (lv' := [(2, .int t2), (0, .ref (ad 0)), (1, .int v1)]) X dX7_under_15 rfl (by decide) rfl ?_
    refine z_iload_n X dX7_under_16 0 rfl rfl ?_
    refine z_if_ne (tgt := 23) X dX7_under_17 (by decide) (fun c17 => ?_) (fun c17 => ?_)
    · rw [if_neg c17] at h
      refine z_iload_n X dX7_under_23 0 rfl rfl ?_
      refine z_aload_n X dX7_under_24 1 rfl rfl ?_
      refine z_get (j := 0) (v := .int (M.2.2 40)) X inX7 rfl (by decide) w_502 (hw.1 _) rfl dX7_under_25 ?_
      refine z_iadd X dX7_under_28 ?_
      refine z_bipush (v := (nI 7)) X dX7_under_29 (by decide) ?_
      refine z_icmp_le (tgt := 37) X dX7_under_31 (by decide) (fun c31 => ?_) (fun c31 => ?_)
      · rw [if_pos c31] at h
        refine z_aload_n X dX7_under_37 1 rfl rfl ?_
        refine z_get (j := 1) (v := .int (M.2.2 41)) X inX7 rfl (by decide) w_506 (hw.1 _) rfl dX7_under_38 ?_
        refine z_istore_n (lv' := [(3, .int (M.2.2 41)), (2, .int t2), (0, .ref (ad 0)), (1, .int v1)]) X dX7_under_41 rfl (by decide) rfl ?_
        refine z_iconst (v := (nI 0)) X dX7_under_42 (by decide) ?_
        refine z_istore (lv' := [(4, .int (nI 0)), (3, .int (M.2.2 41)), (2, .int t2), (0, .ref (ad 0)), (1, .int v1)]) X dX7_under_43 (by decide) rfl ?_
        refine z_sub [3, 4, 2, 1, 0] rfl ?_
        obtain ⟨y3, hy3, h⟩ := ob h
        refine (it_Z (bX7_under_B45 X eR hw M (M.1 3) (M.1 4) (M.2.2 40) (M.2.2 41) (M.2.2 42) v1 t2) FU _ y3 hy3) ?_
        refine z_aload_n X dX7_under_111 0 rfl rfl ?_
        refine z_aload_n X dX7_under_112 0 rfl rfl ?_
        refine z_get (j := 0) (v := .int (M.2.2 40)) X inX7 rfl (by decide) w_502 (hw.1 _) rfl dX7_under_113 ?_
        refine z_iload_n X dX7_under_116 2 rfl rfl ?_
        refine z_iadd X dX7_under_117 ?_
        refine z_iload_n X dX7_under_118 3 rfl rfl ?_
        refine z_iload_n X dX7_under_119 2 rfl rfl ?_
        obtain ⟨r4, hr4, h⟩ := ob h
        refine z_cSI (As := [.int t2]) (st := [.int y3, .int ((M.2.2 40) + t2), .ref (ad 0)]) X (tX7_ten hw (mk M [(3, (M.1 3)), (4, (M.1 4))] M.2.1 [(40, (M.2.2 40)), (41, (M.2.2 41)), (42, (M.2.2 42))]) hr4) w_465 msX7_ten (by rw [eR]; exact ⟨Nat.le_of_ble_eq_true rfl, Nat.le_of_ble_eq_true rfl⟩) ⟨rfl, rfl⟩ rfl (Nat.le_of_ble_eq_true rfl) rfl dX7_under_120 ?_
        refine z_imul X dX7_under_123 ?_
        refine z_aload_n X dX7_under_124 0 rfl rfl ?_
        refine z_get (j := 3) (v := .ref (ad 2)) X inX7 rfl (by decide) w_547 (hw.1 _) rfl dX7_under_125 ?_
        refine z_iload_n X dX7_under_128 1 rfl rfl ?_
        obtain ⟨t5, ht5, h⟩ := ob h
        refine z_iald X (hw.2.2.1 _).1 (rd_ok ht5) dX7_under_129 ?_
        refine z_iadd X dX7_under_130 ?_
        obtain ⟨r6, hr6, h⟩ := ob h
        refine z_cVV (As := [.int ((M.2.2 40) + t2), .int ((y3 * r4) + t5)]) (st := []) X (tX7_becomes hw (mk M [(3, (M.1 3)), (4, (M.1 4))] M.2.1 [(40, (M.2.2 40)), (41, (M.2.2 41)), (42, (M.2.2 42))]) hr6) w_512 mvX7_becomes (by rw [eR]; exact ⟨Nat.le_of_ble_eq_true rfl, Nat.le_of_ble_eq_true rfl⟩) ⟨rfl, rfl⟩ rfl (Nat.le_of_ble_eq_true rfl) (hw.1 _) rfl rfl dX7_under_131 ?_
        refine z_mem (mk_mk (l' := [(3, r6.1), (4, r6.2.1)]) (sl' := [(40, r6.2.2.1), (41, r6.2.2.2.1), (42, r6.2.2.2.2)]) rfl rfl rfl rfl) ?_
        refine z_aload_n X dX7_under_134 0 rfl rfl ?_
        refine z_get (j := 0) (v := .int r6.2.2.1) X inX7 rfl (by decide) w_502 (hw.1 _) rfl dX7_under_135 ?_
        have hq := Option.some.inj h
        subst hq
        exact z_iret hs dX7_under_138 rfl
      · rw [if_neg c31] at h
        refine z_bipush (v := (-4 : Int32)) X dX7_under_34 (by decide) ?_
        have hq := Option.some.inj h
        subst hq
        exact z_iret hs dX7_under_36 rfl
    · rw [if_pos c17] at h
      refine z_bipush (v := (-6 : Int32)) X dX7_under_20 (by decide) ?_
      have hq := Option.some.inj h
      subst hq
      exact z_iret hs dX7_under_22 rfl
  · rw [if_pos c4] at h
    refine z_iconst (v := (-1 : Int32)) X dX7_under_7 (by decide) ?_
    have hq := Option.some.inj h
    subst hq
    exact z_iret hs dX7_under_8 rfl
set_option maxHeartbeats 4000000 in
theorem tX7_shelf {l : Launch} {D : va_G} {ct : Nat → ClassId} {tF : Nat} {wOf : Mm → va_W} {po ad : Nat → Nat} (hw : KM wOf po ad ct) (M : Mm) {v1 : Int32} {v2 : Int32} {r : (Int32 × (Nat → Int32) × Int32 × Int32)} (h : fX7_shelf (M.1 1) (M.1 2) (M.1 10) (M.2.2 48) (M.2.2 49) v1 v2 = some r) : CtI l yX7_shelf cX7_shelf 3 .int { frames := 5, cells := 0, slots := 0, locals := 116 } D ct tF wOf [.ref (ad 0), .int v1, .int v2] M r.1 (mk M [(10, r.2.1)] M.2.1 [(48, r.2.2.1), (49, r.2.2.2)]) := by
  refine metI (by decide) (Nat.le_of_ble_eq_true rfl) fun κ X e1 eR e3 e4 hs => ?_
  subst e1; subst e3; subst e4
  unfold fX7_shelf at h
  refine z_mem (mk_self M [10] [48, 49]) ?_
  refine z_sub (lv' := [(0, .ref (ad 0)), (1, .int v1), (2, .int v2)]) [0, 1, 2] rfl ?_
  show Zj κ 3 0 _ _ (mk M [(10, (M.1 10))] M.2.1 [(48, (M.2.2 48)), (49, (M.2.2 49))])
  refine z_iload_n X dX7_shelf_0 1 rfl rfl ?_
  obtain ⟨r1, hr1, h⟩ := ob h
  refine z_cSI (As := [.int v1]) (st := []) X (tX7_isShelf hw (mk M [(10, (M.1 10))] M.2.1 [(48, (M.2.2 48)), (49, (M.2.2 49))]) hr1) w_540 msX7_isShelf (by rw [eR]; exact ⟨Nat.le_of_ble_eq_true rfl, Nat.le_of_ble_eq_true rfl⟩) ⟨rfl, rfl⟩ rfl (Nat.le_of_ble_eq_true rfl) rfl dX7_shelf_1 ?_
  refine z_if_eq (tgt := 19) X dX7_shelf_4 (by decide) (fun c4 => ?_) (fun c4 => ?_)
  · rw [if_pos c4] at h
    refine z_iconst (v := (-1 : Int32)) X dX7_shelf_19 (by decide) ?_
    have hq := Option.some.inj h
    subst hq
    exact z_iret hs dX7_shelf_20 rfl
  · rw [if_neg c4] at h
    refine z_iload_n X dX7_shelf_7 2 rfl rfl ?_
    refine z_i2l X dX7_shelf_8 ?_
    refine z_lconst (v := (0 : Int64)) X dX7_shelf_9 (by decide) ?_
    refine z_ldc2 X w_576 dX7_shelf_10 ?_
    obtain ⟨r2, hr2, h⟩ := ob h
    refine z_cSI (As := [.long (v2.toInt64), .long (0 : Int64), .long (2 : Int64)]) (st := []) X (tX7_in hw (mk M [(10, (M.1 10))] M.2.1 [(48, (M.2.2 48)), (49, (M.2.2 49))]) hr2) w_472 msX7_in (by rw [eR]; exact ⟨Nat.le_of_ble_eq_true rfl, Nat.le_of_ble_eq_true rfl⟩) ⟨rfl, rfl⟩ rfl (Nat.le_of_ble_eq_true rfl) rfl dX7_shelf_13 ?_
    refine z_if_ne (tgt := 21) X dX7_shelf_16 (by decide) (fun c16 => ?_) (fun c16 => ?_)
    · rw [if_neg c16] at h
      refine z_aload_n X dX7_shelf_21 0 rfl rfl ?_
      refine z_get (j := 2) (v := .ref (ad 1)) X inX7 rfl (by decide) w_539 (hw.1 _) rfl dX7_shelf_22 ?_
      refine z_iload_n X dX7_shelf_25 1 rfl rfl ?_
      obtain ⟨t3, ht3, h⟩ := ob h
      refine z_iald X (hw.2.1 _).1 (rd_ok ht3) dX7_shelf_26 ?_
      refine z_if_ne (tgt := 33) X dX7_shelf_27 (by decide) (fun c27 => ?_) (fun c27 => ?_)
      · rw [if_neg c27] at h
        refine z_iload_n X dX7_shelf_33 2 rfl rfl ?_
        refine z_if_ne (tgt := 46) X dX7_shelf_34 (by decide) (fun c34 => ?_) (fun c34 => ?_)
        · rw [if_neg c34] at h
          refine z_iload_n X dX7_shelf_46 2 rfl rfl ?_
          refine z_iconst (v := (nI 1)) X dX7_shelf_47 (by decide) ?_
          refine z_icmp_ne (tgt := 70) X dX7_shelf_48 (by decide) (fun c48 => ?_) (fun c48 => ?_)
          · rw [if_neg c48] at h
            refine z_aload_n X dX7_shelf_70 0 rfl rfl ?_
            refine z_get (j := 3) (v := .ref (ad 2)) X inX7 rfl (by decide) w_547 (hw.1 _) rfl dX7_shelf_71 ?_
            refine z_iload_n X dX7_shelf_74 1 rfl rfl ?_
            obtain ⟨t4, ht4, h⟩ := ob h
            refine z_iald X (hw.2.2.1 _).1 (rd_ok ht4) dX7_shelf_75 ?_
            have hq := Option.some.inj h
            subst hq
            exact z_iret hs dX7_shelf_76 rfl
          · rw [if_pos c48] at h
            refine z_aload_n X dX7_shelf_51 0 rfl rfl ?_
            refine z_aload_n X dX7_shelf_52 0 rfl rfl ?_
            refine z_get (j := 3) (v := .ref (ad 2)) X inX7 rfl (by decide) w_547 (hw.1 _) rfl dX7_shelf_53 ?_
            refine z_iload_n X dX7_shelf_56 1 rfl rfl ?_
            obtain ⟨t5, ht5, h⟩ := ob h
            refine z_iald X (hw.2.2.1 _).1 (rd_ok ht5) dX7_shelf_57 ?_
            refine z_aload_n X dX7_shelf_58 0 rfl rfl ?_
            refine z_get (j := 2) (v := .ref (ad 1)) X inX7 rfl (by decide) w_539 (hw.1 _) rfl dX7_shelf_59 ?_
            refine z_iload_n X dX7_shelf_62 1 rfl rfl ?_
            obtain ⟨t6, ht6, h⟩ := ob h
            refine z_iald X (hw.2.1 _).1 (rd_ok ht6) dX7_shelf_63 ?_
            obtain ⟨r7, hr7, h⟩ := ob h
            refine z_cVI (As := [.int t5, .int t6]) (st := []) X (tX7_numberOf hw (mk M [(10, (M.1 10))] M.2.1 [(48, (M.2.2 48)), (49, (M.2.2 49))]) hr7) w_508 mvX7_numberOf (by rw [eR]; exact ⟨Nat.le_of_ble_eq_true rfl, Nat.le_of_ble_eq_true rfl⟩) ⟨rfl, rfl⟩ rfl (Nat.le_of_ble_eq_true rfl) (hw.1 _) rfl rfl dX7_shelf_64 ?_
            refine z_mem (mk_mk (l' := [(10, r7.2.1)]) (sl' := [(48, r7.2.2.1), (49, r7.2.2.2)]) rfl rfl rfl rfl) ?_
            refine z_goto (tgt := 76) X dX7_shelf_67 (by decide) ?_
            have hq := Option.some.inj h
            subst hq
            exact z_iret hs dX7_shelf_76 rfl
        · rw [if_pos c34] at h
          refine z_aload_n X dX7_shelf_37 0 rfl rfl ?_
          refine z_get (j := 2) (v := .ref (ad 1)) X inX7 rfl (by decide) w_539 (hw.1 _) rfl dX7_shelf_38 ?_
          refine z_iload_n X dX7_shelf_41 1 rfl rfl ?_
          obtain ⟨t8, ht8, h⟩ := ob h
          refine z_iald X (hw.2.1 _).1 (rd_ok ht8) dX7_shelf_42 ?_
          refine z_goto (tgt := 76) X dX7_shelf_43 (by decide) ?_
          have hq := Option.some.inj h
          subst hq
          exact z_iret hs dX7_shelf_76 rfl
      · rw [if_pos c27] at h
        refine z_bipush (v := (-6 : Int32)) X dX7_shelf_30 (by decide) ?_
        have hq := Option.some.inj h
        subst hq
        exact z_iret hs dX7_shelf_32 rfl
    · rw [if_pos c16] at h
      refine z_iconst (v := (-1 : Int32)) X dX7_shelf_19 (by decide) ?_
      have hq := Option.some.inj h
      subst hq
      exact z_iret hs dX7_shelf_20 rfl
set_option maxHeartbeats 4000000 in
theorem tX7_isList {l : Launch} {D : va_G} {ct : Nat → ClassId} {tF : Nat} {wOf : Mm → va_W} {po ad : Nat → Nat} (hw : KM wOf po ad ct) (M : Mm) {v0 : Int32} {r : Int32} (h : fX7_isList v0 = some r) : CtI l yX7_isList cX7_isList 1 .boolean { frames := 1, cells := 0, slots := 0, locals := 25 } D ct tF wOf [.int v0] M r M := by
  refine metI (by decide) (Nat.le_of_ble_eq_true rfl) fun κ X e1 eR e3 e4 hs => ?_
  subst e1; subst e3; subst e4
  unfold fX7_isList at h
  refine z_sub (lv' := [(0, .int v0)]) [0] rfl ?_
  refine z_iload_n X dX7_isList_0 0 rfl rfl ?_
  refine z_i2l X dX7_isList_1 ?_
  refine z_lconst (v := (0 : Int64)) X dX7_isList_2 (by decide) ?_
  refine z_ldc2 X w_576 dX7_isList_3 ?_
  obtain ⟨r1, hr1, h⟩ := ob h
  refine z_cSI (As := [.long (v0.toInt64), .long (0 : Int64), .long (2 : Int64)]) (st := []) X (tX7_in hw M hr1) w_472 msX7_in (by rw [eR]; exact ⟨Nat.le_of_ble_eq_true rfl, Nat.le_of_ble_eq_true rfl⟩) ⟨rfl, rfl⟩ rfl (Nat.le_of_ble_eq_true rfl) rfl dX7_isList_6 ?_
  obtain ⟨z2, hz2, h⟩ := ob h
  obtain ⟨qz2, nz2⟩ := zro_ok hz2
  subst qz2
  have hq := Option.some.inj h
  subst hq
  exact z_iret hs dX7_isList_9 nz2
set_option maxHeartbeats 4000000 in
theorem bX7_makes_B9 {κ : Rx} {ct : Nat → ClassId} {tF : Nat} {po ad : Nat → Nat} (X : CX κ ct tF cX7_makes 4 RX7) (eR : kR κ = { frames := 0, cells := 0, slots := 0, locals := 0 }) (hw : KM (kw κ) po ad ct) (M : Mm) (a_listSize : Nat → Int32) (v1 : Int32) : ∀ (x : (Int32 × (Nat → Nat → Int64))) (s : (Int32 × (Nat → Nat → Int64)) ⊕ (Nat → Nat → Int64)), fX7_makes_B9 v1 x = some s → Sum.elim (fun x => Zj κ 4 9 [(0, .ref (ad 0)), (1, .int v1), (3, .int x.1)] [] (mk M [(6, a_listSize)] x.2 [])) (fun y => Zj κ 4 33 [] [] (mk M [(6, a_listSize)] y [])) s → Zj κ 4 9 [(0, .ref (ad 0)), (1, .int v1), (3, .int x.1)] [] (mk M [(6, a_listSize)] x.2 []) := by
  intro x s h hs
  unfold fX7_makes_B9 at h
  refine z_iload_n X dX7_makes_9 2 rfl rfl ?_
  refine z_bipush (v := (nI 20)) X dX7_makes_10 (by decide) ?_
  refine z_icmp_ge (tgt := 33) X dX7_makes_12 (by decide) (fun c12 => ?_) (fun c12 => ?_)
  · rw [if_pos c12] at h
    have hq := Option.some.inj h
    subst hq
    exact z_sub [] rfl hs
  · rw [if_neg c12] at h
    refine z_aload_n X dX7_makes_15 0 rfl rfl ?_
    refine z_get (j := 7) (v := .ref (ad 5)) X inX7 rfl (by decide) w_585 (hw.1 _) rfl dX7_makes_16 ?_
    refine z_bipush (v := (nI 20)) X dX7_makes_19 (by decide) ?_
    refine z_iload_n X dX7_makes_21 1 rfl rfl ?_
    refine z_imul X dX7_makes_22 ?_
    refine z_iload_n X dX7_makes_23 2 rfl rfl ?_
    refine z_iadd X dX7_makes_24 ?_
    refine z_lconst (v := (0 : Int64)) X dX7_makes_25 (by decide) ?_
    obtain ⟨u1, hu1, h⟩ := ob h
    refine z_last (M' := (mk M [(6, a_listSize)] (pu x.2 [(0, u1)]) [])) X ((hw.2.2.2.2.2.1) _).1 (wrL_ok hu1) (mk_setL (hw.2.2.2.2.2.1) rfl) dX7_makes_26 ?_
    refine z_iinc (v := (x.1 + nI 1)) (lv' := [(3, .int (x.1 + nI 1)), (0, .ref (ad 0)), (1, .int v1)]) X dX7_makes_27 2 rfl rfl (by decide) rfl ?_
    refine z_goto (tgt := 9) X dX7_makes_30 (by decide) ?_
    have hq := Option.some.inj h
    subst hq
    exact z_sub [1, 2, 0] rfl hs
set_option maxHeartbeats 4000000 in
theorem tX7_makes {l : Launch} {D : va_G} {ct : Nat → ClassId} {tF : Nat} {wOf : Mm → va_W} {po ad : Nat → Nat} (hw : KM wOf po ad ct) (M : Mm) {v1 : Int32} {v2 : Int32} {r : ((Nat → Int32) × (Nat → Nat → Int64))} (h : fX7_makes (M.1 6) M.2.1 v1 v2 = some r) : CtV l yX7_makes cX7_makes 4 { frames := 0, cells := 0, slots := 0, locals := 0 } D ct tF wOf [.ref (ad 0), .int v1, .int v2] M (mk M [(6, r.1)] r.2 []) := by
  refine metV (by decide) (Nat.le_of_ble_eq_true rfl) fun κ X e1 eR e3 e4 hs => ?_
  subst e1; subst e3; subst e4
  unfold fX7_makes at h
  refine z_mem (mk_self M [6] []) ?_
  refine z_sub (lv' := [(0, .ref (ad 0)), (1, .int v1), (2, .int v2)]) [0, 1, 2] rfl ?_
  show Zj κ 4 0 _ _ (mk M [(6, (M.1 6))] M.2.1 [])
  refine z_aload_n X dX7_makes_0 0 rfl rfl ?_
  refine z_get (j := 8) (v := .ref (ad 6)) X inX7 rfl (by decide) w_584 (hw.1 _) rfl dX7_makes_1 ?_
  refine z_iload_n X dX7_makes_4 1 rfl rfl ?_
  refine z_iload_n X dX7_makes_5 2 rfl rfl ?_
  obtain ⟨u1, hu1, h⟩ := ob h
  refine z_iast (M' := (mk M [(6, u1)] M.2.1 [])) X (hw.2.2.2.2.2.2.1 _).1 (wr_ok hu1) (mk_set1 (l' := [(6, u1)]) (hw.2.2.2.2.2.2.1) rfl rfl) dX7_makes_6 ?_
  refine z_iconst (v := (nI 0)) X dX7_makes_7 (by decide) ?_
  refine z_istore_n (lv' := [(3, .int (nI 0)), (0, .ref (ad 0)), (1, .int v1), (2, .int v2)]) X dX7_makes_8 rfl (by decide) rfl ?_
  refine z_sub [1, 2, 0] rfl ?_
  obtain ⟨y2, hy2, h⟩ := ob h
  refine (it_Z (bX7_makes_B9 X eR hw M u1 v1) FU _ y2 hy2) ?_
  have hq := Option.some.inj h
  subst hq
  exact z_vret hs dX7_makes_33
set_option maxHeartbeats 4000000 in
theorem tX7_list {l : Launch} {D : va_G} {ct : Nat → ClassId} {tF : Nat} {wOf : Mm → va_W} {po ad : Nat → Nat} (hw : KM wOf po ad ct) (M : Mm) {v1 : Int32} {v2 : Int32} {r : (Int32 × (Nat → Int32) × (Nat → Nat → Int64))} (h : fX7_list (M.1 6) M.2.1 v1 v2 = some r) : CtI l yX7_list cX7_list 3 .int { frames := 2, cells := 0, slots := 0, locals := 45 } D ct tF wOf [.ref (ad 0), .int v1, .int v2] M r.1 (mk M [(6, r.2.1)] r.2.2 []) := by
  refine metI (by decide) (Nat.le_of_ble_eq_true rfl) fun κ X e1 eR e3 e4 hs => ?_
  subst e1; subst e3; subst e4
  unfold fX7_list at h
  refine z_mem (mk_self M [6] []) ?_
  refine z_sub (lv' := [(0, .ref (ad 0)), (1, .int v1), (2, .int v2)]) [0, 1, 2] rfl ?_
  show Zj κ 3 0 _ _ (mk M [(6, (M.1 6))] M.2.1 [])
  refine z_iload_n X dX7_list_0 1 rfl rfl ?_
  obtain ⟨r1, hr1, h⟩ := ob h
  refine z_cSI (As := [.int v1]) (st := []) X (tX7_isList hw (mk M [(6, (M.1 6))] M.2.1 []) hr1) w_586 msX7_isList (by rw [eR]; exact ⟨Nat.le_of_ble_eq_true rfl, Nat.le_of_ble_eq_true rfl⟩) ⟨rfl, rfl⟩ rfl (Nat.le_of_ble_eq_true rfl) rfl dX7_list_1 ?_
  refine z_if_ne (tgt := 9) X dX7_list_4 (by decide) (fun c4 => ?_) (fun c4 => ?_)
  · rw [if_neg c4] at h
    refine z_iload_n X dX7_list_9 2 rfl rfl ?_
    refine z_bipush (v := (nI 20)) X dX7_list_10 (by decide) ?_
    refine z_icmp_le (tgt := 18) X dX7_list_12 (by decide) (fun c12 => ?_) (fun c12 => ?_)
    · rw [if_pos c12] at h
      refine z_iload_n X dX7_list_18 2 rfl rfl ?_
      refine z_iconst (v := (-1 : Int32)) X dX7_list_19 (by decide) ?_
      refine z_icmp_ge (tgt := 26) X dX7_list_20 (by decide) (fun c20 => ?_) (fun c20 => ?_)
      · rw [if_pos c20] at h
        refine z_aload_n X dX7_list_26 0 rfl rfl ?_
        refine z_iload_n X dX7_list_27 1 rfl rfl ?_
        refine z_iload_n X dX7_list_28 2 rfl rfl ?_
        obtain ⟨r2, hr2, h⟩ := ob h
        refine z_cVV (As := [.int v1, .int v2]) (st := []) X (tX7_makes hw (mk M [(6, (M.1 6))] M.2.1 []) hr2) w_589 mvX7_makes (by rw [eR]; exact ⟨Nat.le_of_ble_eq_true rfl, Nat.le_of_ble_eq_true rfl⟩) ⟨rfl, rfl⟩ rfl (Nat.le_of_ble_eq_true rfl) (hw.1 _) rfl rfl dX7_list_29 ?_
        refine z_mem (mk_mk (l' := [(6, r2.1)]) (sl' := []) rfl rfl rfl rfl) ?_
        refine z_iconst (v := (nI 1)) X dX7_list_32 (by decide) ?_
        have hq := Option.some.inj h
        subst hq
        exact z_iret hs dX7_list_33 rfl
      · rw [if_neg c20] at h
        refine z_bipush (v := (-14 : Int32)) X dX7_list_23 (by decide) ?_
        have hq := Option.some.inj h
        subst hq
        exact z_iret hs dX7_list_25 rfl
    · rw [if_neg c12] at h
      refine z_bipush (v := (-2 : Int32)) X dX7_list_15 (by decide) ?_
      have hq := Option.some.inj h
      subst hq
      exact z_iret hs dX7_list_17 rfl
  · rw [if_pos c4] at h
    refine z_iconst (v := (-1 : Int32)) X dX7_list_7 (by decide) ?_
    have hq := Option.some.inj h
    subst hq
    exact z_iret hs dX7_list_8 rfl
set_option maxHeartbeats 4000000 in
theorem tX7_put {l : Launch} {D : va_G} {ct : Nat → ClassId} {tF : Nat} {wOf : Mm → va_W} {po ad : Nat → Nat} (hw : KM wOf po ad ct) (M : Mm) {v1 : Int32} {v2 : Int32} {v3 : Int64} {r : (Int32 × (Nat → Nat → Int64))} (h : fX7_put (M.1 6) M.2.1 v1 v2 v3 = some r) : CtI l yX7_put cX7_put 5 .int { frames := 2, cells := 0, slots := 0, locals := 45 } D ct tF wOf [.ref (ad 0), .int v1, .int v2, .long v3] M r.1 (mk M [] r.2 []) := by
  refine metI (by decide) (Nat.le_of_ble_eq_true rfl) fun κ X e1 eR e3 e4 hs => ?_
  subst e1; subst e3; subst e4
  unfold fX7_put at h
  refine z_mem (mk_self M [] []) ?_
  refine z_sub (lv' := [(0, .ref (ad 0)), (1, .int v1), (2, .int v2), (3, .long v3)]) [0, 1, 2, 3] rfl ?_
  show Zj κ 5 0 _ _ (mk M [] M.2.1 [])
  refine z_iload_n X dX7_put_0 1 rfl rfl ?_
  obtain ⟨r1, hr1, h⟩ := ob h
  refine z_cSI (As := [.int v1]) (st := []) X (tX7_isList hw (mk M [] M.2.1 []) hr1) w_586 msX7_isList (by rw [eR]; exact ⟨Nat.le_of_ble_eq_true rfl, Nat.le_of_ble_eq_true rfl⟩) ⟨rfl, rfl⟩ rfl (Nat.le_of_ble_eq_true rfl) rfl dX7_put_1 ?_
  refine z_if_ne (tgt := 9) X dX7_put_4 (by decide) (fun c4 => ?_) (fun c4 => ?_)
  · rw [if_neg c4] at h
    refine z_aload_n X dX7_put_9 0 rfl rfl ?_
    refine z_get (j := 8) (v := .ref (ad 6)) X inX7 rfl (by decide) w_584 (hw.1 _) rfl dX7_put_10 ?_
    refine z_iload_n X dX7_put_13 1 rfl rfl ?_
    obtain ⟨t2, ht2, h⟩ := ob h
    refine z_iald X (hw.2.2.2.2.2.2.1 _).1 (rd_ok ht2) dX7_put_14 ?_
    refine z_if_ge (tgt := 21) X dX7_put_15 (by decide) (fun c15 => ?_) (fun c15 => ?_)
    · rw [if_pos c15] at h
      refine z_iload_n X dX7_put_21 2 rfl rfl ?_
      refine z_i2l X dX7_put_22 ?_
      refine z_lconst (v := (0 : Int64)) X dX7_put_23 (by decide) ?_
      refine z_aload_n X dX7_put_24 0 rfl rfl ?_
      refine z_get (j := 8) (v := .ref (ad 6)) X inX7 rfl (by decide) w_584 (hw.1 _) rfl dX7_put_25 ?_
      refine z_iload_n X dX7_put_28 1 rfl rfl ?_
      obtain ⟨t3, ht3, h⟩ := ob h
      refine z_iald X (hw.2.2.2.2.2.2.1 _).1 (rd_ok ht3) dX7_put_29 ?_
      refine z_iconst (v := (nI 1)) X dX7_put_30 (by decide) ?_
      refine z_isub X dX7_put_31 ?_
      refine z_i2l X dX7_put_32 ?_
      obtain ⟨r4, hr4, h⟩ := ob h
      refine z_cSI (As := [.long (v2.toInt64), .long (0 : Int64), .long (((t3 - (nI 1))).toInt64)]) (st := []) X (tX7_in hw (mk M [] M.2.1 []) hr4) w_472 msX7_in (by rw [eR]; exact ⟨Nat.le_of_ble_eq_true rfl, Nat.le_of_ble_eq_true rfl⟩) ⟨rfl, rfl⟩ rfl (Nat.le_of_ble_eq_true rfl) rfl dX7_put_33 ?_
      refine z_if_ne (tgt := 42) X dX7_put_36 (by decide) (fun c36 => ?_) (fun c36 => ?_)
      · rw [if_neg c36] at h
        refine z_aload_n X dX7_put_42 0 rfl rfl ?_
        refine z_get (j := 7) (v := .ref (ad 5)) X inX7 rfl (by decide) w_585 (hw.1 _) rfl dX7_put_43 ?_
        refine z_bipush (v := (nI 20)) X dX7_put_46 (by decide) ?_
        refine z_iload_n X dX7_put_48 1 rfl rfl ?_
        refine z_imul X dX7_put_49 ?_
        refine z_iload_n X dX7_put_50 2 rfl rfl ?_
        refine z_iadd X dX7_put_51 ?_
        refine z_lload_n X dX7_put_52 3 rfl rfl ?_
        obtain ⟨u5, hu5, h⟩ := ob h
        refine z_last (M' := (mk M [] (pu M.2.1 [(0, u5)]) [])) X ((hw.2.2.2.2.2.1) _).1 (wrL_ok hu5) (mk_setL (hw.2.2.2.2.2.1) rfl) dX7_put_53 ?_
        refine z_iconst (v := (nI 1)) X dX7_put_54 (by decide) ?_
        have hq := Option.some.inj h
        subst hq
        exact z_iret hs dX7_put_55 rfl
      · rw [if_pos c36] at h
        refine z_bipush (v := (-13 : Int32)) X dX7_put_39 (by decide) ?_
        have hq := Option.some.inj h
        subst hq
        exact z_iret hs dX7_put_41 rfl
    · rw [if_neg c15] at h
      refine z_bipush (v := (-11 : Int32)) X dX7_put_18 (by decide) ?_
      have hq := Option.some.inj h
      subst hq
      exact z_iret hs dX7_put_20 rfl
  · rw [if_pos c4] at h
    refine z_iconst (v := (-1 : Int32)) X dX7_put_7 (by decide) ?_
    have hq := Option.some.inj h
    subst hq
    exact z_iret hs dX7_put_8 rfl
set_option maxHeartbeats 4000000 in
theorem tX7_get {l : Launch} {D : va_G} {ct : Nat → ClassId} {tF : Nat} {wOf : Mm → va_W} {po ad : Nat → Nat} (hw : KM wOf po ad ct) (M : Mm) {v1 : Int32} {v2 : Int32} {r : Int64} (h : fX7_get (M.1 6) M.2.1 v1 v2 = some r) : CtL l yX7_get cX7_get 3 { frames := 2, cells := 0, slots := 0, locals := 45 } D ct tF wOf [.ref (ad 0), .int v1, .int v2] M r M := by
  refine metL (by decide) (Nat.le_of_ble_eq_true rfl) fun κ X e1 eR e3 e4 hs => ?_
  subst e1; subst e3; subst e4
  unfold fX7_get at h
  refine z_sub (lv' := [(0, .ref (ad 0)), (1, .int v1), (2, .int v2)]) [0, 1, 2] rfl ?_
  refine z_iload_n X dX7_get_0 1 rfl rfl ?_
  obtain ⟨r1, hr1, h⟩ := ob h
  refine z_cSI (As := [.int v1]) (st := []) X (tX7_isList hw M hr1) w_586 msX7_isList (by rw [eR]; exact ⟨Nat.le_of_ble_eq_true rfl, Nat.le_of_ble_eq_true rfl⟩) ⟨rfl, rfl⟩ rfl (Nat.le_of_ble_eq_true rfl) rfl dX7_get_1 ?_
  refine z_if_eq (tgt := 39) X dX7_get_4 (by decide) (fun c4 => ?_) (fun c4 => ?_)
  · rw [if_pos c4] at h
    refine z_ldc2 X w_593 dX7_get_39 ?_
    have hq := Option.some.inj h
    subst hq
    exact z_lret hs dX7_get_42
  · rw [if_neg c4] at h
    refine z_iload_n X dX7_get_7 2 rfl rfl ?_
    refine z_i2l X dX7_get_8 ?_
    refine z_lconst (v := (0 : Int64)) X dX7_get_9 (by decide) ?_
    refine z_aload_n X dX7_get_10 0 rfl rfl ?_
    refine z_get (j := 8) (v := .ref (ad 6)) X inX7 rfl (by decide) w_584 (hw.1 _) rfl dX7_get_11 ?_
    refine z_iload_n X dX7_get_14 1 rfl rfl ?_
    obtain ⟨t2, ht2, h⟩ := ob h
    refine z_iald X (hw.2.2.2.2.2.2.1 _).1 (rd_ok ht2) dX7_get_15 ?_
    refine z_iconst (v := (nI 1)) X dX7_get_16 (by decide) ?_
    refine z_isub X dX7_get_17 ?_
    refine z_i2l X dX7_get_18 ?_
    obtain ⟨r3, hr3, h⟩ := ob h
    refine z_cSI (As := [.long (v2.toInt64), .long (0 : Int64), .long (((t2 - (nI 1))).toInt64)]) (st := []) X (tX7_in hw M hr3) w_472 msX7_in (by rw [eR]; exact ⟨Nat.le_of_ble_eq_true rfl, Nat.le_of_ble_eq_true rfl⟩) ⟨rfl, rfl⟩ rfl (Nat.le_of_ble_eq_true rfl) rfl dX7_get_19 ?_
    refine z_if_eq (tgt := 39) X dX7_get_22 (by decide) (fun c22 => ?_) (fun c22 => ?_)
    · rw [if_pos c22] at h
      refine z_ldc2 X w_593 dX7_get_39 ?_
      have hq := Option.some.inj h
      subst hq
      exact z_lret hs dX7_get_42
    · rw [if_neg c22] at h
      refine z_aload_n X dX7_get_25 0 rfl rfl ?_
      refine z_get (j := 7) (v := .ref (ad 5)) X inX7 rfl (by decide) w_585 (hw.1 _) rfl dX7_get_26 ?_
      refine z_bipush (v := (nI 20)) X dX7_get_29 (by decide) ?_
      refine z_iload_n X dX7_get_31 1 rfl rfl ?_
      refine z_imul X dX7_get_32 ?_
      refine z_iload_n X dX7_get_33 2 rfl rfl ?_
      refine z_iadd X dX7_get_34 ?_
      obtain ⟨t4, ht4, h⟩ := ob h
      refine z_lald X (hw.2.2.2.2.2.1 _).1 (rd_ok ht4) dX7_get_35 ?_
      refine z_goto (tgt := 42) X dX7_get_36 (by decide) ?_
      have hq := Option.some.inj h
      subst hq
      exact z_lret hs dX7_get_42
set_option maxHeartbeats 4000000 in
theorem jX7_play_J108 {κ : Rx} {ct : Nat → ClassId} {tF : Nat} {po ad : Nat → Nat} (X : CX κ ct tF cX7_play 6 RX7) (eR : kR κ = { frames := 21, cells := 0, slots := 0, locals := 2165 }) (hw : KM (kw κ) po ad ct) (M : Mm) (a_stepNodes : Nat → Int32) (a_stepTree : Nat → Int32) (a_parent : Nat → Int32) (a_left : Nat → Int32) (a_right : Nat → Int32) (a_leftSize : Nat → Int32) (a_above : Nat → Int32) (s_nodes : Int32) (s_tree : Int32) (s_steps : Int32) (s_read : Int32)  (v1 : Int32) (v2 : Int32) (k0 : Int32) (s : ((Int32 × (Nat → Int32) × (Nat → Int32) × (Nat → Int32) × (Nat → Int32) × (Nat → Int32) × (Nat → Int32) × (Nat → Int32) × Int32 × Int32 × Int32 × Int32) ⊕ (((Nat → Int32) × (Nat → Int32) × (Nat → Int32) × (Nat → Int32) × (Nat → Int32) × (Nat → Int32) × (Nat → Int32) × Int32 × Int32 × Int32 × Int32) ⊕ (Int32 × (Nat → Int32) × (Nat → Int32) × (Nat → Int32) × (Nat → Int32) × (Nat → Int32) × (Nat → Int32) × (Nat → Int32) × Int32 × Int32 × Int32 × Int32)))) (h : fX7_play_J108 a_stepNodes a_stepTree (M.1 6) a_parent a_left a_right a_leftSize a_above M.2.1 s_nodes s_tree s_steps s_read v1 v2 k0 = some s) (hs : (Sum.elim (fun x => Zj κ 6 23 [(0, .ref (ad 0)), (1, .int v1), (2, .int x.1)] [] (mk M [(3, x.2.1), (4, x.2.2.1), (11, x.2.2.2.1), (12, x.2.2.2.2.1), (13, x.2.2.2.2.2.1), (14, x.2.2.2.2.2.2.1), (15, x.2.2.2.2.2.2.2.1)] M.2.1 [(40, x.2.2.2.2.2.2.2.2.1), (41, x.2.2.2.2.2.2.2.2.2.1), (42, x.2.2.2.2.2.2.2.2.2.2.1), (50, x.2.2.2.2.2.2.2.2.2.2.2)])) (Sum.elim (fun y => Zj κ 6 135 [(0, .ref (ad 0)), (1, .int v1)] [] (mk M [(3, y.1), (4, y.2.1), (11, y.2.2.1), (12, y.2.2.2.1), (13, y.2.2.2.2.1), (14, y.2.2.2.2.2.1), (15, y.2.2.2.2.2.2.1)] M.2.1 [(40, y.2.2.2.2.2.2.2.1), (41, y.2.2.2.2.2.2.2.2.1), (42, y.2.2.2.2.2.2.2.2.2.1), (50, y.2.2.2.2.2.2.2.2.2.2)])) (fun r => ZI κ cX7_play .int r.1 (mk M [(3, r.2.1), (4, r.2.2.1), (11, r.2.2.2.1), (12, r.2.2.2.2.1), (13, r.2.2.2.2.2.1), (14, r.2.2.2.2.2.2.1), (15, r.2.2.2.2.2.2.2.1)] M.2.1 [(40, r.2.2.2.2.2.2.2.2.1), (41, r.2.2.2.2.2.2.2.2.2.1), (42, r.2.2.2.2.2.2.2.2.2.2.1), (50, r.2.2.2.2.2.2.2.2.2.2.2)]))) s)) : Zj κ 6 108 [(0, .ref (ad 0)), (1, .int v1), (2, .int v2)] [.int k0] (mk M [(3, a_stepNodes), (4, a_stepTree), (11, a_parent), (12, a_left), (13, a_right), (14, a_leftSize), (15, a_above)] M.2.1 [(40, s_nodes), (41, s_tree), (42, s_steps), (50, s_read)]) := by
  unfold fX7_play_J108 at h
  refine z_istore (lv' := [(5, .int k0), (0, .ref (ad 0)), (1, .int v1), (2, .int v2)]) X dX7_play_108 (by decide) rfl ?_
  refine z_iload X dX7_play_110 0 rfl ?_
  refine z_bipush (v := (-5 : Int32)) X dX7_play_112 (by decide) ?_
  refine z_icmp_ne (tgt := 119) X dX7_play_114 (by decide) (fun c114 => ?_) (fun c114 => ?_)
  · rw [if_neg c114] at h
    refine z_aload_n X dX7_play_119 1 rfl rfl ?_
    refine z_aload_n X dX7_play_120 1 rfl rfl ?_
    refine z_get (j := 0) (v := .int s_nodes) X inX7 rfl (by decide) w_502 (hw.1 _) rfl dX7_play_121 ?_
    refine z_iload X dX7_play_124 0 rfl ?_
    obtain ⟨r1, hr1, h⟩ := ob h
    refine z_cVV (As := [.int s_nodes, .int k0]) (st := []) X (tX7_becomes hw (mk M [(3, a_stepNodes), (4, a_stepTree), (11, a_parent), (12, a_left), (13, a_right), (14, a_leftSize), (15, a_above)] M.2.1 [(40, s_nodes), (41, s_tree), (42, s_steps), (50, s_read)]) hr1) w_512 mvX7_becomes (by rw [eR]; exact ⟨Nat.le_of_ble_eq_true rfl, Nat.le_of_ble_eq_true rfl⟩) ⟨rfl, rfl⟩ rfl (Nat.le_of_ble_eq_true rfl) (hw.1 _) rfl rfl dX7_play_126 ?_
    refine z_mem (mk_mk (l' := [(3, r1.1), (4, r1.2.1), (11, a_parent), (12, a_left), (13, a_right), (14, a_leftSize), (15, a_above)]) (sl' := [(40, r1.2.2.1), (41, r1.2.2.2.1), (42, r1.2.2.2.2), (50, s_read)]) rfl rfl rfl rfl) ?_
    refine z_iinc (v := (v2 + nI 1)) (lv' := [(2, .int (v2 + nI 1)), (5, .int k0), (0, .ref (ad 0)), (1, .int v1)]) X dX7_play_129 3 rfl rfl (by decide) rfl ?_
    refine z_goto (tgt := 23) X dX7_play_132 (by decide) ?_
    have hq := Option.some.inj h
    subst hq
    exact z_sub [2, 3, 0] rfl hs
  · rw [if_pos c114] at h
    refine z_iload_n X dX7_play_117 3 rfl rfl ?_
    have hq := Option.some.inj h
    subst hq
    exact z_iret hs dX7_play_118 rfl
set_option maxHeartbeats 4000000 in
theorem bX7_play_B23 {κ : Rx} {ct : Nat → ClassId} {tF : Nat} {po ad : Nat → Nat} (X : CX κ ct tF cX7_play 6 RX7) (eR : kR κ = { frames := 21, cells := 0, slots := 0, locals := 2165 }) (hw : KM (kw κ) po ad ct) (M : Mm)  (v1 : Int32) : ∀ (x : (Int32 × (Nat → Int32) × (Nat → Int32) × (Nat → Int32) × (Nat → Int32) × (Nat → Int32) × (Nat → Int32) × (Nat → Int32) × Int32 × Int32 × Int32 × Int32)) (s : (Int32 × (Nat → Int32) × (Nat → Int32) × (Nat → Int32) × (Nat → Int32) × (Nat → Int32) × (Nat → Int32) × (Nat → Int32) × Int32 × Int32 × Int32 × Int32) ⊕ (((Nat → Int32) × (Nat → Int32) × (Nat → Int32) × (Nat → Int32) × (Nat → Int32) × (Nat → Int32) × (Nat → Int32) × Int32 × Int32 × Int32 × Int32) ⊕ (Int32 × (Nat → Int32) × (Nat → Int32) × (Nat → Int32) × (Nat → Int32) × (Nat → Int32) × (Nat → Int32) × (Nat → Int32) × Int32 × Int32 × Int32 × Int32))), fX7_play_B23 (M.1 6) M.2.1 v1 x = some s → Sum.elim (fun x => Zj κ 6 23 [(0, .ref (ad 0)), (1, .int v1), (2, .int x.1)] [] (mk M [(3, x.2.1), (4, x.2.2.1), (11, x.2.2.2.1), (12, x.2.2.2.2.1), (13, x.2.2.2.2.2.1), (14, x.2.2.2.2.2.2.1), (15, x.2.2.2.2.2.2.2.1)] M.2.1 [(40, x.2.2.2.2.2.2.2.2.1), (41, x.2.2.2.2.2.2.2.2.2.1), (42, x.2.2.2.2.2.2.2.2.2.2.1), (50, x.2.2.2.2.2.2.2.2.2.2.2)])) (Sum.elim (fun y => Zj κ 6 135 [(0, .ref (ad 0)), (1, .int v1)] [] (mk M [(3, y.1), (4, y.2.1), (11, y.2.2.1), (12, y.2.2.2.1), (13, y.2.2.2.2.1), (14, y.2.2.2.2.2.1), (15, y.2.2.2.2.2.2.1)] M.2.1 [(40, y.2.2.2.2.2.2.2.1), (41, y.2.2.2.2.2.2.2.2.1), (42, y.2.2.2.2.2.2.2.2.2.1), (50, y.2.2.2.2.2.2.2.2.2.2)])) (fun r => ZI κ cX7_play .int r.1 (mk M [(3, r.2.1), (4, r.2.2.1), (11, r.2.2.2.1), (12, r.2.2.2.2.1), (13, r.2.2.2.2.2.1), (14, r.2.2.2.2.2.2.1), (15, r.2.2.2.2.2.2.2.1)] M.2.1 [(40, r.2.2.2.2.2.2.2.2.1), (41, r.2.2.2.2.2.2.2.2.2.1), (42, r.2.2.2.2.2.2.2.2.2.2.1), (50, r.2.2.2.2.2.2.2.2.2.2.2)]))) s → Zj κ 6 23 [(0, .ref (ad 0)), (1, .int v1), (2, .int x.1)] [] (mk M [(3, x.2.1), (4, x.2.2.1), (11, x.2.2.2.1), (12, x.2.2.2.2.1), (13, x.2.2.2.2.2.1), (14, x.2.2.2.2.2.2.1), (15, x.2.2.2.2.2.2.2.1)] M.2.1 [(40, x.2.2.2.2.2.2.2.2.1), (41, x.2.2.2.2.2.2.2.2.2.1), (42, x.2.2.2.2.2.2.2.2.2.2.1), (50, x.2.2.2.2.2.2.2.2.2.2.2)]) := by
  intro x s h hs
  unfold fX7_play_B23 at h
  refine z_iload_n X dX7_play_23 2 rfl rfl ?_
  refine z_aload_n X dX7_play_24 0 rfl rfl ?_
  refine z_get (j := 8) (v := .ref (ad 6)) X inX7 rfl (by decide) w_584 (hw.1 _) rfl dX7_play_25 ?_
  refine z_iload_n X dX7_play_28 1 rfl rfl ?_
  obtain ⟨t1, ht1, h⟩ := ob h
  refine z_iald X (hw.2.2.2.2.2.2.1 _).1 (rd_ok ht1) dX7_play_29 ?_
  refine z_icmp_ge (tgt := 135) X dX7_play_30 (by decide) (fun c30 => ?_) (fun c30 => ?_)
  · rw [if_pos c30] at h
    have hq := Option.some.inj h
    subst hq
    exact z_sub [0, 1] rfl hs
  · rw [if_neg c30] at h
    refine z_aload_n X dX7_play_33 0 rfl rfl ?_
    refine z_get (j := 7) (v := .ref (ad 5)) X inX7 rfl (by decide) w_585 (hw.1 _) rfl dX7_play_34 ?_
    refine z_bipush (v := (nI 20)) X dX7_play_37 (by decide) ?_
    refine z_iload_n X dX7_play_39 1 rfl rfl ?_
    refine z_imul X dX7_play_40 ?_
    refine z_iload_n X dX7_play_41 2 rfl rfl ?_
    refine z_iadd X dX7_play_42 ?_
    obtain ⟨t2, ht2, h⟩ := ob h
    refine z_lald X (hw.2.2.2.2.2.1 _).1 (rd_ok ht2) dX7_play_43 ?_
    refine z_lstore_n (lv' := [(3, .long t2), (0, .ref (ad 0)), (1, .int v1), (2, .int x.1)]) X dX7_play_44 rfl (by decide) rfl ?_
    refine z_lload_n X dX7_play_45 0 rfl rfl ?_
    refine z_aload_n X dX7_play_46 1 rfl rfl ?_
    refine z_get (j := 0) (v := .int x.2.2.2.2.2.2.2.2.1) X inX7 rfl (by decide) w_502 (hw.1 _) rfl dX7_play_47 ?_
    refine z_ineg X dX7_play_50 ?_
    refine z_i2l X dX7_play_51 ?_
    refine z_aload_n X dX7_play_52 1 rfl rfl ?_
    refine z_get (j := 0) (v := .int x.2.2.2.2.2.2.2.2.1) X inX7 rfl (by decide) w_502 (hw.1 _) rfl dX7_play_53 ?_
    refine z_iconst (v := (nI 1)) X dX7_play_56 (by decide) ?_
    refine z_isub X dX7_play_57 ?_
    refine z_i2l X dX7_play_58 ?_
    obtain ⟨r3, hr3, h⟩ := ob h
    refine z_cSI (As := [.long t2, .long (((0 - x.2.2.2.2.2.2.2.2.1)).toInt64), .long (((x.2.2.2.2.2.2.2.2.1 - (nI 1))).toInt64)]) (st := []) X (tX7_in hw (mk M [(3, x.2.1), (4, x.2.2.1), (11, x.2.2.2.1), (12, x.2.2.2.2.1), (13, x.2.2.2.2.2.1), (14, x.2.2.2.2.2.2.1), (15, x.2.2.2.2.2.2.2.1)] M.2.1 [(40, x.2.2.2.2.2.2.2.2.1), (41, x.2.2.2.2.2.2.2.2.2.1), (42, x.2.2.2.2.2.2.2.2.2.2.1), (50, x.2.2.2.2.2.2.2.2.2.2.2)]) hr3) w_472 msX7_in (by rw [eR]; exact ⟨Nat.le_of_ble_eq_true rfl, Nat.le_of_ble_eq_true rfl⟩) ⟨rfl, rfl⟩ rfl (Nat.le_of_ble_eq_true rfl) rfl dX7_play_59 ?_
    refine z_if_ne (tgt := 67) X dX7_play_62 (by decide) (fun c62 => ?_) (fun c62 => ?_)
    · rw [if_neg c62] at h
      refine z_lload_n X dX7_play_67 0 rfl rfl ?_
      refine z_lconst (v := (0 : Int64)) X dX7_play_68 (by decide) ?_
      refine z_lcmp X dX7_play_69 ?_
      refine z_if_lt (tgt := 90) X dX7_play_70 (by decide) (fun c70 => ?_) (fun c70 => ?_)
      · rw [if_pos c70] at h
        refine z_aload_n X dX7_play_90 1 rfl rfl ?_
        refine z_aload_n X dX7_play_91 1 rfl rfl ?_
        refine z_get (j := 1) (v := .int x.2.2.2.2.2.2.2.2.2.1) X inX7 rfl (by decide) w_506 (hw.1 _) rfl dX7_play_92 ?_
        refine z_aload_n X dX7_play_95 1 rfl rfl ?_
        refine z_get (j := 0) (v := .int x.2.2.2.2.2.2.2.2.1) X inX7 rfl (by decide) w_502 (hw.1 _) rfl dX7_play_96 ?_
        refine z_ldc2 X w_594 dX7_play_99 ?_
        refine z_lload_n X dX7_play_102 0 rfl rfl ?_
        refine z_lsub X dX7_play_103 ?_
        refine z_l2i X dX7_play_104 ?_
        obtain ⟨r4, hr4, h⟩ := ob h
        refine z_cVI (As := [.int x.2.2.2.2.2.2.2.2.2.1, .int x.2.2.2.2.2.2.2.2.1, .int ((((-1 : Int64) - t2)).toInt32)]) (st := []) X (tX7_down hw (mk M [(3, x.2.1), (4, x.2.2.1), (11, x.2.2.2.1), (12, x.2.2.2.2.1), (13, x.2.2.2.2.2.1), (14, x.2.2.2.2.2.2.1), (15, x.2.2.2.2.2.2.2.1)] M.2.1 [(40, x.2.2.2.2.2.2.2.2.1), (41, x.2.2.2.2.2.2.2.2.2.1), (42, x.2.2.2.2.2.2.2.2.2.2.1), (50, x.2.2.2.2.2.2.2.2.2.2.2)]) hr4) w_529 mvX7_down (by rw [eR]; exact ⟨Nat.le_of_ble_eq_true rfl, Nat.le_of_ble_eq_true rfl⟩) ⟨rfl, rfl⟩ rfl (Nat.le_of_ble_eq_true rfl) (hw.1 _) rfl rfl dX7_play_105 ?_
        refine z_mem (mk_mk (l' := [(3, x.2.1), (4, x.2.2.1), (11, r4.2.1), (12, r4.2.2.1), (13, r4.2.2.2.1), (14, r4.2.2.2.2.1), (15, r4.2.2.2.2.2.1)]) (sl' := [(40, x.2.2.2.2.2.2.2.2.1), (41, x.2.2.2.2.2.2.2.2.2.1), (42, x.2.2.2.2.2.2.2.2.2.2.1), (50, r4.2.2.2.2.2.2)]) rfl rfl rfl rfl) ?_
        exact z_sub [1, 2, 3] rfl (jX7_play_J108 X eR hw M x.2.1 x.2.2.1 r4.2.1 r4.2.2.1 r4.2.2.2.1 r4.2.2.2.2.1 r4.2.2.2.2.2.1 x.2.2.2.2.2.2.2.2.1 x.2.2.2.2.2.2.2.2.2.1 x.2.2.2.2.2.2.2.2.2.2.1 r4.2.2.2.2.2.2 v1 x.1 r4.1 _ h hs)
      · rw [if_neg c70] at h
        refine z_aload_n X dX7_play_73 1 rfl rfl ?_
        refine z_aload_n X dX7_play_74 1 rfl rfl ?_
        refine z_get (j := 1) (v := .int x.2.2.2.2.2.2.2.2.2.1) X inX7 rfl (by decide) w_506 (hw.1 _) rfl dX7_play_75 ?_
        refine z_aload_n X dX7_play_78 1 rfl rfl ?_
        refine z_get (j := 0) (v := .int x.2.2.2.2.2.2.2.2.1) X inX7 rfl (by decide) w_502 (hw.1 _) rfl dX7_play_79 ?_
        refine z_lload_n X dX7_play_82 0 rfl rfl ?_
        refine z_l2i X dX7_play_83 ?_
        obtain ⟨r5, hr5, h⟩ := ob h
        refine z_cVI (As := [.int x.2.2.2.2.2.2.2.2.2.1, .int x.2.2.2.2.2.2.2.2.1, .int ((t2).toInt32)]) (st := []) X (tX7_up hw (mk M [(3, x.2.1), (4, x.2.2.1), (11, x.2.2.2.1), (12, x.2.2.2.2.1), (13, x.2.2.2.2.2.1), (14, x.2.2.2.2.2.2.1), (15, x.2.2.2.2.2.2.2.1)] M.2.1 [(40, x.2.2.2.2.2.2.2.2.1), (41, x.2.2.2.2.2.2.2.2.2.1), (42, x.2.2.2.2.2.2.2.2.2.2.1), (50, x.2.2.2.2.2.2.2.2.2.2.2)]) hr5) w_525 mvX7_up (by rw [eR]; exact ⟨Nat.le_of_ble_eq_true rfl, Nat.le_of_ble_eq_true rfl⟩) ⟨rfl, rfl⟩ rfl (Nat.le_of_ble_eq_true rfl) (hw.1 _) rfl rfl dX7_play_84 ?_
        refine z_mem (mk_mk (l' := [(3, x.2.1), (4, x.2.2.1), (11, r5.2.1), (12, r5.2.2.1), (13, r5.2.2.2.1), (14, r5.2.2.2.2.1), (15, r5.2.2.2.2.2.1)]) (sl' := [(40, x.2.2.2.2.2.2.2.2.1), (41, x.2.2.2.2.2.2.2.2.2.1), (42, x.2.2.2.2.2.2.2.2.2.2.1), (50, r5.2.2.2.2.2.2)]) rfl rfl rfl rfl) ?_
        refine z_goto (tgt := 108) X dX7_play_87 (by decide) ?_
        exact z_sub [1, 2, 3] rfl (jX7_play_J108 X eR hw M x.2.1 x.2.2.1 r5.2.1 r5.2.2.1 r5.2.2.2.1 r5.2.2.2.2.1 r5.2.2.2.2.2.1 x.2.2.2.2.2.2.2.2.1 x.2.2.2.2.2.2.2.2.2.1 x.2.2.2.2.2.2.2.2.2.2.1 r5.2.2.2.2.2.2 v1 x.1 r5.1 _ h hs)
    · rw [if_pos c62] at h
      refine z_iload_n X dX7_play_65 3 rfl rfl ?_
      have hq := Option.some.inj h
      subst hq
      exact z_iret hs dX7_play_66 rfl
set_option maxHeartbeats 4000000 in
theorem tX7_play {l : Launch} {D : va_G} {ct : Nat → ClassId} {tF : Nat} {wOf : Mm → va_W} {po ad : Nat → Nat} (hw : KM wOf po ad ct) (M : Mm) {v1 : Int32} {r : (Int32 × (Nat → Int32) × (Nat → Int32) × (Nat → Int32) × (Nat → Int32) × (Nat → Int32) × (Nat → Int32) × (Nat → Int32) × Int32 × Int32 × Int32 × Int32)} (h : fX7_play (M.1 3) (M.1 4) (M.1 6) (M.1 11) (M.1 12) (M.1 13) (M.1 14) (M.1 15) M.2.1 (M.2.2 40) (M.2.2 41) (M.2.2 42) (M.2.2 50) v1 = some r) : CtI l yX7_play cX7_play 6 .int { frames := 21, cells := 0, slots := 0, locals := 2165 } D ct tF wOf [.ref (ad 0), .int v1] M r.1 (mk M [(3, r.2.1), (4, r.2.2.1), (11, r.2.2.2.1), (12, r.2.2.2.2.1), (13, r.2.2.2.2.2.1), (14, r.2.2.2.2.2.2.1), (15, r.2.2.2.2.2.2.2.1)] M.2.1 [(40, r.2.2.2.2.2.2.2.2.1), (41, r.2.2.2.2.2.2.2.2.2.1), (42, r.2.2.2.2.2.2.2.2.2.2.1), (50, r.2.2.2.2.2.2.2.2.2.2.2)]) := by
  refine metI (by decide) (Nat.le_of_ble_eq_true rfl) fun κ X e1 eR e3 e4 hs => ?_
  subst e1; subst e3; subst e4
  unfold fX7_play at h
  refine z_mem (mk_self M [3, 4, 11, 12, 13, 14, 15] [40, 41, 42, 50]) ?_
  refine z_sub (lv' := [(0, .ref (ad 0)), (1, .int v1)]) [0, 1] rfl ?_
  show Zj κ 6 0 _ _ (mk M [(3, (M.1 3)), (4, (M.1 4)), (11, (M.1 11)), (12, (M.1 12)), (13, (M.1 13)), (14, (M.1 14)), (15, (M.1 15))] M.2.1 [(40, (M.2.2 40)), (41, (M.2.2 41)), (42, (M.2.2 42)), (50, (M.2.2 50))])
  refine z_iload_n X dX7_play_0 1 rfl rfl ?_
  obtain ⟨r1, hr1, h⟩ := ob h
  refine z_cSI (As := [.int v1]) (st := []) X (tX7_isList hw (mk M [(3, (M.1 3)), (4, (M.1 4)), (11, (M.1 11)), (12, (M.1 12)), (13, (M.1 13)), (14, (M.1 14)), (15, (M.1 15))] M.2.1 [(40, (M.2.2 40)), (41, (M.2.2 41)), (42, (M.2.2 42)), (50, (M.2.2 50))]) hr1) w_586 msX7_isList (by rw [eR]; exact ⟨Nat.le_of_ble_eq_true rfl, Nat.le_of_ble_eq_true rfl⟩) ⟨rfl, rfl⟩ rfl (Nat.le_of_ble_eq_true rfl) rfl dX7_play_1 ?_
  refine z_if_ne (tgt := 9) X dX7_play_4 (by decide) (fun c4 => ?_) (fun c4 => ?_)
  · rw [if_neg c4] at h
    refine z_aload_n X dX7_play_9 0 rfl rfl ?_
    refine z_get (j := 8) (v := .ref (ad 6)) X inX7 rfl (by decide) w_584 (hw.1 _) rfl dX7_play_10 ?_
    refine z_iload_n X dX7_play_13 1 rfl rfl ?_
    obtain ⟨t2, ht2, h⟩ := ob h
    refine z_iald X (hw.2.2.2.2.2.2.1 _).1 (rd_ok ht2) dX7_play_14 ?_
    refine z_if_ge (tgt := 21) X dX7_play_15 (by decide) (fun c15 => ?_) (fun c15 => ?_)
    · rw [if_pos c15] at h
      refine z_iconst (v := (nI 0)) X dX7_play_21 (by decide) ?_
      refine z_istore_n (lv' := [(2, .int (nI 0)), (0, .ref (ad 0)), (1, .int v1)]) X dX7_play_22 rfl (by decide) rfl ?_
      refine z_sub [1, 2, 0] rfl ?_
      obtain ⟨y3_, hy3, h⟩ := ob h
      cases y3_ with
      | inl y3 =>
        rw [Sum.elim_inl] at h
        refine (it_Z (bX7_play_B23 X eR hw M v1) FU _ (.inl y3) hy3) ?_
        refine z_aload_n X dX7_play_135 0 rfl rfl ?_
        refine z_get (j := 8) (v := .ref (ad 6)) X inX7 rfl (by decide) w_584 (hw.1 _) rfl dX7_play_136 ?_
        refine z_iload_n X dX7_play_139 1 rfl rfl ?_
        obtain ⟨t4, ht4, h⟩ := ob h
        refine z_iald X (hw.2.2.2.2.2.2.1 _).1 (rd_ok ht4) dX7_play_140 ?_
        have hq := Option.some.inj h
        subst hq
        exact z_iret hs dX7_play_141 rfl
      | inr y3 =>
        rw [Sum.elim_inr] at h
        have hq := Option.some.inj h
        subst hq
        exact (it_Z (bX7_play_B23 X eR hw M v1) FU _ (.inr _) hy3) hs
    · rw [if_neg c15] at h
      refine z_bipush (v := (-11 : Int32)) X dX7_play_18 (by decide) ?_
      have hq := Option.some.inj h
      subst hq
      exact z_iret hs dX7_play_20 rfl
  · rw [if_pos c4] at h
    refine z_iconst (v := (-1 : Int32)) X dX7_play_7 (by decide) ?_
    have hq := Option.some.inj h
    subst hq
    exact z_iret hs dX7_play_8 rfl
set_option maxHeartbeats 4000000 in
theorem jX7_film_J162 {κ : Rx} {ct : Nat → ClassId} {tF : Nat} {po ad : Nat → Nat} (X : CX κ ct tF cX7_film 9 RX7) (eR : kR κ = { frames := 22, cells := 0, slots := 0, locals := 2195 }) (hw : KM (kw κ) po ad ct) (M : Mm) (a_listSize : Nat → Int32) (a_all : Nat → Int32) (a_parent : Nat → Int32) (a_left : Nat → Int32) (a_right : Nat → Int32) (a_leftSize : Nat → Int32) (a_above : Nat → Int32) (a_dist : Nat → Int32) (a_queue : Nat → Int32) (lo : Nat → Nat → Int64) (s_many : Int32) (s_tableOf : Int32) (s_read : Int32)  (v1 : Int32) (v4 : Int32) (v6 : Int32) (k0 : Int32) (s : ((Int32 × Int32 × (Nat → Int32) × (Nat → Int32) × (Nat → Int32) × (Nat → Int32) × (Nat → Int32) × (Nat → Int32) × (Nat → Nat → Int64) × Int32 × Int32 × Int32) ⊕ ((Nat → Int32) × (Nat → Int32) × (Nat → Int32) × (Nat → Int32) × (Nat → Int32) × (Nat → Int32) × (Nat → Nat → Int64) × Int32 × Int32 × Int32))) (h : fX7_film_J162 a_all a_parent a_left a_right a_leftSize a_above a_dist lo (M.2.2 40) s_many s_tableOf s_read v1 v4 v6 k0 = some s) (hs : (Sum.elim (fun x => Zj κ 9 76 [(0, .ref (ad 0)), (1, .int v1), (4, .int v4), (5, .int x.1), (6, .int x.2.1)] [] (mk M [(6, a_listSize), (10, x.2.2.1), (11, x.2.2.2.1), (12, x.2.2.2.2.1), (13, x.2.2.2.2.2.1), (14, x.2.2.2.2.2.2.1), (15, x.2.2.2.2.2.2.2.1), (16, a_dist), (17, a_queue)] x.2.2.2.2.2.2.2.2.1 [(48, x.2.2.2.2.2.2.2.2.2.1), (49, x.2.2.2.2.2.2.2.2.2.2.1), (50, x.2.2.2.2.2.2.2.2.2.2.2)])) (fun y => Zj κ 9 170 [(4, .int v4)] [] (mk M [(6, a_listSize), (10, y.1), (11, y.2.1), (12, y.2.2.1), (13, y.2.2.2.1), (14, y.2.2.2.2.1), (15, y.2.2.2.2.2.1), (16, a_dist), (17, a_queue)] y.2.2.2.2.2.2.1 [(48, y.2.2.2.2.2.2.2.1), (49, y.2.2.2.2.2.2.2.2.1), (50, y.2.2.2.2.2.2.2.2.2)])) s)) : Zj κ 9 162 [(0, .ref (ad 0)), (1, .int v1), (4, .int v4), (6, .int v6)] [.int k0] (mk M [(6, a_listSize), (10, a_all), (11, a_parent), (12, a_left), (13, a_right), (14, a_leftSize), (15, a_above), (16, a_dist), (17, a_queue)] lo [(48, s_many), (49, s_tableOf), (50, s_read)]) := by
  unfold fX7_film_J162 at h
  refine z_istore (lv' := [(5, .int k0), (0, .ref (ad 0)), (1, .int v1), (4, .int v4), (6, .int v6)]) X dX7_film_162 (by decide) rfl ?_
  refine z_iinc (v := (v6 + nI 1)) (lv' := [(6, .int (v6 + nI 1)), (5, .int k0), (0, .ref (ad 0)), (1, .int v1), (4, .int v4)]) X dX7_film_164 4 rfl rfl (by decide) rfl ?_
  refine z_goto (tgt := 76) X dX7_film_167 (by decide) ?_
  have hq := Option.some.inj h
  subst hq
  exact z_sub [2, 3, 4, 1, 0] rfl hs
set_option maxHeartbeats 4000000 in
theorem jX7_film_J127 {κ : Rx} {ct : Nat → ClassId} {tF : Nat} {po ad : Nat → Nat} (X : CX κ ct tF cX7_film 9 RX7) (eR : kR κ = { frames := 22, cells := 0, slots := 0, locals := 2195 }) (hw : KM (kw κ) po ad ct) (M : Mm) (a_listSize : Nat → Int32) (a_all : Nat → Int32) (a_parent : Nat → Int32) (a_left : Nat → Int32) (a_right : Nat → Int32) (a_leftSize : Nat → Int32) (a_above : Nat → Int32) (a_dist : Nat → Int32) (a_queue : Nat → Int32) (lo : Nat → Nat → Int64) (s_many : Int32) (s_tableOf : Int32) (s_read : Int32)  (v1 : Int32) (v4 : Int32) (v5 : Int32) (v6 : Int32) (v7 : Int32) (v8 : Int32) (k0 : Int64) (k1 : Int32) (s : ((Int32 × Int32 × (Nat → Int32) × (Nat → Int32) × (Nat → Int32) × (Nat → Int32) × (Nat → Int32) × (Nat → Int32) × (Nat → Nat → Int64) × Int32 × Int32 × Int32) ⊕ ((Nat → Int32) × (Nat → Int32) × (Nat → Int32) × (Nat → Int32) × (Nat → Int32) × (Nat → Int32) × (Nat → Nat → Int64) × Int32 × Int32 × Int32))) (h : fX7_film_J127 a_all a_parent a_left a_right a_leftSize a_above a_dist lo (M.2.2 40) s_many s_tableOf s_read v1 v4 v5 v6 v7 v8 k0 k1 = some s) (hs : (Sum.elim (fun x => Zj κ 9 76 [(0, .ref (ad 0)), (1, .int v1), (4, .int v4), (5, .int x.1), (6, .int x.2.1)] [] (mk M [(6, a_listSize), (10, x.2.2.1), (11, x.2.2.2.1), (12, x.2.2.2.2.1), (13, x.2.2.2.2.2.1), (14, x.2.2.2.2.2.2.1), (15, x.2.2.2.2.2.2.2.1), (16, a_dist), (17, a_queue)] x.2.2.2.2.2.2.2.2.1 [(48, x.2.2.2.2.2.2.2.2.2.1), (49, x.2.2.2.2.2.2.2.2.2.2.1), (50, x.2.2.2.2.2.2.2.2.2.2.2)])) (fun y => Zj κ 9 170 [(4, .int v4)] [] (mk M [(6, a_listSize), (10, y.1), (11, y.2.1), (12, y.2.2.1), (13, y.2.2.2.1), (14, y.2.2.2.2.1), (15, y.2.2.2.2.2.1), (16, a_dist), (17, a_queue)] y.2.2.2.2.2.2.1 [(48, y.2.2.2.2.2.2.2.1), (49, y.2.2.2.2.2.2.2.2.1), (50, y.2.2.2.2.2.2.2.2.2)])) s)) : Zj κ 9 127 [(0, .ref (ad 0)), (1, .int v1), (4, .int v4), (5, .int v5), (6, .int v6), (7, .int v7), (8, .int v8)] [.long k0, .int k1, .ref (ad 5)] (mk M [(6, a_listSize), (10, a_all), (11, a_parent), (12, a_left), (13, a_right), (14, a_leftSize), (15, a_above), (16, a_dist), (17, a_queue)] lo [(48, s_many), (49, s_tableOf), (50, s_read)]) := by
  unfold fX7_film_J127 at h
  obtain ⟨u1, hu1, h⟩ := ob h
  refine z_last (M' := (mk M [(6, a_listSize), (10, a_all), (11, a_parent), (12, a_left), (13, a_right), (14, a_leftSize), (15, a_above), (16, a_dist), (17, a_queue)] (pu lo [(0, u1)]) [(48, s_many), (49, s_tableOf), (50, s_read)])) X ((hw.2.2.2.2.2.1) _).1 (wrL_ok hu1) (mk_setL (hw.2.2.2.2.2.1) rfl) dX7_film_127 ?_
  refine z_iload X dX7_film_128 5 rfl ?_
  refine z_bipush (v := (nI 100)) X dX7_film_130 (by decide) ?_
  refine z_icmp_ge (tgt := 150) X dX7_film_132 (by decide) (fun c132 => ?_) (fun c132 => ?_)
  · rw [if_pos c132] at h
    refine z_aload_n X dX7_film_150 0 rfl rfl ?_
    refine z_iload X dX7_film_151 3 rfl ?_
    refine z_aload_n X dX7_film_153 0 rfl rfl ?_
    refine z_get (j := 0) (v := .int (M.2.2 40)) X inX7 rfl (by decide) w_502 (hw.1 _) rfl dX7_film_154 ?_
    refine z_iload X dX7_film_157 6 rfl ?_
    obtain ⟨r2, hr2, h⟩ := ob h
    refine z_cVI (As := [.int v5, .int (M.2.2 40), .int v8]) (st := []) X (tX7_down hw (mk M [(6, a_listSize), (10, a_all), (11, a_parent), (12, a_left), (13, a_right), (14, a_leftSize), (15, a_above), (16, a_dist), (17, a_queue)] (pu lo [(0, u1)]) [(48, s_many), (49, s_tableOf), (50, s_read)]) hr2) w_529 mvX7_down (by rw [eR]; exact ⟨Nat.le_of_ble_eq_true rfl, Nat.le_of_ble_eq_true rfl⟩) ⟨rfl, rfl⟩ rfl (Nat.le_of_ble_eq_true rfl) (hw.1 _) rfl rfl dX7_film_159 ?_
    refine z_mem (mk_mk (l' := [(6, a_listSize), (10, a_all), (11, r2.2.1), (12, r2.2.2.1), (13, r2.2.2.2.1), (14, r2.2.2.2.2.1), (15, r2.2.2.2.2.2.1), (16, a_dist), (17, a_queue)]) (sl' := [(48, s_many), (49, s_tableOf), (50, r2.2.2.2.2.2.2)]) rfl rfl rfl rfl) ?_
    exact z_sub [0, 1, 2, 4] rfl (jX7_film_J162 X eR hw M a_listSize a_all r2.2.1 r2.2.2.1 r2.2.2.2.1 r2.2.2.2.2.1 r2.2.2.2.2.2.1 a_dist a_queue (pu lo [(0, u1)]) s_many s_tableOf r2.2.2.2.2.2.2 v1 v4 v6 r2.1 _ h hs)
  · rw [if_neg c132] at h
    refine z_aload_n X dX7_film_135 0 rfl rfl ?_
    refine z_iload X dX7_film_136 3 rfl ?_
    refine z_aload_n X dX7_film_138 0 rfl rfl ?_
    refine z_get (j := 0) (v := .int (M.2.2 40)) X inX7 rfl (by decide) w_502 (hw.1 _) rfl dX7_film_139 ?_
    refine z_iload X dX7_film_142 6 rfl ?_
    obtain ⟨r3, hr3, h⟩ := ob h
    refine z_cVI (As := [.int v5, .int (M.2.2 40), .int v8]) (st := []) X (tX7_up hw (mk M [(6, a_listSize), (10, a_all), (11, a_parent), (12, a_left), (13, a_right), (14, a_leftSize), (15, a_above), (16, a_dist), (17, a_queue)] (pu lo [(0, u1)]) [(48, s_many), (49, s_tableOf), (50, s_read)]) hr3) w_525 mvX7_up (by rw [eR]; exact ⟨Nat.le_of_ble_eq_true rfl, Nat.le_of_ble_eq_true rfl⟩) ⟨rfl, rfl⟩ rfl (Nat.le_of_ble_eq_true rfl) (hw.1 _) rfl rfl dX7_film_144 ?_
    refine z_mem (mk_mk (l' := [(6, a_listSize), (10, a_all), (11, r3.2.1), (12, r3.2.2.1), (13, r3.2.2.2.1), (14, r3.2.2.2.2.1), (15, r3.2.2.2.2.2.1), (16, a_dist), (17, a_queue)]) (sl' := [(48, s_many), (49, s_tableOf), (50, r3.2.2.2.2.2.2)]) rfl rfl rfl rfl) ?_
    refine z_goto (tgt := 162) X dX7_film_147 (by decide) ?_
    exact z_sub [0, 1, 2, 4] rfl (jX7_film_J162 X eR hw M a_listSize a_all r3.2.1 r3.2.2.1 r3.2.2.2.1 r3.2.2.2.2.1 r3.2.2.2.2.2.1 a_dist a_queue (pu lo [(0, u1)]) s_many s_tableOf r3.2.2.2.2.2.2 v1 v4 v6 r3.1 _ h hs)
set_option maxHeartbeats 4000000 in
theorem bX7_film_B76 {κ : Rx} {ct : Nat → ClassId} {tF : Nat} {po ad : Nat → Nat} (X : CX κ ct tF cX7_film 9 RX7) (eR : kR κ = { frames := 22, cells := 0, slots := 0, locals := 2195 }) (hw : KM (kw κ) po ad ct) (M : Mm) (a_listSize : Nat → Int32) (a_dist : Nat → Int32) (a_queue : Nat → Int32) (v1 : Int32) (v4 : Int32) : ∀ (x : (Int32 × Int32 × (Nat → Int32) × (Nat → Int32) × (Nat → Int32) × (Nat → Int32) × (Nat → Int32) × (Nat → Int32) × (Nat → Nat → Int64) × Int32 × Int32 × Int32)) (s : (Int32 × Int32 × (Nat → Int32) × (Nat → Int32) × (Nat → Int32) × (Nat → Int32) × (Nat → Int32) × (Nat → Int32) × (Nat → Nat → Int64) × Int32 × Int32 × Int32) ⊕ ((Nat → Int32) × (Nat → Int32) × (Nat → Int32) × (Nat → Int32) × (Nat → Int32) × (Nat → Int32) × (Nat → Nat → Int64) × Int32 × Int32 × Int32)), fX7_film_B76 a_dist (M.2.2 40) v1 v4 x = some s → Sum.elim (fun x => Zj κ 9 76 [(0, .ref (ad 0)), (1, .int v1), (4, .int v4), (5, .int x.1), (6, .int x.2.1)] [] (mk M [(6, a_listSize), (10, x.2.2.1), (11, x.2.2.2.1), (12, x.2.2.2.2.1), (13, x.2.2.2.2.2.1), (14, x.2.2.2.2.2.2.1), (15, x.2.2.2.2.2.2.2.1), (16, a_dist), (17, a_queue)] x.2.2.2.2.2.2.2.2.1 [(48, x.2.2.2.2.2.2.2.2.2.1), (49, x.2.2.2.2.2.2.2.2.2.2.1), (50, x.2.2.2.2.2.2.2.2.2.2.2)])) (fun y => Zj κ 9 170 [(4, .int v4)] [] (mk M [(6, a_listSize), (10, y.1), (11, y.2.1), (12, y.2.2.1), (13, y.2.2.2.1), (14, y.2.2.2.2.1), (15, y.2.2.2.2.2.1), (16, a_dist), (17, a_queue)] y.2.2.2.2.2.2.1 [(48, y.2.2.2.2.2.2.2.1), (49, y.2.2.2.2.2.2.2.2.1), (50, y.2.2.2.2.2.2.2.2.2)])) s → Zj κ 9 76 [(0, .ref (ad 0)), (1, .int v1), (4, .int v4), (5, .int x.1), (6, .int x.2.1)] [] (mk M [(6, a_listSize), (10, x.2.2.1), (11, x.2.2.2.1), (12, x.2.2.2.2.1), (13, x.2.2.2.2.2.1), (14, x.2.2.2.2.2.2.1), (15, x.2.2.2.2.2.2.2.1), (16, a_dist), (17, a_queue)] x.2.2.2.2.2.2.2.2.1 [(48, x.2.2.2.2.2.2.2.2.2.1), (49, x.2.2.2.2.2.2.2.2.2.2.1), (50, x.2.2.2.2.2.2.2.2.2.2.2)]) := by
  intro x s h hs
  unfold fX7_film_B76 at h
  refine z_iload X dX7_film_76 4 rfl ?_
  refine z_iload X dX7_film_78 2 rfl ?_
  refine z_icmp_ge (tgt := 170) X dX7_film_80 (by decide) (fun c80 => ?_) (fun c80 => ?_)
  · rw [if_pos c80] at h
    have hq := Option.some.inj h
    subst hq
    exact z_sub [2] rfl hs
  · rw [if_neg c80] at h
    refine z_aload_n X dX7_film_83 0 rfl rfl ?_
    refine z_iload X dX7_film_84 3 rfl ?_
    obtain ⟨r1, hr1, h⟩ := ob h
    refine z_cVI (As := [.int x.1]) (st := []) X (tX7_firstTurn hw (mk M [(6, a_listSize), (10, x.2.2.1), (11, x.2.2.2.1), (12, x.2.2.2.2.1), (13, x.2.2.2.2.2.1), (14, x.2.2.2.2.2.2.1), (15, x.2.2.2.2.2.2.2.1), (16, a_dist), (17, a_queue)] x.2.2.2.2.2.2.2.2.1 [(48, x.2.2.2.2.2.2.2.2.2.1), (49, x.2.2.2.2.2.2.2.2.2.2.1), (50, x.2.2.2.2.2.2.2.2.2.2.2)]) hr1) w_565 mvX7_firstTurn (by rw [eR]; exact ⟨Nat.le_of_ble_eq_true rfl, Nat.le_of_ble_eq_true rfl⟩) ⟨rfl, rfl⟩ rfl (Nat.le_of_ble_eq_true rfl) (hw.1 _) rfl rfl dX7_film_86 ?_
    refine z_mem (mk_mk (l' := [(6, a_listSize), (10, r1.2.1), (11, r1.2.2.1), (12, r1.2.2.2.1), (13, r1.2.2.2.2.1), (14, r1.2.2.2.2.2.1), (15, r1.2.2.2.2.2.2.1), (16, a_dist), (17, a_queue)]) (sl' := [(48, r1.2.2.2.2.2.2.2.1), (49, r1.2.2.2.2.2.2.2.2.1), (50, r1.2.2.2.2.2.2.2.2.2)]) rfl rfl rfl rfl) ?_
    refine z_istore (lv' := [(7, .int r1.1), (0, .ref (ad 0)), (1, .int v1), (4, .int v4), (5, .int x.1), (6, .int x.2.1)]) X dX7_film_89 (by decide) rfl ?_
    refine z_iload X dX7_film_91 0 rfl ?_
    refine z_bipush (v := (nI 100)) X dX7_film_93 (by decide) ?_
    obtain ⟨t2, ht2, h⟩ := ob h
    refine z_irem X dX7_film_95 (rmo_ok ht2) ?_
    refine z_istore (lv' := [(8, .int t2), (7, .int r1.1), (0, .ref (ad 0)), (1, .int v1), (4, .int v4), (5, .int x.1), (6, .int x.2.1)]) X dX7_film_96 (by decide) rfl ?_
    refine z_aload_n X dX7_film_98 2 rfl rfl ?_
    refine z_get (j := 7) (v := .ref (ad 5)) X inX7 rfl (by decide) w_585 (hw.1 _) rfl dX7_film_99 ?_
    refine z_bipush (v := (nI 20)) X dX7_film_102 (by decide) ?_
    refine z_iload_n X dX7_film_104 3 rfl rfl ?_
    refine z_imul X dX7_film_105 ?_
    refine z_iload X dX7_film_106 6 rfl ?_
    refine z_iadd X dX7_film_108 ?_
    refine z_iload X dX7_film_109 1 rfl ?_
    refine z_bipush (v := (nI 100)) X dX7_film_111 (by decide) ?_
    refine z_icmp_ge (tgt := 122) X dX7_film_113 (by decide) (fun c113 => ?_) (fun c113 => ?_)
    · rw [if_pos c113] at h
      refine z_iconst (v := (-1 : Int32)) X dX7_film_122 (by decide) ?_
      refine z_iload X dX7_film_123 0 rfl ?_
      refine z_isub X dX7_film_125 ?_
      refine z_i2l X dX7_film_126 ?_
      exact z_sub [2, 3, 4, 5, 6, 1, 0] rfl (jX7_film_J127 X eR hw M a_listSize r1.2.1 r1.2.2.1 r1.2.2.2.1 r1.2.2.2.2.1 r1.2.2.2.2.2.1 r1.2.2.2.2.2.2.1 a_dist a_queue x.2.2.2.2.2.2.2.2.1 r1.2.2.2.2.2.2.2.1 r1.2.2.2.2.2.2.2.2.1 r1.2.2.2.2.2.2.2.2.2 v1 v4 x.1 x.2.1 r1.1 t2 ((((-1 : Int32) - t2)).toInt64) (((nI 20) * v1) + x.2.1) _ h hs)
    · rw [if_neg c113] at h
      refine z_iload X dX7_film_116 0 rfl ?_
      refine z_i2l X dX7_film_118 ?_
      refine z_goto (tgt := 127) X dX7_film_119 (by decide) ?_
      exact z_sub [2, 3, 4, 5, 6, 1, 0] rfl (jX7_film_J127 X eR hw M a_listSize r1.2.1 r1.2.2.1 r1.2.2.2.1 r1.2.2.2.2.1 r1.2.2.2.2.2.1 r1.2.2.2.2.2.2.1 a_dist a_queue x.2.2.2.2.2.2.2.2.1 r1.2.2.2.2.2.2.2.1 r1.2.2.2.2.2.2.2.2.1 r1.2.2.2.2.2.2.2.2.2 v1 v4 x.1 x.2.1 r1.1 t2 (t2.toInt64) (((nI 20) * v1) + x.2.1) _ h hs)
set_option maxHeartbeats 4000000 in
theorem tX7_film {l : Launch} {D : va_G} {ct : Nat → ClassId} {tF : Nat} {wOf : Mm → va_W} {po ad : Nat → Nat} (hw : KM wOf po ad ct) (M : Mm) {v1 : Int32} {v2 : Int32} {r : (Int32 × (Nat → Int32) × (Nat → Int32) × (Nat → Int32) × (Nat → Int32) × (Nat → Int32) × (Nat → Int32) × (Nat → Int32) × (Nat → Int32) × (Nat → Int32) × (Nat → Nat → Int64) × Int32 × Int32 × Int32)} (h : fX7_film (M.1 1) (M.1 2) (M.1 6) (M.1 10) (M.1 11) (M.1 12) (M.1 13) (M.1 14) (M.1 15) (M.1 16) (M.1 17) M.2.1 (M.2.2 40) (M.2.2 41) (M.2.2 48) (M.2.2 49) (M.2.2 50) v1 v2 = some r) : CtI l yX7_film cX7_film 9 .int { frames := 22, cells := 0, slots := 0, locals := 2195 } D ct tF wOf [.ref (ad 0), .int v1, .int v2] M r.1 (mk M [(6, r.2.1), (10, r.2.2.1), (11, r.2.2.2.1), (12, r.2.2.2.2.1), (13, r.2.2.2.2.2.1), (14, r.2.2.2.2.2.2.1), (15, r.2.2.2.2.2.2.2.1), (16, r.2.2.2.2.2.2.2.2.1), (17, r.2.2.2.2.2.2.2.2.2.1)] r.2.2.2.2.2.2.2.2.2.2.1 [(48, r.2.2.2.2.2.2.2.2.2.2.2.1), (49, r.2.2.2.2.2.2.2.2.2.2.2.2.1), (50, r.2.2.2.2.2.2.2.2.2.2.2.2.2)]) := by
  refine metI (by decide) (Nat.le_of_ble_eq_true rfl) fun κ X e1 eR e3 e4 hs => ?_
  subst e1; subst e3; subst e4
  unfold fX7_film at h
  refine z_mem (mk_self M [6, 10, 11, 12, 13, 14, 15, 16, 17] [48, 49, 50]) ?_
  refine z_sub (lv' := [(0, .ref (ad 0)), (1, .int v1), (2, .int v2)]) [0, 1, 2] rfl ?_
  show Zj κ 9 0 _ _ (mk M [(6, (M.1 6)), (10, (M.1 10)), (11, (M.1 11)), (12, (M.1 12)), (13, (M.1 13)), (14, (M.1 14)), (15, (M.1 15)), (16, (M.1 16)), (17, (M.1 17))] M.2.1 [(48, (M.2.2 48)), (49, (M.2.2 49)), (50, (M.2.2 50))])
  refine z_iload_n X dX7_film_0 1 rfl rfl ?_
  obtain ⟨r1, hr1, h⟩ := ob h
  refine z_cSI (As := [.int v1]) (st := []) X (tX7_isList hw (mk M [(6, (M.1 6)), (10, (M.1 10)), (11, (M.1 11)), (12, (M.1 12)), (13, (M.1 13)), (14, (M.1 14)), (15, (M.1 15)), (16, (M.1 16)), (17, (M.1 17))] M.2.1 [(48, (M.2.2 48)), (49, (M.2.2 49)), (50, (M.2.2 50))]) hr1) w_586 msX7_isList (by rw [eR]; exact ⟨Nat.le_of_ble_eq_true rfl, Nat.le_of_ble_eq_true rfl⟩) ⟨rfl, rfl⟩ rfl (Nat.le_of_ble_eq_true rfl) rfl dX7_film_1 ?_
  refine z_if_eq (tgt := 14) X dX7_film_4 (by decide) (fun c4 => ?_) (fun c4 => ?_)
  · rw [if_pos c4] at h
    refine z_iconst (v := (-1 : Int32)) X dX7_film_14 (by decide) ?_
    have hq := Option.some.inj h
    subst hq
    exact z_iret hs dX7_film_15 rfl
  · rw [if_neg c4] at h
    refine z_iload_n X dX7_film_7 2 rfl rfl ?_
    obtain ⟨r2, hr2, h⟩ := ob h
    refine z_cSI (As := [.int v2]) (st := []) X (tX7_isShelf hw (mk M [(6, (M.1 6)), (10, (M.1 10)), (11, (M.1 11)), (12, (M.1 12)), (13, (M.1 13)), (14, (M.1 14)), (15, (M.1 15)), (16, (M.1 16)), (17, (M.1 17))] M.2.1 [(48, (M.2.2 48)), (49, (M.2.2 49)), (50, (M.2.2 50))]) hr2) w_540 msX7_isShelf (by rw [eR]; exact ⟨Nat.le_of_ble_eq_true rfl, Nat.le_of_ble_eq_true rfl⟩) ⟨rfl, rfl⟩ rfl (Nat.le_of_ble_eq_true rfl) rfl dX7_film_8 ?_
    refine z_if_ne (tgt := 16) X dX7_film_11 (by decide) (fun c11 => ?_) (fun c11 => ?_)
    · rw [if_neg c11] at h
      refine z_aload_n X dX7_film_16 0 rfl rfl ?_
      refine z_iload_n X dX7_film_17 2 rfl rfl ?_
      obtain ⟨r3, hr3, h⟩ := ob h
      refine z_cVI (As := [.int v2]) (st := []) X (tX7_barOf hw (mk M [(6, (M.1 6)), (10, (M.1 10)), (11, (M.1 11)), (12, (M.1 12)), (13, (M.1 13)), (14, (M.1 14)), (15, (M.1 15)), (16, (M.1 16)), (17, (M.1 17))] M.2.1 [(48, (M.2.2 48)), (49, (M.2.2 49)), (50, (M.2.2 50))]) hr3) w_543 mvX7_barOf (by rw [eR]; exact ⟨Nat.le_of_ble_eq_true rfl, Nat.le_of_ble_eq_true rfl⟩) ⟨rfl, rfl⟩ rfl (Nat.le_of_ble_eq_true rfl) (hw.1 _) rfl rfl dX7_film_18 ?_
      refine z_istore_n (lv' := [(3, .int r3), (0, .ref (ad 0)), (1, .int v1), (2, .int v2)]) X dX7_film_21 rfl (by decide) rfl ?_
      refine z_iload_n X dX7_film_22 0 rfl rfl ?_
      refine z_if_eq (tgt := 28) X dX7_film_23 (by decide) (fun c23 => ?_) (fun c23 => ?_)
      · rw [if_pos c23] at h
        refine z_aload_n X dX7_film_28 1 rfl rfl ?_
        refine z_aload_n X dX7_film_29 1 rfl rfl ?_
        refine z_get (j := 3) (v := .ref (ad 2)) X inX7 rfl (by decide) w_547 (hw.1 _) rfl dX7_film_30 ?_
        refine z_iload_n X dX7_film_33 3 rfl rfl ?_
        obtain ⟨t4, ht4, h⟩ := ob h
        refine z_iald X (hw.2.2.1 _).1 (rd_ok ht4) dX7_film_34 ?_
        refine z_iconst (v := (nI 0)) X dX7_film_35 (by decide) ?_
        obtain ⟨r5, hr5, h⟩ := ob h
        refine z_cVV (As := [.int t4, .int (nI 0)]) (st := []) X (tX7_measure hw (mk M [(6, (M.1 6)), (10, (M.1 10)), (11, (M.1 11)), (12, (M.1 12)), (13, (M.1 13)), (14, (M.1 14)), (15, (M.1 15)), (16, (M.1 16)), (17, (M.1 17))] M.2.1 [(48, (M.2.2 48)), (49, (M.2.2 49)), (50, (M.2.2 50))]) hr5) w_561 mvX7_measure (by rw [eR]; exact ⟨Nat.le_of_ble_eq_true rfl, Nat.le_of_ble_eq_true rfl⟩) ⟨rfl, rfl⟩ rfl (Nat.le_of_ble_eq_true rfl) (hw.1 _) rfl rfl dX7_film_36 ?_
        refine z_mem (mk_mk (l' := [(6, (M.1 6)), (10, r5.1), (11, r5.2.1), (12, r5.2.2.1), (13, r5.2.2.2.1), (14, r5.2.2.2.2.1), (15, r5.2.2.2.2.2.1), (16, r5.2.2.2.2.2.2.1), (17, r5.2.2.2.2.2.2.2.1)]) (sl' := [(48, r5.2.2.2.2.2.2.2.2.1), (49, r5.2.2.2.2.2.2.2.2.2.1), (50, r5.2.2.2.2.2.2.2.2.2.2)]) rfl rfl rfl rfl) ?_
        refine z_aload_n X dX7_film_39 1 rfl rfl ?_
        refine z_get (j := 26) (v := .ref (ad 16)) X inX7 rfl (by decide) w_559 (hw.1 _) rfl dX7_film_40 ?_
        refine z_aload_n X dX7_film_43 1 rfl rfl ?_
        obtain ⟨r6, hr6, h⟩ := ob h
        refine z_cVI (As := []) (st := [.ref (ad 16)]) X (tX7_which hw (mk M [(6, (M.1 6)), (10, r5.1), (11, r5.2.1), (12, r5.2.2.1), (13, r5.2.2.2.1), (14, r5.2.2.2.2.1), (15, r5.2.2.2.2.2.1), (16, r5.2.2.2.2.2.2.1), (17, r5.2.2.2.2.2.2.2.1)] M.2.1 [(48, r5.2.2.2.2.2.2.2.2.1), (49, r5.2.2.2.2.2.2.2.2.2.1), (50, r5.2.2.2.2.2.2.2.2.2.2)]) hr6) w_516 mvX7_which (by rw [eR]; exact ⟨Nat.le_of_ble_eq_true rfl, Nat.le_of_ble_eq_true rfl⟩) ⟨rfl, rfl⟩ rfl (Nat.le_of_ble_eq_true rfl) (hw.1 _) rfl rfl dX7_film_44 ?_
        refine z_mem (mk_mk (l' := [(6, (M.1 6)), (10, r6.2.1), (11, r5.2.1), (12, r5.2.2.1), (13, r5.2.2.2.1), (14, r5.2.2.2.2.1), (15, r5.2.2.2.2.2.1), (16, r5.2.2.2.2.2.2.1), (17, r5.2.2.2.2.2.2.2.1)]) (sl' := [(48, r6.2.2.1), (49, r6.2.2.2), (50, r5.2.2.2.2.2.2.2.2.2.2)]) rfl rfl rfl rfl) ?_
        obtain ⟨t7, ht7, h⟩ := ob h
        refine z_iald X (hw.2.2.2.2.2.2.2.2.2.2.2.2.2.2.2.2.1 _).1 (rd_ok ht7) dX7_film_47 ?_
        refine z_istore (lv' := [(4, .int t7), (3, .int r3), (0, .ref (ad 0)), (1, .int v1), (2, .int v2)]) X dX7_film_48 (by decide) rfl ?_
        refine z_iload X dX7_film_50 0 rfl ?_
        refine z_bipush (v := (nI 20)) X dX7_film_52 (by decide) ?_
        refine z_icmp_le (tgt := 60) X dX7_film_54 (by decide) (fun c54 => ?_) (fun c54 => ?_)
        · rw [if_pos c54] at h
          refine z_aload_n X dX7_film_60 2 rfl rfl ?_
          refine z_iload_n X dX7_film_61 3 rfl rfl ?_
          refine z_iload X dX7_film_62 0 rfl ?_
          obtain ⟨r8, hr8, h⟩ := ob h
          refine z_cVV (As := [.int v1, .int t7]) (st := []) X (tX7_makes hw (mk M [(6, (M.1 6)), (10, r6.2.1), (11, r5.2.1), (12, r5.2.2.1), (13, r5.2.2.2.1), (14, r5.2.2.2.2.1), (15, r5.2.2.2.2.2.1), (16, r5.2.2.2.2.2.2.1), (17, r5.2.2.2.2.2.2.2.1)] M.2.1 [(48, r6.2.2.1), (49, r6.2.2.2), (50, r5.2.2.2.2.2.2.2.2.2.2)]) hr8) w_589 mvX7_makes (by rw [eR]; exact ⟨Nat.le_of_ble_eq_true rfl, Nat.le_of_ble_eq_true rfl⟩) ⟨rfl, rfl⟩ rfl (Nat.le_of_ble_eq_true rfl) (hw.1 _) rfl rfl dX7_film_64 ?_
          refine z_mem (mk_mk (l' := [(6, r8.1), (10, r6.2.1), (11, r5.2.1), (12, r5.2.2.1), (13, r5.2.2.2.1), (14, r5.2.2.2.2.1), (15, r5.2.2.2.2.2.1), (16, r5.2.2.2.2.2.2.1), (17, r5.2.2.2.2.2.2.2.1)]) (sl' := [(48, r6.2.2.1), (49, r6.2.2.2), (50, r5.2.2.2.2.2.2.2.2.2.2)]) rfl rfl rfl rfl) ?_
          refine z_aload_n X dX7_film_67 2 rfl rfl ?_
          refine z_get (j := 1) (v := .int (M.2.2 41)) X inX7 rfl (by decide) w_506 (hw.1 _) rfl dX7_film_68 ?_
          refine z_istore (lv' := [(5, .int (M.2.2 41)), (4, .int t7), (3, .int r3), (0, .ref (ad 0)), (1, .int v1), (2, .int v2)]) X dX7_film_71 (by decide) rfl ?_
          refine z_iconst (v := (nI 0)) X dX7_film_73 (by decide) ?_
          refine z_istore (lv' := [(6, .int (nI 0)), (5, .int (M.2.2 41)), (4, .int t7), (3, .int r3), (0, .ref (ad 0)), (1, .int v1), (2, .int v2)]) X dX7_film_74 (by decide) rfl ?_
          refine z_sub [4, 5, 2, 1, 0] rfl ?_
          obtain ⟨y9, hy9, h⟩ := ob h
          refine (it_Z (bX7_film_B76 X eR hw M r8.1 r5.2.2.2.2.2.2.1 r5.2.2.2.2.2.2.2.1 v1 t7) FU _ y9 hy9) ?_
          refine z_iload X dX7_film_170 0 rfl ?_
          have hq := Option.some.inj h
          subst hq
          exact z_iret hs dX7_film_172 rfl
        · rw [if_neg c54] at h
          refine z_bipush (v := (-4 : Int32)) X dX7_film_57 (by decide) ?_
          have hq := Option.some.inj h
          subst hq
          exact z_iret hs dX7_film_59 rfl
      · rw [if_neg c23] at h
        refine z_iload_n X dX7_film_26 0 rfl rfl ?_
        have hq := Option.some.inj h
        subst hq
        exact z_iret hs dX7_film_27 rfl
    · rw [if_pos c11] at h
      refine z_iconst (v := (-1 : Int32)) X dX7_film_14 (by decide) ?_
      have hq := Option.some.inj h
      subst hq
      exact z_iret hs dX7_film_15 rfl
set_option maxHeartbeats 4000000 in
theorem tX7_feed {l : Launch} {D : va_G} {ct : Nat → ClassId} {tF : Nat} {wOf : Mm → va_W} {po ad : Nat → Nat} (hw : KM wOf po ad ct) (M : Mm) {v1 : Int32} {r : (Int32 × (Nat → Int32) × Int32)} (h : fX7_feed (M.1 7) (M.2.2 43) v1 = some r) : CtI l yX7_feed cX7_feed 2 .int { frames := 1, cells := 0, slots := 0, locals := 25 } D ct tF wOf [.ref (ad 0), .int v1] M r.1 (mk M [(7, r.2.1)] M.2.1 [(43, r.2.2)]) := by
  refine metI (by decide) (Nat.le_of_ble_eq_true rfl) fun κ X e1 eR e3 e4 hs => ?_
  subst e1; subst e3; subst e4
  unfold fX7_feed at h
  refine z_mem (mk_self M [7] [43]) ?_
  refine z_sub (lv' := [(0, .ref (ad 0)), (1, .int v1)]) [0, 1] rfl ?_
  show Zj κ 2 0 _ _ (mk M [(7, (M.1 7))] M.2.1 [(43, (M.2.2 43))])
  refine z_iload_n X dX7_feed_0 1 rfl rfl ?_
  refine z_i2l X dX7_feed_1 ?_
  refine z_ldc2 X w_595 dX7_feed_2 ?_
  refine z_ldc2 X w_596 dX7_feed_5 ?_
  obtain ⟨r1, hr1, h⟩ := ob h
  refine z_cSI (As := [.long (v1.toInt64), .long (32 : Int64), .long (126 : Int64)]) (st := []) X (tX7_in hw (mk M [(7, (M.1 7))] M.2.1 [(43, (M.2.2 43))]) hr1) w_472 msX7_in (by rw [eR]; exact ⟨Nat.le_of_ble_eq_true rfl, Nat.le_of_ble_eq_true rfl⟩) ⟨rfl, rfl⟩ rfl (Nat.le_of_ble_eq_true rfl) rfl dX7_feed_8 ?_
  refine z_if_ne (tgt := 17) X dX7_feed_11 (by decide) (fun c11 => ?_) (fun c11 => ?_)
  · rw [if_neg c11] at h
    refine z_aload_n X dX7_feed_17 0 rfl rfl ?_
    refine z_get (j := 10) (v := .int (M.2.2 43)) X inX7 rfl (by decide) w_597 (hw.1 _) rfl dX7_feed_18 ?_
    refine z_bipush (v := (nI 60)) X dX7_feed_21 (by decide) ?_
    refine z_icmp_ne (tgt := 29) X dX7_feed_23 (by decide) (fun c23 => ?_) (fun c23 => ?_)
    · rw [if_neg c23] at h
      refine z_aload_n X dX7_feed_29 0 rfl rfl ?_
      refine z_get (j := 9) (v := .ref (ad 7)) X inX7 rfl (by decide) w_598 (hw.1 _) rfl dX7_feed_30 ?_
      refine z_aload_n X dX7_feed_33 0 rfl rfl ?_
      refine z_dup X dX7_feed_34 rfl ?_
      refine z_get (j := 10) (v := .int (M.2.2 43)) X inX7 rfl (by decide) w_597 (hw.1 _) rfl dX7_feed_35 ?_
      refine z_dup_x1 X dX7_feed_38 rfl rfl ?_
      refine z_iconst (v := (nI 1)) X dX7_feed_39 (by decide) ?_
      refine z_iadd X dX7_feed_40 ?_
      refine z_put (j := 10) (ty := .int) (M' := (mk M [(7, (M.1 7))] M.2.1 [(43, ((M.2.2 43) + (nI 1)))])) X inX7 tyX7 tyX7_ok nmX7 rfl (by decide) w_597 rfl (by decide +kernel) rfl rfl (hw.1 _) (Nat.le_of_ble_eq_true rfl) (mk_setS (sl' := [(43, ((M.2.2 43) + (nI 1)))]) (hw.2.2.2.2.2.2.2.2.2.2.2.2.2.2.2.2.2.2.2.2.2.2.2.2.1) rfl rfl) dX7_feed_41 ?_
      refine z_iload_n X dX7_feed_44 1 rfl rfl ?_
      obtain ⟨u2, hu2, h⟩ := ob h
      refine z_iast (M' := (mk M [(7, u2)] M.2.1 [(43, ((M.2.2 43) + (nI 1)))])) X (hw.2.2.2.2.2.2.2.1 _).1 (wr_ok hu2) (mk_set1 (l' := [(7, u2)]) (hw.2.2.2.2.2.2.2.1) rfl rfl) dX7_feed_45 ?_
      refine z_aload_n X dX7_feed_46 0 rfl rfl ?_
      refine z_get (j := 10) (v := .int ((M.2.2 43) + (nI 1))) X inX7 rfl (by decide) w_597 (hw.1 _) rfl dX7_feed_47 ?_
      have hq := Option.some.inj h
      subst hq
      exact z_iret hs dX7_feed_50 rfl
    · rw [if_pos c23] at h
      refine z_bipush (v := (-4 : Int32)) X dX7_feed_26 (by decide) ?_
      have hq := Option.some.inj h
      subst hq
      exact z_iret hs dX7_feed_28 rfl
  · rw [if_pos c11] at h
    refine z_bipush (v := (-2 : Int32)) X dX7_feed_14 (by decide) ?_
    have hq := Option.some.inj h
    subst hq
    exact z_iret hs dX7_feed_16 rfl
set_option maxHeartbeats 4000000 in
theorem tX7_wipe {l : Launch} {D : va_G} {ct : Nat → ClassId} {tF : Nat} {wOf : Mm → va_W} {po ad : Nat → Nat} (hw : KM wOf po ad ct) (M : Mm)  {r : (Int32 × Int32)} (h : fX7_wipe (M.2.2 43) = some r) : CtI l yX7_wipe cX7_wipe 2 .int { frames := 0, cells := 0, slots := 0, locals := 0 } D ct tF wOf [.ref (ad 0)] M r.1 (mk M [] M.2.1 [(43, r.2)]) := by
  refine metI (by decide) (Nat.le_of_ble_eq_true rfl) fun κ X e1 eR e3 e4 hs => ?_
  subst e1; subst e3; subst e4
  unfold fX7_wipe at h
  refine z_mem (mk_self M [] [43]) ?_
  refine z_sub (lv' := [(0, .ref (ad 0))]) [0] rfl ?_
  show Zj κ 2 0 _ _ (mk M [] M.2.1 [(43, (M.2.2 43))])
  refine z_aload_n X dX7_wipe_0 0 rfl rfl ?_
  refine z_get (j := 10) (v := .int (M.2.2 43)) X inX7 rfl (by decide) w_597 (hw.1 _) rfl dX7_wipe_1 ?_
  refine z_istore_n (lv' := [(1, .int (M.2.2 43)), (0, .ref (ad 0))]) X dX7_wipe_4 rfl (by decide) rfl ?_
  refine z_aload_n X dX7_wipe_5 1 rfl rfl ?_
  refine z_iconst (v := (nI 0)) X dX7_wipe_6 (by decide) ?_
  refine z_put (j := 10) (ty := .int) (M' := (mk M [] M.2.1 [(43, (nI 0))])) X inX7 tyX7 tyX7_ok nmX7 rfl (by decide) w_597 rfl (by decide +kernel) rfl rfl (hw.1 _) (Nat.le_of_ble_eq_true rfl) (mk_setS (sl' := [(43, (nI 0))]) (hw.2.2.2.2.2.2.2.2.2.2.2.2.2.2.2.2.2.2.2.2.2.2.2.2.1) rfl rfl) dX7_wipe_7 ?_
  refine z_iload_n X dX7_wipe_10 0 rfl rfl ?_
  have hq := Option.some.inj h
  subst hq
  exact z_iret hs dX7_wipe_11 rfl
set_option maxHeartbeats 4000000 in
theorem tX7_sign {l : Launch} {D : va_G} {ct : Nat → ClassId} {tF : Nat} {wOf : Mm → va_W} {po ad : Nat → Nat} (hw : KM wOf po ad ct) (M : Mm)  {r : Int32} (h : fX7_sign (M.1 7) (M.2.2 43) (M.2.2 44) = some r) : CtI l yX7_sign cX7_sign 1 .int { frames := 0, cells := 0, slots := 0, locals := 0 } D ct tF wOf [.ref (ad 0)] M r M := by
  refine metI (by decide) (Nat.le_of_ble_eq_true rfl) fun κ X e1 eR e3 e4 hs => ?_
  subst e1; subst e3; subst e4
  unfold fX7_sign at h
  refine z_sub (lv' := [(0, .ref (ad 0))]) [0] rfl ?_
  refine z_aload_n X dX7_sign_0 0 rfl rfl ?_
  refine z_get (j := 11) (v := .int (M.2.2 44)) X inX7 rfl (by decide) w_599 (hw.1 _) rfl dX7_sign_1 ?_
  refine z_aload_n X dX7_sign_4 0 rfl rfl ?_
  refine z_get (j := 10) (v := .int (M.2.2 43)) X inX7 rfl (by decide) w_597 (hw.1 _) rfl dX7_sign_5 ?_
  refine z_icmp_ge (tgt := 23) X dX7_sign_8 (by decide) (fun c8 => ?_) (fun c8 => ?_)
  · rw [if_pos c8] at h
    refine z_iconst (v := (-1 : Int32)) X dX7_sign_23 (by decide) ?_
    have hq := Option.some.inj h
    subst hq
    exact z_iret hs dX7_sign_24 rfl
  · rw [if_neg c8] at h
    refine z_aload_n X dX7_sign_11 0 rfl rfl ?_
    refine z_get (j := 9) (v := .ref (ad 7)) X inX7 rfl (by decide) w_598 (hw.1 _) rfl dX7_sign_12 ?_
    refine z_aload_n X dX7_sign_15 0 rfl rfl ?_
    refine z_get (j := 11) (v := .int (M.2.2 44)) X inX7 rfl (by decide) w_599 (hw.1 _) rfl dX7_sign_16 ?_
    obtain ⟨t1, ht1, h⟩ := ob h
    refine z_iald X (hw.2.2.2.2.2.2.2.1 _).1 (rd_ok ht1) dX7_sign_19 ?_
    refine z_goto (tgt := 24) X dX7_sign_20 (by decide) ?_
    have hq := Option.some.inj h
    subst hq
    exact z_iret hs dX7_sign_24 rfl
set_option maxHeartbeats 4000000 in
theorem tX7_sees {l : Launch} {D : va_G} {ct : Nat → ClassId} {tF : Nat} {wOf : Mm → va_W} {po ad : Nat → Nat} (hw : KM wOf po ad ct) : ∀ (d : Nat) (M : Mm) {v1 : Int32} {r : (Int32 × (Nat → Int32) × Int32 × Int32 × Int32 × Int32)}, fX7_sees d (M.1 7) (M.1 20) (M.2.2 43) (M.2.2 44) (M.2.2 52) (M.2.2 53) (M.2.2 54) v1 = some r → CtI l yX7_sees cX7_sees 4 .boolean { frames := d + 1, cells := 0, slots := 0, locals := 128 * d + 20 } D ct tF wOf [.ref (ad 0), .int v1] M r.1 (mk M [(20, r.2.1)] M.2.1 [(44, r.2.2.1), (52, r.2.2.2.1), (53, r.2.2.2.2.1), (54, r.2.2.2.2.2)]) := by
  intro d
  induction d with
  | zero => intro M v1 r h; rw [fX7_sees] at h; cases h
  | succ d ih =>
    intro M v1 r h
    refine metI (by decide) (Nat.le_of_ble_eq_true rfl) fun κ X e1 eR e3 e4 hs => ?_
    subst e1; subst e3; subst e4
    have h : fX7_sees (d + 1) (M.1 7) (M.1 20) (M.2.2 43) (M.2.2 44) (M.2.2 52) (M.2.2 53) (M.2.2 54) v1 = some r := h
    rw [fX7_sees] at h
    refine z_mem (mk_self M [20] [44, 52, 53, 54]) ?_
    refine z_sub (lv' := [(0, .ref (ad 0)), (1, .int v1)]) [0, 1] rfl ?_
    show Zj κ 4 0 _ _ (mk M [(20, (M.1 20))] M.2.1 [(44, (M.2.2 44)), (52, (M.2.2 52)), (53, (M.2.2 53)), (54, (M.2.2 54))])
    refine z_aload_n X dX7_sees_0 0 rfl rfl ?_
    obtain ⟨r1, hr1, h⟩ := ob h
    refine z_cVI (As := []) (st := []) X (tX7_sign hw (mk M [(20, (M.1 20))] M.2.1 [(44, (M.2.2 44)), (52, (M.2.2 52)), (53, (M.2.2 53)), (54, (M.2.2 54))]) hr1) w_600 mvX7_sign (by rw [eR]; exact ⟨by show _ + 1 ≤ _; dsimp only; omega, by dsimp only; omega⟩) ⟨rfl, rfl⟩ rfl (Nat.le_of_ble_eq_true rfl) (hw.1 _) rfl rfl dX7_sees_1 ?_
    refine z_bipush (v := (nI 46)) X dX7_sees_4 (by decide) ?_
    refine z_icmp_ne (tgt := 30) X dX7_sees_6 (by decide) (fun c6 => ?_) (fun c6 => ?_)
    · rw [if_neg c6] at h
      refine z_aload_n X dX7_sees_30 0 rfl rfl ?_
      obtain ⟨r2, hr2, h⟩ := ob h
      refine z_cVI (As := []) (st := []) X (tX7_sign hw (mk M [(20, (M.1 20))] M.2.1 [(44, (M.2.2 44)), (52, (M.2.2 52)), (53, (M.2.2 53)), (54, (M.2.2 54))]) hr2) w_600 mvX7_sign (by rw [eR]; exact ⟨by show _ + 1 ≤ _; dsimp only; omega, by dsimp only; omega⟩) ⟨rfl, rfl⟩ rfl (Nat.le_of_ble_eq_true rfl) (hw.1 _) rfl rfl dX7_sees_31 ?_
      refine z_bipush (v := (nI 40)) X dX7_sees_34 (by decide) ?_
      refine z_icmp_ne (tgt := 48) X dX7_sees_36 (by decide) (fun c36 => ?_) (fun c36 => ?_)
      · rw [if_neg c36] at h
        refine z_iconst (v := (nI 0)) X dX7_sees_48 (by decide) ?_
        have hq := Option.some.inj h
        subst hq
        exact z_iret hs dX7_sees_49 rfl
      · rw [if_pos c36] at h
        refine z_aload_n X dX7_sees_39 0 rfl rfl ?_
        refine z_get (j := 33) (v := .int (M.2.2 53)) X inX7 rfl (by decide) w_604 (hw.1 _) rfl dX7_sees_40 ?_
        refine z_bipush (v := (nI 7)) X dX7_sees_43 (by decide) ?_
        refine z_icmp_ne (tgt := 50) X dX7_sees_45 (by decide) (fun c45 => ?_) (fun c45 => ?_)
        · rw [if_neg c45] at h
          refine z_aload_n X dX7_sees_50 0 rfl rfl ?_
          refine z_dup X dX7_sees_51 rfl ?_
          refine z_get (j := 33) (v := .int (M.2.2 53)) X inX7 rfl (by decide) w_604 (hw.1 _) rfl dX7_sees_52 ?_
          refine z_iconst (v := (nI 1)) X dX7_sees_55 (by decide) ?_
          refine z_iadd X dX7_sees_56 ?_
          refine z_put (j := 33) (ty := .int) (M' := (mk M [(20, (M.1 20))] M.2.1 [(44, (M.2.2 44)), (52, (M.2.2 52)), (53, ((M.2.2 53) + (nI 1))), (54, (M.2.2 54))])) X inX7 tyX7 tyX7_ok nmX7 rfl (by decide) w_604 rfl (by decide +kernel) rfl rfl (hw.1 _) (Nat.le_of_ble_eq_true rfl) (mk_setS (sl' := [(44, (M.2.2 44)), (52, (M.2.2 52)), (53, ((M.2.2 53) + (nI 1))), (54, (M.2.2 54))]) (hw.2.2.2.2.2.2.2.2.2.2.2.2.2.2.2.2.2.2.2.2.2.2.2.2.2.2.2.2.2.2.2.2.2.2.1) rfl rfl) dX7_sees_57 ?_
          refine z_aload_n X dX7_sees_60 0 rfl rfl ?_
          refine z_dup X dX7_sees_61 rfl ?_
          refine z_get (j := 11) (v := .int (M.2.2 44)) X inX7 rfl (by decide) w_599 (hw.1 _) rfl dX7_sees_62 ?_
          refine z_iconst (v := (nI 1)) X dX7_sees_65 (by decide) ?_
          refine z_iadd X dX7_sees_66 ?_
          refine z_put (j := 11) (ty := .int) (M' := (mk M [(20, (M.1 20))] M.2.1 [(44, ((M.2.2 44) + (nI 1))), (52, (M.2.2 52)), (53, ((M.2.2 53) + (nI 1))), (54, (M.2.2 54))])) X inX7 tyX7 tyX7_ok nmX7 rfl (by decide) w_599 rfl (by decide +kernel) rfl rfl (hw.1 _) (Nat.le_of_ble_eq_true rfl) (mk_setS (sl' := [(44, ((M.2.2 44) + (nI 1))), (52, (M.2.2 52)), (53, ((M.2.2 53) + (nI 1))), (54, (M.2.2 54))]) (hw.2.2.2.2.2.2.2.2.2.2.2.2.2.2.2.2.2.2.2.2.2.2.2.2.2.1) rfl rfl) dX7_sees_67 ?_
          refine z_aload_n X dX7_sees_70 0 rfl rfl ?_
          refine z_iconst (v := (nI 1)) X dX7_sees_71 (by decide) ?_
          obtain ⟨r3, hr3, h⟩ := ob h
          refine z_cVI (As := [.int (nI 1)]) (st := []) X (ih (mk M [(20, (M.1 20))] M.2.1 [(44, ((M.2.2 44) + (nI 1))), (52, (M.2.2 52)), (53, ((M.2.2 53) + (nI 1))), (54, (M.2.2 54))]) hr3) w_605 mvX7_sees (by rw [eR]; exact ⟨by show _ + 1 ≤ _; dsimp only; omega, by dsimp only; omega⟩) ⟨rfl, rfl⟩ rfl (Nat.le_of_ble_eq_true rfl) (hw.1 _) rfl rfl dX7_sees_72 ?_
          refine z_mem (mk_mk (l' := [(20, r3.2.1)]) (sl' := [(44, r3.2.2.1), (52, r3.2.2.2.1), (53, r3.2.2.2.2.1), (54, r3.2.2.2.2.2)]) rfl rfl rfl rfl) ?_
          refine z_if_ne (tgt := 80) X dX7_sees_75 (by decide) (fun c75 => ?_) (fun c75 => ?_)
          · rw [if_neg c75] at h
            refine z_aload_n X dX7_sees_80 0 rfl rfl ?_
            refine z_get (j := 34) (v := .int r3.2.2.2.2.2) X inX7 rfl (by decide) w_609 (hw.1 _) rfl dX7_sees_81 ?_
            refine z_istore_n (lv' := [(2, .int r3.2.2.2.2.2), (0, .ref (ad 0)), (1, .int v1)]) X dX7_sees_84 rfl (by decide) rfl ?_
            refine z_aload_n X dX7_sees_85 1 rfl rfl ?_
            refine z_dup X dX7_sees_86 rfl ?_
            refine z_get (j := 31) (v := .int r3.2.2.2.1) X inX7 rfl (by decide) w_610 (hw.1 _) rfl dX7_sees_87 ?_
            refine z_dup_x1 X dX7_sees_90 rfl rfl ?_
            refine z_iconst (v := (nI 1)) X dX7_sees_91 (by decide) ?_
            refine z_iadd X dX7_sees_92 ?_
            refine z_put (j := 31) (ty := .int) (M' := (mk M [(20, r3.2.1)] M.2.1 [(44, r3.2.2.1), (52, (r3.2.2.2.1 + (nI 1))), (53, r3.2.2.2.2.1), (54, r3.2.2.2.2.2)])) X inX7 tyX7 tyX7_ok nmX7 rfl (by decide) w_610 rfl (by decide +kernel) rfl rfl (hw.1 _) (Nat.le_of_ble_eq_true rfl) (mk_setS (sl' := [(44, r3.2.2.1), (52, (r3.2.2.2.1 + (nI 1))), (53, r3.2.2.2.2.1), (54, r3.2.2.2.2.2)]) (hw.2.2.2.2.2.2.2.2.2.2.2.2.2.2.2.2.2.2.2.2.2.2.2.2.2.2.2.2.2.2.2.2.2.1) rfl rfl) dX7_sees_93 ?_
            refine z_istore_n (lv' := [(3, .int r3.2.2.2.1), (2, .int r3.2.2.2.2.2), (0, .ref (ad 0)), (1, .int v1)]) X dX7_sees_96 rfl (by decide) rfl ?_
            refine z_aload_n X dX7_sees_97 2 rfl rfl ?_
            refine z_iconst (v := (nI 1)) X dX7_sees_98 (by decide) ?_
            obtain ⟨r4, hr4, h⟩ := ob h
            refine z_cVI (As := [.int (nI 1)]) (st := []) X (ih (mk M [(20, r3.2.1)] M.2.1 [(44, r3.2.2.1), (52, (r3.2.2.2.1 + (nI 1))), (53, r3.2.2.2.2.1), (54, r3.2.2.2.2.2)]) hr4) w_605 mvX7_sees (by rw [eR]; exact ⟨by show _ + 1 ≤ _; dsimp only; omega, by dsimp only; omega⟩) ⟨rfl, rfl⟩ rfl (Nat.le_of_ble_eq_true rfl) (hw.1 _) rfl rfl dX7_sees_99 ?_
            refine z_mem (mk_mk (l' := [(20, r4.2.1)]) (sl' := [(44, r4.2.2.1), (52, r4.2.2.2.1), (53, r4.2.2.2.2.1), (54, r4.2.2.2.2.2)]) rfl rfl rfl rfl) ?_
            refine z_if_ne (tgt := 107) X dX7_sees_102 (by decide) (fun c102 => ?_) (fun c102 => ?_)
            · rw [if_neg c102] at h
              refine z_aload_n X dX7_sees_107 2 rfl rfl ?_
              obtain ⟨r5, hr5, h⟩ := ob h
              refine z_cVI (As := []) (st := []) X (tX7_sign hw (mk M [(20, r4.2.1)] M.2.1 [(44, r4.2.2.1), (52, r4.2.2.2.1), (53, r4.2.2.2.2.1), (54, r4.2.2.2.2.2)]) hr5) w_600 mvX7_sign (by rw [eR]; exact ⟨by show _ + 1 ≤ _; dsimp only; omega, by dsimp only; omega⟩) ⟨rfl, rfl⟩ rfl (Nat.le_of_ble_eq_true rfl) (hw.1 _) rfl rfl dX7_sees_108 ?_
              refine z_bipush (v := (nI 41)) X dX7_sees_111 (by decide) ?_
              refine z_icmp_eq (tgt := 118) X dX7_sees_113 (by decide) (fun c113 => ?_) (fun c113 => ?_)
              · rw [if_pos c113] at h
                refine z_aload_n X dX7_sees_118 2 rfl rfl ?_
                refine z_dup X dX7_sees_119 rfl ?_
                refine z_get (j := 11) (v := .int r4.2.2.1) X inX7 rfl (by decide) w_599 (hw.1 _) rfl dX7_sees_120 ?_
                refine z_iconst (v := (nI 1)) X dX7_sees_123 (by decide) ?_
                refine z_iadd X dX7_sees_124 ?_
                refine z_put (j := 11) (ty := .int) (M' := (mk M [(20, r4.2.1)] M.2.1 [(44, (r4.2.2.1 + (nI 1))), (52, r4.2.2.2.1), (53, r4.2.2.2.2.1), (54, r4.2.2.2.2.2)])) X inX7 tyX7 tyX7_ok nmX7 rfl (by decide) w_599 rfl (by decide +kernel) rfl rfl (hw.1 _) (Nat.le_of_ble_eq_true rfl) (mk_setS (sl' := [(44, (r4.2.2.1 + (nI 1))), (52, r4.2.2.2.1), (53, r4.2.2.2.2.1), (54, r4.2.2.2.2.2)]) (hw.2.2.2.2.2.2.2.2.2.2.2.2.2.2.2.2.2.2.2.2.2.2.2.2.2.1) rfl rfl) dX7_sees_125 ?_
                refine z_aload_n X dX7_sees_128 2 rfl rfl ?_
                refine z_get (j := 32) (v := .ref (ad 20)) X inX7 rfl (by decide) w_611 (hw.1 _) rfl dX7_sees_129 ?_
                refine z_iload_n X dX7_sees_132 0 rfl rfl ?_
                refine z_aload_n X dX7_sees_133 2 rfl rfl ?_
                refine z_get (j := 34) (v := .int r4.2.2.2.2.2) X inX7 rfl (by decide) w_609 (hw.1 _) rfl dX7_sees_134 ?_
                obtain ⟨u6, hu6, h⟩ := ob h
                refine z_iast (M' := (mk M [(20, u6)] M.2.1 [(44, (r4.2.2.1 + (nI 1))), (52, r4.2.2.2.1), (53, r4.2.2.2.2.1), (54, r4.2.2.2.2.2)])) X (hw.2.2.2.2.2.2.2.2.2.2.2.2.2.2.2.2.2.2.2.2.1 _).1 (wr_ok hu6) (mk_set1 (l' := [(20, u6)]) (hw.2.2.2.2.2.2.2.2.2.2.2.2.2.2.2.2.2.2.2.2.1) rfl rfl) dX7_sees_137 ?_
                refine z_aload_n X dX7_sees_138 2 rfl rfl ?_
                refine z_dup X dX7_sees_139 rfl ?_
                refine z_get (j := 34) (v := .int r4.2.2.2.2.2) X inX7 rfl (by decide) w_609 (hw.1 _) rfl dX7_sees_140 ?_
                refine z_iload_n X dX7_sees_143 1 rfl rfl ?_
                refine z_iconst (v := (nI 1)) X dX7_sees_144 (by decide) ?_
                refine z_iadd X dX7_sees_145 ?_
                refine z_iadd X dX7_sees_146 ?_
                refine z_put (j := 34) (ty := .int) (M' := (mk M [(20, u6)] M.2.1 [(44, (r4.2.2.1 + (nI 1))), (52, r4.2.2.2.1), (53, r4.2.2.2.2.1), (54, (r4.2.2.2.2.2 + (r3.2.2.2.2.2 + (nI 1))))])) X inX7 tyX7 tyX7_ok nmX7 rfl (by decide) w_609 rfl (by decide +kernel) rfl rfl (hw.1 _) (Nat.le_of_ble_eq_true rfl) (mk_setS (sl' := [(44, (r4.2.2.1 + (nI 1))), (52, r4.2.2.2.1), (53, r4.2.2.2.2.1), (54, (r4.2.2.2.2.2 + (r3.2.2.2.2.2 + (nI 1))))]) (hw.2.2.2.2.2.2.2.2.2.2.2.2.2.2.2.2.2.2.2.2.2.2.2.2.2.2.2.2.2.2.2.2.2.2.2) rfl rfl) dX7_sees_147 ?_
                refine z_iconst (v := (nI 1)) X dX7_sees_150 (by decide) ?_
                have hq := Option.some.inj h
                subst hq
                exact z_iret hs dX7_sees_151 rfl
              · rw [if_neg c113] at h
                refine z_iconst (v := (nI 0)) X dX7_sees_116 (by decide) ?_
                have hq := Option.some.inj h
                subst hq
                exact z_iret hs dX7_sees_117 rfl
            · rw [if_pos c102] at h
              refine z_iconst (v := (nI 0)) X dX7_sees_105 (by decide) ?_
              have hq := Option.some.inj h
              subst hq
              exact z_iret hs dX7_sees_106 rfl
          · rw [if_pos c75] at h
            refine z_iconst (v := (nI 0)) X dX7_sees_78 (by decide) ?_
            have hq := Option.some.inj h
            subst hq
            exact z_iret hs dX7_sees_79 rfl
        · rw [if_pos c45] at h
          refine z_iconst (v := (nI 0)) X dX7_sees_48 (by decide) ?_
          have hq := Option.some.inj h
          subst hq
          exact z_iret hs dX7_sees_49 rfl
    · rw [if_pos c6] at h
      refine z_iload_n X dX7_sees_9 1 rfl rfl ?_
      refine z_if_eq (tgt := 30) X dX7_sees_10 (by decide) (fun c10 => ?_) (fun c10 => ?_)
      · rw [if_pos c10] at h
        refine z_aload_n X dX7_sees_30 0 rfl rfl ?_
        obtain ⟨r7, hr7, h⟩ := ob h
        refine z_cVI (As := []) (st := []) X (tX7_sign hw (mk M [(20, (M.1 20))] M.2.1 [(44, (M.2.2 44)), (52, (M.2.2 52)), (53, (M.2.2 53)), (54, (M.2.2 54))]) hr7) w_600 mvX7_sign (by rw [eR]; exact ⟨by show _ + 1 ≤ _; dsimp only; omega, by dsimp only; omega⟩) ⟨rfl, rfl⟩ rfl (Nat.le_of_ble_eq_true rfl) (hw.1 _) rfl rfl dX7_sees_31 ?_
        refine z_bipush (v := (nI 40)) X dX7_sees_34 (by decide) ?_
        refine z_icmp_ne (tgt := 48) X dX7_sees_36 (by decide) (fun c36 => ?_) (fun c36 => ?_)
        · rw [if_neg c36] at h
          refine z_iconst (v := (nI 0)) X dX7_sees_48 (by decide) ?_
          have hq := Option.some.inj h
          subst hq
          exact z_iret hs dX7_sees_49 rfl
        · rw [if_pos c36] at h
          refine z_aload_n X dX7_sees_39 0 rfl rfl ?_
          refine z_get (j := 33) (v := .int (M.2.2 53)) X inX7 rfl (by decide) w_604 (hw.1 _) rfl dX7_sees_40 ?_
          refine z_bipush (v := (nI 7)) X dX7_sees_43 (by decide) ?_
          refine z_icmp_ne (tgt := 50) X dX7_sees_45 (by decide) (fun c45 => ?_) (fun c45 => ?_)
          · rw [if_neg c45] at h
            refine z_aload_n X dX7_sees_50 0 rfl rfl ?_
            refine z_dup X dX7_sees_51 rfl ?_
            refine z_get (j := 33) (v := .int (M.2.2 53)) X inX7 rfl (by decide) w_604 (hw.1 _) rfl dX7_sees_52 ?_
            refine z_iconst (v := (nI 1)) X dX7_sees_55 (by decide) ?_
            refine z_iadd X dX7_sees_56 ?_
            refine z_put (j := 33) (ty := .int) (M' := (mk M [(20, (M.1 20))] M.2.1 [(44, (M.2.2 44)), (52, (M.2.2 52)), (53, ((M.2.2 53) + (nI 1))), (54, (M.2.2 54))])) X inX7 tyX7 tyX7_ok nmX7 rfl (by decide) w_604 rfl (by decide +kernel) rfl rfl (hw.1 _) (Nat.le_of_ble_eq_true rfl) (mk_setS (sl' := [(44, (M.2.2 44)), (52, (M.2.2 52)), (53, ((M.2.2 53) + (nI 1))), (54, (M.2.2 54))]) (hw.2.2.2.2.2.2.2.2.2.2.2.2.2.2.2.2.2.2.2.2.2.2.2.2.2.2.2.2.2.2.2.2.2.2.1) rfl rfl) dX7_sees_57 ?_
            refine z_aload_n X dX7_sees_60 0 rfl rfl ?_
            refine z_dup X dX7_sees_61 rfl ?_
            refine z_get (j := 11) (v := .int (M.2.2 44)) X inX7 rfl (by decide) w_599 (hw.1 _) rfl dX7_sees_62 ?_
            refine z_iconst (v := (nI 1)) X dX7_sees_65 (by decide) ?_
            refine z_iadd X dX7_sees_66 ?_
            refine z_put (j := 11) (ty := .int) (M' := (mk M [(20, (M.1 20))] M.2.1 [(44, ((M.2.2 44) + (nI 1))), (52, (M.2.2 52)), (53, ((M.2.2 53) + (nI 1))), (54, (M.2.2 54))])) X inX7 tyX7 tyX7_ok nmX7 rfl (by decide) w_599 rfl (by decide +kernel) rfl rfl (hw.1 _) (Nat.le_of_ble_eq_true rfl) (mk_setS (sl' := [(44, ((M.2.2 44) + (nI 1))), (52, (M.2.2 52)), (53, ((M.2.2 53) + (nI 1))), (54, (M.2.2 54))]) (hw.2.2.2.2.2.2.2.2.2.2.2.2.2.2.2.2.2.2.2.2.2.2.2.2.2.1) rfl rfl) dX7_sees_67 ?_
            refine z_aload_n X dX7_sees_70 0 rfl rfl ?_
            refine z_iconst (v := (nI 1)) X dX7_sees_71 (by decide) ?_
            obtain ⟨r8, hr8, h⟩ := ob h
            refine z_cVI (As := [.int (nI 1)]) (st := []) X (ih (mk M [(20, (M.1 20))] M.2.1 [(44, ((M.2.2 44) + (nI 1))), (52, (M.2.2 52)), (53, ((M.2.2 53) + (nI 1))), (54, (M.2.2 54))]) hr8) w_605 mvX7_sees (by rw [eR]; exact ⟨by show _ + 1 ≤ _; dsimp only; omega, by dsimp only; omega⟩) ⟨rfl, rfl⟩ rfl (Nat.le_of_ble_eq_true rfl) (hw.1 _) rfl rfl dX7_sees_72 ?_
            refine z_mem (mk_mk (l' := [(20, r8.2.1)]) (sl' := [(44, r8.2.2.1), (52, r8.2.2.2.1), (53, r8.2.2.2.2.1), (54, r8.2.2.2.2.2)]) rfl rfl rfl rfl) ?_
            refine z_if_ne (tgt := 80) X dX7_sees_75 (by decide) (fun c75 => ?_) (fun c75 => ?_)
            · rw [if_neg c75] at h
              refine z_aload_n X dX7_sees_80 0 rfl rfl ?_
              refine z_get (j := 34) (v := .int r8.2.2.2.2.2) X inX7 rfl (by decide) w_609 (hw.1 _) rfl dX7_sees_81 ?_
              refine z_istore_n (lv' := [(2, .int r8.2.2.2.2.2), (0, .ref (ad 0)), (1, .int v1)]) X dX7_sees_84 rfl (by decide) rfl ?_
              refine z_aload_n X dX7_sees_85 1 rfl rfl ?_
              refine z_dup X dX7_sees_86 rfl ?_
              refine z_get (j := 31) (v := .int r8.2.2.2.1) X inX7 rfl (by decide) w_610 (hw.1 _) rfl dX7_sees_87 ?_
              refine z_dup_x1 X dX7_sees_90 rfl rfl ?_
              refine z_iconst (v := (nI 1)) X dX7_sees_91 (by decide) ?_
              refine z_iadd X dX7_sees_92 ?_
              refine z_put (j := 31) (ty := .int) (M' := (mk M [(20, r8.2.1)] M.2.1 [(44, r8.2.2.1), (52, (r8.2.2.2.1 + (nI 1))), (53, r8.2.2.2.2.1), (54, r8.2.2.2.2.2)])) X inX7 tyX7 tyX7_ok nmX7 rfl (by decide) w_610 rfl (by decide +kernel) rfl rfl (hw.1 _) (Nat.le_of_ble_eq_true rfl) (mk_setS (sl' := [(44, r8.2.2.1), (52, (r8.2.2.2.1 + (nI 1))), (53, r8.2.2.2.2.1), (54, r8.2.2.2.2.2)]) (hw.2.2.2.2.2.2.2.2.2.2.2.2.2.2.2.2.2.2.2.2.2.2.2.2.2.2.2.2.2.2.2.2.2.1) rfl rfl) dX7_sees_93 ?_
              refine z_istore_n (lv' := [(3, .int r8.2.2.2.1), (2, .int r8.2.2.2.2.2), (0, .ref (ad 0)), (1, .int v1)]) X dX7_sees_96 rfl (by decide) rfl ?_
              refine z_aload_n X dX7_sees_97 2 rfl rfl ?_
              refine z_iconst (v := (nI 1)) X dX7_sees_98 (by decide) ?_
              obtain ⟨r9, hr9, h⟩ := ob h
              refine z_cVI (As := [.int (nI 1)]) (st := []) X (ih (mk M [(20, r8.2.1)] M.2.1 [(44, r8.2.2.1), (52, (r8.2.2.2.1 + (nI 1))), (53, r8.2.2.2.2.1), (54, r8.2.2.2.2.2)]) hr9) w_605 mvX7_sees (by rw [eR]; exact ⟨by show _ + 1 ≤ _; dsimp only; omega, by dsimp only; omega⟩) ⟨rfl, rfl⟩ rfl (Nat.le_of_ble_eq_true rfl) (hw.1 _) rfl rfl dX7_sees_99 ?_
              refine z_mem (mk_mk (l' := [(20, r9.2.1)]) (sl' := [(44, r9.2.2.1), (52, r9.2.2.2.1), (53, r9.2.2.2.2.1), (54, r9.2.2.2.2.2)]) rfl rfl rfl rfl) ?_
              refine z_if_ne (tgt := 107) X dX7_sees_102 (by decide) (fun c102 => ?_) (fun c102 => ?_)
              · rw [if_neg c102] at h
                refine z_aload_n X dX7_sees_107 2 rfl rfl ?_
                obtain ⟨r10, hr10, h⟩ := ob h
                refine z_cVI (As := []) (st := []) X (tX7_sign hw (mk M [(20, r9.2.1)] M.2.1 [(44, r9.2.2.1), (52, r9.2.2.2.1), (53, r9.2.2.2.2.1), (54, r9.2.2.2.2.2)]) hr10) w_600 mvX7_sign (by rw [eR]; exact ⟨by show _ + 1 ≤ _; dsimp only; omega, by dsimp only; omega⟩) ⟨rfl, rfl⟩ rfl (Nat.le_of_ble_eq_true rfl) (hw.1 _) rfl rfl dX7_sees_108 ?_
                refine z_bipush (v := (nI 41)) X dX7_sees_111 (by decide) ?_
                refine z_icmp_eq (tgt := 118) X dX7_sees_113 (by decide) (fun c113 => ?_) (fun c113 => ?_)
                · rw [if_pos c113] at h
                  refine z_aload_n X dX7_sees_118 2 rfl rfl ?_
                  refine z_dup X dX7_sees_119 rfl ?_
                  refine z_get (j := 11) (v := .int r9.2.2.1) X inX7 rfl (by decide) w_599 (hw.1 _) rfl dX7_sees_120 ?_
                  refine z_iconst (v := (nI 1)) X dX7_sees_123 (by decide) ?_
                  refine z_iadd X dX7_sees_124 ?_
                  refine z_put (j := 11) (ty := .int) (M' := (mk M [(20, r9.2.1)] M.2.1 [(44, (r9.2.2.1 + (nI 1))), (52, r9.2.2.2.1), (53, r9.2.2.2.2.1), (54, r9.2.2.2.2.2)])) X inX7 tyX7 tyX7_ok nmX7 rfl (by decide) w_599 rfl (by decide +kernel) rfl rfl (hw.1 _) (Nat.le_of_ble_eq_true rfl) (mk_setS (sl' := [(44, (r9.2.2.1 + (nI 1))), (52, r9.2.2.2.1), (53, r9.2.2.2.2.1), (54, r9.2.2.2.2.2)]) (hw.2.2.2.2.2.2.2.2.2.2.2.2.2.2.2.2.2.2.2.2.2.2.2.2.2.1) rfl rfl) dX7_sees_125 ?_
                  refine z_aload_n X dX7_sees_128 2 rfl rfl ?_
                  refine z_get (j := 32) (v := .ref (ad 20)) X inX7 rfl (by decide) w_611 (hw.1 _) rfl dX7_sees_129 ?_
                  refine z_iload_n X dX7_sees_132 0 rfl rfl ?_
                  refine z_aload_n X dX7_sees_133 2 rfl rfl ?_
                  refine z_get (j := 34) (v := .int r9.2.2.2.2.2) X inX7 rfl (by decide) w_609 (hw.1 _) rfl dX7_sees_134 ?_
                  obtain ⟨u11, hu11, h⟩ := ob h
                  refine z_iast (M' := (mk M [(20, u11)] M.2.1 [(44, (r9.2.2.1 + (nI 1))), (52, r9.2.2.2.1), (53, r9.2.2.2.2.1), (54, r9.2.2.2.2.2)])) X (hw.2.2.2.2.2.2.2.2.2.2.2.2.2.2.2.2.2.2.2.2.1 _).1 (wr_ok hu11) (mk_set1 (l' := [(20, u11)]) (hw.2.2.2.2.2.2.2.2.2.2.2.2.2.2.2.2.2.2.2.2.1) rfl rfl) dX7_sees_137 ?_
                  refine z_aload_n X dX7_sees_138 2 rfl rfl ?_
                  refine z_dup X dX7_sees_139 rfl ?_
                  refine z_get (j := 34) (v := .int r9.2.2.2.2.2) X inX7 rfl (by decide) w_609 (hw.1 _) rfl dX7_sees_140 ?_
                  refine z_iload_n X dX7_sees_143 1 rfl rfl ?_
                  refine z_iconst (v := (nI 1)) X dX7_sees_144 (by decide) ?_
                  refine z_iadd X dX7_sees_145 ?_
                  refine z_iadd X dX7_sees_146 ?_
                  refine z_put (j := 34) (ty := .int) (M' := (mk M [(20, u11)] M.2.1 [(44, (r9.2.2.1 + (nI 1))), (52, r9.2.2.2.1), (53, r9.2.2.2.2.1), (54, (r9.2.2.2.2.2 + (r8.2.2.2.2.2 + (nI 1))))])) X inX7 tyX7 tyX7_ok nmX7 rfl (by decide) w_609 rfl (by decide +kernel) rfl rfl (hw.1 _) (Nat.le_of_ble_eq_true rfl) (mk_setS (sl' := [(44, (r9.2.2.1 + (nI 1))), (52, r9.2.2.2.1), (53, r9.2.2.2.2.1), (54, (r9.2.2.2.2.2 + (r8.2.2.2.2.2 + (nI 1))))]) (hw.2.2.2.2.2.2.2.2.2.2.2.2.2.2.2.2.2.2.2.2.2.2.2.2.2.2.2.2.2.2.2.2.2.2.2) rfl rfl) dX7_sees_147 ?_
                  refine z_iconst (v := (nI 1)) X dX7_sees_150 (by decide) ?_
                  have hq := Option.some.inj h
                  subst hq
                  exact z_iret hs dX7_sees_151 rfl
                · rw [if_neg c113] at h
                  refine z_iconst (v := (nI 0)) X dX7_sees_116 (by decide) ?_
                  have hq := Option.some.inj h
                  subst hq
                  exact z_iret hs dX7_sees_117 rfl
              · rw [if_pos c102] at h
                refine z_iconst (v := (nI 0)) X dX7_sees_105 (by decide) ?_
                have hq := Option.some.inj h
                subst hq
                exact z_iret hs dX7_sees_106 rfl
            · rw [if_pos c75] at h
              refine z_iconst (v := (nI 0)) X dX7_sees_78 (by decide) ?_
              have hq := Option.some.inj h
              subst hq
              exact z_iret hs dX7_sees_79 rfl
          · rw [if_pos c45] at h
            refine z_iconst (v := (nI 0)) X dX7_sees_48 (by decide) ?_
            have hq := Option.some.inj h
            subst hq
            exact z_iret hs dX7_sees_49 rfl
      · rw [if_neg c10] at h
        refine z_aload_n X dX7_sees_13 0 rfl rfl ?_
        refine z_dup X dX7_sees_14 rfl ?_
        refine z_get (j := 11) (v := .int (M.2.2 44)) X inX7 rfl (by decide) w_599 (hw.1 _) rfl dX7_sees_15 ?_
        refine z_iconst (v := (nI 1)) X dX7_sees_18 (by decide) ?_
        refine z_iadd X dX7_sees_19 ?_
        refine z_put (j := 11) (ty := .int) (M' := (mk M [(20, (M.1 20))] M.2.1 [(44, ((M.2.2 44) + (nI 1))), (52, (M.2.2 52)), (53, (M.2.2 53)), (54, (M.2.2 54))])) X inX7 tyX7 tyX7_ok nmX7 rfl (by decide) w_599 rfl (by decide +kernel) rfl rfl (hw.1 _) (Nat.le_of_ble_eq_true rfl) (mk_setS (sl' := [(44, ((M.2.2 44) + (nI 1))), (52, (M.2.2 52)), (53, (M.2.2 53)), (54, (M.2.2 54))]) (hw.2.2.2.2.2.2.2.2.2.2.2.2.2.2.2.2.2.2.2.2.2.2.2.2.2.1) rfl rfl) dX7_sees_20 ?_
        refine z_aload_n X dX7_sees_23 0 rfl rfl ?_
        refine z_iconst (v := (nI 0)) X dX7_sees_24 (by decide) ?_
        refine z_put (j := 34) (ty := .int) (M' := (mk M [(20, (M.1 20))] M.2.1 [(44, ((M.2.2 44) + (nI 1))), (52, (M.2.2 52)), (53, (M.2.2 53)), (54, (nI 0))])) X inX7 tyX7 tyX7_ok nmX7 rfl (by decide) w_609 rfl (by decide +kernel) rfl rfl (hw.1 _) (Nat.le_of_ble_eq_true rfl) (mk_setS (sl' := [(44, ((M.2.2 44) + (nI 1))), (52, (M.2.2 52)), (53, (M.2.2 53)), (54, (nI 0))]) (hw.2.2.2.2.2.2.2.2.2.2.2.2.2.2.2.2.2.2.2.2.2.2.2.2.2.2.2.2.2.2.2.2.2.2.2) rfl rfl) dX7_sees_25 ?_
        refine z_iconst (v := (nI 1)) X dX7_sees_28 (by decide) ?_
        have hq := Option.some.inj h
        subst hq
        exact z_iret hs dX7_sees_29 rfl
set_option maxHeartbeats 4000000 in
theorem bX7_read_B61 {κ : Rx} {ct : Nat → ClassId} {tF : Nat} {po ad : Nat → Nat} (X : CX κ ct tF cX7_read 4 RX7) (eR : kR κ = { frames := 18, cells := 0, slots := 0, locals := 2091 }) (hw : KM (kw κ) po ad ct) (M : Mm) (a_seenRow : Nat → Int32) (s_nodes : Int32) (s_tree : Int32) (s_steps : Int32) (s_taped : Int32) (s_atp : Int32) (s_seen : Int32) (s_opn : Int32) (s_part : Int32)  : ∀ (x : (Int32 × Int32)) (s : (Int32 × Int32) ⊕ Int32), fX7_read_B61 a_seenRow s_seen x = some s → Sum.elim (fun x => Zj κ 4 61 [(0, .ref (ad 0)), (2, .int x.1), (3, .int x.2)] [] (mk M [(20, a_seenRow)] M.2.1 [(40, s_nodes), (41, s_tree), (42, s_steps), (43, s_taped), (44, s_atp), (52, s_seen), (53, s_opn), (54, s_part)])) (fun y => Zj κ 4 87 [(0, .ref (ad 0)), (2, .int y)] [] (mk M [(20, a_seenRow)] M.2.1 [(40, s_nodes), (41, s_tree), (42, s_steps), (43, s_taped), (44, s_atp), (52, s_seen), (53, s_opn), (54, s_part)])) s → Zj κ 4 61 [(0, .ref (ad 0)), (2, .int x.1), (3, .int x.2)] [] (mk M [(20, a_seenRow)] M.2.1 [(40, s_nodes), (41, s_tree), (42, s_steps), (43, s_taped), (44, s_atp), (52, s_seen), (53, s_opn), (54, s_part)]) := by
  intro x s h hs
  unfold fX7_read_B61 at h
  refine z_iload_n X dX7_read_61 2 rfl rfl ?_
  refine z_aload_n X dX7_read_62 0 rfl rfl ?_
  refine z_get (j := 31) (v := .int s_seen) X inX7 rfl (by decide) w_610 (hw.1 _) rfl dX7_read_63 ?_
  refine z_icmp_ge (tgt := 87) X dX7_read_66 (by decide) (fun c66 => ?_) (fun c66 => ?_)
  · rw [if_pos c66] at h
    have hq := Option.some.inj h
    subst hq
    exact z_sub [0, 1] rfl hs
  · rw [if_neg c66] at h
    refine z_bipush (v := (nI 10)) X dX7_read_69 (by decide) ?_
    refine z_iload_n X dX7_read_71 1 rfl rfl ?_
    refine z_imul X dX7_read_72 ?_
    refine z_aload_n X dX7_read_73 0 rfl rfl ?_
    refine z_get (j := 32) (v := .ref (ad 20)) X inX7 rfl (by decide) w_611 (hw.1 _) rfl dX7_read_74 ?_
    refine z_iload_n X dX7_read_77 2 rfl rfl ?_
    obtain ⟨t1, ht1, h⟩ := ob h
    refine z_iald X (hw.2.2.2.2.2.2.2.2.2.2.2.2.2.2.2.2.2.2.2.2.1 _).1 (rd_ok ht1) dX7_read_78 ?_
    refine z_iadd X dX7_read_79 ?_
    refine z_istore_n (lv' := [(2, .int (((nI 10) * x.1) + t1)), (0, .ref (ad 0)), (3, .int x.2)]) X dX7_read_80 rfl (by decide) rfl ?_
    refine z_iinc (v := (x.2 + nI 1)) (lv' := [(3, .int (x.2 + nI 1)), (2, .int (((nI 10) * x.1) + t1)), (0, .ref (ad 0))]) X dX7_read_81 2 rfl rfl (by decide) rfl ?_
    refine z_goto (tgt := 61) X dX7_read_84 (by decide) ?_
    have hq := Option.some.inj h
    subst hq
    exact z_sub [2, 1, 0] rfl hs
set_option maxHeartbeats 4000000 in
theorem jX7_read_J39 {κ : Rx} {ct : Nat → ClassId} {tF : Nat} {po ad : Nat → Nat} (X : CX κ ct tF cX7_read 4 RX7) (eR : kR κ = { frames := 18, cells := 0, slots := 0, locals := 2091 }) (hw : KM (kw κ) po ad ct) (M : Mm) (a_seenRow : Nat → Int32) (s_nodes : Int32) (s_tree : Int32) (s_steps : Int32) (s_taped : Int32) (s_atp : Int32) (s_seen : Int32) (s_opn : Int32) (s_part : Int32)   (k0 : Int32) (s : (Int32 × (Nat → Int32) × Int32 × Int32 × Int32 × Int32 × Int32 × Int32 × Int32 × Int32)) (h : fX7_read_J39 (M.1 7) a_seenRow s_nodes s_tree s_steps s_taped s_atp s_seen s_opn s_part k0 = some s) (hs : (ZI κ cX7_read .int s.1 (mk M [(20, s.2.1)] M.2.1 [(40, s.2.2.1), (41, s.2.2.2.1), (42, s.2.2.2.2.1), (43, s.2.2.2.2.2.1), (44, s.2.2.2.2.2.2.1), (52, s.2.2.2.2.2.2.2.1), (53, s.2.2.2.2.2.2.2.2.1), (54, s.2.2.2.2.2.2.2.2.2)]))) : Zj κ 4 39 [(0, .ref (ad 0))] [.int k0] (mk M [(20, a_seenRow)] M.2.1 [(40, s_nodes), (41, s_tree), (42, s_steps), (43, s_taped), (44, s_atp), (52, s_seen), (53, s_opn), (54, s_part)]) := by
  unfold fX7_read_J39 at h
  refine z_istore_n (lv' := [(1, .int k0), (0, .ref (ad 0))]) X dX7_read_39 rfl (by decide) rfl ?_
  refine z_aload_n X dX7_read_40 1 rfl rfl ?_
  refine z_iconst (v := (nI 0)) X dX7_read_41 (by decide) ?_
  refine z_put (j := 10) (ty := .int) (M' := (mk M [(20, a_seenRow)] M.2.1 [(40, s_nodes), (41, s_tree), (42, s_steps), (43, (nI 0)), (44, s_atp), (52, s_seen), (53, s_opn), (54, s_part)])) X inX7 tyX7 tyX7_ok nmX7 rfl (by decide) w_597 rfl (by decide +kernel) rfl rfl (hw.1 _) (Nat.le_of_ble_eq_true rfl) (mk_setS (sl' := [(40, s_nodes), (41, s_tree), (42, s_steps), (43, (nI 0)), (44, s_atp), (52, s_seen), (53, s_opn), (54, s_part)]) (hw.2.2.2.2.2.2.2.2.2.2.2.2.2.2.2.2.2.2.2.2.2.2.2.2.1) rfl rfl) dX7_read_42 ?_
  refine z_iload_n X dX7_read_45 0 rfl rfl ?_
  refine z_if_ne (tgt := 57) X dX7_read_46 (by decide) (fun c46 => ?_) (fun c46 => ?_)
  · rw [if_neg c46] at h
    refine z_iconst (v := (nI 0)) X dX7_read_57 (by decide) ?_
    refine z_istore_n (lv' := [(2, .int (nI 0)), (1, .int k0), (0, .ref (ad 0))]) X dX7_read_58 rfl (by decide) rfl ?_
    refine z_iconst (v := (nI 0)) X dX7_read_59 (by decide) ?_
    refine z_istore_n (lv' := [(3, .int (nI 0)), (2, .int (nI 0)), (1, .int k0), (0, .ref (ad 0))]) X dX7_read_60 rfl (by decide) rfl ?_
    refine z_sub [3, 1, 0] rfl ?_
    obtain ⟨y1, hy1, h⟩ := ob h
    refine (it_Z (bX7_read_B61 X eR hw M a_seenRow s_nodes s_tree s_steps (nI 0) s_atp s_seen s_opn s_part) FU _ y1 hy1) ?_
    refine z_aload_n X dX7_read_87 0 rfl rfl ?_
    refine z_aload_n X dX7_read_88 0 rfl rfl ?_
    refine z_get (j := 31) (v := .int s_seen) X inX7 rfl (by decide) w_610 (hw.1 _) rfl dX7_read_89 ?_
    refine z_put (j := 0) (ty := .int) (M' := (mk M [(20, a_seenRow)] M.2.1 [(40, s_seen), (41, s_tree), (42, s_steps), (43, (nI 0)), (44, s_atp), (52, s_seen), (53, s_opn), (54, s_part)])) X inX7 tyX7 tyX7_ok nmX7 rfl (by decide) w_502 rfl (by decide +kernel) rfl rfl (hw.1 _) (Nat.le_of_ble_eq_true rfl) (mk_setS (sl' := [(40, s_seen), (41, s_tree), (42, s_steps), (43, (nI 0)), (44, s_atp), (52, s_seen), (53, s_opn), (54, s_part)]) (hw.2.2.2.2.2.2.2.2.2.2.2.2.2.2.2.2.2.2.2.2.2.1) rfl rfl) dX7_read_92 ?_
    refine z_aload_n X dX7_read_95 0 rfl rfl ?_
    refine z_iload_n X dX7_read_96 1 rfl rfl ?_
    refine z_put (j := 1) (ty := .int) (M' := (mk M [(20, a_seenRow)] M.2.1 [(40, s_seen), (41, y1), (42, s_steps), (43, (nI 0)), (44, s_atp), (52, s_seen), (53, s_opn), (54, s_part)])) X inX7 tyX7 tyX7_ok nmX7 rfl (by decide) w_506 rfl (by decide +kernel) rfl rfl (hw.1 _) (Nat.le_of_ble_eq_true rfl) (mk_setS (sl' := [(40, s_seen), (41, y1), (42, s_steps), (43, (nI 0)), (44, s_atp), (52, s_seen), (53, s_opn), (54, s_part)]) (hw.2.2.2.2.2.2.2.2.2.2.2.2.2.2.2.2.2.2.2.2.2.2.1) rfl rfl) dX7_read_97 ?_
    refine z_aload_n X dX7_read_100 0 rfl rfl ?_
    refine z_iconst (v := (nI 0)) X dX7_read_101 (by decide) ?_
    refine z_put (j := 6) (ty := .int) (M' := (mk M [(20, a_seenRow)] M.2.1 [(40, s_seen), (41, y1), (42, (nI 0)), (43, (nI 0)), (44, s_atp), (52, s_seen), (53, s_opn), (54, s_part)])) X inX7 tyX7 tyX7_ok nmX7 rfl (by decide) w_503 rfl (by decide +kernel) rfl rfl (hw.1 _) (Nat.le_of_ble_eq_true rfl) (mk_setS (sl' := [(40, s_seen), (41, y1), (42, (nI 0)), (43, (nI 0)), (44, s_atp), (52, s_seen), (53, s_opn), (54, s_part)]) (hw.2.2.2.2.2.2.2.2.2.2.2.2.2.2.2.2.2.2.2.2.2.2.2.1) rfl rfl) dX7_read_102 ?_
    refine z_aload_n X dX7_read_105 0 rfl rfl ?_
    refine z_get (j := 0) (v := .int s_seen) X inX7 rfl (by decide) w_502 (hw.1 _) rfl dX7_read_106 ?_
    have hq := Option.some.inj h
    subst hq
    exact z_iret hs dX7_read_109 rfl
  · rw [if_pos c46] at h
    refine z_bipush (v := (-100 : Int32)) X dX7_read_49 (by decide) ?_
    refine z_aload_n X dX7_read_51 1 rfl rfl ?_
    refine z_get (j := 11) (v := .int s_atp) X inX7 rfl (by decide) w_599 (hw.1 _) rfl dX7_read_52 ?_
    refine z_isub X dX7_read_55 ?_
    have hq := Option.some.inj h
    subst hq
    exact z_iret hs dX7_read_56 rfl
set_option maxHeartbeats 4000000 in
theorem jX7_read_J38 {κ : Rx} {ct : Nat → ClassId} {tF : Nat} {po ad : Nat → Nat} (X : CX κ ct tF cX7_read 4 RX7) (eR : kR κ = { frames := 18, cells := 0, slots := 0, locals := 2091 }) (hw : KM (kw κ) po ad ct) (M : Mm) (a_seenRow : Nat → Int32) (s_nodes : Int32) (s_tree : Int32) (s_steps : Int32) (s_taped : Int32) (s_atp : Int32) (s_seen : Int32) (s_opn : Int32) (s_part : Int32)    (s : (Int32 × (Nat → Int32) × Int32 × Int32 × Int32 × Int32 × Int32 × Int32 × Int32 × Int32)) (h : fX7_read_J38 (M.1 7) a_seenRow s_nodes s_tree s_steps s_taped s_atp s_seen s_opn s_part = some s) (hs : (ZI κ cX7_read .int s.1 (mk M [(20, s.2.1)] M.2.1 [(40, s.2.2.1), (41, s.2.2.2.1), (42, s.2.2.2.2.1), (43, s.2.2.2.2.2.1), (44, s.2.2.2.2.2.2.1), (52, s.2.2.2.2.2.2.2.1), (53, s.2.2.2.2.2.2.2.2.1), (54, s.2.2.2.2.2.2.2.2.2)]))) : Zj κ 4 38 [(0, .ref (ad 0))] [] (mk M [(20, a_seenRow)] M.2.1 [(40, s_nodes), (41, s_tree), (42, s_steps), (43, s_taped), (44, s_atp), (52, s_seen), (53, s_opn), (54, s_part)]) := by
  unfold fX7_read_J38 at h
  refine z_iconst (v := (nI 0)) X dX7_read_38 (by decide) ?_
  exact (jX7_read_J39 X eR hw M a_seenRow s_nodes s_tree s_steps s_taped s_atp s_seen s_opn s_part (nI 0) _ h hs)
set_option maxHeartbeats 4000000 in
theorem tX7_read {l : Launch} {D : va_G} {ct : Nat → ClassId} {tF : Nat} {wOf : Mm → va_W} {po ad : Nat → Nat} (hw : KM wOf po ad ct) (M : Mm)  {r : (Int32 × (Nat → Int32) × Int32 × Int32 × Int32 × Int32 × Int32 × Int32 × Int32 × Int32)} (h : fX7_read (M.1 7) (M.1 20) (M.2.2 40) (M.2.2 41) (M.2.2 42) (M.2.2 43) (M.2.2 44) (M.2.2 52) (M.2.2 53) (M.2.2 54) = some r) : CtI l yX7_read cX7_read 4 .int { frames := 18, cells := 0, slots := 0, locals := 2091 } D ct tF wOf [.ref (ad 0)] M r.1 (mk M [(20, r.2.1)] M.2.1 [(40, r.2.2.1), (41, r.2.2.2.1), (42, r.2.2.2.2.1), (43, r.2.2.2.2.2.1), (44, r.2.2.2.2.2.2.1), (52, r.2.2.2.2.2.2.2.1), (53, r.2.2.2.2.2.2.2.2.1), (54, r.2.2.2.2.2.2.2.2.2)]) := by
  refine metI (by decide) (Nat.le_of_ble_eq_true rfl) fun κ X e1 eR e3 e4 hs => ?_
  subst e1; subst e3; subst e4
  unfold fX7_read at h
  refine z_mem (mk_self M [20] [40, 41, 42, 43, 44, 52, 53, 54]) ?_
  refine z_sub (lv' := [(0, .ref (ad 0))]) [0] rfl ?_
  show Zj κ 4 0 _ _ (mk M [(20, (M.1 20))] M.2.1 [(40, (M.2.2 40)), (41, (M.2.2 41)), (42, (M.2.2 42)), (43, (M.2.2 43)), (44, (M.2.2 44)), (52, (M.2.2 52)), (53, (M.2.2 53)), (54, (M.2.2 54))])
  refine z_aload_n X dX7_read_0 0 rfl rfl ?_
  refine z_iconst (v := (nI 0)) X dX7_read_1 (by decide) ?_
  refine z_put (j := 11) (ty := .int) (M' := (mk M [(20, (M.1 20))] M.2.1 [(40, (M.2.2 40)), (41, (M.2.2 41)), (42, (M.2.2 42)), (43, (M.2.2 43)), (44, (nI 0)), (52, (M.2.2 52)), (53, (M.2.2 53)), (54, (M.2.2 54))])) X inX7 tyX7 tyX7_ok nmX7 rfl (by decide) w_599 rfl (by decide +kernel) rfl rfl (hw.1 _) (Nat.le_of_ble_eq_true rfl) (mk_setS (sl' := [(40, (M.2.2 40)), (41, (M.2.2 41)), (42, (M.2.2 42)), (43, (M.2.2 43)), (44, (nI 0)), (52, (M.2.2 52)), (53, (M.2.2 53)), (54, (M.2.2 54))]) (hw.2.2.2.2.2.2.2.2.2.2.2.2.2.2.2.2.2.2.2.2.2.2.2.2.2.1) rfl rfl) dX7_read_2 ?_
  refine z_aload_n X dX7_read_5 0 rfl rfl ?_
  refine z_iconst (v := (nI 0)) X dX7_read_6 (by decide) ?_
  refine z_put (j := 33) (ty := .int) (M' := (mk M [(20, (M.1 20))] M.2.1 [(40, (M.2.2 40)), (41, (M.2.2 41)), (42, (M.2.2 42)), (43, (M.2.2 43)), (44, (nI 0)), (52, (M.2.2 52)), (53, (nI 0)), (54, (M.2.2 54))])) X inX7 tyX7 tyX7_ok nmX7 rfl (by decide) w_604 rfl (by decide +kernel) rfl rfl (hw.1 _) (Nat.le_of_ble_eq_true rfl) (mk_setS (sl' := [(40, (M.2.2 40)), (41, (M.2.2 41)), (42, (M.2.2 42)), (43, (M.2.2 43)), (44, (nI 0)), (52, (M.2.2 52)), (53, (nI 0)), (54, (M.2.2 54))]) (hw.2.2.2.2.2.2.2.2.2.2.2.2.2.2.2.2.2.2.2.2.2.2.2.2.2.2.2.2.2.2.2.2.2.2.1) rfl rfl) dX7_read_7 ?_
  refine z_aload_n X dX7_read_10 0 rfl rfl ?_
  refine z_iconst (v := (nI 0)) X dX7_read_11 (by decide) ?_
  refine z_put (j := 31) (ty := .int) (M' := (mk M [(20, (M.1 20))] M.2.1 [(40, (M.2.2 40)), (41, (M.2.2 41)), (42, (M.2.2 42)), (43, (M.2.2 43)), (44, (nI 0)), (52, (nI 0)), (53, (nI 0)), (54, (M.2.2 54))])) X inX7 tyX7 tyX7_ok nmX7 rfl (by decide) w_610 rfl (by decide +kernel) rfl rfl (hw.1 _) (Nat.le_of_ble_eq_true rfl) (mk_setS (sl' := [(40, (M.2.2 40)), (41, (M.2.2 41)), (42, (M.2.2 42)), (43, (M.2.2 43)), (44, (nI 0)), (52, (nI 0)), (53, (nI 0)), (54, (M.2.2 54))]) (hw.2.2.2.2.2.2.2.2.2.2.2.2.2.2.2.2.2.2.2.2.2.2.2.2.2.2.2.2.2.2.2.2.2.1) rfl rfl) dX7_read_12 ?_
  refine z_aload_n X dX7_read_15 0 rfl rfl ?_
  refine z_iconst (v := (nI 0)) X dX7_read_16 (by decide) ?_
  obtain ⟨r1, hr1, h⟩ := ob h
  refine z_cVI (As := [.int (nI 0)]) (st := []) X (tX7_sees hw 16 (mk M [(20, (M.1 20))] M.2.1 [(40, (M.2.2 40)), (41, (M.2.2 41)), (42, (M.2.2 42)), (43, (M.2.2 43)), (44, (nI 0)), (52, (nI 0)), (53, (nI 0)), (54, (M.2.2 54))]) hr1) w_605 mvX7_sees (by rw [eR]; exact ⟨Nat.le_of_ble_eq_true rfl, Nat.le_of_ble_eq_true rfl⟩) ⟨rfl, rfl⟩ rfl (Nat.le_of_ble_eq_true rfl) (hw.1 _) rfl rfl dX7_read_17 ?_
  refine z_mem (mk_mk (l' := [(20, r1.2.1)]) (sl' := [(40, (M.2.2 40)), (41, (M.2.2 41)), (42, (M.2.2 42)), (43, (M.2.2 43)), (44, r1.2.2.1), (52, r1.2.2.2.1), (53, r1.2.2.2.2.1), (54, r1.2.2.2.2.2)]) rfl rfl rfl rfl) ?_
  refine z_if_eq (tgt := 38) X dX7_read_20 (by decide) (fun c20 => ?_) (fun c20 => ?_)
  · rw [if_pos c20] at h
    exact (jX7_read_J38 X eR hw M r1.2.1 (M.2.2 40) (M.2.2 41) (M.2.2 42) (M.2.2 43) r1.2.2.1 r1.2.2.2.1 r1.2.2.2.2.1 r1.2.2.2.2.2 _ h hs)
  · rw [if_neg c20] at h
    refine z_aload_n X dX7_read_23 0 rfl rfl ?_
    refine z_get (j := 11) (v := .int r1.2.2.1) X inX7 rfl (by decide) w_599 (hw.1 _) rfl dX7_read_24 ?_
    refine z_aload_n X dX7_read_27 0 rfl rfl ?_
    refine z_get (j := 10) (v := .int (M.2.2 43)) X inX7 rfl (by decide) w_597 (hw.1 _) rfl dX7_read_28 ?_
    refine z_icmp_ne (tgt := 38) X dX7_read_31 (by decide) (fun c31 => ?_) (fun c31 => ?_)
    · rw [if_neg c31] at h
      exact (jX7_read_J38 X eR hw M r1.2.1 (M.2.2 40) (M.2.2 41) (M.2.2 42) (M.2.2 43) r1.2.2.1 r1.2.2.2.1 r1.2.2.2.2.1 r1.2.2.2.2.2 _ h hs)
    · rw [if_pos c31] at h
      refine z_iconst (v := (nI 1)) X dX7_read_34 (by decide) ?_
      refine z_goto (tgt := 39) X dX7_read_35 (by decide) ?_
      exact (jX7_read_J39 X eR hw M r1.2.1 (M.2.2 40) (M.2.2 41) (M.2.2 42) (M.2.2 43) r1.2.2.1 r1.2.2.2.1 r1.2.2.2.2.1 r1.2.2.2.2.2 (nI 1) _ h hs)
set_option maxHeartbeats 4000000 in
theorem tX7_write {l : Launch} {D : va_G} {ct : Nat → ClassId} {tF : Nat} {wOf : Mm → va_W} {po ad : Nat → Nat} (hw : KM wOf po ad ct) : ∀ (d : Nat) (M : Mm) {v1 : Int32} {r : ((Nat → Int32) × Int32)}, fX7_write d (M.1 12) (M.1 13) (M.1 19) (M.2.2 51) v1 = some r → CtV l yX7_write cX7_write 2 { frames := d + 0, cells := 0, slots := 0, locals := 128 * d + 0 } D ct tF wOf [.ref (ad 0), .int v1] M (mk M [(19, r.1)] M.2.1 [(51, r.2)]) := by
  intro d
  induction d with
  | zero => intro M v1 r h; rw [fX7_write] at h; cases h
  | succ d ih =>
    intro M v1 r h
    refine metV (by decide) (Nat.le_of_ble_eq_true rfl) fun κ X e1 eR e3 e4 hs => ?_
    subst e1; subst e3; subst e4
    have h : fX7_write (d + 1) (M.1 12) (M.1 13) (M.1 19) (M.2.2 51) v1 = some r := h
    rw [fX7_write] at h
    refine z_mem (mk_self M [19] [51]) ?_
    refine z_sub (lv' := [(0, .ref (ad 0)), (1, .int v1)]) [0, 1] rfl ?_
    show Zj κ 2 0 _ _ (mk M [(19, (M.1 19))] M.2.1 [(51, (M.2.2 51))])
    refine z_iload_n X dX7_write_0 1 rfl rfl ?_
    refine z_bipush (v := (-5 : Int32)) X dX7_write_1 (by decide) ?_
    refine z_icmp_ne (tgt := 25) X dX7_write_3 (by decide) (fun c3 => ?_) (fun c3 => ?_)
    · rw [if_neg c3] at h
      refine z_aload_n X dX7_write_25 0 rfl rfl ?_
      refine z_get (j := 29) (v := .ref (ad 19)) X inX7 rfl (by decide) w_612 (hw.1 _) rfl dX7_write_26 ?_
      refine z_aload_n X dX7_write_29 0 rfl rfl ?_
      refine z_dup X dX7_write_30 rfl ?_
      refine z_get (j := 30) (v := .int (M.2.2 51)) X inX7 rfl (by decide) w_613 (hw.1 _) rfl dX7_write_31 ?_
      refine z_dup_x1 X dX7_write_34 rfl rfl ?_
      refine z_iconst (v := (nI 1)) X dX7_write_35 (by decide) ?_
      refine z_iadd X dX7_write_36 ?_
      refine z_put (j := 30) (ty := .int) (M' := (mk M [(19, (M.1 19))] M.2.1 [(51, ((M.2.2 51) + (nI 1)))])) X inX7 tyX7 tyX7_ok nmX7 rfl (by decide) w_613 rfl (by decide +kernel) rfl rfl (hw.1 _) (Nat.le_of_ble_eq_true rfl) (mk_setS (sl' := [(51, ((M.2.2 51) + (nI 1)))]) (hw.2.2.2.2.2.2.2.2.2.2.2.2.2.2.2.2.2.2.2.2.2.2.2.2.2.2.2.2.2.2.2.2.1) rfl rfl) dX7_write_37 ?_
      refine z_bipush (v := (nI 40)) X dX7_write_40 (by decide) ?_
      obtain ⟨u1, hu1, h⟩ := ob h
      refine z_iast (M' := (mk M [(19, u1)] M.2.1 [(51, ((M.2.2 51) + (nI 1)))])) X (hw.2.2.2.2.2.2.2.2.2.2.2.2.2.2.2.2.2.2.2.1 _).1 (wr_ok hu1) (mk_set1 (l' := [(19, u1)]) (hw.2.2.2.2.2.2.2.2.2.2.2.2.2.2.2.2.2.2.2.1) rfl rfl) dX7_write_42 ?_
      refine z_aload_n X dX7_write_43 0 rfl rfl ?_
      refine z_aload_n X dX7_write_44 0 rfl rfl ?_
      refine z_get (j := 21) (v := .ref (ad 12)) X inX7 rfl (by decide) w_488 (hw.1 _) rfl dX7_write_45 ?_
      refine z_iload_n X dX7_write_48 1 rfl rfl ?_
      obtain ⟨t2, ht2, h⟩ := ob h
      refine z_iald X (hw.2.2.2.2.2.2.2.2.2.2.2.2.1 _).1 (rd_ok ht2) dX7_write_49 ?_
      obtain ⟨r3, hr3, h⟩ := ob h
      refine z_cVV (As := [.int t2]) (st := []) X (ih (mk M [(19, u1)] M.2.1 [(51, ((M.2.2 51) + (nI 1)))]) hr3) w_614 mvX7_write (by rw [eR]; exact ⟨by show _ + 1 ≤ _; dsimp only; omega, by dsimp only; omega⟩) ⟨rfl, rfl⟩ rfl (Nat.le_of_ble_eq_true rfl) (hw.1 _) rfl rfl dX7_write_50 ?_
      refine z_mem (mk_mk (l' := [(19, r3.1)]) (sl' := [(51, r3.2)]) rfl rfl rfl rfl) ?_
      refine z_aload_n X dX7_write_53 0 rfl rfl ?_
      refine z_aload_n X dX7_write_54 0 rfl rfl ?_
      refine z_get (j := 22) (v := .ref (ad 13)) X inX7 rfl (by decide) w_493 (hw.1 _) rfl dX7_write_55 ?_
      refine z_iload_n X dX7_write_58 1 rfl rfl ?_
      obtain ⟨t4, ht4, h⟩ := ob h
      refine z_iald X (hw.2.2.2.2.2.2.2.2.2.2.2.2.2.1 _).1 (rd_ok ht4) dX7_write_59 ?_
      obtain ⟨r5, hr5, h⟩ := ob h
      refine z_cVV (As := [.int t4]) (st := []) X (ih (mk M [(19, r3.1)] M.2.1 [(51, r3.2)]) hr5) w_614 mvX7_write (by rw [eR]; exact ⟨by show _ + 1 ≤ _; dsimp only; omega, by dsimp only; omega⟩) ⟨rfl, rfl⟩ rfl (Nat.le_of_ble_eq_true rfl) (hw.1 _) rfl rfl dX7_write_60 ?_
      refine z_mem (mk_mk (l' := [(19, r5.1)]) (sl' := [(51, r5.2)]) rfl rfl rfl rfl) ?_
      refine z_aload_n X dX7_write_63 0 rfl rfl ?_
      refine z_get (j := 29) (v := .ref (ad 19)) X inX7 rfl (by decide) w_612 (hw.1 _) rfl dX7_write_64 ?_
      refine z_aload_n X dX7_write_67 0 rfl rfl ?_
      refine z_dup X dX7_write_68 rfl ?_
      refine z_get (j := 30) (v := .int r5.2) X inX7 rfl (by decide) w_613 (hw.1 _) rfl dX7_write_69 ?_
      refine z_dup_x1 X dX7_write_72 rfl rfl ?_
      refine z_iconst (v := (nI 1)) X dX7_write_73 (by decide) ?_
      refine z_iadd X dX7_write_74 ?_
      refine z_put (j := 30) (ty := .int) (M' := (mk M [(19, r5.1)] M.2.1 [(51, (r5.2 + (nI 1)))])) X inX7 tyX7 tyX7_ok nmX7 rfl (by decide) w_613 rfl (by decide +kernel) rfl rfl (hw.1 _) (Nat.le_of_ble_eq_true rfl) (mk_setS (sl' := [(51, (r5.2 + (nI 1)))]) (hw.2.2.2.2.2.2.2.2.2.2.2.2.2.2.2.2.2.2.2.2.2.2.2.2.2.2.2.2.2.2.2.2.1) rfl rfl) dX7_write_75 ?_
      refine z_bipush (v := (nI 41)) X dX7_write_78 (by decide) ?_
      obtain ⟨u6, hu6, h⟩ := ob h
      refine z_iast (M' := (mk M [(19, u6)] M.2.1 [(51, (r5.2 + (nI 1)))])) X (hw.2.2.2.2.2.2.2.2.2.2.2.2.2.2.2.2.2.2.2.1 _).1 (wr_ok hu6) (mk_set1 (l' := [(19, u6)]) (hw.2.2.2.2.2.2.2.2.2.2.2.2.2.2.2.2.2.2.2.1) rfl rfl) dX7_write_80 ?_
      have hq := Option.some.inj h
      subst hq
      exact z_vret hs dX7_write_81
    · rw [if_pos c3] at h
      refine z_aload_n X dX7_write_6 0 rfl rfl ?_
      refine z_get (j := 29) (v := .ref (ad 19)) X inX7 rfl (by decide) w_612 (hw.1 _) rfl dX7_write_7 ?_
      refine z_aload_n X dX7_write_10 0 rfl rfl ?_
      refine z_dup X dX7_write_11 rfl ?_
      refine z_get (j := 30) (v := .int (M.2.2 51)) X inX7 rfl (by decide) w_613 (hw.1 _) rfl dX7_write_12 ?_
      refine z_dup_x1 X dX7_write_15 rfl rfl ?_
      refine z_iconst (v := (nI 1)) X dX7_write_16 (by decide) ?_
      refine z_iadd X dX7_write_17 ?_
      refine z_put (j := 30) (ty := .int) (M' := (mk M [(19, (M.1 19))] M.2.1 [(51, ((M.2.2 51) + (nI 1)))])) X inX7 tyX7 tyX7_ok nmX7 rfl (by decide) w_613 rfl (by decide +kernel) rfl rfl (hw.1 _) (Nat.le_of_ble_eq_true rfl) (mk_setS (sl' := [(51, ((M.2.2 51) + (nI 1)))]) (hw.2.2.2.2.2.2.2.2.2.2.2.2.2.2.2.2.2.2.2.2.2.2.2.2.2.2.2.2.2.2.2.2.1) rfl rfl) dX7_write_18 ?_
      refine z_bipush (v := (nI 46)) X dX7_write_21 (by decide) ?_
      obtain ⟨u7, hu7, h⟩ := ob h
      refine z_iast (M' := (mk M [(19, u7)] M.2.1 [(51, ((M.2.2 51) + (nI 1)))])) X (hw.2.2.2.2.2.2.2.2.2.2.2.2.2.2.2.2.2.2.2.1 _).1 (wr_ok hu7) (mk_set1 (l' := [(19, u7)]) (hw.2.2.2.2.2.2.2.2.2.2.2.2.2.2.2.2.2.2.2.1) rfl rfl) dX7_write_23 ?_
      have hq := Option.some.inj h
      subst hq
      exact z_vret hs dX7_write_24
set_option maxHeartbeats 4000000 in
theorem tX7_written {l : Launch} {D : va_G} {ct : Nat → ClassId} {tF : Nat} {wOf : Mm → va_W} {po ad : Nat → Nat} (hw : KM wOf po ad ct) (M : Mm) {v1 : Int32} {r : (Int32 × (Nat → Int32) × (Nat → Int32) × (Nat → Int32) × (Nat → Int32) × (Nat → Int32) × (Nat → Int32) × Int32 × Int32)} (h : fX7_written (M.1 11) (M.1 12) (M.1 13) (M.1 14) (M.1 15) (M.1 19) (M.2.2 40) (M.2.2 41) (M.2.2 50) (M.2.2 51) v1 = some r) : CtI l yX7_written cX7_written 2 .int { frames := 20, cells := 0, slots := 0, locals := 2141 } D ct tF wOf [.ref (ad 0), .int v1] M r.1 (mk M [(11, r.2.1), (12, r.2.2.1), (13, r.2.2.2.1), (14, r.2.2.2.2.1), (15, r.2.2.2.2.2.1), (19, r.2.2.2.2.2.2.1)] M.2.1 [(50, r.2.2.2.2.2.2.2.1), (51, r.2.2.2.2.2.2.2.2)]) := by
  refine metI (by decide) (Nat.le_of_ble_eq_true rfl) fun κ X e1 eR e3 e4 hs => ?_
  subst e1; subst e3; subst e4
  unfold fX7_written at h
  refine z_mem (mk_self M [11, 12, 13, 14, 15, 19] [50, 51]) ?_
  refine z_sub (lv' := [(0, .ref (ad 0)), (1, .int v1)]) [0, 1] rfl ?_
  show Zj κ 2 0 _ _ (mk M [(11, (M.1 11)), (12, (M.1 12)), (13, (M.1 13)), (14, (M.1 14)), (15, (M.1 15)), (19, (M.1 19))] M.2.1 [(50, (M.2.2 50)), (51, (M.2.2 51))])
  refine z_aload_n X dX7_written_0 0 rfl rfl ?_
  refine z_aload_n X dX7_written_1 0 rfl rfl ?_
  refine z_get (j := 1) (v := .int (M.2.2 41)) X inX7 rfl (by decide) w_506 (hw.1 _) rfl dX7_written_2 ?_
  refine z_aload_n X dX7_written_5 0 rfl rfl ?_
  refine z_get (j := 0) (v := .int (M.2.2 40)) X inX7 rfl (by decide) w_502 (hw.1 _) rfl dX7_written_6 ?_
  obtain ⟨r1, hr1, h⟩ := ob h
  refine z_cVV (As := [.int (M.2.2 41), .int (M.2.2 40)]) (st := []) X (tX7_looks hw (mk M [(11, (M.1 11)), (12, (M.1 12)), (13, (M.1 13)), (14, (M.1 14)), (15, (M.1 15)), (19, (M.1 19))] M.2.1 [(50, (M.2.2 50)), (51, (M.2.2 51))]) hr1) w_495 mvX7_looks (by rw [eR]; exact ⟨Nat.le_of_ble_eq_true rfl, Nat.le_of_ble_eq_true rfl⟩) ⟨rfl, rfl⟩ rfl (Nat.le_of_ble_eq_true rfl) (hw.1 _) rfl rfl dX7_written_9 ?_
  refine z_mem (mk_mk (l' := [(11, r1.1), (12, r1.2.1), (13, r1.2.2.1), (14, r1.2.2.2.1), (15, r1.2.2.2.2.1), (19, (M.1 19))]) (sl' := [(50, r1.2.2.2.2.2), (51, (M.2.2 51))]) rfl rfl rfl rfl) ?_
  refine z_aload_n X dX7_written_12 0 rfl rfl ?_
  refine z_iconst (v := (nI 0)) X dX7_written_13 (by decide) ?_
  refine z_put (j := 30) (ty := .int) (M' := (mk M [(11, r1.1), (12, r1.2.1), (13, r1.2.2.1), (14, r1.2.2.2.1), (15, r1.2.2.2.2.1), (19, (M.1 19))] M.2.1 [(50, r1.2.2.2.2.2), (51, (nI 0))])) X inX7 tyX7 tyX7_ok nmX7 rfl (by decide) w_613 rfl (by decide +kernel) rfl rfl (hw.1 _) (Nat.le_of_ble_eq_true rfl) (mk_setS (sl' := [(50, r1.2.2.2.2.2), (51, (nI 0))]) (hw.2.2.2.2.2.2.2.2.2.2.2.2.2.2.2.2.2.2.2.2.2.2.2.2.2.2.2.2.2.2.2.2.1) rfl rfl) dX7_written_14 ?_
  refine z_aload_n X dX7_written_17 0 rfl rfl ?_
  refine z_aload_n X dX7_written_18 0 rfl rfl ?_
  refine z_get (j := 25) (v := .int r1.2.2.2.2.2) X inX7 rfl (by decide) w_494 (hw.1 _) rfl dX7_written_19 ?_
  obtain ⟨r2, hr2, h⟩ := ob h
  refine z_cVV (As := [.int r1.2.2.2.2.2]) (st := []) X (tX7_write hw 16 (mk M [(11, r1.1), (12, r1.2.1), (13, r1.2.2.1), (14, r1.2.2.2.1), (15, r1.2.2.2.2.1), (19, (M.1 19))] M.2.1 [(50, r1.2.2.2.2.2), (51, (nI 0))]) hr2) w_614 mvX7_write (by rw [eR]; exact ⟨Nat.le_of_ble_eq_true rfl, Nat.le_of_ble_eq_true rfl⟩) ⟨rfl, rfl⟩ rfl (Nat.le_of_ble_eq_true rfl) (hw.1 _) rfl rfl dX7_written_22 ?_
  refine z_mem (mk_mk (l' := [(11, r1.1), (12, r1.2.1), (13, r1.2.2.1), (14, r1.2.2.2.1), (15, r1.2.2.2.2.1), (19, r2.1)]) (sl' := [(50, r1.2.2.2.2.2), (51, r2.2)]) rfl rfl rfl rfl) ?_
  refine z_iload_n X dX7_written_25 1 rfl rfl ?_
  refine z_iconst (v := (-1 : Int32)) X dX7_written_26 (by decide) ?_
  refine z_icmp_ne (tgt := 35) X dX7_written_27 (by decide) (fun c27 => ?_) (fun c27 => ?_)
  · rw [if_neg c27] at h
    refine z_iload_n X dX7_written_35 1 rfl rfl ?_
    refine z_i2l X dX7_written_36 ?_
    refine z_lconst (v := (0 : Int64)) X dX7_written_37 (by decide) ?_
    refine z_aload_n X dX7_written_38 0 rfl rfl ?_
    refine z_get (j := 30) (v := .int r2.2) X inX7 rfl (by decide) w_613 (hw.1 _) rfl dX7_written_39 ?_
    refine z_iconst (v := (nI 1)) X dX7_written_42 (by decide) ?_
    refine z_isub X dX7_written_43 ?_
    refine z_i2l X dX7_written_44 ?_
    obtain ⟨r3, hr3, h⟩ := ob h
    refine z_cSI (As := [.long (v1.toInt64), .long (0 : Int64), .long (((r2.2 - (nI 1))).toInt64)]) (st := []) X (tX7_in hw (mk M [(11, r1.1), (12, r1.2.1), (13, r1.2.2.1), (14, r1.2.2.2.1), (15, r1.2.2.2.2.1), (19, r2.1)] M.2.1 [(50, r1.2.2.2.2.2), (51, r2.2)]) hr3) w_472 msX7_in (by rw [eR]; exact ⟨Nat.le_of_ble_eq_true rfl, Nat.le_of_ble_eq_true rfl⟩) ⟨rfl, rfl⟩ rfl (Nat.le_of_ble_eq_true rfl) rfl dX7_written_45 ?_
    refine z_if_eq (tgt := 60) X dX7_written_48 (by decide) (fun c48 => ?_) (fun c48 => ?_)
    · rw [if_pos c48] at h
      refine z_iconst (v := (-1 : Int32)) X dX7_written_60 (by decide) ?_
      have hq := Option.some.inj h
      subst hq
      exact z_iret hs dX7_written_61 rfl
    · rw [if_neg c48] at h
      refine z_aload_n X dX7_written_51 0 rfl rfl ?_
      refine z_get (j := 29) (v := .ref (ad 19)) X inX7 rfl (by decide) w_612 (hw.1 _) rfl dX7_written_52 ?_
      refine z_iload_n X dX7_written_55 1 rfl rfl ?_
      obtain ⟨t4, ht4, h⟩ := ob h
      refine z_iald X (hw.2.2.2.2.2.2.2.2.2.2.2.2.2.2.2.2.2.2.2.1 _).1 (rd_ok ht4) dX7_written_56 ?_
      refine z_goto (tgt := 61) X dX7_written_57 (by decide) ?_
      have hq := Option.some.inj h
      subst hq
      exact z_iret hs dX7_written_61 rfl
  · rw [if_pos c27] at h
    refine z_aload_n X dX7_written_30 0 rfl rfl ?_
    refine z_get (j := 30) (v := .int r2.2) X inX7 rfl (by decide) w_613 (hw.1 _) rfl dX7_written_31 ?_
    have hq := Option.some.inj h
    subst hq
    exact z_iret hs dX7_written_34 rfl
set_option maxHeartbeats 4000000 in
theorem bX7_image_B23 {κ : Rx} {ct : Nat → ClassId} {tF : Nat} {po ad : Nat → Nat} (X : CX κ ct tF cX7_image 2 RX7) (eR : kR κ = { frames := 0, cells := 0, slots := 0, locals := 0 }) (hw : KM (kw κ) po ad ct) (M : Mm) (s_imaged : Int32) (s_imageNodes : Int32) (s_imageTree : Int32)  : ∀ (x : (Int32 × (Nat → Int32) × (Nat → Int32))) (s : (Int32 × (Nat → Int32) × (Nat → Int32)) ⊕ ((Nat → Int32) × (Nat → Int32))), fX7_image_B23 (M.1 1) (M.1 2) x = some s → Sum.elim (fun x => Zj κ 2 23 [(0, .ref (ad 0)), (1, .int x.1)] [] (mk M [(8, x.2.1), (9, x.2.2)] M.2.1 [(45, s_imaged), (46, s_imageNodes), (47, s_imageTree)])) (fun y => Zj κ 2 58 [(0, .ref (ad 0))] [] (mk M [(8, y.1), (9, y.2)] M.2.1 [(45, s_imaged), (46, s_imageNodes), (47, s_imageTree)])) s → Zj κ 2 23 [(0, .ref (ad 0)), (1, .int x.1)] [] (mk M [(8, x.2.1), (9, x.2.2)] M.2.1 [(45, s_imaged), (46, s_imageNodes), (47, s_imageTree)]) := by
  intro x s h hs
  unfold fX7_image_B23 at h
  refine z_iload_n X dX7_image_23 1 rfl rfl ?_
  refine z_iconst (v := (nI 4)) X dX7_image_24 (by decide) ?_
  refine z_icmp_ge (tgt := 58) X dX7_image_25 (by decide) (fun c25 => ?_) (fun c25 => ?_)
  · rw [if_pos c25] at h
    have hq := Option.some.inj h
    subst hq
    exact z_sub [0] rfl hs
  · rw [if_neg c25] at h
    refine z_aload_n X dX7_image_28 0 rfl rfl ?_
    refine z_get (j := 15) (v := .ref (ad 8)) X inX7 rfl (by decide) w_621 (hw.1 _) rfl dX7_image_29 ?_
    refine z_iload_n X dX7_image_32 1 rfl rfl ?_
    refine z_aload_n X dX7_image_33 0 rfl rfl ?_
    refine z_get (j := 2) (v := .ref (ad 1)) X inX7 rfl (by decide) w_539 (hw.1 _) rfl dX7_image_34 ?_
    refine z_iload_n X dX7_image_37 1 rfl rfl ?_
    obtain ⟨t1, ht1, h⟩ := ob h
    refine z_iald X (hw.2.1 _).1 (rd_ok ht1) dX7_image_38 ?_
    obtain ⟨u2, hu2, h⟩ := ob h
    refine z_iast (M' := (mk M [(8, u2), (9, x.2.2)] M.2.1 [(45, s_imaged), (46, s_imageNodes), (47, s_imageTree)])) X (hw.2.2.2.2.2.2.2.2.1 _).1 (wr_ok hu2) (mk_set1 (l' := [(8, u2), (9, x.2.2)]) (hw.2.2.2.2.2.2.2.2.1) rfl rfl) dX7_image_39 ?_
    refine z_aload_n X dX7_image_40 0 rfl rfl ?_
    refine z_get (j := 16) (v := .ref (ad 9)) X inX7 rfl (by decide) w_622 (hw.1 _) rfl dX7_image_41 ?_
    refine z_iload_n X dX7_image_44 1 rfl rfl ?_
    refine z_aload_n X dX7_image_45 0 rfl rfl ?_
    refine z_get (j := 3) (v := .ref (ad 2)) X inX7 rfl (by decide) w_547 (hw.1 _) rfl dX7_image_46 ?_
    refine z_iload_n X dX7_image_49 1 rfl rfl ?_
    obtain ⟨t3, ht3, h⟩ := ob h
    refine z_iald X (hw.2.2.1 _).1 (rd_ok ht3) dX7_image_50 ?_
    obtain ⟨u4, hu4, h⟩ := ob h
    refine z_iast (M' := (mk M [(8, u2), (9, u4)] M.2.1 [(45, s_imaged), (46, s_imageNodes), (47, s_imageTree)])) X (hw.2.2.2.2.2.2.2.2.2.1 _).1 (wr_ok hu4) (mk_set1 (l' := [(8, u2), (9, u4)]) (hw.2.2.2.2.2.2.2.2.2.1) rfl rfl) dX7_image_51 ?_
    refine z_iinc (v := (x.1 + nI 1)) (lv' := [(1, .int (x.1 + nI 1)), (0, .ref (ad 0))]) X dX7_image_52 1 rfl rfl (by decide) rfl ?_
    refine z_goto (tgt := 23) X dX7_image_55 (by decide) ?_
    have hq := Option.some.inj h
    subst hq
    exact z_sub [1, 0] rfl hs
set_option maxHeartbeats 4000000 in
theorem tX7_image {l : Launch} {D : va_G} {ct : Nat → ClassId} {tF : Nat} {wOf : Mm → va_W} {po ad : Nat → Nat} (hw : KM wOf po ad ct) (M : Mm)  {r : (Int32 × (Nat → Int32) × (Nat → Int32) × Int32 × Int32 × Int32)} (h : fX7_image (M.1 1) (M.1 2) (M.1 8) (M.1 9) (M.2.2 40) (M.2.2 41) (M.2.2 45) (M.2.2 46) (M.2.2 47) = some r) : CtI l yX7_image cX7_image 2 .int { frames := 0, cells := 0, slots := 0, locals := 0 } D ct tF wOf [.ref (ad 0)] M r.1 (mk M [(8, r.2.1), (9, r.2.2.1)] M.2.1 [(45, r.2.2.2.1), (46, r.2.2.2.2.1), (47, r.2.2.2.2.2)]) := by
  refine metI (by decide) (Nat.le_of_ble_eq_true rfl) fun κ X e1 eR e3 e4 hs => ?_
  subst e1; subst e3; subst e4
  unfold fX7_image at h
  refine z_mem (mk_self M [8, 9] [45, 46, 47]) ?_
  refine z_sub (lv' := [(0, .ref (ad 0))]) [0] rfl ?_
  show Zj κ 2 0 _ _ (mk M [(8, (M.1 8)), (9, (M.1 9))] M.2.1 [(45, (M.2.2 45)), (46, (M.2.2 46)), (47, (M.2.2 47))])
  refine z_aload_n X dX7_image_0 0 rfl rfl ?_
  refine z_iconst (v := (nI 1)) X dX7_image_1 (by decide) ?_
  refine z_put (j := 12) (ty := .boolean) (M' := (mk M [(8, (M.1 8)), (9, (M.1 9))] M.2.1 [(45, (nI 1)), (46, (M.2.2 46)), (47, (M.2.2 47))])) X inX7 tyX7 tyX7_ok nmX7 rfl (by decide) w_618 rfl (by decide +kernel) rfl rfl (hw.1 _) (Nat.le_of_ble_eq_true rfl) (mk_setS (sl' := [(45, (nI 1)), (46, (M.2.2 46)), (47, (M.2.2 47))]) (hw.2.2.2.2.2.2.2.2.2.2.2.2.2.2.2.2.2.2.2.2.2.2.2.2.2.2.1) rfl rfl) dX7_image_2 ?_
  refine z_aload_n X dX7_image_5 0 rfl rfl ?_
  refine z_aload_n X dX7_image_6 0 rfl rfl ?_
  refine z_get (j := 0) (v := .int (M.2.2 40)) X inX7 rfl (by decide) w_502 (hw.1 _) rfl dX7_image_7 ?_
  refine z_put (j := 13) (ty := .int) (M' := (mk M [(8, (M.1 8)), (9, (M.1 9))] M.2.1 [(45, (nI 1)), (46, (M.2.2 40)), (47, (M.2.2 47))])) X inX7 tyX7 tyX7_ok nmX7 rfl (by decide) w_619 rfl (by decide +kernel) rfl rfl (hw.1 _) (Nat.le_of_ble_eq_true rfl) (mk_setS (sl' := [(45, (nI 1)), (46, (M.2.2 40)), (47, (M.2.2 47))]) (hw.2.2.2.2.2.2.2.2.2.2.2.2.2.2.2.2.2.2.2.2.2.2.2.2.2.2.2.1) rfl rfl) dX7_image_10 ?_
  refine z_aload_n X dX7_image_13 0 rfl rfl ?_
  refine z_aload_n X dX7_image_14 0 rfl rfl ?_
  refine z_get (j := 1) (v := .int (M.2.2 41)) X inX7 rfl (by decide) w_506 (hw.1 _) rfl dX7_image_15 ?_
  refine z_put (j := 14) (ty := .int) (M' := (mk M [(8, (M.1 8)), (9, (M.1 9))] M.2.1 [(45, (nI 1)), (46, (M.2.2 40)), (47, (M.2.2 41))])) X inX7 tyX7 tyX7_ok nmX7 rfl (by decide) w_620 rfl (by decide +kernel) rfl rfl (hw.1 _) (Nat.le_of_ble_eq_true rfl) (mk_setS (sl' := [(45, (nI 1)), (46, (M.2.2 40)), (47, (M.2.2 41))]) (hw.2.2.2.2.2.2.2.2.2.2.2.2.2.2.2.2.2.2.2.2.2.2.2.2.2.2.2.2.1) rfl rfl) dX7_image_18 ?_
  refine z_iconst (v := (nI 0)) X dX7_image_21 (by decide) ?_
  refine z_istore_n (lv' := [(1, .int (nI 0)), (0, .ref (ad 0))]) X dX7_image_22 rfl (by decide) rfl ?_
  refine z_sub [1, 0] rfl ?_
  obtain ⟨y1, hy1, h⟩ := ob h
  refine (it_Z (bX7_image_B23 X eR hw M (nI 1) (M.2.2 40) (M.2.2 41)) FU _ y1 hy1) ?_
  refine z_aload_n X dX7_image_58 0 rfl rfl ?_
  refine z_get (j := 0) (v := .int (M.2.2 40)) X inX7 rfl (by decide) w_502 (hw.1 _) rfl dX7_image_59 ?_
  have hq := Option.some.inj h
  subst hq
  exact z_iret hs dX7_image_62 rfl
set_option maxHeartbeats 4000000 in
theorem bX7_undo_B28 {κ : Rx} {ct : Nat → ClassId} {tF : Nat} {po ad : Nat → Nat} (X : CX κ ct tF cX7_undo 2 RX7) (eR : kR κ = { frames := 0, cells := 0, slots := 0, locals := 0 }) (hw : KM (kw κ) po ad ct) (M : Mm) (s_nodes : Int32) (s_tree : Int32) (s_steps : Int32)  : ∀ (x : (Int32 × (Nat → Int32) × (Nat → Int32))) (s : (Int32 × (Nat → Int32) × (Nat → Int32)) ⊕ ((Nat → Int32) × (Nat → Int32))), fX7_undo_B28 (M.1 8) (M.1 9) x = some s → Sum.elim (fun x => Zj κ 2 28 [(0, .ref (ad 0)), (1, .int x.1)] [] (mk M [(1, x.2.1), (2, x.2.2)] M.2.1 [(40, s_nodes), (41, s_tree), (42, s_steps)])) (fun y => Zj κ 2 63 [(0, .ref (ad 0))] [] (mk M [(1, y.1), (2, y.2)] M.2.1 [(40, s_nodes), (41, s_tree), (42, s_steps)])) s → Zj κ 2 28 [(0, .ref (ad 0)), (1, .int x.1)] [] (mk M [(1, x.2.1), (2, x.2.2)] M.2.1 [(40, s_nodes), (41, s_tree), (42, s_steps)]) := by
  intro x s h hs
  unfold fX7_undo_B28 at h
  refine z_iload_n X dX7_undo_28 1 rfl rfl ?_
  refine z_iconst (v := (nI 4)) X dX7_undo_29 (by decide) ?_
  refine z_icmp_ge (tgt := 63) X dX7_undo_30 (by decide) (fun c30 => ?_) (fun c30 => ?_)
  · rw [if_pos c30] at h
    have hq := Option.some.inj h
    subst hq
    exact z_sub [0] rfl hs
  · rw [if_neg c30] at h
    refine z_aload_n X dX7_undo_33 0 rfl rfl ?_
    refine z_get (j := 2) (v := .ref (ad 1)) X inX7 rfl (by decide) w_539 (hw.1 _) rfl dX7_undo_34 ?_
    refine z_iload_n X dX7_undo_37 1 rfl rfl ?_
    refine z_aload_n X dX7_undo_38 0 rfl rfl ?_
    refine z_get (j := 15) (v := .ref (ad 8)) X inX7 rfl (by decide) w_621 (hw.1 _) rfl dX7_undo_39 ?_
    refine z_iload_n X dX7_undo_42 1 rfl rfl ?_
    obtain ⟨t1, ht1, h⟩ := ob h
    refine z_iald X (hw.2.2.2.2.2.2.2.2.1 _).1 (rd_ok ht1) dX7_undo_43 ?_
    obtain ⟨u2, hu2, h⟩ := ob h
    refine z_iast (M' := (mk M [(1, u2), (2, x.2.2)] M.2.1 [(40, s_nodes), (41, s_tree), (42, s_steps)])) X (hw.2.1 _).1 (wr_ok hu2) (mk_set1 (l' := [(1, u2), (2, x.2.2)]) (hw.2.1) rfl rfl) dX7_undo_44 ?_
    refine z_aload_n X dX7_undo_45 0 rfl rfl ?_
    refine z_get (j := 3) (v := .ref (ad 2)) X inX7 rfl (by decide) w_547 (hw.1 _) rfl dX7_undo_46 ?_
    refine z_iload_n X dX7_undo_49 1 rfl rfl ?_
    refine z_aload_n X dX7_undo_50 0 rfl rfl ?_
    refine z_get (j := 16) (v := .ref (ad 9)) X inX7 rfl (by decide) w_622 (hw.1 _) rfl dX7_undo_51 ?_
    refine z_iload_n X dX7_undo_54 1 rfl rfl ?_
    obtain ⟨t3, ht3, h⟩ := ob h
    refine z_iald X (hw.2.2.2.2.2.2.2.2.2.1 _).1 (rd_ok ht3) dX7_undo_55 ?_
    obtain ⟨u4, hu4, h⟩ := ob h
    refine z_iast (M' := (mk M [(1, u2), (2, u4)] M.2.1 [(40, s_nodes), (41, s_tree), (42, s_steps)])) X (hw.2.2.1 _).1 (wr_ok hu4) (mk_set1 (l' := [(1, u2), (2, u4)]) (hw.2.2.1) rfl rfl) dX7_undo_56 ?_
    refine z_iinc (v := (x.1 + nI 1)) (lv' := [(1, .int (x.1 + nI 1)), (0, .ref (ad 0))]) X dX7_undo_57 1 rfl rfl (by decide) rfl ?_
    refine z_goto (tgt := 28) X dX7_undo_60 (by decide) ?_
    have hq := Option.some.inj h
    subst hq
    exact z_sub [1, 0] rfl hs
set_option maxHeartbeats 4000000 in
theorem tX7_undo {l : Launch} {D : va_G} {ct : Nat → ClassId} {tF : Nat} {wOf : Mm → va_W} {po ad : Nat → Nat} (hw : KM wOf po ad ct) (M : Mm)  {r : (Int32 × (Nat → Int32) × (Nat → Int32) × Int32 × Int32 × Int32)} (h : fX7_undo (M.1 1) (M.1 2) (M.1 8) (M.1 9) (M.2.2 40) (M.2.2 41) (M.2.2 42) (M.2.2 45) (M.2.2 46) (M.2.2 47) = some r) : CtI l yX7_undo cX7_undo 2 .int { frames := 0, cells := 0, slots := 0, locals := 0 } D ct tF wOf [.ref (ad 0)] M r.1 (mk M [(1, r.2.1), (2, r.2.2.1)] M.2.1 [(40, r.2.2.2.1), (41, r.2.2.2.2.1), (42, r.2.2.2.2.2)]) := by
  refine metI (by decide) (Nat.le_of_ble_eq_true rfl) fun κ X e1 eR e3 e4 hs => ?_
  subst e1; subst e3; subst e4
  unfold fX7_undo at h
  refine z_mem (mk_self M [1, 2] [40, 41, 42]) ?_
  refine z_sub (lv' := [(0, .ref (ad 0))]) [0] rfl ?_
  show Zj κ 2 0 _ _ (mk M [(1, (M.1 1)), (2, (M.1 2))] M.2.1 [(40, (M.2.2 40)), (41, (M.2.2 41)), (42, (M.2.2 42))])
  refine z_aload_n X dX7_undo_0 0 rfl rfl ?_
  refine z_get (j := 12) (v := .int (M.2.2 45)) X inX7 rfl (by decide) w_618 (hw.1 _) rfl dX7_undo_1 ?_
  refine z_if_ne (tgt := 10) X dX7_undo_4 (by decide) (fun c4 => ?_) (fun c4 => ?_)
  · rw [if_neg c4] at h
    refine z_aload_n X dX7_undo_10 0 rfl rfl ?_
    refine z_aload_n X dX7_undo_11 0 rfl rfl ?_
    refine z_get (j := 13) (v := .int (M.2.2 46)) X inX7 rfl (by decide) w_619 (hw.1 _) rfl dX7_undo_12 ?_
    refine z_put (j := 0) (ty := .int) (M' := (mk M [(1, (M.1 1)), (2, (M.1 2))] M.2.1 [(40, (M.2.2 46)), (41, (M.2.2 41)), (42, (M.2.2 42))])) X inX7 tyX7 tyX7_ok nmX7 rfl (by decide) w_502 rfl (by decide +kernel) rfl rfl (hw.1 _) (Nat.le_of_ble_eq_true rfl) (mk_setS (sl' := [(40, (M.2.2 46)), (41, (M.2.2 41)), (42, (M.2.2 42))]) (hw.2.2.2.2.2.2.2.2.2.2.2.2.2.2.2.2.2.2.2.2.2.1) rfl rfl) dX7_undo_15 ?_
    refine z_aload_n X dX7_undo_18 0 rfl rfl ?_
    refine z_aload_n X dX7_undo_19 0 rfl rfl ?_
    refine z_get (j := 14) (v := .int (M.2.2 47)) X inX7 rfl (by decide) w_620 (hw.1 _) rfl dX7_undo_20 ?_
    refine z_put (j := 1) (ty := .int) (M' := (mk M [(1, (M.1 1)), (2, (M.1 2))] M.2.1 [(40, (M.2.2 46)), (41, (M.2.2 47)), (42, (M.2.2 42))])) X inX7 tyX7 tyX7_ok nmX7 rfl (by decide) w_506 rfl (by decide +kernel) rfl rfl (hw.1 _) (Nat.le_of_ble_eq_true rfl) (mk_setS (sl' := [(40, (M.2.2 46)), (41, (M.2.2 47)), (42, (M.2.2 42))]) (hw.2.2.2.2.2.2.2.2.2.2.2.2.2.2.2.2.2.2.2.2.2.2.1) rfl rfl) dX7_undo_23 ?_
    refine z_iconst (v := (nI 0)) X dX7_undo_26 (by decide) ?_
    refine z_istore_n (lv' := [(1, .int (nI 0)), (0, .ref (ad 0))]) X dX7_undo_27 rfl (by decide) rfl ?_
    refine z_sub [1, 0] rfl ?_
    obtain ⟨y1, hy1, h⟩ := ob h
    refine (it_Z (bX7_undo_B28 X eR hw M (M.2.2 46) (M.2.2 47) (M.2.2 42)) FU _ y1 hy1) ?_
    refine z_aload_n X dX7_undo_63 0 rfl rfl ?_
    refine z_iconst (v := (nI 0)) X dX7_undo_64 (by decide) ?_
    refine z_put (j := 6) (ty := .int) (M' := (mk M [(1, y1.1), (2, y1.2)] M.2.1 [(40, (M.2.2 46)), (41, (M.2.2 47)), (42, (nI 0))])) X inX7 tyX7 tyX7_ok nmX7 rfl (by decide) w_503 rfl (by decide +kernel) rfl rfl (hw.1 _) (Nat.le_of_ble_eq_true rfl) (mk_setS (sl' := [(40, (M.2.2 46)), (41, (M.2.2 47)), (42, (nI 0))]) (hw.2.2.2.2.2.2.2.2.2.2.2.2.2.2.2.2.2.2.2.2.2.2.2.1) rfl rfl) dX7_undo_65 ?_
    refine z_aload_n X dX7_undo_68 0 rfl rfl ?_
    refine z_get (j := 0) (v := .int (M.2.2 46)) X inX7 rfl (by decide) w_502 (hw.1 _) rfl dX7_undo_69 ?_
    have hq := Option.some.inj h
    subst hq
    exact z_iret hs dX7_undo_72 rfl
  · rw [if_pos c4] at h
    refine z_bipush (v := (-3 : Int32)) X dX7_undo_7 (by decide) ?_
    have hq := Option.some.inj h
    subst hq
    exact z_iret hs dX7_undo_9 rfl
set_option maxHeartbeats 4000000 in
theorem jX7_count_J70 {κ : Rx} {ct : Nat → ClassId} {tF : Nat} {po ad : Nat → Nat} (X : CX κ ct tF cX7_count 4 RX7) (eR : kR κ = { frames := 0, cells := 0, slots := 0, locals := 0 }) (hw : KM (kw κ) po ad ct) (M : Mm)   (v2 : Int32) (v3 : Int32)  (s : ((Int32 × Int32) ⊕ Int32)) (h : fX7_count_J70 (M.1 1) v2 v3 = some s) (hs : (Sum.elim (fun x => Zj κ 4 53 [(0, .ref (ad 0)), (2, .int x.1), (3, .int x.2)] [] M) (fun y => Zj κ 4 76 [(2, .int y)] [] M) s)) : Zj κ 4 70 [(0, .ref (ad 0)), (2, .int v2), (3, .int v3)] [] M := by
  unfold fX7_count_J70 at h
  refine z_iinc (v := (v3 + nI 1)) (lv' := [(3, .int (v3 + nI 1)), (0, .ref (ad 0)), (2, .int v2)]) X dX7_count_70 2 rfl rfl (by decide) rfl ?_
  refine z_goto (tgt := 53) X dX7_count_73 (by decide) ?_
  have hq := Option.some.inj h
  subst hq
  exact z_sub [1, 2, 0] rfl hs
set_option maxHeartbeats 4000000 in
theorem bX7_count_B53 {κ : Rx} {ct : Nat → ClassId} {tF : Nat} {po ad : Nat → Nat} (X : CX κ ct tF cX7_count 4 RX7) (eR : kR κ = { frames := 0, cells := 0, slots := 0, locals := 0 }) (hw : KM (kw κ) po ad ct) (M : Mm)   : ∀ (x : (Int32 × Int32)) (s : (Int32 × Int32) ⊕ Int32), fX7_count_B53 (M.1 1) x = some s → Sum.elim (fun x => Zj κ 4 53 [(0, .ref (ad 0)), (2, .int x.1), (3, .int x.2)] [] M) (fun y => Zj κ 4 76 [(2, .int y)] [] M) s → Zj κ 4 53 [(0, .ref (ad 0)), (2, .int x.1), (3, .int x.2)] [] M := by
  intro x s h hs
  unfold fX7_count_B53 at h
  refine z_iload_n X dX7_count_53 2 rfl rfl ?_
  refine z_iconst (v := (nI 4)) X dX7_count_54 (by decide) ?_
  refine z_icmp_ge (tgt := 76) X dX7_count_55 (by decide) (fun c55 => ?_) (fun c55 => ?_)
  · rw [if_pos c55] at h
    have hq := Option.some.inj h
    subst hq
    exact z_sub [1] rfl hs
  · rw [if_neg c55] at h
    refine z_aload_n X dX7_count_58 0 rfl rfl ?_
    refine z_get (j := 2) (v := .ref (ad 1)) X inX7 rfl (by decide) w_539 (hw.1 _) rfl dX7_count_59 ?_
    refine z_iload_n X dX7_count_62 2 rfl rfl ?_
    obtain ⟨t1, ht1, h⟩ := ob h
    refine z_iald X (hw.2.1 _).1 (rd_ok ht1) dX7_count_63 ?_
    refine z_if_le (tgt := 70) X dX7_count_64 (by decide) (fun c64 => ?_) (fun c64 => ?_)
    · rw [if_pos c64] at h
      exact (jX7_count_J70 X eR hw M x.1 x.2 _ h hs)
    · rw [if_neg c64] at h
      refine z_iinc (v := (x.1 + nI 1)) (lv' := [(2, .int (x.1 + nI 1)), (0, .ref (ad 0)), (3, .int x.2)]) X dX7_count_67 1 rfl rfl (by decide) rfl ?_
      exact z_sub [1, 0, 2] rfl (jX7_count_J70 X eR hw M (x.1 + nI 1) x.2 _ h hs)
set_option maxHeartbeats 4000000 in
theorem jX7_count_J97 {κ : Rx} {ct : Nat → ClassId} {tF : Nat} {po ad : Nat → Nat} (X : CX κ ct tF cX7_count 4 RX7) (eR : kR κ = { frames := 0, cells := 0, slots := 0, locals := 0 }) (hw : KM (kw κ) po ad ct) (M : Mm)   (v2 : Int32) (v3 : Int32)  (s : ((Int32 × Int32) ⊕ Int32)) (h : fX7_count_J97 (M.1 6) v2 v3 = some s) (hs : (Sum.elim (fun x => Zj κ 4 80 [(0, .ref (ad 0)), (2, .int x.1), (3, .int x.2)] [] M) (fun y => Zj κ 4 103 [(2, .int y)] [] M) s)) : Zj κ 4 97 [(0, .ref (ad 0)), (2, .int v2), (3, .int v3)] [] M := by
  unfold fX7_count_J97 at h
  refine z_iinc (v := (v3 + nI 1)) (lv' := [(3, .int (v3 + nI 1)), (0, .ref (ad 0)), (2, .int v2)]) X dX7_count_97 2 rfl rfl (by decide) rfl ?_
  refine z_goto (tgt := 80) X dX7_count_100 (by decide) ?_
  have hq := Option.some.inj h
  subst hq
  exact z_sub [1, 2, 0] rfl hs
set_option maxHeartbeats 4000000 in
theorem bX7_count_B80 {κ : Rx} {ct : Nat → ClassId} {tF : Nat} {po ad : Nat → Nat} (X : CX κ ct tF cX7_count 4 RX7) (eR : kR κ = { frames := 0, cells := 0, slots := 0, locals := 0 }) (hw : KM (kw κ) po ad ct) (M : Mm)   : ∀ (x : (Int32 × Int32)) (s : (Int32 × Int32) ⊕ Int32), fX7_count_B80 (M.1 6) x = some s → Sum.elim (fun x => Zj κ 4 80 [(0, .ref (ad 0)), (2, .int x.1), (3, .int x.2)] [] M) (fun y => Zj κ 4 103 [(2, .int y)] [] M) s → Zj κ 4 80 [(0, .ref (ad 0)), (2, .int x.1), (3, .int x.2)] [] M := by
  intro x s h hs
  unfold fX7_count_B80 at h
  refine z_iload_n X dX7_count_80 2 rfl rfl ?_
  refine z_iconst (v := (nI 3)) X dX7_count_81 (by decide) ?_
  refine z_icmp_ge (tgt := 103) X dX7_count_82 (by decide) (fun c82 => ?_) (fun c82 => ?_)
  · rw [if_pos c82] at h
    have hq := Option.some.inj h
    subst hq
    exact z_sub [1] rfl hs
  · rw [if_neg c82] at h
    refine z_aload_n X dX7_count_85 0 rfl rfl ?_
    refine z_get (j := 8) (v := .ref (ad 6)) X inX7 rfl (by decide) w_584 (hw.1 _) rfl dX7_count_86 ?_
    refine z_iload_n X dX7_count_89 2 rfl rfl ?_
    obtain ⟨t1, ht1, h⟩ := ob h
    refine z_iald X (hw.2.2.2.2.2.2.1 _).1 (rd_ok ht1) dX7_count_90 ?_
    refine z_if_lt (tgt := 97) X dX7_count_91 (by decide) (fun c91 => ?_) (fun c91 => ?_)
    · rw [if_pos c91] at h
      exact (jX7_count_J97 X eR hw M x.1 x.2 _ h hs)
    · rw [if_neg c91] at h
      refine z_iinc (v := (x.1 + nI 1)) (lv' := [(2, .int (x.1 + nI 1)), (0, .ref (ad 0)), (3, .int x.2)]) X dX7_count_94 1 rfl rfl (by decide) rfl ?_
      exact z_sub [1, 0, 2] rfl (jX7_count_J97 X eR hw M (x.1 + nI 1) x.2 _ h hs)
set_option maxHeartbeats 4000000 in
theorem tX7_count {l : Launch} {D : va_G} {ct : Nat → ClassId} {tF : Nat} {wOf : Mm → va_W} {po ad : Nat → Nat} (hw : KM wOf po ad ct) (M : Mm) {v1 : Int32} {r : Int32} (h : fX7_count (M.1 1) (M.1 6) (M.2.2 40) (M.2.2 42) (M.2.2 43) v1 = some r) : CtI l yX7_count cX7_count 4 .int { frames := 0, cells := 0, slots := 0, locals := 0 } D ct tF wOf [.ref (ad 0), .int v1] M r M := by
  refine metI (by decide) (Nat.le_of_ble_eq_true rfl) fun κ X e1 eR e3 e4 hs => ?_
  subst e1; subst e3; subst e4
  unfold fX7_count at h
  refine z_sub (lv' := [(0, .ref (ad 0)), (1, .int v1)]) [0, 1] rfl ?_
  refine z_iconst (v := (nI 0)) X dX7_count_0 (by decide) ?_
  refine z_istore_n (lv' := [(2, .int (nI 0)), (0, .ref (ad 0)), (1, .int v1)]) X dX7_count_1 rfl (by decide) rfl ?_
  refine z_iload_n X dX7_count_2 2 rfl rfl ?_
  by_cases c3_0 : v1 = nI 0
  · rw [if_pos c3_0] at h
    refine z_tabI (off := 33) (tgt := 36) X dX7_count_3 (by rw [c3_0]; decide) (by rw [c3_0]; decide) (by rw [c3_0]; decide) (by decide) ?_
    refine z_aload_n X dX7_count_36 1 rfl rfl ?_
    refine z_get (j := 0) (v := .int (M.2.2 40)) X inX7 rfl (by decide) w_502 (hw.1 _) rfl dX7_count_37 ?_
    have hq := Option.some.inj h
    subst hq
    exact z_iret hs dX7_count_40 rfl
  · rw [if_neg c3_0] at h
    by_cases c3_1 : v1 = nI 1
    · rw [if_pos c3_1] at h
      refine z_tabI (off := 38) (tgt := 41) X dX7_count_3 (by rw [c3_1]; decide) (by rw [c3_1]; decide) (by rw [c3_1]; decide) (by decide) ?_
      refine z_aload_n X dX7_count_41 1 rfl rfl ?_
      refine z_get (j := 6) (v := .int (M.2.2 42)) X inX7 rfl (by decide) w_503 (hw.1 _) rfl dX7_count_42 ?_
      have hq := Option.some.inj h
      subst hq
      exact z_iret hs dX7_count_45 rfl
    · rw [if_neg c3_1] at h
      by_cases c3_2 : v1 = nI 2
      · rw [if_pos c3_2] at h
        refine z_tabI (off := 43) (tgt := 46) X dX7_count_3 (by rw [c3_2]; decide) (by rw [c3_2]; decide) (by rw [c3_2]; decide) (by decide) ?_
        refine z_aload_n X dX7_count_46 1 rfl rfl ?_
        refine z_get (j := 10) (v := .int (M.2.2 43)) X inX7 rfl (by decide) w_597 (hw.1 _) rfl dX7_count_47 ?_
        have hq := Option.some.inj h
        subst hq
        exact z_iret hs dX7_count_50 rfl
      · rw [if_neg c3_2] at h
        by_cases c3_3 : v1 = nI 3
        · rw [if_pos c3_3] at h
          refine z_tabI (off := 48) (tgt := 51) X dX7_count_3 (by rw [c3_3]; decide) (by rw [c3_3]; decide) (by rw [c3_3]; decide) (by decide) ?_
          refine z_iconst (v := (nI 0)) X dX7_count_51 (by decide) ?_
          refine z_istore_n (lv' := [(3, .int (nI 0)), (2, .int (nI 0)), (0, .ref (ad 0)), (1, .int v1)]) X dX7_count_52 rfl (by decide) rfl ?_
          refine z_sub [2, 1, 0] rfl ?_
          obtain ⟨y1, hy1, h⟩ := ob h
          refine (it_Z (bX7_count_B53 X eR hw M) FU _ y1 hy1) ?_
          refine z_iload_n X dX7_count_76 0 rfl rfl ?_
          have hq := Option.some.inj h
          subst hq
          exact z_iret hs dX7_count_77 rfl
        · rw [if_neg c3_3] at h
          by_cases c3_4 : v1 = nI 4
          · rw [if_pos c3_4] at h
            refine z_tabI (off := 75) (tgt := 78) X dX7_count_3 (by rw [c3_4]; decide) (by rw [c3_4]; decide) (by rw [c3_4]; decide) (by decide) ?_
            refine z_iconst (v := (nI 0)) X dX7_count_78 (by decide) ?_
            refine z_istore_n (lv' := [(3, .int (nI 0)), (2, .int (nI 0)), (0, .ref (ad 0)), (1, .int v1)]) X dX7_count_79 rfl (by decide) rfl ?_
            refine z_sub [2, 1, 0] rfl ?_
            obtain ⟨y2, hy2, h⟩ := ob h
            refine (it_Z (bX7_count_B80 X eR hw M) FU _ y2 hy2) ?_
            refine z_iload_n X dX7_count_103 0 rfl rfl ?_
            have hq := Option.some.inj h
            subst hq
            exact z_iret hs dX7_count_104 rfl
          · rw [if_neg c3_4] at h
            refine z_tabO (tgt := 105) X dX7_count_3 (by have q0 := lv_neT c3_0 (show (nI 0).toInt = 0 from rfl); have q1 := lv_neT c3_1 (show (nI 1).toInt = 1 from rfl); have q2 := lv_neT c3_2 (show (nI 2).toInt = 2 from rfl); have q3 := lv_neT c3_3 (show (nI 3).toInt = 3 from rfl); have q4 := lv_neT c3_4 (show (nI 4).toInt = 4 from rfl); omega) (by decide) ?_
            refine z_iconst (v := (-1 : Int32)) X dX7_count_105 (by decide) ?_
            have hq := Option.some.inj h
            subst hq
            exact z_iret hs dX7_count_106 rfl
