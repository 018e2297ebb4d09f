set_option maxHeartbeats 4000000 in
theorem jX7_mayTurn_J72 {κ : Rx} {ct : Nat → ClassId} {tF : Nat} {po ad : Nat → Nat} (X : CX κ ct tF cX7_mayTurn 4 RX7) (eR : kR κ = { frames := 21, cells := 0, slots := 0, locals := 2165 }) (hw : KM (kw κ) po ad ct) (M : Mm) (a_parent : Nat → Int32) (a_left : Nat → Int32) (a_right : Nat → Int32) (a_leftSize : Nat → Int32) (a_above : Nat → Int32) (s_read : Int32)  (v1 : Int32) (v2 : Int32) (v3 : Int32)  (s : ((Int32 × Int32 × (Nat → Int32) × (Nat → Int32) × (Nat → Int32) × (Nat → Int32) × (Nat → Int32) × Int32) ⊕ (Int32 × (Nat → Int32) × (Nat → Int32) × (Nat → Int32) × (Nat → Int32) × (Nat → Int32) × Int32))) (h : fX7_mayTurn_J72 a_parent a_left a_right a_leftSize a_above (M.2.2 40) (M.2.2 41) s_read v1 v2 v3 = some s) (hs : (Sum.elim (fun x => Zj κ 4 18 [(0, .ref (ad 0)), (1, .int v1), (2, .int x.1), (3, .int x.2.1)] [] (mk M [(11, x.2.2.1), (12, x.2.2.2.1), (13, x.2.2.2.2.1), (14, x.2.2.2.2.2.1), (15, x.2.2.2.2.2.2.1)] M.2.1 [(50, x.2.2.2.2.2.2.2)])) (fun y => Zj κ 4 78 [(1, .int v1), (2, .int y.1)] [] (mk M [(11, y.2.1), (12, y.2.2.1), (13, y.2.2.2.1), (14, y.2.2.2.2.1), (15, y.2.2.2.2.2.1)] M.2.1 [(50, y.2.2.2.2.2.2)])) s)) : Zj κ 4 72 [(0, .ref (ad 0)), (1, .int v1), (2, .int v2), (3, .int v3)] [] (mk M [(11, a_parent), (12, a_left), (13, a_right), (14, a_leftSize), (15, a_above)] M.2.1 [(50, s_read)]) := by
  unfold fX7_mayTurn_J72 at h
  refine z_iinc (v := (v3 + nI 1)) (lv' := [(3, .int (v3 + nI 1)), (0, .ref (ad 0)), (1, .int v1), (2, .int v2)]) X dX7_mayTurn_72 3 rfl rfl (by decide) rfl ?_
  refine z_goto (tgt := 18) X dX7_mayTurn_75 (by decide) ?_
  have hq := Option.some.inj h
  subst hq
  exact z_sub [1, 2, 3, 0] rfl hs
set_option maxHeartbeats 4000000 in
theorem jX7_mayTurn_J61 {κ : Rx} {ct : Nat → ClassId} {tF : Nat} {po ad : Nat → Nat} (X : CX κ ct tF cX7_mayTurn 4 RX7) (eR : kR κ = { frames := 21, cells := 0, slots := 0, locals := 2165 }) (hw : KM (kw κ) po ad ct) (M : Mm) (a_parent : Nat → Int32) (a_left : Nat → Int32) (a_right : Nat → Int32) (a_leftSize : Nat → Int32) (a_above : Nat → Int32) (s_read : Int32)  (v1 : Int32) (v2 : Int32) (v3 : Int32) (k0 : Int32) (s : ((Int32 × Int32 × (Nat → Int32) × (Nat → Int32) × (Nat → Int32) × (Nat → Int32) × (Nat → Int32) × Int32) ⊕ (Int32 × (Nat → Int32) × (Nat → Int32) × (Nat → Int32) × (Nat → Int32) × (Nat → Int32) × Int32))) (h : fX7_mayTurn_J61 a_parent a_left a_right a_leftSize a_above (M.2.2 40) (M.2.2 41) s_read v1 v2 v3 k0 = some s) (hs : (Sum.elim (fun x => Zj κ 4 18 [(0, .ref (ad 0)), (1, .int v1), (2, .int x.1), (3, .int x.2.1)] [] (mk M [(11, x.2.2.1), (12, x.2.2.2.1), (13, x.2.2.2.2.1), (14, x.2.2.2.2.2.1), (15, x.2.2.2.2.2.2.1)] M.2.1 [(50, x.2.2.2.2.2.2.2)])) (fun y => Zj κ 4 78 [(1, .int v1), (2, .int y.1)] [] (mk M [(11, y.2.1), (12, y.2.2.1), (13, y.2.2.2.1), (14, y.2.2.2.2.1), (15, y.2.2.2.2.2.1)] M.2.1 [(50, y.2.2.2.2.2.2)])) s)) : Zj κ 4 61 [(0, .ref (ad 0)), (1, .int v1), (2, .int v2), (3, .int v3)] [.int k0] (mk M [(11, a_parent), (12, a_left), (13, a_right), (14, a_leftSize), (15, a_above)] M.2.1 [(50, s_read)]) := by
  unfold fX7_mayTurn_J61 at h
  refine z_bipush (v := (-5 : Int32)) X dX7_mayTurn_61 (by decide) ?_
  refine z_icmp_eq (tgt := 72) X dX7_mayTurn_63 (by decide) (fun c63 => ?_) (fun c63 => ?_)
  · rw [if_pos c63] at h
    exact (jX7_mayTurn_J72 X eR hw M a_parent a_left a_right a_leftSize a_above s_read v1 v2 v3 _ h hs)
  · rw [if_neg c63] at h
    refine z_iload_n X dX7_mayTurn_66 2 rfl rfl ?_
    refine z_iconst (v := (nI 1)) X dX7_mayTurn_67 (by decide) ?_
    refine z_iload_n X dX7_mayTurn_68 3 rfl rfl ?_
    refine z_ishl X dX7_mayTurn_69 ?_
    refine z_ior X dX7_mayTurn_70 ?_
    refine z_istore_n (lv' := [(2, .int (v2 ||| ((nI 1) <<< (v3 &&& 31)))), (0, .ref (ad 0)), (1, .int v1), (3, .int v3)]) X dX7_mayTurn_71 rfl (by decide) rfl ?_
    exact z_sub [1, 2, 0, 3] rfl (jX7_mayTurn_J72 X eR hw M a_parent a_left a_right a_leftSize a_above s_read v1 (v2 ||| ((nI 1) <<< (v3 &&& 31))) v3 _ h hs)
set_option maxHeartbeats 4000000 in
theorem bX7_mayTurn_B18 {κ : Rx} {ct : Nat → ClassId} {tF : Nat} {po ad : Nat → Nat} (X : CX κ ct tF cX7_mayTurn 4 RX7) (eR : kR κ = { frames := 21, cells := 0, slots := 0, locals := 2165 }) (hw : KM (kw κ) po ad ct) (M : Mm)  (v1 : Int32) : ∀ (x : (Int32 × Int32 × (Nat → Int32) × (Nat → Int32) × (Nat → Int32) × (Nat → Int32) × (Nat → Int32) × Int32)) (s : (Int32 × Int32 × (Nat → Int32) × (Nat → Int32) × (Nat → Int32) × (Nat → Int32) × (Nat → Int32) × Int32) ⊕ (Int32 × (Nat → Int32) × (Nat → Int32) × (Nat → Int32) × (Nat → Int32) × (Nat → Int32) × Int32)), fX7_mayTurn_B18 (M.2.2 40) (M.2.2 41) v1 x = some s → Sum.elim (fun x => Zj κ 4 18 [(0, .ref (ad 0)), (1, .int v1), (2, .int x.1), (3, .int x.2.1)] [] (mk M [(11, x.2.2.1), (12, x.2.2.2.1), (13, x.2.2.2.2.1), (14, x.2.2.2.2.2.1), (15, x.2.2.2.2.2.2.1)] M.2.1 [(50, x.2.2.2.2.2.2.2)])) (fun y => Zj κ 4 78 [(1, .int v1), (2, .int y.1)] [] (mk M [(11, y.2.1), (12, y.2.2.1), (13, y.2.2.2.1), (14, y.2.2.2.2.1), (15, y.2.2.2.2.2.1)] M.2.1 [(50, y.2.2.2.2.2.2)])) s → Zj κ 4 18 [(0, .ref (ad 0)), (1, .int v1), (2, .int x.1), (3, .int x.2.1)] [] (mk M [(11, x.2.2.1), (12, x.2.2.2.1), (13, x.2.2.2.2.1), (14, x.2.2.2.2.2.1), (15, x.2.2.2.2.2.2.1)] M.2.1 [(50, x.2.2.2.2.2.2.2)]) := by
  intro x s h hs
  unfold fX7_mayTurn_B18 at h
  refine z_iload_n X dX7_mayTurn_18 3 rfl rfl ?_
  refine z_aload_n X dX7_mayTurn_19 0 rfl rfl ?_
  refine z_get (j := 0) (v := .int (M.2.2 40)) X inX7 rfl (by decide) w_502 (hw.1 _) rfl dX7_mayTurn_20 ?_
  refine z_icmp_ge (tgt := 78) X dX7_mayTurn_23 (by decide) (fun c23 => ?_) (fun c23 => ?_)
  · rw [if_pos c23] at h
    have hq := Option.some.inj h
    subst hq
    exact z_sub [1, 2] rfl hs
  · rw [if_neg c23] at h
    refine z_iload_n X dX7_mayTurn_26 1 rfl rfl ?_
    refine z_iconst (v := (nI 2)) X dX7_mayTurn_27 (by decide) ?_
    obtain ⟨t1, ht1, h⟩ := ob h
    refine z_irem X dX7_mayTurn_28 (rmo_ok ht1) ?_
    refine z_if_ne (tgt := 48) X dX7_mayTurn_29 (by decide) (fun c29 => ?_) (fun c29 => ?_)
    · rw [if_neg c29] at h
      refine z_aload_n X dX7_mayTurn_48 0 rfl rfl ?_
      refine z_aload_n X dX7_mayTurn_49 0 rfl rfl ?_
      refine z_get (j := 1) (v := .int (M.2.2 41)) X inX7 rfl (by decide) w_506 (hw.1 _) rfl dX7_mayTurn_50 ?_
      refine z_aload_n X dX7_mayTurn_53 0 rfl rfl ?_
      refine z_get (j := 0) (v := .int (M.2.2 40)) X inX7 rfl (by decide) w_502 (hw.1 _) rfl dX7_mayTurn_54 ?_
      refine z_iload_n X dX7_mayTurn_57 3 rfl rfl ?_
      obtain ⟨r2, hr2, h⟩ := ob h
      refine z_cVI (As := [.int (M.2.2 41), .int (M.2.2 40), .int x.2.1]) (st := []) X (tX7_down hw (mk M [(11, x.2.2.1), (12, x.2.2.2.1), (13, x.2.2.2.2.1), (14, x.2.2.2.2.2.1), (15, x.2.2.2.2.2.2.1)] M.2.1 [(50, x.2.2.2.2.2.2.2)]) hr2) w_529 mvX7_down (by rw [eR]; exact ⟨Nat.le_of_ble_eq_true rfl, Nat.le_of_ble_eq_true rfl⟩) ⟨rfl, rfl⟩ rfl (Nat.le_of_ble_eq_true rfl) (hw.1 _) rfl rfl dX7_mayTurn_58 ?_
      refine z_mem (mk_mk (l' := [(11, r2.2.1), (12, r2.2.2.1), (13, r2.2.2.2.1), (14, r2.2.2.2.2.1), (15, r2.2.2.2.2.2.1)]) (sl' := [(50, r2.2.2.2.2.2.2)]) rfl rfl rfl rfl) ?_
      exact (jX7_mayTurn_J61 X eR hw M r2.2.1 r2.2.2.1 r2.2.2.2.1 r2.2.2.2.2.1 r2.2.2.2.2.2.1 r2.2.2.2.2.2.2 v1 x.1 x.2.1 r2.1 _ h hs)
    · rw [if_pos c29] at h
      refine z_aload_n X dX7_mayTurn_32 0 rfl rfl ?_
      refine z_aload_n X dX7_mayTurn_33 0 rfl rfl ?_
      refine z_get (j := 1) (v := .int (M.2.2 41)) X inX7 rfl (by decide) w_506 (hw.1 _) rfl dX7_mayTurn_34 ?_
      refine z_aload_n X dX7_mayTurn_37 0 rfl rfl ?_
      refine z_get (j := 0) (v := .int (M.2.2 40)) X inX7 rfl (by decide) w_502 (hw.1 _) rfl dX7_mayTurn_38 ?_
      refine z_iload_n X dX7_mayTurn_41 3 rfl rfl ?_
      obtain ⟨r3, hr3, h⟩ := ob h
      refine z_cVI (As := [.int (M.2.2 41), .int (M.2.2 40), .int x.2.1]) (st := []) X (tX7_up hw (mk M [(11, x.2.2.1), (12, x.2.2.2.1), (13, x.2.2.2.2.1), (14, x.2.2.2.2.2.1), (15, x.2.2.2.2.2.2.1)] M.2.1 [(50, x.2.2.2.2.2.2.2)]) hr3) w_525 mvX7_up (by rw [eR]; exact ⟨Nat.le_of_ble_eq_true rfl, Nat.le_of_ble_eq_true rfl⟩) ⟨rfl, rfl⟩ rfl (Nat.le_of_ble_eq_true rfl) (hw.1 _) rfl rfl dX7_mayTurn_42 ?_
      refine z_mem (mk_mk (l' := [(11, r3.2.1), (12, r3.2.2.1), (13, r3.2.2.2.1), (14, r3.2.2.2.2.1), (15, r3.2.2.2.2.2.1)]) (sl' := [(50, r3.2.2.2.2.2.2)]) rfl rfl rfl rfl) ?_
      refine z_goto (tgt := 61) X dX7_mayTurn_45 (by decide) ?_
      exact (jX7_mayTurn_J61 X eR hw M r3.2.1 r3.2.2.1 r3.2.2.2.1 r3.2.2.2.2.1 r3.2.2.2.2.2.1 r3.2.2.2.2.2.2 v1 x.1 x.2.1 r3.1 _ h hs)
set_option maxHeartbeats 4000000 in
theorem tX7_mayTurn {l : Launch} {D : va_G} {ct : Nat → ClassId} {tF : Nat} {wOf : Mm → va_W} {po ad : Nat → Nat} (hw : KM wOf po ad ct) (M : Mm) {v1 : Int32} {r : (Int32 × (Nat → Int32) × (Nat → Int32) × (Nat → Int32) × (Nat → Int32) × (Nat → Int32) × Int32)} (h : fX7_mayTurn (M.1 11) (M.1 12) (M.1 13) (M.1 14) (M.1 15) (M.2.2 40) (M.2.2 41) (M.2.2 50) v1 = some r) : CtI l yX7_mayTurn cX7_mayTurn 4 .int { frames := 21, cells := 0, slots := 0, locals := 2165 } D ct tF wOf [.ref (ad 0), .int v1] M r.1 (mk M [(11, r.2.1), (12, r.2.2.1), (13, r.2.2.2.1), (14, r.2.2.2.2.1), (15, r.2.2.2.2.2.1)] M.2.1 [(50, r.2.2.2.2.2.2)]) := by
  refine metI (by decide) (Nat.le_of_ble_eq_true rfl) fun κ X e1 eR e3 e4 hs => ?_
  subst e1; subst e3; subst e4
  unfold fX7_mayTurn at h
  refine z_mem (mk_self M [11, 12, 13, 14, 15] [50]) ?_
  refine z_sub (lv' := [(0, .ref (ad 0)), (1, .int v1)]) [0, 1] rfl ?_
  show Zj κ 4 0 _ _ (mk M [(11, (M.1 11)), (12, (M.1 12)), (13, (M.1 13)), (14, (M.1 14)), (15, (M.1 15))] M.2.1 [(50, (M.2.2 50))])
  refine z_iload_n X dX7_mayTurn_0 1 rfl rfl ?_
  refine z_i2l X dX7_mayTurn_1 ?_
  refine z_lconst (v := (0 : Int64)) X dX7_mayTurn_2 (by decide) ?_
  refine z_ldc2 X w_533 dX7_mayTurn_3 ?_
  obtain ⟨r1, hr1, h⟩ := ob h
  refine z_cSI (As := [.long (v1.toInt64), .long (0 : Int64), .long (3 : Int64)]) (st := []) X (tX7_in hw (mk M [(11, (M.1 11)), (12, (M.1 12)), (13, (M.1 13)), (14, (M.1 14)), (15, (M.1 15))] M.2.1 [(50, (M.2.2 50))]) hr1) w_472 msX7_in (by rw [eR]; exact ⟨Nat.le_of_ble_eq_true rfl, Nat.le_of_ble_eq_true rfl⟩) ⟨rfl, rfl⟩ rfl (Nat.le_of_ble_eq_true rfl) rfl dX7_mayTurn_6 ?_
  refine z_if_ne (tgt := 14) X dX7_mayTurn_9 (by decide) (fun c9 => ?_) (fun c9 => ?_)
  · rw [if_neg c9] at h
    refine z_iconst (v := (nI 0)) X dX7_mayTurn_14 (by decide) ?_
    refine z_istore_n (lv' := [(2, .int (nI 0)), (0, .ref (ad 0)), (1, .int v1)]) X dX7_mayTurn_15 rfl (by decide) rfl ?_
    refine z_iconst (v := (nI 0)) X dX7_mayTurn_16 (by decide) ?_
    refine z_istore_n (lv' := [(3, .int (nI 0)), (2, .int (nI 0)), (0, .ref (ad 0)), (1, .int v1)]) X dX7_mayTurn_17 rfl (by decide) rfl ?_
    refine z_sub [2, 3, 1, 0] rfl ?_
    obtain ⟨y2, hy2, h⟩ := ob h
    refine (it_Z (bX7_mayTurn_B18 X eR hw M v1) FU _ y2 hy2) ?_
    refine z_iload_n X dX7_mayTurn_78 0 rfl rfl ?_
    refine z_iconst (v := (nI 2)) X dX7_mayTurn_79 (by decide) ?_
    refine z_icmp_ge (tgt := 90) X dX7_mayTurn_80 (by decide) (fun c80 => ?_) (fun c80 => ?_)
    · rw [if_pos c80] at h
      refine z_iload_n X dX7_mayTurn_90 1 rfl rfl ?_
      have hq := Option.some.inj h
      subst hq
      exact z_iret hs dX7_mayTurn_91 rfl
    · rw [if_neg c80] at h
      refine z_iload_n X dX7_mayTurn_83 1 rfl rfl ?_
      obtain ⟨r3, hr3, h⟩ := ob h
      refine z_cSI (As := [.int y2.1]) (st := []) X (tJ0_bitCount (mk M [(11, y2.2.1), (12, y2.2.2.1), (13, y2.2.2.2.1), (14, y2.2.2.2.2.1), (15, y2.2.2.2.2.2.1)] M.2.1 [(50, y2.2.2.2.2.2.2)]) hr3) w_534 msJ0_bitCount (by rw [eR]; exact ⟨Nat.le_of_ble_eq_true rfl, Nat.le_of_ble_eq_true rfl⟩) ⟨rfl, rfl⟩ rfl (Nat.le_of_ble_eq_true rfl) rfl dX7_mayTurn_84 ?_
      refine z_goto (tgt := 91) X dX7_mayTurn_87 (by decide) ?_
      have hq := Option.some.inj h
      subst hq
      exact z_iret hs dX7_mayTurn_91 rfl
  · rw [if_pos c9] at h
    refine z_iconst (v := (-1 : Int32)) X dX7_mayTurn_12 (by decide) ?_
    have hq := Option.some.inj h
    subst hq
    exact z_iret hs dX7_mayTurn_13 rfl
set_option maxHeartbeats 4000000 in
theorem tX7_mirror {l : Launch} {D : va_G} {ct : Nat → ClassId} {tF : Nat} {wOf : Mm → va_W} {po ad : Nat → Nat} (hw : KM wOf po ad ct) (M : Mm)  {r : (Int32 × (Nat → Int32) × (Nat → Int32) × (Nat → Int32) × (Nat → Int32) × (Nat → Int32) × (Nat → Int32) × (Nat → Int32) × (Nat → Int32) × Int32 × Int32 × Int32 × Int32 × Int32 × Int32)} (h : fX7_mirror (M.1 3) (M.1 4) (M.1 10) (M.1 11) (M.1 12) (M.1 13) (M.1 14) (M.1 15) (M.2.2 40) (M.2.2 41) (M.2.2 42) (M.2.2 48) (M.2.2 49) (M.2.2 50) = some r) : CtI l yX7_mirror cX7_mirror 1 .int { frames := 21, cells := 0, slots := 0, locals := 2165 } D ct tF wOf [.ref (ad 0)] M r.1 (mk M [(3, r.2.1), (4, r.2.2.1), (10, r.2.2.2.1), (11, r.2.2.2.2.1), (12, r.2.2.2.2.2.1), (13, r.2.2.2.2.2.2.1), (14, r.2.2.2.2.2.2.2.1), (15, r.2.2.2.2.2.2.2.2.1)] M.2.1 [(40, r.2.2.2.2.2.2.2.2.2.1), (41, r.2.2.2.2.2.2.2.2.2.2.1), (42, r.2.2.2.2.2.2.2.2.2.2.2.1), (48, r.2.2.2.2.2.2.2.2.2.2.2.2.1), (49, r.2.2.2.2.2.2.2.2.2.2.2.2.2.1), (50, r.2.2.2.2.2.2.2.2.2.2.2.2.2.2)]) := by
  refine metI (by decide) (Nat.le_of_ble_eq_true rfl) fun κ X e1 eR e3 e4 hs => ?_
  subst e1; subst e3; subst e4
  unfold fX7_mirror at h
  refine z_mem (mk_self M [3, 4, 10, 11, 12, 13, 14, 15] [40, 41, 42, 48, 49, 50]) ?_
  refine z_sub (lv' := [(0, .ref (ad 0))]) [0] rfl ?_
  show Zj κ 1 0 _ _ (mk M [(3, (M.1 3)), (4, (M.1 4)), (10, (M.1 10)), (11, (M.1 11)), (12, (M.1 12)), (13, (M.1 13)), (14, (M.1 14)), (15, (M.1 15))] M.2.1 [(40, (M.2.2 40)), (41, (M.2.2 41)), (42, (M.2.2 42)), (48, (M.2.2 48)), (49, (M.2.2 49)), (50, (M.2.2 50))])
  refine z_aload_n X dX7_mirror_0 0 rfl rfl ?_
  refine z_aload_n X dX7_mirror_1 0 rfl rfl ?_
  refine z_get (j := 0) (v := .int (M.2.2 40)) X inX7 rfl (by decide) w_502 (hw.1 _) rfl dX7_mirror_2 ?_
  refine z_aload_n X dX7_mirror_5 0 rfl rfl ?_
  refine z_aload_n X dX7_mirror_6 0 rfl rfl ?_
  refine z_get (j := 1) (v := .int (M.2.2 41)) X inX7 rfl (by decide) w_506 (hw.1 _) rfl dX7_mirror_7 ?_
  refine z_aload_n X dX7_mirror_10 0 rfl rfl ?_
  refine z_get (j := 0) (v := .int (M.2.2 40)) X inX7 rfl (by decide) w_502 (hw.1 _) rfl dX7_mirror_11 ?_
  obtain ⟨r1, hr1, h⟩ := ob h
  refine z_cVI (As := [.int (M.2.2 41), .int (M.2.2 40)]) (st := [.int (M.2.2 40), .ref (ad 0)]) X (tX7_mirrored hw (mk M [(3, (M.1 3)), (4, (M.1 4)), (10, (M.1 10)), (11, (M.1 11)), (12, (M.1 12)), (13, (M.1 13)), (14, (M.1 14)), (15, (M.1 15))] M.2.1 [(40, (M.2.2 40)), (41, (M.2.2 41)), (42, (M.2.2 42)), (48, (M.2.2 48)), (49, (M.2.2 49)), (50, (M.2.2 50))]) hr1) w_535 mvX7_mirrored (by rw [eR]; exact ⟨Nat.le_of_ble_eq_true rfl, Nat.le_of_ble_eq_true rfl⟩) ⟨rfl, rfl⟩ rfl (Nat.le_of_ble_eq_true rfl) (hw.1 _) rfl rfl dX7_mirror_14 ?_
  refine z_mem (mk_mk (l' := [(3, (M.1 3)), (4, (M.1 4)), (10, (M.1 10)), (11, r1.2.1), (12, r1.2.2.1), (13, r1.2.2.2.1), (14, r1.2.2.2.2.1), (15, r1.2.2.2.2.2.1)]) (sl' := [(40, (M.2.2 40)), (41, (M.2.2 41)), (42, (M.2.2 42)), (48, (M.2.2 48)), (49, (M.2.2 49)), (50, r1.2.2.2.2.2.2)]) rfl rfl rfl rfl) ?_
  obtain ⟨r2, hr2, h⟩ := ob h
  refine z_cVV (As := [.int (M.2.2 40), .int r1.1]) (st := []) X (tX7_becomes hw (mk M [(3, (M.1 3)), (4, (M.1 4)), (10, (M.1 10)), (11, r1.2.1), (12, r1.2.2.1), (13, r1.2.2.2.1), (14, r1.2.2.2.2.1), (15, r1.2.2.2.2.2.1)] M.2.1 [(40, (M.2.2 40)), (41, (M.2.2 41)), (42, (M.2.2 42)), (48, (M.2.2 48)), (49, (M.2.2 49)), (50, r1.2.2.2.2.2.2)]) hr2) w_512 mvX7_becomes (by rw [eR]; exact ⟨Nat.le_of_ble_eq_true rfl, Nat.le_of_ble_eq_true rfl⟩) ⟨rfl, rfl⟩ rfl (Nat.le_of_ble_eq_true rfl) (hw.1 _) rfl rfl dX7_mirror_17 ?_
  refine z_mem (mk_mk (l' := [(3, r2.1), (4, r2.2.1), (10, (M.1 10)), (11, r1.2.1), (12, r1.2.2.1), (13, r1.2.2.2.1), (14, r1.2.2.2.2.1), (15, r1.2.2.2.2.2.1)]) (sl' := [(40, r2.2.2.1), (41, r2.2.2.2.1), (42, r2.2.2.2.2), (48, (M.2.2 48)), (49, (M.2.2 49)), (50, r1.2.2.2.2.2.2)]) rfl rfl rfl rfl) ?_
  refine z_aload_n X dX7_mirror_20 0 rfl rfl ?_
  obtain ⟨r3, hr3, h⟩ := ob h
  refine z_cVI (As := []) (st := []) X (tX7_which hw (mk M [(3, r2.1), (4, r2.2.1), (10, (M.1 10)), (11, r1.2.1), (12, r1.2.2.1), (13, r1.2.2.2.1), (14, r1.2.2.2.2.1), (15, r1.2.2.2.2.2.1)] M.2.1 [(40, r2.2.2.1), (41, r2.2.2.2.1), (42, r2.2.2.2.2), (48, (M.2.2 48)), (49, (M.2.2 49)), (50, r1.2.2.2.2.2.2)]) hr3) w_516 mvX7_which (by rw [eR]; exact ⟨Nat.le_of_ble_eq_true rfl, Nat.le_of_ble_eq_true rfl⟩) ⟨rfl, rfl⟩ rfl (Nat.le_of_ble_eq_true rfl) (hw.1 _) rfl rfl dX7_mirror_21 ?_
  refine z_mem (mk_mk (l' := [(3, r2.1), (4, r2.2.1), (10, r3.2.1), (11, r1.2.1), (12, r1.2.2.1), (13, r1.2.2.2.1), (14, r1.2.2.2.2.1), (15, r1.2.2.2.2.2.1)]) (sl' := [(40, r2.2.2.1), (41, r2.2.2.2.1), (42, r2.2.2.2.2), (48, r3.2.2.1), (49, r3.2.2.2), (50, r1.2.2.2.2.2.2)]) rfl rfl rfl rfl) ?_
  have hq := Option.some.inj h
  subst hq
  exact z_iret hs dX7_mirror_24 rfl
set_option maxHeartbeats 4000000 in
theorem tX7_off {l : Launch} {D : va_G} {ct : Nat → ClassId} {tF : Nat} {wOf : Mm → va_W} {po ad : Nat → Nat} (hw : KM wOf po ad ct) (M : Mm)  {r : (Int32 × Int32 × Int32 × Int32)} (h : fX7_off (M.1 3) (M.1 4) (M.2.2 40) (M.2.2 41) (M.2.2 42) = some r) : CtI l yX7_off cX7_off 1 .int { frames := 0, cells := 0, slots := 0, locals := 0 } D ct tF wOf [.ref (ad 0)] M r.1 (mk M [] M.2.1 [(40, r.2.1), (41, r.2.2.1), (42, r.2.2.2)]) := by
  refine metI (by decide) (Nat.le_of_ble_eq_true rfl) fun κ X e1 eR e3 e4 hs => ?_
  subst e1; subst e3; subst e4
  unfold fX7_off at h
  refine z_mem (mk_self M [] [40, 41, 42]) ?_
  refine z_sub (lv' := [(0, .ref (ad 0))]) [0] rfl ?_
  show Zj κ 1 0 _ _ (mk M [] M.2.1 [(40, (M.2.2 40)), (41, (M.2.2 41)), (42, (M.2.2 42))])
  refine z_aload_n X dX7_off_0 0 rfl rfl ?_
  refine z_get (j := 6) (v := .int (M.2.2 42)) X inX7 rfl (by decide) w_503 (hw.1 _) rfl dX7_off_1 ?_
  refine z_if_ne (tgt := 10) X dX7_off_4 (by decide) (fun c4 => ?_) (fun c4 => ?_)
  · rw [if_neg c4] at h
    refine z_aload_n X dX7_off_10 0 rfl rfl ?_
    refine z_dup X dX7_off_11 rfl ?_
    refine z_get (j := 6) (v := .int (M.2.2 42)) X inX7 rfl (by decide) w_503 (hw.1 _) rfl dX7_off_12 ?_
    refine z_iconst (v := (nI 1)) X dX7_off_15 (by decide) ?_
    refine z_isub X dX7_off_16 ?_
    refine z_put (j := 6) (ty := .int) (M' := (mk M [] M.2.1 [(40, (M.2.2 40)), (41, (M.2.2 41)), (42, ((M.2.2 42) - (nI 1)))])) X inX7 tyX7 tyX7_ok nmX7 rfl (by decide) w_503 rfl (by decide +kernel) rfl rfl (hw.1 _) (Nat.le_of_ble_eq_true rfl) (mk_setS (sl' := [(40, (M.2.2 40)), (41, (M.2.2 41)), (42, ((M.2.2 42) - (nI 1)))]) (hw.2.2.2.2.2.2.2.2.2.2.2.2.2.2.2.2.2.2.2.2.2.2.2.1) rfl rfl) dX7_off_17 ?_
    refine z_aload_n X dX7_off_20 0 rfl rfl ?_
    refine z_aload_n X dX7_off_21 0 rfl rfl ?_
    refine z_get (j := 4) (v := .ref (ad 3)) X inX7 rfl (by decide) w_504 (hw.1 _) rfl dX7_off_22 ?_
    refine z_aload_n X dX7_off_25 0 rfl rfl ?_
    refine z_get (j := 6) (v := .int ((M.2.2 42) - (nI 1))) X inX7 rfl (by decide) w_503 (hw.1 _) rfl dX7_off_26 ?_
    obtain ⟨t1, ht1, h⟩ := ob h
    refine z_iald X (hw.2.2.2.1 _).1 (rd_ok ht1) dX7_off_29 ?_
    refine z_put (j := 0) (ty := .int) (M' := (mk M [] M.2.1 [(40, t1), (41, (M.2.2 41)), (42, ((M.2.2 42) - (nI 1)))])) X inX7 tyX7 tyX7_ok nmX7 rfl (by decide) w_502 rfl (by decide +kernel) rfl rfl (hw.1 _) (Nat.le_of_ble_eq_true rfl) (mk_setS (sl' := [(40, t1), (41, (M.2.2 41)), (42, ((M.2.2 42) - (nI 1)))]) (hw.2.2.2.2.2.2.2.2.2.2.2.2.2.2.2.2.2.2.2.2.2.1) rfl rfl) dX7_off_30 ?_
    refine z_aload_n X dX7_off_33 0 rfl rfl ?_
    refine z_aload_n X dX7_off_34 0 rfl rfl ?_
    refine z_get (j := 5) (v := .ref (ad 4)) X inX7 rfl (by decide) w_505 (hw.1 _) rfl dX7_off_35 ?_
    refine z_aload_n X dX7_off_38 0 rfl rfl ?_
    refine z_get (j := 6) (v := .int ((M.2.2 42) - (nI 1))) X inX7 rfl (by decide) w_503 (hw.1 _) rfl dX7_off_39 ?_
    obtain ⟨t2, ht2, h⟩ := ob h
    refine z_iald X (hw.2.2.2.2.1 _).1 (rd_ok ht2) dX7_off_42 ?_
    refine z_put (j := 1) (ty := .int) (M' := (mk M [] M.2.1 [(40, t1), (41, t2), (42, ((M.2.2 42) - (nI 1)))])) X inX7 tyX7 tyX7_ok nmX7 rfl (by decide) w_506 rfl (by decide +kernel) rfl rfl (hw.1 _) (Nat.le_of_ble_eq_true rfl) (mk_setS (sl' := [(40, t1), (41, t2), (42, ((M.2.2 42) - (nI 1)))]) (hw.2.2.2.2.2.2.2.2.2.2.2.2.2.2.2.2.2.2.2.2.2.2.1) rfl rfl) dX7_off_43 ?_
    refine z_aload_n X dX7_off_46 0 rfl rfl ?_
    refine z_get (j := 6) (v := .int ((M.2.2 42) - (nI 1))) X inX7 rfl (by decide) w_503 (hw.1 _) rfl dX7_off_47 ?_
    have hq := Option.some.inj h
    subst hq
    exact z_iret hs dX7_off_50 rfl
  · rw [if_pos c4] at h
    refine z_bipush (v := (-3 : Int32)) X dX7_off_7 (by decide) ?_
    have hq := Option.some.inj h
    subst hq
    exact z_iret hs dX7_off_9 rfl
set_option maxHeartbeats 4000000 in
theorem tX7_isShelf {l : Launch} {D : va_G} {ct : Nat → ClassId} {tF : Nat} {wOf : Mm → va_W} {po ad : Nat → Nat} (hw : KM wOf po ad ct) (M : Mm) {v0 : Int32} {r : Int32} (h : fX7_isShelf v0 = some r) : CtI l yX7_isShelf cX7_isShelf 1 .boolean { frames := 1, cells := 0, slots := 0, locals := 25 } D ct tF wOf [.int v0] M r M := by
  refine metI (by decide) (Nat.le_of_ble_eq_true rfl) fun κ X e1 eR e3 e4 hs => ?_
  subst e1; subst e3; subst e4
  unfold fX7_isShelf at h
  refine z_sub (lv' := [(0, .int v0)]) [0] rfl ?_
  refine z_iload_n X dX7_isShelf_0 0 rfl rfl ?_
  refine z_i2l X dX7_isShelf_1 ?_
  refine z_lconst (v := (0 : Int64)) X dX7_isShelf_2 (by decide) ?_
  refine z_ldc2 X w_533 dX7_isShelf_3 ?_
  obtain ⟨r1, hr1, h⟩ := ob h
  refine z_cSI (As := [.long (v0.toInt64), .long (0 : Int64), .long (3 : Int64)]) (st := []) X (tX7_in hw M hr1) w_472 msX7_in (by rw [eR]; exact ⟨Nat.le_of_ble_eq_true rfl, Nat.le_of_ble_eq_true rfl⟩) ⟨rfl, rfl⟩ rfl (Nat.le_of_ble_eq_true rfl) rfl dX7_isShelf_6 ?_
  obtain ⟨z2, hz2, h⟩ := ob h
  obtain ⟨qz2, nz2⟩ := zro_ok hz2
  subst qz2
  have hq := Option.some.inj h
  subst hq
  exact z_iret hs dX7_isShelf_9 nz2
set_option maxHeartbeats 4000000 in
theorem tX7_barOf {l : Launch} {D : va_G} {ct : Nat → ClassId} {tF : Nat} {wOf : Mm → va_W} {po ad : Nat → Nat} (hw : KM wOf po ad ct) (M : Mm) {v1 : Int32} {r : Int32} (h : fX7_barOf (M.1 1) (M.2.2 40) v1 = some r) : CtI l yX7_barOf cX7_barOf 2 .int { frames := 0, cells := 0, slots := 0, locals := 0 } D ct tF wOf [.ref (ad 0), .int v1] M r M := by
  refine metI (by decide) (Nat.le_of_ble_eq_true rfl) fun κ X e1 eR e3 e4 hs => ?_
  subst e1; subst e3; subst e4
  unfold fX7_barOf at h
  refine z_sub (lv' := [(0, .ref (ad 0)), (1, .int v1)]) [0, 1] rfl ?_
  refine z_aload_n X dX7_barOf_0 0 rfl rfl ?_
  refine z_get (j := 2) (v := .ref (ad 1)) X inX7 rfl (by decide) w_539 (hw.1 _) rfl dX7_barOf_1 ?_
  refine z_iload_n X dX7_barOf_4 1 rfl rfl ?_
  obtain ⟨t1, ht1, h⟩ := ob h
  refine z_iald X (hw.2.1 _).1 (rd_ok ht1) dX7_barOf_5 ?_
  refine z_if_ne (tgt := 12) X dX7_barOf_6 (by decide) (fun c6 => ?_) (fun c6 => ?_)
  · rw [if_neg c6] at h
    refine z_aload_n X dX7_barOf_12 0 rfl rfl ?_
    refine z_get (j := 2) (v := .ref (ad 1)) X inX7 rfl (by decide) w_539 (hw.1 _) rfl dX7_barOf_13 ?_
    refine z_iload_n X dX7_barOf_16 1 rfl rfl ?_
    obtain ⟨t2, ht2, h⟩ := ob h
    refine z_iald X (hw.2.1 _).1 (rd_ok ht2) dX7_barOf_17 ?_
    refine z_aload_n X dX7_barOf_18 0 rfl rfl ?_
    refine z_get (j := 0) (v := .int (M.2.2 40)) X inX7 rfl (by decide) w_502 (hw.1 _) rfl dX7_barOf_19 ?_
    refine z_icmp_ne (tgt := 29) X dX7_barOf_22 (by decide) (fun c22 => ?_) (fun c22 => ?_)
    · rw [if_neg c22] at h
      refine z_bipush (v := (-7 : Int32)) X dX7_barOf_29 (by decide) ?_
      have hq := Option.some.inj h
      subst hq
      exact z_iret hs dX7_barOf_31 rfl
    · rw [if_pos c22] at h
      refine z_iconst (v := (nI 0)) X dX7_barOf_25 (by decide) ?_
      refine z_goto (tgt := 31) X dX7_barOf_26 (by decide) ?_
      have hq := Option.some.inj h
      subst hq
      exact z_iret hs dX7_barOf_31 rfl
  · rw [if_pos c6] at h
    refine z_bipush (v := (-6 : Int32)) X dX7_barOf_9 (by decide) ?_
    have hq := Option.some.inj h
    subst hq
    exact z_iret hs dX7_barOf_11 rfl
set_option maxHeartbeats 4000000 in
theorem jX7_below_J72 {κ : Rx} {ct : Nat → ClassId} {tF : Nat} {po ad : Nat → Nat} (X : CX κ ct tF cX7_below 5 RX7) (eR : kR κ = { frames := 3, cells := 0, slots := 0, locals := 67 }) (hw : KM (kw κ) po ad ct) (M : Mm)    (k0 : Int32) (s : Int32) (h : fX7_below_J72 (M.1 1) (M.1 2) (M.2.2 40) (M.2.2 41) k0 = some s) (hs : (ZI κ cX7_below .int s M)) : Zj κ 5 72 [] [.int k0] M := by
  unfold fX7_below_J72 at h
  refine z_istore (lv' := [(4, .int k0)]) X dX7_below_72 (by decide) rfl ?_
  refine z_iload X dX7_below_74 0 rfl ?_
  refine z_if_eq (tgt := 83) X dX7_below_76 (by decide) (fun c76 => ?_) (fun c76 => ?_)
  · rw [if_pos c76] at h
    refine z_iconst (v := (nI 0)) X dX7_below_83 (by decide) ?_
    have hq := Option.some.inj h
    subst hq
    exact z_iret hs dX7_below_84 rfl
  · rw [if_neg c76] at h
    refine z_iconst (v := (nI 1)) X dX7_below_79 (by decide) ?_
    refine z_goto (tgt := 84) X dX7_below_80 (by decide) ?_
    have hq := Option.some.inj h
    subst hq
    exact z_iret hs dX7_below_84 rfl
set_option maxHeartbeats 4000000 in
theorem tX7_below {l : Launch} {D : va_G} {ct : Nat → ClassId} {tF : Nat} {wOf : Mm → va_W} {po ad : Nat → Nat} (hw : KM wOf po ad ct) (M : Mm) {v1 : Int32} {v2 : Int32} {r : Int32} (h : fX7_below (M.1 1) (M.1 2) (M.2.2 40) (M.2.2 41) v1 v2 = some r) : CtI l yX7_below cX7_below 5 .int { frames := 3, cells := 0, slots := 0, locals := 67 } D ct tF wOf [.ref (ad 0), .int v1, .int v2] M r M := by
  refine metI (by decide) (Nat.le_of_ble_eq_true rfl) fun κ X e1 eR e3 e4 hs => ?_
  subst e1; subst e3; subst e4
  unfold fX7_below at h
  refine z_sub (lv' := [(0, .ref (ad 0)), (1, .int v1), (2, .int v2)]) [0, 1, 2] rfl ?_
  refine z_iload_n X dX7_below_0 1 rfl rfl ?_
  obtain ⟨r1, hr1, h⟩ := ob h
  refine z_cSI (As := [.int v1]) (st := []) X (tX7_isShelf hw M hr1) w_540 msX7_isShelf (by rw [eR]; exact ⟨Nat.le_of_ble_eq_true rfl, Nat.le_of_ble_eq_true rfl⟩) ⟨rfl, rfl⟩ rfl (Nat.le_of_ble_eq_true rfl) rfl dX7_below_1 ?_
  refine z_if_eq (tgt := 17) X dX7_below_4 (by decide) (fun c4 => ?_) (fun c4 => ?_)
  · rw [if_pos c4] at h
    refine z_iconst (v := (-1 : Int32)) X dX7_below_17 (by decide) ?_
    have hq := Option.some.inj h
    subst hq
    exact z_iret hs dX7_below_18 rfl
  · rw [if_neg c4] at h
    refine z_iload_n X dX7_below_7 2 rfl rfl ?_
    refine z_i2l X dX7_below_8 ?_
    refine z_lconst (v := (0 : Int64)) X dX7_below_9 (by decide) ?_
    refine z_lconst (v := (1 : Int64)) X dX7_below_10 (by decide) ?_
    obtain ⟨r2, hr2, h⟩ := ob h
    refine z_cSI (As := [.long (v2.toInt64), .long (0 : Int64), .long (1 : Int64)]) (st := []) X (tX7_in hw M hr2) w_472 msX7_in (by rw [eR]; exact ⟨Nat.le_of_ble_eq_true rfl, Nat.le_of_ble_eq_true rfl⟩) ⟨rfl, rfl⟩ rfl (Nat.le_of_ble_eq_true rfl) rfl dX7_below_11 ?_
    refine z_if_ne (tgt := 19) X dX7_below_14 (by decide) (fun c14 => ?_) (fun c14 => ?_)
    · rw [if_neg c14] at h
      refine z_aload_n X dX7_below_19 0 rfl rfl ?_
      refine z_iload_n X dX7_below_20 1 rfl rfl ?_
      obtain ⟨r3, hr3, h⟩ := ob h
      refine z_cVI (As := [.int v1]) (st := []) X (tX7_barOf hw M hr3) w_543 mvX7_barOf (by rw [eR]; exact ⟨Nat.le_of_ble_eq_true rfl, Nat.le_of_ble_eq_true rfl⟩) ⟨rfl, rfl⟩ rfl (Nat.le_of_ble_eq_true rfl) (hw.1 _) rfl rfl dX7_below_21 ?_
      refine z_istore_n (lv' := [(3, .int r3), (0, .ref (ad 0)), (1, .int v1), (2, .int v2)]) X dX7_below_24 rfl (by decide) rfl ?_
      refine z_iload_n X dX7_below_25 0 rfl rfl ?_
      refine z_if_eq (tgt := 31) X dX7_below_26 (by decide) (fun c26 => ?_) (fun c26 => ?_)
      · rw [if_pos c26] at h
        refine z_iload_n X dX7_below_31 3 rfl rfl ?_
        refine z_if_ne (tgt := 55) X dX7_below_32 (by decide) (fun c32 => ?_) (fun c32 => ?_)
        · rw [if_neg c32] at h
          refine z_aload_n X dX7_below_55 1 rfl rfl ?_
          refine z_get (j := 3) (v := .ref (ad 2)) X inX7 rfl (by decide) w_547 (hw.1 _) rfl dX7_below_56 ?_
          refine z_iload_n X dX7_below_59 2 rfl rfl ?_
          obtain ⟨t4, ht4, h⟩ := ob h
          refine z_iald X (hw.2.2.1 _).1 (rd_ok ht4) dX7_below_60 ?_
          refine z_aload_n X dX7_below_61 1 rfl rfl ?_
          refine z_get (j := 1) (v := .int (M.2.2 41)) X inX7 rfl (by decide) w_506 (hw.1 _) rfl dX7_below_62 ?_
          refine z_aload_n X dX7_below_65 1 rfl rfl ?_
          refine z_get (j := 0) (v := .int (M.2.2 40)) X inX7 rfl (by decide) w_502 (hw.1 _) rfl dX7_below_66 ?_
          obtain ⟨r5, hr5, h⟩ := ob h
          refine z_cSI (As := [.int t4, .int (M.2.2 41), .int (M.2.2 40)]) (st := []) X (tX7_isBelow hw M hr5) w_548 msX7_isBelow (by rw [eR]; exact ⟨Nat.le_of_ble_eq_true rfl, Nat.le_of_ble_eq_true rfl⟩) ⟨rfl, rfl⟩ rfl (Nat.le_of_ble_eq_true rfl) rfl dX7_below_69 ?_
          exact z_sub [] rfl (jX7_below_J72 X eR hw M r5 _ h hs)
        · rw [if_pos c32] at h
          refine z_aload_n X dX7_below_35 1 rfl rfl ?_
          refine z_get (j := 1) (v := .int (M.2.2 41)) X inX7 rfl (by decide) w_506 (hw.1 _) rfl dX7_below_36 ?_
          refine z_aload_n X dX7_below_39 1 rfl rfl ?_
          refine z_get (j := 3) (v := .ref (ad 2)) X inX7 rfl (by decide) w_547 (hw.1 _) rfl dX7_below_40 ?_
          refine z_iload_n X dX7_below_43 2 rfl rfl ?_
          obtain ⟨t6, ht6, h⟩ := ob h
          refine z_iald X (hw.2.2.1 _).1 (rd_ok ht6) dX7_below_44 ?_
          refine z_aload_n X dX7_below_45 1 rfl rfl ?_
          refine z_get (j := 0) (v := .int (M.2.2 40)) X inX7 rfl (by decide) w_502 (hw.1 _) rfl dX7_below_46 ?_
          obtain ⟨r7, hr7, h⟩ := ob h
          refine z_cSI (As := [.int (M.2.2 41), .int t6, .int (M.2.2 40)]) (st := []) X (tX7_isBelow hw M hr7) w_548 msX7_isBelow (by rw [eR]; exact ⟨Nat.le_of_ble_eq_true rfl, Nat.le_of_ble_eq_true rfl⟩) ⟨rfl, rfl⟩ rfl (Nat.le_of_ble_eq_true rfl) rfl dX7_below_49 ?_
          refine z_goto (tgt := 72) X dX7_below_52 (by decide) ?_
          exact z_sub [] rfl (jX7_below_J72 X eR hw M r7 _ h hs)
      · rw [if_neg c26] at h
        refine z_iload_n X dX7_below_29 0 rfl rfl ?_
        have hq := Option.some.inj h
        subst hq
        exact z_iret hs dX7_below_30 rfl
    · rw [if_pos c14] at h
      refine z_iconst (v := (-1 : Int32)) X dX7_below_17 (by decide) ?_
      have hq := Option.some.inj h
      subst hq
      exact z_iret hs dX7_below_18 rfl
set_option maxHeartbeats 4000000 in
theorem jX7_bound_J153 {κ : Rx} {ct : Nat → ClassId} {tF : Nat} {po ad : Nat → Nat} (X : CX κ ct tF cX7_bound 8 RX7) (eR : kR κ = { frames := 4, cells := 0, slots := 0, locals := 93 }) (hw : KM (kw κ) po ad ct) (M : Mm) (a_all : Nat → Int32) (s_many : Int32) (s_tableOf : Int32)  (v1 : Int32) (v2 : Int32) (v3 : Int32) (v4 : Int32) (v5 : Int32)  (s : ((Int32 × Int32) ⊕ Int32)) (h : fX7_bound_J153 a_all (M.2.2 40) s_many v1 v2 v3 v4 v5 = some s) (hs : (Sum.elim (fun x => Zj κ 8 14 [(0, .ref (ad 0)), (1, .int v1), (2, .int v2), (3, .int v3), (4, .int x.1), (5, .int x.2)] [] (mk M [(10, a_all)] M.2.1 [(48, s_many), (49, s_tableOf)])) (fun y => Zj κ 8 159 [(4, .int y)] [] (mk M [(10, a_all)] M.2.1 [(48, s_many), (49, s_tableOf)])) s)) : Zj κ 8 153 [(0, .ref (ad 0)), (1, .int v1), (2, .int v2), (3, .int v3), (4, .int v4), (5, .int v5)] [] (mk M [(10, a_all)] M.2.1 [(48, s_many), (49, s_tableOf)]) := by
  unfold fX7_bound_J153 at h
  refine z_iinc (v := (v5 + nI 1)) (lv' := [(5, .int (v5 + nI 1)), (0, .ref (ad 0)), (1, .int v1), (2, .int v2), (3, .int v3), (4, .int v4)]) X dX7_bound_153 5 rfl rfl (by decide) rfl ?_
  refine z_goto (tgt := 14) X dX7_bound_156 (by decide) ?_
  have hq := Option.some.inj h
  subst hq
  exact z_sub [1, 2, 3, 4, 5, 0] rfl hs
set_option maxHeartbeats 4000000 in
theorem jX7_bound_J149 {κ : Rx} {ct : Nat → ClassId} {tF : Nat} {po ad : Nat → Nat} (X : CX κ ct tF cX7_bound 8 RX7) (eR : kR κ = { frames := 4, cells := 0, slots := 0, locals := 93 }) (hw : KM (kw κ) po ad ct) (M : Mm) (a_all : Nat → Int32) (s_many : Int32) (s_tableOf : Int32)  (v1 : Int32) (v2 : Int32) (v3 : Int32) (v5 : Int32) (v6 : Int32)  (s : ((Int32 × Int32) ⊕ Int32)) (h : fX7_bound_J149 a_all (M.2.2 40) s_many v1 v2 v3 v5 v6 = some s) (hs : (Sum.elim (fun x => Zj κ 8 14 [(0, .ref (ad 0)), (1, .int v1), (2, .int v2), (3, .int v3), (4, .int x.1), (5, .int x.2)] [] (mk M [(10, a_all)] M.2.1 [(48, s_many), (49, s_tableOf)])) (fun y => Zj κ 8 159 [(4, .int y)] [] (mk M [(10, a_all)] M.2.1 [(48, s_many), (49, s_tableOf)])) s)) : Zj κ 8 149 [(0, .ref (ad 0)), (1, .int v1), (2, .int v2), (3, .int v3), (5, .int v5), (6, .int v6)] [] (mk M [(10, a_all)] M.2.1 [(48, s_many), (49, s_tableOf)]) := by
  unfold fX7_bound_J149 at h
  refine z_iload X dX7_bound_149 5 rfl ?_
  refine z_istore (lv' := [(4, .int v6), (0, .ref (ad 0)), (1, .int v1), (2, .int v2), (3, .int v3), (5, .int v5), (6, .int v6)]) X dX7_bound_151 (by decide) rfl ?_
  exact z_sub [1, 2, 3, 4, 0, 5] rfl (jX7_bound_J153 X eR hw M a_all s_many s_tableOf v1 v2 v3 v6 v5 _ h hs)
set_option maxHeartbeats 4000000 in
theorem jX7_bound_J101 {κ : Rx} {ct : Nat → ClassId} {tF : Nat} {po ad : Nat → Nat} (X : CX κ ct tF cX7_bound 8 RX7) (eR : kR κ = { frames := 4, cells := 0, slots := 0, locals := 93 }) (hw : KM (kw κ) po ad ct) (M : Mm) (a_all : Nat → Int32) (s_many : Int32) (s_tableOf : Int32)  (v1 : Int32) (v2 : Int32) (v3 : Int32) (v4 : Int32) (v5 : Int32) (v6 : Int32) (k0 : Int32) (s : ((Int32 × Int32) ⊕ Int32)) (h : fX7_bound_J101 a_all (M.2.2 40) s_many v1 v2 v3 v4 v5 v6 k0 = some s) (hs : (Sum.elim (fun x => Zj κ 8 14 [(0, .ref (ad 0)), (1, .int v1), (2, .int v2), (3, .int v3), (4, .int x.1), (5, .int x.2)] [] (mk M [(10, a_all)] M.2.1 [(48, s_many), (49, s_tableOf)])) (fun y => Zj κ 8 159 [(4, .int y)] [] (mk M [(10, a_all)] M.2.1 [(48, s_many), (49, s_tableOf)])) s)) : Zj κ 8 101 [(0, .ref (ad 0)), (1, .int v1), (2, .int v2), (3, .int v3), (4, .int v4), (5, .int v5), (6, .int v6)] [.int k0] (mk M [(10, a_all)] M.2.1 [(48, s_many), (49, s_tableOf)]) := by
  unfold fX7_bound_J101 at h
  refine z_istore (lv' := [(7, .int k0), (0, .ref (ad 0)), (1, .int v1), (2, .int v2), (3, .int v3), (4, .int v4), (5, .int v5), (6, .int v6)]) X dX7_bound_101 (by decide) rfl ?_
  refine z_iload X dX7_bound_103 0 rfl ?_
  refine z_if_eq (tgt := 153) X dX7_bound_105 (by decide) (fun c105 => ?_) (fun c105 => ?_)
  · rw [if_pos c105] at h
    exact z_sub [1, 2, 3, 4, 5, 6] rfl (jX7_bound_J153 X eR hw M a_all s_many s_tableOf v1 v2 v3 v4 v5 _ h hs)
  · rw [if_neg c105] at h
    refine z_iload X dX7_bound_108 5 rfl ?_
    refine z_iconst (v := (-1 : Int32)) X dX7_bound_110 (by decide) ?_
    refine z_icmp_eq (tgt := 149) X dX7_bound_111 (by decide) (fun c111 => ?_) (fun c111 => ?_)
    · rw [if_pos c111] at h
      exact z_sub [1, 2, 3, 4, 6, 7] rfl (jX7_bound_J149 X eR hw M a_all s_many s_tableOf v1 v2 v3 v5 v6 _ h hs)
    · rw [if_neg c111] at h
      refine z_iload_n X dX7_bound_114 4 rfl rfl ?_
      refine z_if_eq (tgt := 135) X dX7_bound_115 (by decide) (fun c115 => ?_) (fun c115 => ?_)
      · rw [if_pos c115] at h
        refine z_iload X dX7_bound_135 7 rfl ?_
        refine z_iload X dX7_bound_137 5 rfl ?_
        refine z_aload_n X dX7_bound_139 1 rfl rfl ?_
        refine z_get (j := 0) (v := .int (M.2.2 40)) X inX7 rfl (by decide) w_502 (hw.1 _) rfl dX7_bound_140 ?_
        obtain ⟨r1, hr1, h⟩ := ob h
        refine z_cSI (As := [.int v6, .int v4, .int (M.2.2 40)]) (st := []) X (tX7_isBelow hw (mk M [(10, a_all)] M.2.1 [(48, s_many), (49, s_tableOf)]) hr1) w_548 msX7_isBelow (by rw [eR]; exact ⟨Nat.le_of_ble_eq_true rfl, Nat.le_of_ble_eq_true rfl⟩) ⟨rfl, rfl⟩ rfl (Nat.le_of_ble_eq_true rfl) rfl dX7_bound_143 ?_
        refine z_if_eq (tgt := 153) X dX7_bound_146 (by decide) (fun c146 => ?_) (fun c146 => ?_)
        · rw [if_pos c146] at h
          exact z_sub [1, 2, 3, 4, 5, 6] rfl (jX7_bound_J153 X eR hw M a_all s_many s_tableOf v1 v2 v3 v4 v5 _ h hs)
        · rw [if_neg c146] at h
          exact z_sub [1, 2, 3, 4, 6, 7] rfl (jX7_bound_J149 X eR hw M a_all s_many s_tableOf v1 v2 v3 v5 v6 _ h hs)
      · rw [if_neg c115] at h
        refine z_iload X dX7_bound_118 5 rfl ?_
        refine z_iload X dX7_bound_120 7 rfl ?_
        refine z_aload_n X dX7_bound_122 1 rfl rfl ?_
        refine z_get (j := 0) (v := .int (M.2.2 40)) X inX7 rfl (by decide) w_502 (hw.1 _) rfl dX7_bound_123 ?_
        obtain ⟨r2, hr2, h⟩ := ob h
        refine z_cSI (As := [.int v4, .int v6, .int (M.2.2 40)]) (st := []) X (tX7_isBelow hw (mk M [(10, a_all)] M.2.1 [(48, s_many), (49, s_tableOf)]) hr2) w_548 msX7_isBelow (by rw [eR]; exact ⟨Nat.le_of_ble_eq_true rfl, Nat.le_of_ble_eq_true rfl⟩) ⟨rfl, rfl⟩ rfl (Nat.le_of_ble_eq_true rfl) rfl dX7_bound_126 ?_
        refine z_if_eq (tgt := 153) X dX7_bound_129 (by decide) (fun c129 => ?_) (fun c129 => ?_)
        · rw [if_pos c129] at h
          exact z_sub [1, 2, 3, 4, 5, 6] rfl (jX7_bound_J153 X eR hw M a_all s_many s_tableOf v1 v2 v3 v4 v5 _ h hs)
        · rw [if_neg c129] at h
          refine z_goto (tgt := 149) X dX7_bound_132 (by decide) ?_
          exact z_sub [1, 2, 3, 4, 6, 7] rfl (jX7_bound_J149 X eR hw M a_all s_many s_tableOf v1 v2 v3 v5 v6 _ h hs)
set_option maxHeartbeats 4000000 in
theorem jX7_bound_J100 {κ : Rx} {ct : Nat → ClassId} {tF : Nat} {po ad : Nat → Nat} (X : CX κ ct tF cX7_bound 8 RX7) (eR : kR κ = { frames := 4, cells := 0, slots := 0, locals := 93 }) (hw : KM (kw κ) po ad ct) (M : Mm) (a_all : Nat → Int32) (s_many : Int32) (s_tableOf : Int32)  (v1 : Int32) (v2 : Int32) (v3 : Int32) (v4 : Int32) (v5 : Int32) (v6 : Int32)  (s : ((Int32 × Int32) ⊕ Int32)) (h : fX7_bound_J100 a_all (M.2.2 40) s_many v1 v2 v3 v4 v5 v6 = some s) (hs : (Sum.elim (fun x => Zj κ 8 14 [(0, .ref (ad 0)), (1, .int v1), (2, .int v2), (3, .int v3), (4, .int x.1), (5, .int x.2)] [] (mk M [(10, a_all)] M.2.1 [(48, s_many), (49, s_tableOf)])) (fun y => Zj κ 8 159 [(4, .int y)] [] (mk M [(10, a_all)] M.2.1 [(48, s_many), (49, s_tableOf)])) s)) : Zj κ 8 100 [(0, .ref (ad 0)), (1, .int v1), (2, .int v2), (3, .int v3), (4, .int v4), (5, .int v5), (6, .int v6)] [] (mk M [(10, a_all)] M.2.1 [(48, s_many), (49, s_tableOf)]) := by
  unfold fX7_bound_J100 at h
  refine z_iconst (v := (nI 0)) X dX7_bound_100 (by decide) ?_
  exact (jX7_bound_J101 X eR hw M a_all s_many s_tableOf v1 v2 v3 v4 v5 v6 (nI 0) _ h hs)
set_option maxHeartbeats 4000000 in
theorem jX7_bound_J66 {κ : Rx} {ct : Nat → ClassId} {tF : Nat} {po ad : Nat → Nat} (X : CX κ ct tF cX7_bound 8 RX7) (eR : kR κ = { frames := 4, cells := 0, slots := 0, locals := 93 }) (hw : KM (kw κ) po ad ct) (M : Mm) (a_all : Nat → Int32) (s_many : Int32) (s_tableOf : Int32)  (v1 : Int32) (v2 : Int32) (v3 : Int32) (v4 : Int32) (v5 : Int32) (v6 : Int32)  (s : ((Int32 × Int32) ⊕ Int32)) (h : fX7_bound_J66 a_all (M.2.2 40) s_many v1 v2 v3 v4 v5 v6 = some s) (hs : (Sum.elim (fun x => Zj κ 8 14 [(0, .ref (ad 0)), (1, .int v1), (2, .int v2), (3, .int v3), (4, .int x.1), (5, .int x.2)] [] (mk M [(10, a_all)] M.2.1 [(48, s_many), (49, s_tableOf)])) (fun y => Zj κ 8 159 [(4, .int y)] [] (mk M [(10, a_all)] M.2.1 [(48, s_many), (49, s_tableOf)])) s)) : Zj κ 8 66 [(0, .ref (ad 0)), (1, .int v1), (2, .int v2), (3, .int v3), (4, .int v4), (5, .int v5), (6, .int v6)] [] (mk M [(10, a_all)] M.2.1 [(48, s_many), (49, s_tableOf)]) := by
  unfold fX7_bound_J66 at h
  refine z_iconst (v := (nI 0)) X dX7_bound_66 (by decide) ?_
  refine z_goto (tgt := 101) X dX7_bound_67 (by decide) ?_
  exact (jX7_bound_J101 X eR hw M a_all s_many s_tableOf v1 v2 v3 v4 v5 v6 (nI 0) _ h hs)
set_option maxHeartbeats 4000000 in
theorem bX7_bound_B14 {κ : Rx} {ct : Nat → ClassId} {tF : Nat} {po ad : Nat → Nat} (X : CX κ ct tF cX7_bound 8 RX7) (eR : kR κ = { frames := 4, cells := 0, slots := 0, locals := 93 }) (hw : KM (kw κ) po ad ct) (M : Mm) (a_all : Nat → Int32) (s_many : Int32) (s_tableOf : Int32) (v1 : Int32) (v2 : Int32) (v3 : Int32) : ∀ (x : (Int32 × Int32)) (s : (Int32 × Int32) ⊕ Int32), fX7_bound_B14 a_all (M.2.2 40) s_many v1 v2 v3 x = some s → Sum.elim (fun x => Zj κ 8 14 [(0, .ref (ad 0)), (1, .int v1), (2, .int v2), (3, .int v3), (4, .int x.1), (5, .int x.2)] [] (mk M [(10, a_all)] M.2.1 [(48, s_many), (49, s_tableOf)])) (fun y => Zj κ 8 159 [(4, .int y)] [] (mk M [(10, a_all)] M.2.1 [(48, s_many), (49, s_tableOf)])) s → Zj κ 8 14 [(0, .ref (ad 0)), (1, .int v1), (2, .int v2), (3, .int v3), (4, .int x.1), (5, .int x.2)] [] (mk M [(10, a_all)] M.2.1 [(48, s_many), (49, s_tableOf)]) := by
  intro x s h hs
  unfold fX7_bound_B14 at h
  refine z_iload X dX7_bound_14 5 rfl ?_
  refine z_aload_n X dX7_bound_16 0 rfl rfl ?_
  refine z_get (j := 18) (v := .int s_many) X inX7 rfl (by decide) w_476 (hw.1 _) rfl dX7_bound_17 ?_
  refine z_icmp_ge (tgt := 159) X dX7_bound_20 (by decide) (fun c20 => ?_) (fun c20 => ?_)
  · rw [if_pos c20] at h
    have hq := Option.some.inj h
    subst hq
    exact z_sub [4] rfl hs
  · rw [if_neg c20] at h
    refine z_aload_n X dX7_bound_23 0 rfl rfl ?_
    refine z_get (j := 17) (v := .ref (ad 10)) X inX7 rfl (by decide) w_480 (hw.1 _) rfl dX7_bound_24 ?_
    refine z_iload X dX7_bound_27 5 rfl ?_
    obtain ⟨t1, ht1, h⟩ := ob h
    refine z_iald X (hw.2.2.2.2.2.2.2.2.2.2.1 _).1 (rd_ok ht1) dX7_bound_29 ?_
    refine z_istore (lv' := [(6, .int t1), (0, .ref (ad 0)), (1, .int v1), (2, .int v2), (3, .int v3), (4, .int x.1), (5, .int x.2)]) X dX7_bound_30 (by decide) rfl ?_
    refine z_iload_n X dX7_bound_32 4 rfl rfl ?_
    refine z_if_eq (tgt := 70) X dX7_bound_33 (by decide) (fun c33 => ?_) (fun c33 => ?_)
    · rw [if_pos c33] at h
      refine z_iload_n X dX7_bound_70 2 rfl rfl ?_
      refine z_iload X dX7_bound_71 0 rfl ?_
      refine z_aload_n X dX7_bound_73 1 rfl rfl ?_
      refine z_get (j := 0) (v := .int (M.2.2 40)) X inX7 rfl (by decide) w_502 (hw.1 _) rfl dX7_bound_74 ?_
      obtain ⟨r2, hr2, h⟩ := ob h
      refine z_cSI (As := [.int v1, .int t1, .int (M.2.2 40)]) (st := []) X (tX7_isBelow hw (mk M [(10, a_all)] M.2.1 [(48, s_many), (49, s_tableOf)]) hr2) w_548 msX7_isBelow (by rw [eR]; exact ⟨Nat.le_of_ble_eq_true rfl, Nat.le_of_ble_eq_true rfl⟩) ⟨rfl, rfl⟩ rfl (Nat.le_of_ble_eq_true rfl) rfl dX7_bound_77 ?_
      refine z_if_eq (tgt := 100) X dX7_bound_80 (by decide) (fun c80 => ?_) (fun c80 => ?_)
      · rw [if_pos c80] at h
        exact z_sub [1, 2, 3, 4, 5, 6, 0] rfl (jX7_bound_J100 X eR hw M a_all s_many s_tableOf v1 v2 v3 x.1 x.2 t1 _ h hs)
      · rw [if_neg c80] at h
        refine z_iload_n X dX7_bound_83 3 rfl rfl ?_
        refine z_iload X dX7_bound_84 0 rfl ?_
        refine z_aload_n X dX7_bound_86 1 rfl rfl ?_
        refine z_get (j := 0) (v := .int (M.2.2 40)) X inX7 rfl (by decide) w_502 (hw.1 _) rfl dX7_bound_87 ?_
        obtain ⟨r3, hr3, h⟩ := ob h
        refine z_cSI (As := [.int v2, .int t1, .int (M.2.2 40)]) (st := []) X (tX7_isBelow hw (mk M [(10, a_all)] M.2.1 [(48, s_many), (49, s_tableOf)]) hr3) w_548 msX7_isBelow (by rw [eR]; exact ⟨Nat.le_of_ble_eq_true rfl, Nat.le_of_ble_eq_true rfl⟩) ⟨rfl, rfl⟩ rfl (Nat.le_of_ble_eq_true rfl) rfl dX7_bound_90 ?_
        refine z_if_eq (tgt := 100) X dX7_bound_93 (by decide) (fun c93 => ?_) (fun c93 => ?_)
        · rw [if_pos c93] at h
          exact z_sub [1, 2, 3, 4, 5, 6, 0] rfl (jX7_bound_J100 X eR hw M a_all s_many s_tableOf v1 v2 v3 x.1 x.2 t1 _ h hs)
        · rw [if_neg c93] at h
          refine z_iconst (v := (nI 1)) X dX7_bound_96 (by decide) ?_
          refine z_goto (tgt := 101) X dX7_bound_97 (by decide) ?_
          exact z_sub [1, 2, 3, 4, 5, 6, 0] rfl (jX7_bound_J101 X eR hw M a_all s_many s_tableOf v1 v2 v3 x.1 x.2 t1 (nI 1) _ h hs)
    · rw [if_neg c33] at h
      refine z_iload X dX7_bound_36 0 rfl ?_
      refine z_iload_n X dX7_bound_38 2 rfl rfl ?_
      refine z_aload_n X dX7_bound_39 1 rfl rfl ?_
      refine z_get (j := 0) (v := .int (M.2.2 40)) X inX7 rfl (by decide) w_502 (hw.1 _) rfl dX7_bound_40 ?_
      obtain ⟨r4, hr4, h⟩ := ob h
      refine z_cSI (As := [.int t1, .int v1, .int (M.2.2 40)]) (st := []) X (tX7_isBelow hw (mk M [(10, a_all)] M.2.1 [(48, s_many), (49, s_tableOf)]) hr4) w_548 msX7_isBelow (by rw [eR]; exact ⟨Nat.le_of_ble_eq_true rfl, Nat.le_of_ble_eq_true rfl⟩) ⟨rfl, rfl⟩ rfl (Nat.le_of_ble_eq_true rfl) rfl dX7_bound_43 ?_
      refine z_if_eq (tgt := 66) X dX7_bound_46 (by decide) (fun c46 => ?_) (fun c46 => ?_)
      · rw [if_pos c46] at h
        exact z_sub [1, 2, 3, 4, 5, 6, 0] rfl (jX7_bound_J66 X eR hw M a_all s_many s_tableOf v1 v2 v3 x.1 x.2 t1 _ h hs)
      · rw [if_neg c46] at h
        refine z_iload X dX7_bound_49 0 rfl ?_
        refine z_iload_n X dX7_bound_51 3 rfl rfl ?_
        refine z_aload_n X dX7_bound_52 1 rfl rfl ?_
        refine z_get (j := 0) (v := .int (M.2.2 40)) X inX7 rfl (by decide) w_502 (hw.1 _) rfl dX7_bound_53 ?_
        obtain ⟨r5, hr5, h⟩ := ob h
        refine z_cSI (As := [.int t1, .int v2, .int (M.2.2 40)]) (st := []) X (tX7_isBelow hw (mk M [(10, a_all)] M.2.1 [(48, s_many), (49, s_tableOf)]) hr5) w_548 msX7_isBelow (by rw [eR]; exact ⟨Nat.le_of_ble_eq_true rfl, Nat.le_of_ble_eq_true rfl⟩) ⟨rfl, rfl⟩ rfl (Nat.le_of_ble_eq_true rfl) rfl dX7_bound_56 ?_
        refine z_if_eq (tgt := 66) X dX7_bound_59 (by decide) (fun c59 => ?_) (fun c59 => ?_)
        · rw [if_pos c59] at h
          exact z_sub [1, 2, 3, 4, 5, 6, 0] rfl (jX7_bound_J66 X eR hw M a_all s_many s_tableOf v1 v2 v3 x.1 x.2 t1 _ h hs)
        · rw [if_neg c59] at h
          refine z_iconst (v := (nI 1)) X dX7_bound_62 (by decide) ?_
          refine z_goto (tgt := 101) X dX7_bound_63 (by decide) ?_
          exact z_sub [1, 2, 3, 4, 5, 6, 0] rfl (jX7_bound_J101 X eR hw M a_all s_many s_tableOf v1 v2 v3 x.1 x.2 t1 (nI 1) _ h hs)
set_option maxHeartbeats 4000000 in
theorem tX7_bound {l : Launch} {D : va_G} {ct : Nat → ClassId} {tF : Nat} {wOf : Mm → va_W} {po ad : Nat → Nat} (hw : KM wOf po ad ct) (M : Mm) {v1 : Int32} {v2 : Int32} {v3 : Int32} {r : (Int32 × (Nat → Int32) × Int32 × Int32)} (h : fX7_bound (M.1 10) (M.2.2 40) (M.2.2 48) (M.2.2 49) v1 v2 v3 = some r) : CtI l yX7_bound cX7_bound 8 .int { frames := 4, cells := 0, slots := 0, locals := 93 } D ct tF wOf [.ref (ad 0), .int v1, .int v2, .int v3] M r.1 (mk M [(10, r.2.1)] M.2.1 [(48, r.2.2.1), (49, r.2.2.2)]) := by
  refine metI (by decide) (Nat.le_of_ble_eq_true rfl) fun κ X e1 eR e3 e4 hs => ?_
  subst e1; subst e3; subst e4
  unfold fX7_bound at h
  refine z_mem (mk_self M [10] [48, 49]) ?_
  refine z_sub (lv' := [(0, .ref (ad 0)), (1, .int v1), (2, .int v2), (3, .int v3)]) [0, 1, 2, 3] rfl ?_
  show Zj κ 8 0 _ _ (mk M [(10, (M.1 10))] M.2.1 [(48, (M.2.2 48)), (49, (M.2.2 49))])
  refine z_aload_n X dX7_bound_0 0 rfl rfl ?_
  refine z_aload_n X dX7_bound_1 0 rfl rfl ?_
  refine z_get (j := 0) (v := .int (M.2.2 40)) X inX7 rfl (by decide) w_502 (hw.1 _) rfl dX7_bound_2 ?_
  obtain ⟨r1, hr1, h⟩ := ob h
  refine z_cVV (As := [.int (M.2.2 40)]) (st := []) X (tX7_table hw (mk M [(10, (M.1 10))] M.2.1 [(48, (M.2.2 48)), (49, (M.2.2 49))]) hr1) w_481 mvX7_table (by rw [eR]; exact ⟨Nat.le_of_ble_eq_true rfl, Nat.le_of_ble_eq_true rfl⟩) ⟨rfl, rfl⟩ rfl (Nat.le_of_ble_eq_true rfl) (hw.1 _) rfl rfl dX7_bound_5 ?_
  refine z_mem (mk_mk (l' := [(10, r1.1)]) (sl' := [(48, r1.2.1), (49, r1.2.2)]) rfl rfl rfl rfl) ?_
  refine z_iconst (v := (-1 : Int32)) X dX7_bound_8 (by decide) ?_
  refine z_istore (lv' := [(4, .int (-1 : Int32)), (0, .ref (ad 0)), (1, .int v1), (2, .int v2), (3, .int v3)]) X dX7_bound_9 (by decide) rfl ?_
  refine z_iconst (v := (nI 0)) X dX7_bound_11 (by decide) ?_
  refine z_istore (lv' := [(5, .int (nI 0)), (4, .int (-1 : Int32)), (0, .ref (ad 0)), (1, .int v1), (2, .int v2), (3, .int v3)]) X dX7_bound_12 (by decide) rfl ?_
  refine z_sub [2, 3, 4, 5, 1, 0] rfl ?_
  obtain ⟨y2, hy2, h⟩ := ob h
  refine (it_Z (bX7_bound_B14 X eR hw M r1.1 r1.2.1 r1.2.2 v1 v2 v3) FU _ y2 hy2) ?_
  refine z_iload X dX7_bound_159 0 rfl ?_
  have hq := Option.some.inj h
  subst hq
  exact z_iret hs dX7_bound_161 rfl
set_option maxHeartbeats 4000000 in
theorem jX7_meet_J52 {κ : Rx} {ct : Nat → ClassId} {tF : Nat} {po ad : Nat → Nat} (X : CX κ ct tF cX7_meet 4 RX7) (eR : kR κ = { frames := 5, cells := 0, slots := 0, locals := 120 }) (hw : KM (kw κ) po ad ct) (M : Mm) (a_all : Nat → Int32) (s_many : Int32) (s_tableOf : Int32)   (k0 : Int32) (k1 : Int32) (k2 : Int32) (s : (Int32 × (Nat → Int32) × Int32 × Int32)) (h : fX7_meet_J52 (M.1 1) (M.1 2) a_all (M.2.2 40) (M.2.2 41) s_many s_tableOf k0 k1 k2 = some s) (hs : (ZI κ cX7_meet .int s.1 (mk M [(10, s.2.1)] M.2.1 [(48, s.2.2.1), (49, s.2.2.2)]))) : Zj κ 4 52 [(0, .ref (ad 0))] [.int k0, .int k1, .int k2, .ref (ad 0), .ref (ad 0)] (mk M [(10, a_all)] M.2.1 [(48, s_many), (49, s_tableOf)]) := by
  unfold fX7_meet_J52 at h
  obtain ⟨r1, hr1, h⟩ := ob h
  refine z_cVI (As := [.int k2, .int k1, .int k0]) (st := [.ref (ad 0)]) X (tX7_bound hw (mk M [(10, a_all)] M.2.1 [(48, s_many), (49, s_tableOf)]) hr1) w_551 mvX7_bound (by rw [eR]; exact ⟨Nat.le_of_ble_eq_true rfl, Nat.le_of_ble_eq_true rfl⟩) ⟨rfl, rfl⟩ rfl (Nat.le_of_ble_eq_true rfl) (hw.1 _) rfl rfl dX7_meet_52 ?_
  refine z_mem (mk_mk (l' := [(10, r1.2.1)]) (sl' := [(48, r1.2.2.1), (49, r1.2.2.2)]) rfl rfl rfl rfl) ?_
  refine z_aload_n X dX7_meet_55 0 rfl rfl ?_
  refine z_get (j := 0) (v := .int (M.2.2 40)) X inX7 rfl (by decide) w_502 (hw.1 _) rfl dX7_meet_56 ?_
  obtain ⟨r2, hr2, h⟩ := ob h
  refine z_cVI (As := [.int r1.1, .int (M.2.2 40)]) (st := []) X (tX7_numberOf hw (mk M [(10, r1.2.1)] M.2.1 [(48, r1.2.2.1), (49, r1.2.2.2)]) hr2) w_508 mvX7_numberOf (by rw [eR]; exact ⟨Nat.le_of_ble_eq_true rfl, Nat.le_of_ble_eq_true rfl⟩) ⟨rfl, rfl⟩ rfl (Nat.le_of_ble_eq_true rfl) (hw.1 _) rfl rfl dX7_meet_59 ?_
  refine z_mem (mk_mk (l' := [(10, r2.2.1)]) (sl' := [(48, r2.2.2.1), (49, r2.2.2.2)]) rfl rfl rfl rfl) ?_
  have hq := Option.some.inj h
  subst hq
  exact z_iret hs dX7_meet_62 rfl
set_option maxHeartbeats 4000000 in
theorem tX7_meet {l : Launch} {D : va_G} {ct : Nat → ClassId} {tF : Nat} {wOf : Mm → va_W} {po ad : Nat → Nat} (hw : KM wOf po ad ct) (M : Mm) {v1 : Int32} {v2 : Int32} {r : (Int32 × (Nat → Int32) × Int32 × Int32)} (h : fX7_meet (M.1 1) (M.1 2) (M.1 10) (M.2.2 40) (M.2.2 41) (M.2.2 48) (M.2.2 49) v1 v2 = some r) : CtI l yX7_meet cX7_meet 4 .int { frames := 5, cells := 0, slots := 0, locals := 120 } D ct tF wOf [.ref (ad 0), .int v1, .int v2] M r.1 (mk M [(10, r.2.1)] M.2.1 [(48, r.2.2.1), (49, r.2.2.2)]) := by
  refine metI (by decide) (Nat.le_of_ble_eq_true rfl) fun κ X e1 eR e3 e4 hs => ?_
  subst e1; subst e3; subst e4
  unfold fX7_meet at h
  refine z_mem (mk_self M [10] [48, 49]) ?_
  refine z_sub (lv' := [(0, .ref (ad 0)), (1, .int v1), (2, .int v2)]) [0, 1, 2] rfl ?_
  show Zj κ 4 0 _ _ (mk M [(10, (M.1 10))] M.2.1 [(48, (M.2.2 48)), (49, (M.2.2 49))])
  refine z_iload_n X dX7_meet_0 1 rfl rfl ?_
  obtain ⟨r1, hr1, h⟩ := ob h
  refine z_cSI (As := [.int v1]) (st := []) X (tX7_isShelf hw (mk M [(10, (M.1 10))] M.2.1 [(48, (M.2.2 48)), (49, (M.2.2 49))]) hr1) w_540 msX7_isShelf (by rw [eR]; exact ⟨Nat.le_of_ble_eq_true rfl, Nat.le_of_ble_eq_true rfl⟩) ⟨rfl, rfl⟩ rfl (Nat.le_of_ble_eq_true rfl) rfl dX7_meet_1 ?_
  refine z_if_eq (tgt := 17) X dX7_meet_4 (by decide) (fun c4 => ?_) (fun c4 => ?_)
  · rw [if_pos c4] at h
    refine z_iconst (v := (-1 : Int32)) X dX7_meet_17 (by decide) ?_
    have hq := Option.some.inj h
    subst hq
    exact z_iret hs dX7_meet_18 rfl
  · rw [if_neg c4] at h
    refine z_iload_n X dX7_meet_7 2 rfl rfl ?_
    refine z_i2l X dX7_meet_8 ?_
    refine z_lconst (v := (0 : Int64)) X dX7_meet_9 (by decide) ?_
    refine z_lconst (v := (1 : Int64)) X dX7_meet_10 (by decide) ?_
    obtain ⟨r2, hr2, h⟩ := ob h
    refine z_cSI (As := [.long (v2.toInt64), .long (0 : Int64), .long (1 : Int64)]) (st := []) X (tX7_in hw (mk M [(10, (M.1 10))] M.2.1 [(48, (M.2.2 48)), (49, (M.2.2 49))]) hr2) w_472 msX7_in (by rw [eR]; exact ⟨Nat.le_of_ble_eq_true rfl, Nat.le_of_ble_eq_true rfl⟩) ⟨rfl, rfl⟩ rfl (Nat.le_of_ble_eq_true rfl) rfl dX7_meet_11 ?_
    refine z_if_ne (tgt := 19) X dX7_meet_14 (by decide) (fun c14 => ?_) (fun c14 => ?_)
    · rw [if_neg c14] at h
      refine z_aload_n X dX7_meet_19 0 rfl rfl ?_
      refine z_iload_n X dX7_meet_20 1 rfl rfl ?_
      obtain ⟨r3, hr3, h⟩ := ob h
      refine z_cVI (As := [.int v1]) (st := []) X (tX7_barOf hw (mk M [(10, (M.1 10))] M.2.1 [(48, (M.2.2 48)), (49, (M.2.2 49))]) hr3) w_543 mvX7_barOf (by rw [eR]; exact ⟨Nat.le_of_ble_eq_true rfl, Nat.le_of_ble_eq_true rfl⟩) ⟨rfl, rfl⟩ rfl (Nat.le_of_ble_eq_true rfl) (hw.1 _) rfl rfl dX7_meet_21 ?_
      refine z_istore_n (lv' := [(3, .int r3), (0, .ref (ad 0)), (1, .int v1), (2, .int v2)]) X dX7_meet_24 rfl (by decide) rfl ?_
      refine z_iload_n X dX7_meet_25 0 rfl rfl ?_
      refine z_if_eq (tgt := 31) X dX7_meet_26 (by decide) (fun c26 => ?_) (fun c26 => ?_)
      · rw [if_pos c26] at h
        refine z_aload_n X dX7_meet_31 1 rfl rfl ?_
        refine z_aload_n X dX7_meet_32 1 rfl rfl ?_
        refine z_aload_n X dX7_meet_33 1 rfl rfl ?_
        refine z_get (j := 1) (v := .int (M.2.2 41)) X inX7 rfl (by decide) w_506 (hw.1 _) rfl dX7_meet_34 ?_
        refine z_aload_n X dX7_meet_37 1 rfl rfl ?_
        refine z_get (j := 3) (v := .ref (ad 2)) X inX7 rfl (by decide) w_547 (hw.1 _) rfl dX7_meet_38 ?_
        refine z_iload_n X dX7_meet_41 2 rfl rfl ?_
        obtain ⟨t4, ht4, h⟩ := ob h
        refine z_iald X (hw.2.2.1 _).1 (rd_ok ht4) dX7_meet_42 ?_
        refine z_iload_n X dX7_meet_43 3 rfl rfl ?_
        refine z_if_ne (tgt := 51) X dX7_meet_44 (by decide) (fun c44 => ?_) (fun c44 => ?_)
        · rw [if_neg c44] at h
          refine z_iconst (v := (nI 0)) X dX7_meet_51 (by decide) ?_
          exact z_sub [1] rfl (jX7_meet_J52 X eR hw M (M.1 10) (M.2.2 48) (M.2.2 49) (nI 0) t4 (M.2.2 41) _ h hs)
        · rw [if_pos c44] at h
          refine z_iconst (v := (nI 1)) X dX7_meet_47 (by decide) ?_
          refine z_goto (tgt := 52) X dX7_meet_48 (by decide) ?_
          exact z_sub [1] rfl (jX7_meet_J52 X eR hw M (M.1 10) (M.2.2 48) (M.2.2 49) (nI 1) t4 (M.2.2 41) _ h hs)
      · rw [if_neg c26] at h
        refine z_iload_n X dX7_meet_29 0 rfl rfl ?_
        have hq := Option.some.inj h
        subst hq
        exact z_iret hs dX7_meet_30 rfl
    · rw [if_pos c14] at h
      refine z_iconst (v := (-1 : Int32)) X dX7_meet_17 (by decide) ?_
      have hq := Option.some.inj h
      subst hq
      exact z_iret hs dX7_meet_18 rfl
set_option maxHeartbeats 4000000 in
theorem jX7_meetAll_J58 {κ : Rx} {ct : Nat → ClassId} {tF : Nat} {po ad : Nat → Nat} (X : CX κ ct tF cX7_meetAll 4 RX7) (eR : kR κ = { frames := 5, cells := 0, slots := 0, locals := 120 }) (hw : KM (kw κ) po ad ct) (M : Mm) (a_all : Nat → Int32) (s_many : Int32) (s_tableOf : Int32)  (v1 : Int32) (v2 : Int32) (v3 : Int32)  (s : ((Int32 × Int32 × (Nat → Int32) × Int32 × Int32) ⊕ (Int32 × (Nat → Int32) × Int32 × Int32))) (h : fX7_meetAll_J58 (M.1 1) (M.1 2) a_all (M.2.2 40) s_many s_tableOf v1 v2 v3 = some s) (hs : (Sum.elim (fun x => Zj κ 4 19 [(0, .ref (ad 0)), (1, .int v1), (2, .int x.1), (3, .int x.2.1)] [] (mk M [(10, x.2.2.1)] M.2.1 [(48, x.2.2.2.1), (49, x.2.2.2.2)])) (fun y => Zj κ 4 64 [(0, .ref (ad 0)), (2, .int y.1)] [] (mk M [(10, y.2.1)] M.2.1 [(48, y.2.2.1), (49, y.2.2.2)])) s)) : Zj κ 4 58 [(0, .ref (ad 0)), (1, .int v1), (2, .int v2), (3, .int v3)] [] (mk M [(10, a_all)] M.2.1 [(48, s_many), (49, s_tableOf)]) := by
  unfold fX7_meetAll_J58 at h
  refine z_iinc (v := (v3 + nI 1)) (lv' := [(3, .int (v3 + nI 1)), (0, .ref (ad 0)), (1, .int v1), (2, .int v2)]) X dX7_meetAll_58 3 rfl rfl (by decide) rfl ?_
  refine z_goto (tgt := 19) X dX7_meetAll_61 (by decide) ?_
  have hq := Option.some.inj h
  subst hq
  exact z_sub [1, 2, 3, 0] rfl hs
set_option maxHeartbeats 4000000 in
theorem jX7_meetAll_J54 {κ : Rx} {ct : Nat → ClassId} {tF : Nat} {po ad : Nat → Nat} (X : CX κ ct tF cX7_meetAll 4 RX7) (eR : kR κ = { frames := 5, cells := 0, slots := 0, locals := 120 }) (hw : KM (kw κ) po ad ct) (M : Mm) (a_all : Nat → Int32) (s_many : Int32) (s_tableOf : Int32)  (v1 : Int32) (v3 : Int32) (k0 : Int32) (k1 : Int32) (k2 : Int32) (s : ((Int32 × Int32 × (Nat → Int32) × Int32 × Int32) ⊕ (Int32 × (Nat → Int32) × Int32 × Int32))) (h : fX7_meetAll_J54 (M.1 1) (M.1 2) a_all (M.2.2 40) s_many s_tableOf v1 v3 k0 k1 k2 = some s) (hs : (Sum.elim (fun x => Zj κ 4 19 [(0, .ref (ad 0)), (1, .int v1), (2, .int x.1), (3, .int x.2.1)] [] (mk M [(10, x.2.2.1)] M.2.1 [(48, x.2.2.2.1), (49, x.2.2.2.2)])) (fun y => Zj κ 4 64 [(0, .ref (ad 0)), (2, .int y.1)] [] (mk M [(10, y.2.1)] M.2.1 [(48, y.2.2.1), (49, y.2.2.2)])) s)) : Zj κ 4 54 [(0, .ref (ad 0)), (1, .int v1), (3, .int v3)] [.int k0, .int k1, .int k2, .ref (ad 0)] (mk M [(10, a_all)] M.2.1 [(48, s_many), (49, s_tableOf)]) := by
  unfold fX7_meetAll_J54 at h
  obtain ⟨r1, hr1, h⟩ := ob h
  refine z_cVI (As := [.int k2, .int k1, .int k0]) (st := []) X (tX7_bound hw (mk M [(10, a_all)] M.2.1 [(48, s_many), (49, s_tableOf)]) hr1) w_551 mvX7_bound (by rw [eR]; exact ⟨Nat.le_of_ble_eq_true rfl, Nat.le_of_ble_eq_true rfl⟩) ⟨rfl, rfl⟩ rfl (Nat.le_of_ble_eq_true rfl) (hw.1 _) rfl rfl dX7_meetAll_54 ?_
  refine z_mem (mk_mk (l' := [(10, r1.2.1)]) (sl' := [(48, r1.2.2.1), (49, r1.2.2.2)]) rfl rfl rfl rfl) ?_
  refine z_istore_n (lv' := [(2, .int r1.1), (0, .ref (ad 0)), (1, .int v1), (3, .int v3)]) X dX7_meetAll_57 rfl (by decide) rfl ?_
  exact z_sub [1, 2, 0, 3] rfl (jX7_meetAll_J58 X eR hw M r1.2.1 r1.2.2.1 r1.2.2.2 v1 r1.1 v3 _ h hs)
set_option maxHeartbeats 4000000 in
theorem bX7_meetAll_B19 {κ : Rx} {ct : Nat → ClassId} {tF : Nat} {po ad : Nat → Nat} (X : CX κ ct tF cX7_meetAll 4 RX7) (eR : kR κ = { frames := 5, cells := 0, slots := 0, locals := 120 }) (hw : KM (kw κ) po ad ct) (M : Mm)  (v1 : Int32) : ∀ (x : (Int32 × Int32 × (Nat → Int32) × Int32 × Int32)) (s : (Int32 × Int32 × (Nat → Int32) × Int32 × Int32) ⊕ (Int32 × (Nat → Int32) × Int32 × Int32)), fX7_meetAll_B19 (M.1 1) (M.1 2) (M.2.2 40) v1 x = some s → Sum.elim (fun x => Zj κ 4 19 [(0, .ref (ad 0)), (1, .int v1), (2, .int x.1), (3, .int x.2.1)] [] (mk M [(10, x.2.2.1)] M.2.1 [(48, x.2.2.2.1), (49, x.2.2.2.2)])) (fun y => Zj κ 4 64 [(0, .ref (ad 0)), (2, .int y.1)] [] (mk M [(10, y.2.1)] M.2.1 [(48, y.2.2.1), (49, y.2.2.2)])) s → Zj κ 4 19 [(0, .ref (ad 0)), (1, .int v1), (2, .int x.1), (3, .int x.2.1)] [] (mk M [(10, x.2.2.1)] M.2.1 [(48, x.2.2.2.1), (49, x.2.2.2.2)]) := by
  intro x s h hs
  unfold fX7_meetAll_B19 at h
  refine z_iload_n X dX7_meetAll_19 3 rfl rfl ?_
  refine z_iconst (v := (nI 4)) X dX7_meetAll_20 (by decide) ?_
  refine z_icmp_ge (tgt := 64) X dX7_meetAll_21 (by decide) (fun c21 => ?_) (fun c21 => ?_)
  · rw [if_pos c21] at h
    have hq := Option.some.inj h
    subst hq
    exact z_sub [0, 2] rfl hs
  · rw [if_neg c21] at h
    refine z_aload_n X dX7_meetAll_24 0 rfl rfl ?_
    refine z_get (j := 2) (v := .ref (ad 1)) X inX7 rfl (by decide) w_539 (hw.1 _) rfl dX7_meetAll_25 ?_
    refine z_iload_n X dX7_meetAll_28 3 rfl rfl ?_
    obtain ⟨t1, ht1, h⟩ := ob h
    refine z_iald X (hw.2.1 _).1 (rd_ok ht1) dX7_meetAll_29 ?_
    refine z_aload_n X dX7_meetAll_30 0 rfl rfl ?_
    refine z_get (j := 0) (v := .int (M.2.2 40)) X inX7 rfl (by decide) w_502 (hw.1 _) rfl dX7_meetAll_31 ?_
    refine z_icmp_ne (tgt := 58) X dX7_meetAll_34 (by decide) (fun c34 => ?_) (fun c34 => ?_)
    · rw [if_neg c34] at h
      exact (jX7_meetAll_J58 X eR hw M x.2.2.1 x.2.2.2.1 x.2.2.2.2 v1 x.1 x.2.1 _ h hs)
    · rw [if_pos c34] at h
      refine z_aload_n X dX7_meetAll_37 0 rfl rfl ?_
      refine z_iload_n X dX7_meetAll_38 2 rfl rfl ?_
      refine z_aload_n X dX7_meetAll_39 0 rfl rfl ?_
      refine z_get (j := 3) (v := .ref (ad 2)) X inX7 rfl (by decide) w_547 (hw.1 _) rfl dX7_meetAll_40 ?_
      refine z_iload_n X dX7_meetAll_43 3 rfl rfl ?_
      obtain ⟨t2, ht2, h⟩ := ob h
      refine z_iald X (hw.2.2.1 _).1 (rd_ok ht2) dX7_meetAll_44 ?_
      refine z_iload_n X dX7_meetAll_45 1 rfl rfl ?_
      refine z_if_ne (tgt := 53) X dX7_meetAll_46 (by decide) (fun c46 => ?_) (fun c46 => ?_)
      · rw [if_neg c46] at h
        refine z_iconst (v := (nI 0)) X dX7_meetAll_53 (by decide) ?_
        exact z_sub [0, 1, 3] rfl (jX7_meetAll_J54 X eR hw M x.2.2.1 x.2.2.2.1 x.2.2.2.2 v1 x.2.1 (nI 0) t2 x.1 _ h hs)
      · rw [if_pos c46] at h
        refine z_iconst (v := (nI 1)) X dX7_meetAll_49 (by decide) ?_
        refine z_goto (tgt := 54) X dX7_meetAll_50 (by decide) ?_
        exact z_sub [0, 1, 3] rfl (jX7_meetAll_J54 X eR hw M x.2.2.1 x.2.2.2.1 x.2.2.2.2 v1 x.2.1 (nI 1) t2 x.1 _ h hs)
set_option maxHeartbeats 4000000 in
theorem tX7_meetAll {l : Launch} {D : va_G} {ct : Nat → ClassId} {tF : Nat} {wOf : Mm → va_W} {po ad : Nat → Nat} (hw : KM wOf po ad ct) (M : Mm) {v1 : Int32} {r : (Int32 × (Nat → Int32) × Int32 × Int32)} (h : fX7_meetAll (M.1 1) (M.1 2) (M.1 10) (M.2.2 40) (M.2.2 41) (M.2.2 48) (M.2.2 49) v1 = some r) : CtI l yX7_meetAll cX7_meetAll 4 .int { frames := 5, cells := 0, slots := 0, locals := 120 } D ct tF wOf [.ref (ad 0), .int v1] M r.1 (mk M [(10, r.2.1)] M.2.1 [(48, r.2.2.1), (49, r.2.2.2)]) := by
  refine metI (by decide) (Nat.le_of_ble_eq_true rfl) fun κ X e1 eR e3 e4 hs => ?_
  subst e1; subst e3; subst e4
  unfold fX7_meetAll at h
  refine z_mem (mk_self M [10] [48, 49]) ?_
  refine z_sub (lv' := [(0, .ref (ad 0)), (1, .int v1)]) [0, 1] rfl ?_
  show Zj κ 4 0 _ _ (mk M [(10, (M.1 10))] M.2.1 [(48, (M.2.2 48)), (49, (M.2.2 49))])
  refine z_iload_n X dX7_meetAll_0 1 rfl rfl ?_
  refine z_i2l X dX7_meetAll_1 ?_
  refine z_lconst (v := (0 : Int64)) X dX7_meetAll_2 (by decide) ?_
  refine z_lconst (v := (1 : Int64)) X dX7_meetAll_3 (by decide) ?_
  obtain ⟨r1, hr1, h⟩ := ob h
  refine z_cSI (As := [.long (v1.toInt64), .long (0 : Int64), .long (1 : Int64)]) (st := []) X (tX7_in hw (mk M [(10, (M.1 10))] M.2.1 [(48, (M.2.2 48)), (49, (M.2.2 49))]) hr1) w_472 msX7_in (by rw [eR]; exact ⟨Nat.le_of_ble_eq_true rfl, Nat.le_of_ble_eq_true rfl⟩) ⟨rfl, rfl⟩ rfl (Nat.le_of_ble_eq_true rfl) rfl dX7_meetAll_4 ?_
  refine z_if_ne (tgt := 12) X dX7_meetAll_7 (by decide) (fun c7 => ?_) (fun c7 => ?_)
  · rw [if_neg c7] at h
    refine z_aload_n X dX7_meetAll_12 0 rfl rfl ?_
    refine z_get (j := 1) (v := .int (M.2.2 41)) X inX7 rfl (by decide) w_506 (hw.1 _) rfl dX7_meetAll_13 ?_
    refine z_istore_n (lv' := [(2, .int (M.2.2 41)), (0, .ref (ad 0)), (1, .int v1)]) X dX7_meetAll_16 rfl (by decide) rfl ?_
    refine z_iconst (v := (nI 0)) X dX7_meetAll_17 (by decide) ?_
    refine z_istore_n (lv' := [(3, .int (nI 0)), (2, .int (M.2.2 41)), (0, .ref (ad 0)), (1, .int v1)]) X dX7_meetAll_18 rfl (by decide) rfl ?_
    refine z_sub [2, 3, 1, 0] rfl ?_
    obtain ⟨y2, hy2, h⟩ := ob h
    refine (it_Z (bX7_meetAll_B19 X eR hw M v1) FU _ y2 hy2) ?_
    refine z_aload_n X dX7_meetAll_64 0 rfl rfl ?_
    refine z_iload_n X dX7_meetAll_65 1 rfl rfl ?_
    refine z_aload_n X dX7_meetAll_66 0 rfl rfl ?_
    refine z_get (j := 0) (v := .int (M.2.2 40)) X inX7 rfl (by decide) w_502 (hw.1 _) rfl dX7_meetAll_67 ?_
    obtain ⟨r3, hr3, h⟩ := ob h
    refine z_cVI (As := [.int y2.1, .int (M.2.2 40)]) (st := []) X (tX7_numberOf hw (mk M [(10, y2.2.1)] M.2.1 [(48, y2.2.2.1), (49, y2.2.2.2)]) hr3) w_508 mvX7_numberOf (by rw [eR]; exact ⟨Nat.le_of_ble_eq_true rfl, Nat.le_of_ble_eq_true rfl⟩) ⟨rfl, rfl⟩ rfl (Nat.le_of_ble_eq_true rfl) (hw.1 _) rfl rfl dX7_meetAll_70 ?_
    refine z_mem (mk_mk (l' := [(10, r3.2.1)]) (sl' := [(48, r3.2.2.1), (49, r3.2.2.2)]) rfl rfl rfl rfl) ?_
    have hq := Option.some.inj h
    subst hq
    exact z_iret hs dX7_meetAll_73 rfl
  · rw [if_pos c7] at h
    refine z_iconst (v := (-1 : Int32)) X dX7_meetAll_10 (by decide) ?_
    have hq := Option.some.inj h
    subst hq
    exact z_iret hs dX7_meetAll_11 rfl
set_option maxHeartbeats 4000000 in
theorem tX7_isBetween {l : Launch} {D : va_G} {ct : Nat → ClassId} {tF : Nat} {wOf : Mm → va_W} {po ad : Nat → Nat} (hw : KM wOf po ad ct) (M : Mm) {v1 : Int32} {v2 : Int32} {v3 : Int32} {r : Int32} (h : fX7_isBetween (M.2.2 40) v1 v2 v3 = some r) : CtI l yX7_isBetween cX7_isBetween 4 .boolean { frames := 3, cells := 0, slots := 0, locals := 67 } D ct tF wOf [.ref (ad 0), .int v1, .int v2, .int v3] M r M := by
  refine metI (by decide) (Nat.le_of_ble_eq_true rfl) fun κ X e1 eR e3 e4 hs => ?_
  subst e1; subst e3; subst e4
  unfold fX7_isBetween at h
  refine z_sub (lv' := [(0, .ref (ad 0)), (1, .int v1), (2, .int v2), (3, .int v3)]) [0, 1, 2, 3] rfl ?_
  refine z_iload_n X dX7_isBetween_0 2 rfl rfl ?_
  refine z_iload_n X dX7_isBetween_1 1 rfl rfl ?_
  refine z_aload_n X dX7_isBetween_2 0 rfl rfl ?_
  refine z_get (j := 0) (v := .int (M.2.2 40)) X inX7 rfl (by decide) w_502 (hw.1 _) rfl dX7_isBetween_3 ?_
  obtain ⟨r1, hr1, h⟩ := ob h
  refine z_cSI (As := [.int v2, .int v1, .int (M.2.2 40)]) (st := []) X (tX7_isBelow hw M hr1) w_548 msX7_isBelow (by rw [eR]; exact ⟨Nat.le_of_ble_eq_true rfl, Nat.le_of_ble_eq_true rfl⟩) ⟨rfl, rfl⟩ rfl (Nat.le_of_ble_eq_true rfl) rfl dX7_isBetween_6 ?_
  refine z_if_eq (tgt := 28) X dX7_isBetween_9 (by decide) (fun c9 => ?_) (fun c9 => ?_)
  · rw [if_pos c9] at h
    refine z_iconst (v := (nI 0)) X dX7_isBetween_28 (by decide) ?_
    have hq := Option.some.inj h
    subst hq
    exact z_iret hs dX7_isBetween_29 rfl
  · rw [if_neg c9] at h
    refine z_iload_n X dX7_isBetween_12 1 rfl rfl ?_
    refine z_iload_n X dX7_isBetween_13 3 rfl rfl ?_
    refine z_aload_n X dX7_isBetween_14 0 rfl rfl ?_
    refine z_get (j := 0) (v := .int (M.2.2 40)) X inX7 rfl (by decide) w_502 (hw.1 _) rfl dX7_isBetween_15 ?_
    obtain ⟨r2, hr2, h⟩ := ob h
    refine z_cSI (As := [.int v1, .int v3, .int (M.2.2 40)]) (st := []) X (tX7_isBelow hw M hr2) w_548 msX7_isBelow (by rw [eR]; exact ⟨Nat.le_of_ble_eq_true rfl, Nat.le_of_ble_eq_true rfl⟩) ⟨rfl, rfl⟩ rfl (Nat.le_of_ble_eq_true rfl) rfl dX7_isBetween_18 ?_
    refine z_if_eq (tgt := 28) X dX7_isBetween_21 (by decide) (fun c21 => ?_) (fun c21 => ?_)
    · rw [if_pos c21] at h
      refine z_iconst (v := (nI 0)) X dX7_isBetween_28 (by decide) ?_
      have hq := Option.some.inj h
      subst hq
      exact z_iret hs dX7_isBetween_29 rfl
    · rw [if_neg c21] at h
      refine z_iconst (v := (nI 1)) X dX7_isBetween_24 (by decide) ?_
      refine z_goto (tgt := 29) X dX7_isBetween_25 (by decide) ?_
      have hq := Option.some.inj h
      subst hq
      exact z_iret hs dX7_isBetween_29 rfl
set_option maxHeartbeats 4000000 in
theorem jX7_between_J88 {κ : Rx} {ct : Nat → ClassId} {tF : Nat} {po ad : Nat → Nat} (X : CX κ ct tF cX7_between 6 RX7) (eR : kR κ = { frames := 4, cells := 0, slots := 0, locals := 93 }) (hw : KM (kw κ) po ad ct) (M : Mm) (a_all : Nat → Int32) (s_many : Int32) (s_tableOf : Int32)  (v1 : Int32) (v2 : Int32) (v4 : Int32) (v5 : Int32)  (s : ((Int32 × Int32) ⊕ (Int32 ⊕ (Int32 × (Nat → Int32) × Int32 × Int32)))) (h : fX7_between_J88 (M.1 2) a_all (M.2.2 40) (M.2.2 41) s_many s_tableOf v1 v2 v4 v5 = some s) (hs : (Sum.elim (fun x => Zj κ 6 40 [(0, .ref (ad 0)), (1, .int v1), (2, .int v2), (4, .int x.1), (5, .int x.2)] [] (mk M [(10, a_all)] M.2.1 [(48, s_many), (49, s_tableOf)])) (Sum.elim (fun y => Zj κ 6 94 [(2, .int v2), (4, .int y)] [] (mk M [(10, a_all)] M.2.1 [(48, s_many), (49, s_tableOf)])) (fun r => ZI κ cX7_between .int r.1 (mk M [(10, r.2.1)] M.2.1 [(48, r.2.2.1), (49, r.2.2.2)]))) s)) : Zj κ 6 88 [(0, .ref (ad 0)), (1, .int v1), (2, .int v2), (4, .int v4), (5, .int v5)] [] (mk M [(10, a_all)] M.2.1 [(48, s_many), (49, s_tableOf)]) := by
  unfold fX7_between_J88 at h
  refine z_iinc (v := (v5 + nI 1)) (lv' := [(5, .int (v5 + nI 1)), (0, .ref (ad 0)), (1, .int v1), (2, .int v2), (4, .int v4)]) X dX7_between_88 4 rfl rfl (by decide) rfl ?_
  refine z_goto (tgt := 40) X dX7_between_91 (by decide) ?_
  have hq := Option.some.inj h
  subst hq
  exact z_sub [1, 2, 3, 4, 0] rfl hs
set_option maxHeartbeats 4000000 in
theorem bX7_between_B40 {κ : Rx} {ct : Nat → ClassId} {tF : Nat} {po ad : Nat → Nat} (X : CX κ ct tF cX7_between 6 RX7) (eR : kR κ = { frames := 4, cells := 0, slots := 0, locals := 93 }) (hw : KM (kw κ) po ad ct) (M : Mm) (a_all : Nat → Int32) (s_many : Int32) (s_tableOf : Int32) (v1 : Int32) (v2 : Int32) : ∀ (x : (Int32 × Int32)) (s : (Int32 × Int32) ⊕ (Int32 ⊕ (Int32 × (Nat → Int32) × Int32 × Int32))), fX7_between_B40 (M.1 2) a_all (M.2.2 40) (M.2.2 41) s_many s_tableOf v1 v2 x = some s → Sum.elim (fun x => Zj κ 6 40 [(0, .ref (ad 0)), (1, .int v1), (2, .int v2), (4, .int x.1), (5, .int x.2)] [] (mk M [(10, a_all)] M.2.1 [(48, s_many), (49, s_tableOf)])) (Sum.elim (fun y => Zj κ 6 94 [(2, .int v2), (4, .int y)] [] (mk M [(10, a_all)] M.2.1 [(48, s_many), (49, s_tableOf)])) (fun r => ZI κ cX7_between .int r.1 (mk M [(10, r.2.1)] M.2.1 [(48, r.2.2.1), (49, r.2.2.2)]))) s → Zj κ 6 40 [(0, .ref (ad 0)), (1, .int v1), (2, .int v2), (4, .int x.1), (5, .int x.2)] [] (mk M [(10, a_all)] M.2.1 [(48, s_many), (49, s_tableOf)]) := by
  intro x s h hs
  unfold fX7_between_B40 at h
  refine z_iload X dX7_between_40 4 rfl ?_
  refine z_aload_n X dX7_between_42 0 rfl rfl ?_
  refine z_get (j := 18) (v := .int s_many) X inX7 rfl (by decide) w_476 (hw.1 _) rfl dX7_between_43 ?_
  refine z_icmp_ge (tgt := 94) X dX7_between_46 (by decide) (fun c46 => ?_) (fun c46 => ?_)
  · rw [if_pos c46] at h
    have hq := Option.some.inj h
    subst hq
    exact z_sub [2, 3] rfl hs
  · rw [if_neg c46] at h
    refine z_aload_n X dX7_between_49 0 rfl rfl ?_
    refine z_aload_n X dX7_between_50 0 rfl rfl ?_
    refine z_get (j := 17) (v := .ref (ad 10)) X inX7 rfl (by decide) w_480 (hw.1 _) rfl dX7_between_51 ?_
    refine z_iload X dX7_between_54 4 rfl ?_
    obtain ⟨t1, ht1, h⟩ := ob h
    refine z_iald X (hw.2.2.2.2.2.2.2.2.2.2.1 _).1 (rd_ok ht1) dX7_between_56 ?_
    refine z_aload_n X dX7_between_57 0 rfl rfl ?_
    refine z_get (j := 1) (v := .int (M.2.2 41)) X inX7 rfl (by decide) w_506 (hw.1 _) rfl dX7_between_58 ?_
    refine z_aload_n X dX7_between_61 0 rfl rfl ?_
    refine z_get (j := 3) (v := .ref (ad 2)) X inX7 rfl (by decide) w_547 (hw.1 _) rfl dX7_between_62 ?_
    refine z_iload_n X dX7_between_65 1 rfl rfl ?_
    obtain ⟨t2, ht2, h⟩ := ob h
    refine z_iald X (hw.2.2.1 _).1 (rd_ok ht2) dX7_between_66 ?_
    obtain ⟨r3, hr3, h⟩ := ob h
    refine z_cVI (As := [.int t1, .int (M.2.2 41), .int t2]) (st := []) X (tX7_isBetween hw (mk M [(10, a_all)] M.2.1 [(48, s_many), (49, s_tableOf)]) hr3) w_555 mvX7_isBetween (by rw [eR]; exact ⟨Nat.le_of_ble_eq_true rfl, Nat.le_of_ble_eq_true rfl⟩) ⟨rfl, rfl⟩ rfl (Nat.le_of_ble_eq_true rfl) (hw.1 _) rfl rfl dX7_between_67 ?_
    refine z_if_ne (tgt := 76) X dX7_between_70 (by decide) (fun c70 => ?_) (fun c70 => ?_)
    · rw [if_neg c70] at h
      refine z_iload X dX7_between_76 3 rfl ?_
      refine z_iload_n X dX7_between_78 2 rfl rfl ?_
      refine z_icmp_ne (tgt := 85) X dX7_between_79 (by decide) (fun c79 => ?_) (fun c79 => ?_)
      · rw [if_neg c79] at h
        refine z_iinc (v := (x.1 + nI 1)) (lv' := [(4, .int (x.1 + nI 1)), (0, .ref (ad 0)), (1, .int v1), (2, .int v2), (5, .int x.2)]) X dX7_between_85 3 rfl rfl (by decide) rfl ?_
        exact z_sub [1, 2, 3, 0, 4] rfl (jX7_between_J88 X eR hw M a_all s_many s_tableOf v1 v2 (x.1 + nI 1) x.2 _ h hs)
      · rw [if_pos c79] at h
        refine z_iload X dX7_between_82 4 rfl ?_
        have hq := Option.some.inj h
        subst hq
        exact z_iret hs dX7_between_84 rfl
    · rw [if_pos c70] at h
      refine z_goto (tgt := 88) X dX7_between_73 (by decide) ?_
      exact (jX7_between_J88 X eR hw M a_all s_many s_tableOf v1 v2 x.1 x.2 _ h hs)
set_option maxHeartbeats 4000000 in
theorem tX7_between {l : Launch} {D : va_G} {ct : Nat → ClassId} {tF : Nat} {wOf : Mm → va_W} {po ad : Nat → Nat} (hw : KM wOf po ad ct) (M : Mm) {v1 : Int32} {v2 : Int32} {r : (Int32 × (Nat → Int32) × Int32 × Int32)} (h : fX7_between (M.1 1) (M.1 2) (M.1 10) (M.2.2 40) (M.2.2 41) (M.2.2 48) (M.2.2 49) v1 v2 = some r) : CtI l yX7_between cX7_between 6 .int { frames := 4, cells := 0, slots := 0, locals := 93 } D ct tF wOf [.ref (ad 0), .int v1, .int v2] M r.1 (mk M [(10, r.2.1)] M.2.1 [(48, r.2.2.1), (49, r.2.2.2)]) := by
  refine metI (by decide) (Nat.le_of_ble_eq_true rfl) fun κ X e1 eR e3 e4 hs => ?_
  subst e1; subst e3; subst e4
  unfold fX7_between at h
  refine z_mem (mk_self M [10] [48, 49]) ?_
  refine z_sub (lv' := [(0, .ref (ad 0)), (1, .int v1), (2, .int v2)]) [0, 1, 2] rfl ?_
  show Zj κ 6 0 _ _ (mk M [(10, (M.1 10))] M.2.1 [(48, (M.2.2 48)), (49, (M.2.2 49))])
  refine z_iload_n X dX7_between_0 1 rfl rfl ?_
  obtain ⟨r1, hr1, h⟩ := ob h
  refine z_cSI (As := [.int v1]) (st := []) X (tX7_isShelf hw (mk M [(10, (M.1 10))] M.2.1 [(48, (M.2.2 48)), (49, (M.2.2 49))]) hr1) w_540 msX7_isShelf (by rw [eR]; exact ⟨Nat.le_of_ble_eq_true rfl, Nat.le_of_ble_eq_true rfl⟩) ⟨rfl, rfl⟩ rfl (Nat.le_of_ble_eq_true rfl) rfl dX7_between_1 ?_
  refine z_if_eq (tgt := 12) X dX7_between_4 (by decide) (fun c4 => ?_) (fun c4 => ?_)
  · rw [if_pos c4] at h
    refine z_iconst (v := (-1 : Int32)) X dX7_between_12 (by decide) ?_
    have hq := Option.some.inj h
    subst hq
    exact z_iret hs dX7_between_13 rfl
  · rw [if_neg c4] at h
    refine z_iload_n X dX7_between_7 2 rfl rfl ?_
    refine z_iconst (v := (-1 : Int32)) X dX7_between_8 (by decide) ?_
    refine z_icmp_ge (tgt := 14) X dX7_between_9 (by decide) (fun c9 => ?_) (fun c9 => ?_)
    · rw [if_pos c9] at h
      refine z_aload_n X dX7_between_14 0 rfl rfl ?_
      refine z_iload_n X dX7_between_15 1 rfl rfl ?_
      obtain ⟨r2, hr2, h⟩ := ob h
      refine z_cVI (As := [.int v1]) (st := []) X (tX7_barOf hw (mk M [(10, (M.1 10))] M.2.1 [(48, (M.2.2 48)), (49, (M.2.2 49))]) hr2) w_543 mvX7_barOf (by rw [eR]; exact ⟨Nat.le_of_ble_eq_true rfl, Nat.le_of_ble_eq_true rfl⟩) ⟨rfl, rfl⟩ rfl (Nat.le_of_ble_eq_true rfl) (hw.1 _) rfl rfl dX7_between_16 ?_
      refine z_istore_n (lv' := [(3, .int r2), (0, .ref (ad 0)), (1, .int v1), (2, .int v2)]) X dX7_between_19 rfl (by decide) rfl ?_
      refine z_iload_n X dX7_between_20 0 rfl rfl ?_
      refine z_if_eq (tgt := 26) X dX7_between_21 (by decide) (fun c21 => ?_) (fun c21 => ?_)
      · rw [if_pos c21] at h
        refine z_aload_n X dX7_between_26 1 rfl rfl ?_
        refine z_aload_n X dX7_between_27 1 rfl rfl ?_
        refine z_get (j := 0) (v := .int (M.2.2 40)) X inX7 rfl (by decide) w_502 (hw.1 _) rfl dX7_between_28 ?_
        obtain ⟨r3, hr3, h⟩ := ob h
        refine z_cVV (As := [.int (M.2.2 40)]) (st := []) X (tX7_table hw (mk M [(10, (M.1 10))] M.2.1 [(48, (M.2.2 48)), (49, (M.2.2 49))]) hr3) w_481 mvX7_table (by rw [eR]; exact ⟨Nat.le_of_ble_eq_true rfl, Nat.le_of_ble_eq_true rfl⟩) ⟨rfl, rfl⟩ rfl (Nat.le_of_ble_eq_true rfl) (hw.1 _) rfl rfl dX7_between_31 ?_
        refine z_mem (mk_mk (l' := [(10, r3.1)]) (sl' := [(48, r3.2.1), (49, r3.2.2)]) rfl rfl rfl rfl) ?_
        refine z_iconst (v := (nI 0)) X dX7_between_34 (by decide) ?_
        refine z_istore (lv' := [(4, .int (nI 0)), (3, .int r2), (0, .ref (ad 0)), (1, .int v1), (2, .int v2)]) X dX7_between_35 (by decide) rfl ?_
        refine z_iconst (v := (nI 0)) X dX7_between_37 (by decide) ?_
        refine z_istore (lv' := [(5, .int (nI 0)), (4, .int (nI 0)), (3, .int r2), (0, .ref (ad 0)), (1, .int v1), (2, .int v2)]) X dX7_between_38 (by decide) rfl ?_
        refine z_sub [3, 4, 5, 1, 0] rfl ?_
        obtain ⟨y4_, hy4, h⟩ := ob h
        cases y4_ with
        | inl y4 =>
          rw [Sum.elim_inl] at h
          refine (it_Z (bX7_between_B40 X eR hw M r3.1 r3.2.1 r3.2.2 v1 v2) FU _ (.inl y4) hy4) ?_
          refine z_iload_n X dX7_between_94 0 rfl rfl ?_
          refine z_iconst (v := (-1 : Int32)) X dX7_between_95 (by decide) ?_
          refine z_icmp_ne (tgt := 104) X dX7_between_96 (by decide) (fun c96 => ?_) (fun c96 => ?_)
          · rw [if_neg c96] at h
            refine z_iconst (v := (-1 : Int32)) X dX7_between_104 (by decide) ?_
            have hq := Option.some.inj h
            subst hq
            exact z_iret hs dX7_between_105 rfl
          · rw [if_pos c96] at h
            refine z_iload X dX7_between_99 1 rfl ?_
            refine z_goto (tgt := 105) X dX7_between_101 (by decide) ?_
            have hq := Option.some.inj h
            subst hq
            exact z_iret hs dX7_between_105 rfl
        | inr y4 =>
          rw [Sum.elim_inr] at h
          have hq := Option.some.inj h
          subst hq
          exact (it_Z (bX7_between_B40 X eR hw M r3.1 r3.2.1 r3.2.2 v1 v2) FU _ (.inr _) hy4) hs
      · rw [if_neg c21] at h
        refine z_iload_n X dX7_between_24 0 rfl rfl ?_
        have hq := Option.some.inj h
        subst hq
        exact z_iret hs dX7_between_25 rfl
    · rw [if_neg c9] at h
      refine z_iconst (v := (-1 : Int32)) X dX7_between_12 (by decide) ?_
      have hq := Option.some.inj h
      subst hq
      exact z_iret hs dX7_between_13 rfl
set_option maxHeartbeats 4000000 in
theorem bX7_measure_B10 {κ : Rx} {ct : Nat → ClassId} {tF : Nat} {po ad : Nat → Nat} (X : CX κ ct tF cX7_measure 11 RX7) (eR : kR κ = { frames := 21, cells := 0, slots := 0, locals := 2165 }) (hw : KM (kw κ) po ad ct) (M : Mm) (a_all : Nat → Int32) (a_parent : Nat → Int32) (a_left : Nat → Int32) (a_right : Nat → Int32) (a_leftSize : Nat → Int32) (a_above : Nat → Int32) (a_queue : Nat → Int32) (s_many : Int32) (s_tableOf : Int32) (s_read : Int32) (v1 : Int32) (v2 : Int32) : ∀ (x : (Int32 × (Nat → Int32))) (s : (Int32 × (Nat → Int32)) ⊕ (Nat → Int32)), fX7_measure_B10 s_many v1 v2 x = some s → Sum.elim (fun x => Zj κ 11 10 [(0, .ref (ad 0)), (1, .int v1), (2, .int v2), (3, .int x.1)] [] (mk M [(10, a_all), (11, a_parent), (12, a_left), (13, a_right), (14, a_leftSize), (15, a_above), (16, x.2), (17, a_queue)] M.2.1 [(48, s_many), (49, s_tableOf), (50, s_read)])) (fun y => Zj κ 11 31 [(0, .ref (ad 0)), (1, .int v1), (2, .int v2)] [] (mk M [(10, a_all), (11, a_parent), (12, a_left), (13, a_right), (14, a_leftSize), (15, a_above), (16, y), (17, a_queue)] M.2.1 [(48, s_many), (49, s_tableOf), (50, s_read)])) s → Zj κ 11 10 [(0, .ref (ad 0)), (1, .int v1), (2, .int v2), (3, .int x.1)] [] (mk M [(10, a_all), (11, a_parent), (12, a_left), (13, a_right), (14, a_leftSize), (15, a_above), (16, x.2), (17, a_queue)] M.2.1 [(48, s_many), (49, s_tableOf), (50, s_read)]) := by
  intro x s h hs
  unfold fX7_measure_B10 at h
  refine z_iload_n X dX7_measure_10 3 rfl rfl ?_
  refine z_aload_n X dX7_measure_11 0 rfl rfl ?_
  refine z_get (j := 18) (v := .int s_many) X inX7 rfl (by decide) w_476 (hw.1 _) rfl dX7_measure_12 ?_
  refine z_icmp_ge (tgt := 31) X dX7_measure_15 (by decide) (fun c15 => ?_) (fun c15 => ?_)
  · rw [if_pos c15] at h
    have hq := Option.some.inj h
    subst hq
    exact z_sub [0, 1, 2] rfl hs
  · rw [if_neg c15] at h
    refine z_aload_n X dX7_measure_18 0 rfl rfl ?_
    refine z_get (j := 26) (v := .ref (ad 16)) X inX7 rfl (by decide) w_559 (hw.1 _) rfl dX7_measure_19 ?_
    refine z_iload_n X dX7_measure_22 3 rfl rfl ?_
    refine z_iconst (v := (-1 : Int32)) X dX7_measure_23 (by decide) ?_
    obtain ⟨u1, hu1, h⟩ := ob h
    refine z_iast (M' := (mk M [(10, a_all), (11, a_parent), (12, a_left), (13, a_right), (14, a_leftSize), (15, a_above), (16, u1), (17, a_queue)] M.2.1 [(48, s_many), (49, s_tableOf), (50, s_read)])) X (hw.2.2.2.2.2.2.2.2.2.2.2.2.2.2.2.2.1 _).1 (wr_ok hu1) (mk_set1 (l' := [(10, a_all), (11, a_parent), (12, a_left), (13, a_right), (14, a_leftSize), (15, a_above), (16, u1), (17, a_queue)]) (hw.2.2.2.2.2.2.2.2.2.2.2.2.2.2.2.2.1) rfl rfl) dX7_measure_24 ?_
    refine z_iinc (v := (x.1 + nI 1)) (lv' := [(3, .int (x.1 + nI 1)), (0, .ref (ad 0)), (1, .int v1), (2, .int v2)]) X dX7_measure_25 3 rfl rfl (by decide) rfl ?_
    refine z_goto (tgt := 10) X dX7_measure_28 (by decide) ?_
    have hq := Option.some.inj h
    subst hq
    exact z_sub [1, 2, 3, 0] rfl hs
set_option maxHeartbeats 4000000 in
theorem jX7_measure_J221 {κ : Rx} {ct : Nat → ClassId} {tF : Nat} {po ad : Nat → Nat} (X : CX κ ct tF cX7_measure 11 RX7) (eR : kR κ = { frames := 21, cells := 0, slots := 0, locals := 2165 }) (hw : KM (kw κ) po ad ct) (M : Mm) (a_all : Nat → Int32) (a_parent : Nat → Int32) (a_left : Nat → Int32) (a_right : Nat → Int32) (a_leftSize : Nat → Int32) (a_above : Nat → Int32) (a_dist : Nat → Int32) (a_queue : Nat → Int32) (s_many : Int32) (s_tableOf : Int32) (s_read : Int32)  (v2 : Int32) (v4 : Int32) (v5 : Int32) (v6 : Int32) (v7 : Int32) (v8 : Int32)  (s : ((Int32 × Int32 × (Nat → Int32) × (Nat → Int32) × (Nat → Int32) × (Nat → Int32) × (Nat → Int32) × (Nat → Int32) × (Nat → Int32) × (Nat → Int32) × Int32 × Int32 × Int32) ⊕ (Int32 × (Nat → Int32) × (Nat → Int32) × (Nat → Int32) × (Nat → Int32) × (Nat → Int32) × (Nat → Int32) × (Nat → Int32) × (Nat → Int32) × Int32 × Int32 × Int32))) (h : fX7_measure_J221 a_all a_parent a_left a_right a_leftSize a_above a_dist a_queue (M.2.2 40) s_many s_tableOf s_read v2 v4 v5 v6 v7 v8 = some s) (hs : (Sum.elim (fun x => Zj κ 11 92 [(0, .ref (ad 0)), (2, .int v2), (4, .int x.1), (5, .int v5), (6, .int v6), (7, .int v7), (8, .int x.2.1)] [] (mk M [(10, x.2.2.1), (11, x.2.2.2.1), (12, x.2.2.2.2.1), (13, x.2.2.2.2.2.1), (14, x.2.2.2.2.2.2.1), (15, x.2.2.2.2.2.2.2.1), (16, x.2.2.2.2.2.2.2.2.1), (17, x.2.2.2.2.2.2.2.2.2.1)] M.2.1 [(48, x.2.2.2.2.2.2.2.2.2.2.1), (49, x.2.2.2.2.2.2.2.2.2.2.2.1), (50, x.2.2.2.2.2.2.2.2.2.2.2.2)])) (fun y => Zj κ 11 227 [(0, .ref (ad 0)), (2, .int v2), (4, .int y.1), (5, .int v5), (6, .int v6), (7, .int v7)] [] (mk M [(10, y.2.1), (11, y.2.2.1), (12, y.2.2.2.1), (13, y.2.2.2.2.1), (14, y.2.2.2.2.2.1), (15, y.2.2.2.2.2.2.1), (16, y.2.2.2.2.2.2.2.1), (17, y.2.2.2.2.2.2.2.2.1)] M.2.1 [(48, y.2.2.2.2.2.2.2.2.2.1), (49, y.2.2.2.2.2.2.2.2.2.2.1), (50, y.2.2.2.2.2.2.2.2.2.2.2)])) s)) : Zj κ 11 221 [(0, .ref (ad 0)), (2, .int v2), (4, .int v4), (5, .int v5), (6, .int v6), (7, .int v7), (8, .int v8)] [] (mk M [(10, a_all), (11, a_parent), (12, a_left), (13, a_right), (14, a_leftSize), (15, a_above), (16, a_dist), (17, a_queue)] M.2.1 [(48, s_many), (49, s_tableOf), (50, s_read)]) := by
  unfold fX7_measure_J221 at h
  refine z_iinc (v := (v8 + nI 1)) (lv' := [(8, .int (v8 + nI 1)), (0, .ref (ad 0)), (2, .int v2), (4, .int v4), (5, .int v5), (6, .int v6), (7, .int v7)]) X dX7_measure_221 6 rfl rfl (by decide) rfl ?_
  refine z_goto (tgt := 92) X dX7_measure_224 (by decide) ?_
  have hq := Option.some.inj h
  subst hq
  exact z_sub [1, 2, 3, 4, 5, 6, 0] rfl hs
set_option maxHeartbeats 4000000 in
theorem jX7_measure_J171 {κ : Rx} {ct : Nat → ClassId} {tF : Nat} {po ad : Nat → Nat} (X : CX κ ct tF cX7_measure 11 RX7) (eR : kR κ = { frames := 21, cells := 0, slots := 0, locals := 2165 }) (hw : KM (kw κ) po ad ct) (M : Mm) (a_all : Nat → Int32) (a_parent : Nat → Int32) (a_left : Nat → Int32) (a_right : Nat → Int32) (a_leftSize : Nat → Int32) (a_above : Nat → Int32) (a_dist : Nat → Int32) (a_queue : Nat → Int32) (s_many : Int32) (s_tableOf : Int32) (s_read : Int32)  (v2 : Int32) (v4 : Int32) (v5 : Int32) (v6 : Int32) (v7 : Int32) (v8 : Int32) (k0 : Int32) (s : ((Int32 × Int32 × (Nat → Int32) × (Nat → Int32) × (Nat → Int32) × (Nat → Int32) × (Nat → Int32) × (Nat → Int32) × (Nat → Int32) × (Nat → Int32) × Int32 × Int32 × Int32) ⊕ (Int32 × (Nat → Int32) × (Nat → Int32) × (Nat → Int32) × (Nat → Int32) × (Nat → Int32) × (Nat → Int32) × (Nat → Int32) × (Nat → Int32) × Int32 × Int32 × Int32))) (h : fX7_measure_J171 a_all a_parent a_left a_right a_leftSize a_above a_dist a_queue (M.2.2 40) s_many s_tableOf s_read v2 v4 v5 v6 v7 v8 k0 = some s) (hs : (Sum.elim (fun x => Zj κ 11 92 [(0, .ref (ad 0)), (2, .int v2), (4, .int x.1), (5, .int v5), (6, .int v6), (7, .int v7), (8, .int x.2.1)] [] (mk M [(10, x.2.2.1), (11, x.2.2.2.1), (12, x.2.2.2.2.1), (13, x.2.2.2.2.2.1), (14, x.2.2.2.2.2.2.1), (15, x.2.2.2.2.2.2.2.1), (16, x.2.2.2.2.2.2.2.2.1), (17, x.2.2.2.2.2.2.2.2.2.1)] M.2.1 [(48, x.2.2.2.2.2.2.2.2.2.2.1), (49, x.2.2.2.2.2.2.2.2.2.2.2.1), (50, x.2.2.2.2.2.2.2.2.2.2.2.2)])) (fun y => Zj κ 11 227 [(0, .ref (ad 0)), (2, .int v2), (4, .int y.1), (5, .int v5), (6, .int v6), (7, .int v7)] [] (mk M [(10, y.2.1), (11, y.2.2.1), (12, y.2.2.2.1), (13, y.2.2.2.2.1), (14, y.2.2.2.2.2.1), (15, y.2.2.2.2.2.2.1), (16, y.2.2.2.2.2.2.2.1), (17, y.2.2.2.2.2.2.2.2.1)] M.2.1 [(48, y.2.2.2.2.2.2.2.2.2.1), (49, y.2.2.2.2.2.2.2.2.2.2.1), (50, y.2.2.2.2.2.2.2.2.2.2.2)])) s)) : Zj κ 11 171 [(0, .ref (ad 0)), (2, .int v2), (4, .int v4), (5, .int v5), (6, .int v6), (7, .int v7), (8, .int v8)] [.int k0] (mk M [(10, a_all), (11, a_parent), (12, a_left), (13, a_right), (14, a_leftSize), (15, a_above), (16, a_dist), (17, a_queue)] M.2.1 [(48, s_many), (49, s_tableOf), (50, s_read)]) := by
  unfold fX7_measure_J171 at h
  refine z_istore (lv' := [(10, .int k0), (0, .ref (ad 0)), (2, .int v2), (4, .int v4), (5, .int v5), (6, .int v6), (7, .int v7), (8, .int v8)]) X dX7_measure_171 (by decide) rfl ?_
  refine z_iload X dX7_measure_173 0 rfl ?_
  refine z_iconst (v := (-1 : Int32)) X dX7_measure_175 (by decide) ?_
  refine z_icmp_eq (tgt := 221) X dX7_measure_176 (by decide) (fun c176 => ?_) (fun c176 => ?_)
  · rw [if_pos c176] at h
    exact z_sub [1, 2, 3, 4, 5, 6, 7] rfl (jX7_measure_J221 X eR hw M a_all a_parent a_left a_right a_leftSize a_above a_dist a_queue s_many s_tableOf s_read v2 v4 v5 v6 v7 v8 _ h hs)
  · rw [if_neg c176] at h
    refine z_aload_n X dX7_measure_179 1 rfl rfl ?_
    refine z_get (j := 26) (v := .ref (ad 16)) X inX7 rfl (by decide) w_559 (hw.1 _) rfl dX7_measure_180 ?_
    refine z_iload X dX7_measure_183 0 rfl ?_
    obtain ⟨t1, ht1, h⟩ := ob h
    refine z_iald X (hw.2.2.2.2.2.2.2.2.2.2.2.2.2.2.2.2.1 _).1 (rd_ok ht1) dX7_measure_185 ?_
    refine z_iconst (v := (-1 : Int32)) X dX7_measure_186 (by decide) ?_
    refine z_icmp_eq (tgt := 193) X dX7_measure_187 (by decide) (fun c187 => ?_) (fun c187 => ?_)
    · rw [if_pos c187] at h
      refine z_aload_n X dX7_measure_193 1 rfl rfl ?_
      refine z_get (j := 26) (v := .ref (ad 16)) X inX7 rfl (by decide) w_559 (hw.1 _) rfl dX7_measure_194 ?_
      refine z_iload X dX7_measure_197 0 rfl ?_
      refine z_aload_n X dX7_measure_199 1 rfl rfl ?_
      refine z_get (j := 26) (v := .ref (ad 16)) X inX7 rfl (by decide) w_559 (hw.1 _) rfl dX7_measure_200 ?_
      refine z_iload X dX7_measure_203 5 rfl ?_
      obtain ⟨t2, ht2, h⟩ := ob h
      refine z_iald X (hw.2.2.2.2.2.2.2.2.2.2.2.2.2.2.2.2.1 _).1 (rd_ok ht2) dX7_measure_205 ?_
      refine z_iconst (v := (nI 1)) X dX7_measure_206 (by decide) ?_
      refine z_iadd X dX7_measure_207 ?_
      obtain ⟨u3, hu3, h⟩ := ob h
      refine z_iast (M' := (mk M [(10, a_all), (11, a_parent), (12, a_left), (13, a_right), (14, a_leftSize), (15, a_above), (16, u3), (17, a_queue)] M.2.1 [(48, s_many), (49, s_tableOf), (50, s_read)])) X (hw.2.2.2.2.2.2.2.2.2.2.2.2.2.2.2.2.1 _).1 (wr_ok hu3) (mk_set1 (l' := [(10, a_all), (11, a_parent), (12, a_left), (13, a_right), (14, a_leftSize), (15, a_above), (16, u3), (17, a_queue)]) (hw.2.2.2.2.2.2.2.2.2.2.2.2.2.2.2.2.1) rfl rfl) dX7_measure_208 ?_
      refine z_aload_n X dX7_measure_209 1 rfl rfl ?_
      refine z_get (j := 27) (v := .ref (ad 17)) X inX7 rfl (by decide) w_560 (hw.1 _) rfl dX7_measure_210 ?_
      refine z_iload X dX7_measure_213 3 rfl ?_
      refine z_iinc (v := (v4 + nI 1)) (lv' := [(4, .int (v4 + nI 1)), (10, .int k0), (0, .ref (ad 0)), (2, .int v2), (5, .int v5), (6, .int v6), (7, .int v7), (8, .int v8)]) X dX7_measure_215 3 rfl rfl (by decide) rfl ?_
      refine z_iload X dX7_measure_218 1 rfl ?_
      obtain ⟨u4, hu4, h⟩ := ob h
      refine z_iast (M' := (mk M [(10, a_all), (11, a_parent), (12, a_left), (13, a_right), (14, a_leftSize), (15, a_above), (16, u3), (17, u4)] M.2.1 [(48, s_many), (49, s_tableOf), (50, s_read)])) X (hw.2.2.2.2.2.2.2.2.2.2.2.2.2.2.2.2.2.1 _).1 (wr_ok hu4) (mk_set1 (l' := [(10, a_all), (11, a_parent), (12, a_left), (13, a_right), (14, a_leftSize), (15, a_above), (16, u3), (17, u4)]) (hw.2.2.2.2.2.2.2.2.2.2.2.2.2.2.2.2.2.1) rfl rfl) dX7_measure_220 ?_
      exact z_sub [2, 3, 0, 4, 5, 6, 7] rfl (jX7_measure_J221 X eR hw M a_all a_parent a_left a_right a_leftSize a_above u3 u4 s_many s_tableOf s_read v2 (v4 + nI 1) v5 v6 v7 v8 _ h hs)
    · rw [if_neg c187] at h
      refine z_goto (tgt := 221) X dX7_measure_190 (by decide) ?_
      exact z_sub [1, 2, 3, 4, 5, 6, 7] rfl (jX7_measure_J221 X eR hw M a_all a_parent a_left a_right a_leftSize a_above a_dist a_queue s_many s_tableOf s_read v2 v4 v5 v6 v7 v8 _ h hs)
set_option maxHeartbeats 4000000 in
theorem jX7_measure_J148 {κ : Rx} {ct : Nat → ClassId} {tF : Nat} {po ad : Nat → Nat} (X : CX κ ct tF cX7_measure 11 RX7) (eR : kR κ = { frames := 21, cells := 0, slots := 0, locals := 2165 }) (hw : KM (kw κ) po ad ct) (M : Mm) (a_all : Nat → Int32) (a_parent : Nat → Int32) (a_left : Nat → Int32) (a_right : Nat → Int32) (a_leftSize : Nat → Int32) (a_above : Nat → Int32) (a_dist : Nat → Int32) (a_queue : Nat → Int32) (s_many : Int32) (s_tableOf : Int32) (s_read : Int32)  (v2 : Int32) (v4 : Int32) (v5 : Int32) (v6 : Int32) (v7 : Int32) (v8 : Int32) (k0 : Int32) (s : ((Int32 × Int32 × (Nat → Int32) × (Nat → Int32) × (Nat → Int32) × (Nat → Int32) × (Nat → Int32) × (Nat → Int32) × (Nat → Int32) × (Nat → Int32) × Int32 × Int32 × Int32) ⊕ (Int32 × (Nat → Int32) × (Nat → Int32) × (Nat → Int32) × (Nat → Int32) × (Nat → Int32) × (Nat → Int32) × (Nat → Int32) × (Nat → Int32) × Int32 × Int32 × Int32))) (h : fX7_measure_J148 a_all a_parent a_left a_right a_leftSize a_above a_dist a_queue (M.2.2 40) s_many s_tableOf s_read v2 v4 v5 v6 v7 v8 k0 = some s) (hs : (Sum.elim (fun x => Zj κ 11 92 [(0, .ref (ad 0)), (2, .int v2), (4, .int x.1), (5, .int v5), (6, .int v6), (7, .int v7), (8, .int x.2.1)] [] (mk M [(10, x.2.2.1), (11, x.2.2.2.1), (12, x.2.2.2.2.1), (13, x.2.2.2.2.2.1), (14, x.2.2.2.2.2.2.1), (15, x.2.2.2.2.2.2.2.1), (16, x.2.2.2.2.2.2.2.2.1), (17, x.2.2.2.2.2.2.2.2.2.1)] M.2.1 [(48, x.2.2.2.2.2.2.2.2.2.2.1), (49, x.2.2.2.2.2.2.2.2.2.2.2.1), (50, x.2.2.2.2.2.2.2.2.2.2.2.2)])) (fun y => Zj κ 11 227 [(0, .ref (ad 0)), (2, .int v2), (4, .int y.1), (5, .int v5), (6, .int v6), (7, .int v7)] [] (mk M [(10, y.2.1), (11, y.2.2.1), (12, y.2.2.2.1), (13, y.2.2.2.2.1), (14, y.2.2.2.2.2.1), (15, y.2.2.2.2.2.2.1), (16, y.2.2.2.2.2.2.2.1), (17, y.2.2.2.2.2.2.2.2.1)] M.2.1 [(48, y.2.2.2.2.2.2.2.2.2.1), (49, y.2.2.2.2.2.2.2.2.2.2.1), (50, y.2.2.2.2.2.2.2.2.2.2.2)])) s)) : Zj κ 11 148 [(0, .ref (ad 0)), (2, .int v2), (4, .int v4), (5, .int v5), (6, .int v6), (7, .int v7), (8, .int v8)] [.int k0] (mk M [(10, a_all), (11, a_parent), (12, a_left), (13, a_right), (14, a_leftSize), (15, a_above), (16, a_dist), (17, a_queue)] M.2.1 [(48, s_many), (49, s_tableOf), (50, s_read)]) := by
  unfold fX7_measure_J148 at h
  refine z_istore (lv' := [(9, .int k0), (0, .ref (ad 0)), (2, .int v2), (4, .int v4), (5, .int v5), (6, .int v6), (7, .int v7), (8, .int v8)]) X dX7_measure_148 (by decide) rfl ?_
  refine z_iload X dX7_measure_150 0 rfl ?_
  refine z_bipush (v := (-5 : Int32)) X dX7_measure_152 (by decide) ?_
  refine z_icmp_ne (tgt := 161) X dX7_measure_154 (by decide) (fun c154 => ?_) (fun c154 => ?_)
  · rw [if_neg c154] at h
    refine z_aload_n X dX7_measure_161 1 rfl rfl ?_
    refine z_iload X dX7_measure_162 0 rfl ?_
    refine z_aload_n X dX7_measure_164 1 rfl rfl ?_
    refine z_get (j := 0) (v := .int (M.2.2 40)) X inX7 rfl (by decide) w_502 (hw.1 _) rfl dX7_measure_165 ?_
    obtain ⟨r1, hr1, h⟩ := ob h
    refine z_cVI (As := [.int k0, .int (M.2.2 40)]) (st := []) X (tX7_numberOf hw (mk M [(10, a_all), (11, a_parent), (12, a_left), (13, a_right), (14, a_leftSize), (15, a_above), (16, a_dist), (17, a_queue)] M.2.1 [(48, s_many), (49, s_tableOf), (50, s_read)]) hr1) w_508 mvX7_numberOf (by rw [eR]; exact ⟨Nat.le_of_ble_eq_true rfl, Nat.le_of_ble_eq_true rfl⟩) ⟨rfl, rfl⟩ rfl (Nat.le_of_ble_eq_true rfl) (hw.1 _) rfl rfl dX7_measure_168 ?_
    refine z_mem (mk_mk (l' := [(10, r1.2.1), (11, a_parent), (12, a_left), (13, a_right), (14, a_leftSize), (15, a_above), (16, a_dist), (17, a_queue)]) (sl' := [(48, r1.2.2.1), (49, r1.2.2.2), (50, s_read)]) rfl rfl rfl rfl) ?_
    exact z_sub [1, 2, 3, 4, 5, 6, 7] rfl (jX7_measure_J171 X eR hw M r1.2.1 a_parent a_left a_right a_leftSize a_above a_dist a_queue r1.2.2.1 r1.2.2.2 s_read v2 v4 v5 v6 v7 v8 r1.1 _ h hs)
  · rw [if_pos c154] at h
    refine z_iconst (v := (-1 : Int32)) X dX7_measure_157 (by decide) ?_
    refine z_goto (tgt := 171) X dX7_measure_158 (by decide) ?_
    exact z_sub [1, 2, 3, 4, 5, 6, 7] rfl (jX7_measure_J171 X eR hw M a_all a_parent a_left a_right a_leftSize a_above a_dist a_queue s_many s_tableOf s_read v2 v4 v5 v6 v7 v8 (-1 : Int32) _ h hs)
set_option maxHeartbeats 4000000 in
theorem jX7_measure_J103 {κ : Rx} {ct : Nat → ClassId} {tF : Nat} {po ad : Nat → Nat} (X : CX κ ct tF cX7_measure 11 RX7) (eR : kR κ = { frames := 21, cells := 0, slots := 0, locals := 2165 }) (hw : KM (kw κ) po ad ct) (M : Mm) (a_all : Nat → Int32) (a_parent : Nat → Int32) (a_left : Nat → Int32) (a_right : Nat → Int32) (a_leftSize : Nat → Int32) (a_above : Nat → Int32) (a_dist : Nat → Int32) (a_queue : Nat → Int32) (s_many : Int32) (s_tableOf : Int32) (s_read : Int32)  (v2 : Int32) (v4 : Int32) (v5 : Int32) (v6 : Int32) (v7 : Int32) (v8 : Int32) (k0 : Int32) (k1 : Int32) (s : ((Int32 × Int32 × (Nat → Int32) × (Nat → Int32) × (Nat → Int32) × (Nat → Int32) × (Nat → Int32) × (Nat → Int32) × (Nat → Int32) × (Nat → Int32) × Int32 × Int32 × Int32) ⊕ (Int32 × (Nat → Int32) × (Nat → Int32) × (Nat → Int32) × (Nat → Int32) × (Nat → Int32) × (Nat → Int32) × (Nat → Int32) × (Nat → Int32) × Int32 × Int32 × Int32))) (h : fX7_measure_J103 a_all a_parent a_left a_right a_leftSize a_above a_dist a_queue (M.2.2 40) s_many s_tableOf s_read v2 v4 v5 v6 v7 v8 k0 k1 = some s) (hs : (Sum.elim (fun x => Zj κ 11 92 [(0, .ref (ad 0)), (2, .int v2), (4, .int x.1), (5, .int v5), (6, .int v6), (7, .int v7), (8, .int x.2.1)] [] (mk M [(10, x.2.2.1), (11, x.2.2.2.1), (12, x.2.2.2.2.1), (13, x.2.2.2.2.2.1), (14, x.2.2.2.2.2.2.1), (15, x.2.2.2.2.2.2.2.1), (16, x.2.2.2.2.2.2.2.2.1), (17, x.2.2.2.2.2.2.2.2.2.1)] M.2.1 [(48, x.2.2.2.2.2.2.2.2.2.2.1), (49, x.2.2.2.2.2.2.2.2.2.2.2.1), (50, x.2.2.2.2.2.2.2.2.2.2.2.2)])) (fun y => Zj κ 11 227 [(0, .ref (ad 0)), (2, .int v2), (4, .int y.1), (5, .int v5), (6, .int v6), (7, .int v7)] [] (mk M [(10, y.2.1), (11, y.2.2.1), (12, y.2.2.2.1), (13, y.2.2.2.2.1), (14, y.2.2.2.2.2.1), (15, y.2.2.2.2.2.2.1), (16, y.2.2.2.2.2.2.2.1), (17, y.2.2.2.2.2.2.2.2.1)] M.2.1 [(48, y.2.2.2.2.2.2.2.2.2.1), (49, y.2.2.2.2.2.2.2.2.2.2.1), (50, y.2.2.2.2.2.2.2.2.2.2.2)])) s)) : Zj κ 11 103 [(0, .ref (ad 0)), (2, .int v2), (4, .int v4), (5, .int v5), (6, .int v6), (7, .int v7), (8, .int v8)] [.int k0, .int k1] (mk M [(10, a_all), (11, a_parent), (12, a_left), (13, a_right), (14, a_leftSize), (15, a_above), (16, a_dist), (17, a_queue)] M.2.1 [(48, s_many), (49, s_tableOf), (50, s_read)]) := by
  unfold fX7_measure_J103 at h
  refine z_icmp_ge (tgt := 227) X dX7_measure_103 (by decide) (fun c103 => ?_) (fun c103 => ?_)
  · rw [if_pos c103] at h
    have hq := Option.some.inj h
    subst hq
    exact z_sub [0, 1, 2, 3, 4, 5] rfl hs
  · rw [if_neg c103] at h
    refine z_iload X dX7_measure_106 6 rfl ?_
    refine z_if_ne (tgt := 131) X dX7_measure_108 (by decide) (fun c108 => ?_) (fun c108 => ?_)
    · rw [if_neg c108] at h
      refine z_aload_n X dX7_measure_131 0 rfl rfl ?_
      refine z_aload_n X dX7_measure_132 0 rfl rfl ?_
      refine z_get (j := 17) (v := .ref (ad 10)) X inX7 rfl (by decide) w_480 (hw.1 _) rfl dX7_measure_133 ?_
      refine z_iload X dX7_measure_136 4 rfl ?_
      obtain ⟨t1, ht1, h⟩ := ob h
      refine z_iald X (hw.2.2.2.2.2.2.2.2.2.2.1 _).1 (rd_ok ht1) dX7_measure_138 ?_
      refine z_aload_n X dX7_measure_139 0 rfl rfl ?_
      refine z_get (j := 0) (v := .int (M.2.2 40)) X inX7 rfl (by decide) w_502 (hw.1 _) rfl dX7_measure_140 ?_
      refine z_iload X dX7_measure_143 5 rfl ?_
      obtain ⟨r2, hr2, h⟩ := ob h
      refine z_cVI (As := [.int t1, .int (M.2.2 40), .int v7]) (st := []) X (tX7_down hw (mk M [(10, a_all), (11, a_parent), (12, a_left), (13, a_right), (14, a_leftSize), (15, a_above), (16, a_dist), (17, a_queue)] M.2.1 [(48, s_many), (49, s_tableOf), (50, s_read)]) hr2) w_529 mvX7_down (by rw [eR]; exact ⟨Nat.le_of_ble_eq_true rfl, Nat.le_of_ble_eq_true rfl⟩) ⟨rfl, rfl⟩ rfl (Nat.le_of_ble_eq_true rfl) (hw.1 _) rfl rfl dX7_measure_145 ?_
      refine z_mem (mk_mk (l' := [(10, a_all), (11, r2.2.1), (12, r2.2.2.1), (13, r2.2.2.2.1), (14, r2.2.2.2.2.1), (15, r2.2.2.2.2.2.1), (16, a_dist), (17, a_queue)]) (sl' := [(48, s_many), (49, s_tableOf), (50, r2.2.2.2.2.2.2)]) rfl rfl rfl rfl) ?_
      exact (jX7_measure_J148 X eR hw M a_all r2.2.1 r2.2.2.1 r2.2.2.2.1 r2.2.2.2.2.1 r2.2.2.2.2.2.1 a_dist a_queue s_many s_tableOf r2.2.2.2.2.2.2 v2 v4 v5 v6 v7 v8 r2.1 _ h hs)
    · rw [if_pos c108] at h
      refine z_aload_n X dX7_measure_111 0 rfl rfl ?_
      refine z_aload_n X dX7_measure_112 0 rfl rfl ?_
      refine z_get (j := 17) (v := .ref (ad 10)) X inX7 rfl (by decide) w_480 (hw.1 _) rfl dX7_measure_113 ?_
      refine z_iload X dX7_measure_116 4 rfl ?_
      obtain ⟨t3, ht3, h⟩ := ob h
      refine z_iald X (hw.2.2.2.2.2.2.2.2.2.2.1 _).1 (rd_ok ht3) dX7_measure_118 ?_
      refine z_aload_n X dX7_measure_119 0 rfl rfl ?_
      refine z_get (j := 0) (v := .int (M.2.2 40)) X inX7 rfl (by decide) w_502 (hw.1 _) rfl dX7_measure_120 ?_
      refine z_iload X dX7_measure_123 5 rfl ?_
      obtain ⟨r4, hr4, h⟩ := ob h
      refine z_cVI (As := [.int t3, .int (M.2.2 40), .int v7]) (st := []) X (tX7_up hw (mk M [(10, a_all), (11, a_parent), (12, a_left), (13, a_right), (14, a_leftSize), (15, a_above), (16, a_dist), (17, a_queue)] M.2.1 [(48, s_many), (49, s_tableOf), (50, s_read)]) hr4) w_525 mvX7_up (by rw [eR]; exact ⟨Nat.le_of_ble_eq_true rfl, Nat.le_of_ble_eq_true rfl⟩) ⟨rfl, rfl⟩ rfl (Nat.le_of_ble_eq_true rfl) (hw.1 _) rfl rfl dX7_measure_125 ?_
      refine z_mem (mk_mk (l' := [(10, a_all), (11, r4.2.1), (12, r4.2.2.1), (13, r4.2.2.2.1), (14, r4.2.2.2.2.1), (15, r4.2.2.2.2.2.1), (16, a_dist), (17, a_queue)]) (sl' := [(48, s_many), (49, s_tableOf), (50, r4.2.2.2.2.2.2)]) rfl rfl rfl rfl) ?_
      refine z_goto (tgt := 148) X dX7_measure_128 (by decide) ?_
      exact (jX7_measure_J148 X eR hw M a_all r4.2.1 r4.2.2.1 r4.2.2.2.1 r4.2.2.2.2.1 r4.2.2.2.2.2.1 a_dist a_queue s_many s_tableOf r4.2.2.2.2.2.2 v2 v4 v5 v6 v7 v8 r4.1 _ h hs)
set_option maxHeartbeats 4000000 in
theorem bX7_measure_B92 {κ : Rx} {ct : Nat → ClassId} {tF : Nat} {po ad : Nat → Nat} (X : CX κ ct tF cX7_measure 11 RX7) (eR : kR κ = { frames := 21, cells := 0, slots := 0, locals := 2165 }) (hw : KM (kw κ) po ad ct) (M : Mm)  (v2 : Int32) (v5 : Int32) (v6 : Int32) (v7 : Int32) : ∀ (x : (Int32 × Int32 × (Nat → Int32) × (Nat → Int32) × (Nat → Int32) × (Nat → Int32) × (Nat → Int32) × (Nat → Int32) × (Nat → Int32) × (Nat → Int32) × Int32 × Int32 × Int32)) (s : (Int32 × Int32 × (Nat → Int32) × (Nat → Int32) × (Nat → Int32) × (Nat → Int32) × (Nat → Int32) × (Nat → Int32) × (Nat → Int32) × (Nat → Int32) × Int32 × Int32 × Int32) ⊕ (Int32 × (Nat → Int32) × (Nat → Int32) × (Nat → Int32) × (Nat → Int32) × (Nat → Int32) × (Nat → Int32) × (Nat → Int32) × (Nat → Int32) × Int32 × Int32 × Int32)), fX7_measure_B92 (M.2.2 40) v2 v5 v6 v7 x = some s → Sum.elim (fun x => Zj κ 11 92 [(0, .ref (ad 0)), (2, .int v2), (4, .int x.1), (5, .int v5), (6, .int v6), (7, .int v7), (8, .int x.2.1)] [] (mk M [(10, x.2.2.1), (11, x.2.2.2.1), (12, x.2.2.2.2.1), (13, x.2.2.2.2.2.1), (14, x.2.2.2.2.2.2.1), (15, x.2.2.2.2.2.2.2.1), (16, x.2.2.2.2.2.2.2.2.1), (17, x.2.2.2.2.2.2.2.2.2.1)] M.2.1 [(48, x.2.2.2.2.2.2.2.2.2.2.1), (49, x.2.2.2.2.2.2.2.2.2.2.2.1), (50, x.2.2.2.2.2.2.2.2.2.2.2.2)])) (fun y => Zj κ 11 227 [(0, .ref (ad 0)), (2, .int v2), (4, .int y.1), (5, .int v5), (6, .int v6), (7, .int v7)] [] (mk M [(10, y.2.1), (11, y.2.2.1), (12, y.2.2.2.1), (13, y.2.2.2.2.1), (14, y.2.2.2.2.2.1), (15, y.2.2.2.2.2.2.1), (16, y.2.2.2.2.2.2.2.1), (17, y.2.2.2.2.2.2.2.2.1)] M.2.1 [(48, y.2.2.2.2.2.2.2.2.2.1), (49, y.2.2.2.2.2.2.2.2.2.2.1), (50, y.2.2.2.2.2.2.2.2.2.2.2)])) s → Zj κ 11 92 [(0, .ref (ad 0)), (2, .int v2), (4, .int x.1), (5, .int v5), (6, .int v6), (7, .int v7), (8, .int x.2.1)] [] (mk M [(10, x.2.2.1), (11, x.2.2.2.1), (12, x.2.2.2.2.1), (13, x.2.2.2.2.2.1), (14, x.2.2.2.2.2.2.1), (15, x.2.2.2.2.2.2.2.1), (16, x.2.2.2.2.2.2.2.2.1), (17, x.2.2.2.2.2.2.2.2.2.1)] M.2.1 [(48, x.2.2.2.2.2.2.2.2.2.2.1), (49, x.2.2.2.2.2.2.2.2.2.2.2.1), (50, x.2.2.2.2.2.2.2.2.2.2.2.2)]) := by
  intro x s h hs
  unfold fX7_measure_B92 at h
  refine z_iload X dX7_measure_92 6 rfl ?_
  refine z_iload_n X dX7_measure_94 1 rfl rfl ?_
  refine z_if_eq (tgt := 102) X dX7_measure_95 (by decide) (fun c95 => ?_) (fun c95 => ?_)
  · rw [if_pos c95] at h
    refine z_iconst (v := (nI 2)) X dX7_measure_102 (by decide) ?_
    exact (jX7_measure_J103 X eR hw M x.2.2.1 x.2.2.2.1 x.2.2.2.2.1 x.2.2.2.2.2.1 x.2.2.2.2.2.2.1 x.2.2.2.2.2.2.2.1 x.2.2.2.2.2.2.2.2.1 x.2.2.2.2.2.2.2.2.2.1 x.2.2.2.2.2.2.2.2.2.2.1 x.2.2.2.2.2.2.2.2.2.2.2.1 x.2.2.2.2.2.2.2.2.2.2.2.2 v2 x.1 v5 v6 v7 x.2.1 (nI 2) x.2.1 _ h hs)
  · rw [if_neg c95] at h
    refine z_iconst (v := (nI 1)) X dX7_measure_98 (by decide) ?_
    refine z_goto (tgt := 103) X dX7_measure_99 (by decide) ?_
    exact (jX7_measure_J103 X eR hw M x.2.2.1 x.2.2.2.1 x.2.2.2.2.1 x.2.2.2.2.2.1 x.2.2.2.2.2.2.1 x.2.2.2.2.2.2.2.1 x.2.2.2.2.2.2.2.2.1 x.2.2.2.2.2.2.2.2.2.1 x.2.2.2.2.2.2.2.2.2.2.1 x.2.2.2.2.2.2.2.2.2.2.2.1 x.2.2.2.2.2.2.2.2.2.2.2.2 v2 x.1 v5 v6 v7 x.2.1 (nI 1) x.2.1 _ h hs)
set_option maxHeartbeats 4000000 in
theorem bX7_measure_B80 {κ : Rx} {ct : Nat → ClassId} {tF : Nat} {po ad : Nat → Nat} (X : CX κ ct tF cX7_measure 11 RX7) (eR : kR κ = { frames := 21, cells := 0, slots := 0, locals := 2165 }) (hw : KM (kw κ) po ad ct) (M : Mm)  (v2 : Int32) (v5 : Int32) (v6 : Int32) : ∀ (x : (Int32 × Int32 × (Nat → Int32) × (Nat → Int32) × (Nat → Int32) × (Nat → Int32) × (Nat → Int32) × (Nat → Int32) × (Nat → Int32) × (Nat → Int32) × Int32 × Int32 × Int32)) (s : (Int32 × Int32 × (Nat → Int32) × (Nat → Int32) × (Nat → Int32) × (Nat → Int32) × (Nat → Int32) × (Nat → Int32) × (Nat → Int32) × (Nat → Int32) × Int32 × Int32 × Int32) ⊕ (Int32 × (Nat → Int32) × (Nat → Int32) × (Nat → Int32) × (Nat → Int32) × (Nat → Int32) × (Nat → Int32) × (Nat → Int32) × (Nat → Int32) × Int32 × Int32 × Int32)), fX7_measure_B80 (M.2.2 40) v2 v5 v6 x = some s → Sum.elim (fun x => Zj κ 11 80 [(0, .ref (ad 0)), (2, .int v2), (4, .int x.1), (5, .int v5), (6, .int v6), (7, .int x.2.1)] [] (mk M [(10, x.2.2.1), (11, x.2.2.2.1), (12, x.2.2.2.2.1), (13, x.2.2.2.2.2.1), (14, x.2.2.2.2.2.2.1), (15, x.2.2.2.2.2.2.2.1), (16, x.2.2.2.2.2.2.2.2.1), (17, x.2.2.2.2.2.2.2.2.2.1)] M.2.1 [(48, x.2.2.2.2.2.2.2.2.2.2.1), (49, x.2.2.2.2.2.2.2.2.2.2.2.1), (50, x.2.2.2.2.2.2.2.2.2.2.2.2)])) (fun y => Zj κ 11 233 [(0, .ref (ad 0)), (2, .int v2), (4, .int y.1), (5, .int v5)] [] (mk M [(10, y.2.1), (11, y.2.2.1), (12, y.2.2.2.1), (13, y.2.2.2.2.1), (14, y.2.2.2.2.2.1), (15, y.2.2.2.2.2.2.1), (16, y.2.2.2.2.2.2.2.1), (17, y.2.2.2.2.2.2.2.2.1)] M.2.1 [(48, y.2.2.2.2.2.2.2.2.2.1), (49, y.2.2.2.2.2.2.2.2.2.2.1), (50, y.2.2.2.2.2.2.2.2.2.2.2)])) s → Zj κ 11 80 [(0, .ref (ad 0)), (2, .int v2), (4, .int x.1), (5, .int v5), (6, .int v6), (7, .int x.2.1)] [] (mk M [(10, x.2.2.1), (11, x.2.2.2.1), (12, x.2.2.2.2.1), (13, x.2.2.2.2.2.1), (14, x.2.2.2.2.2.2.1), (15, x.2.2.2.2.2.2.2.1), (16, x.2.2.2.2.2.2.2.2.1), (17, x.2.2.2.2.2.2.2.2.2.1)] M.2.1 [(48, x.2.2.2.2.2.2.2.2.2.2.1), (49, x.2.2.2.2.2.2.2.2.2.2.2.1), (50, x.2.2.2.2.2.2.2.2.2.2.2.2)]) := by
  intro x s h hs
  unfold fX7_measure_B80 at h
  refine z_iload X dX7_measure_80 5 rfl ?_
  refine z_aload_n X dX7_measure_82 0 rfl rfl ?_
  refine z_get (j := 0) (v := .int (M.2.2 40)) X inX7 rfl (by decide) w_502 (hw.1 _) rfl dX7_measure_83 ?_
  refine z_icmp_ge (tgt := 233) X dX7_measure_86 (by decide) (fun c86 => ?_) (fun c86 => ?_)
  · rw [if_pos c86] at h
    have hq := Option.some.inj h
    subst hq
    exact z_sub [0, 1, 2, 3] rfl hs
  · rw [if_neg c86] at h
    refine z_iconst (v := (nI 0)) X dX7_measure_89 (by decide) ?_
    refine z_istore (lv' := [(8, .int (nI 0)), (0, .ref (ad 0)), (2, .int v2), (4, .int x.1), (5, .int v5), (6, .int v6), (7, .int x.2.1)]) X dX7_measure_90 (by decide) rfl ?_
    refine z_sub [1, 2, 3, 4, 5, 6, 0] rfl ?_
    obtain ⟨y1, hy1, h⟩ := ob h
    refine (it_Z (bX7_measure_B92 X eR hw M v2 v5 v6 x.2.1) FU _ y1 hy1) ?_
    refine z_iinc (v := (x.2.1 + nI 1)) (lv' := [(7, .int (x.2.1 + nI 1)), (0, .ref (ad 0)), (2, .int v2), (4, .int y1.1), (5, .int v5), (6, .int v6)]) X dX7_measure_227 5 rfl rfl (by decide) rfl ?_
    refine z_goto (tgt := 80) X dX7_measure_230 (by decide) ?_
    have hq := Option.some.inj h
    subst hq
    exact z_sub [1, 2, 3, 4, 5, 0] rfl hs
set_option maxHeartbeats 4000000 in
theorem bX7_measure_B61 {κ : Rx} {ct : Nat → ClassId} {tF : Nat} {po ad : Nat → Nat} (X : CX κ ct tF cX7_measure 11 RX7) (eR : kR κ = { frames := 21, cells := 0, slots := 0, locals := 2165 }) (hw : KM (kw κ) po ad ct) (M : Mm)  (v2 : Int32) : ∀ (x : (Int32 × Int32 × (Nat → Int32) × (Nat → Int32) × (Nat → Int32) × (Nat → Int32) × (Nat → Int32) × (Nat → Int32) × (Nat → Int32) × (Nat → Int32) × Int32 × Int32 × Int32)) (s : (Int32 × Int32 × (Nat → Int32) × (Nat → Int32) × (Nat → Int32) × (Nat → Int32) × (Nat → Int32) × (Nat → Int32) × (Nat → Int32) × (Nat → Int32) × Int32 × Int32 × Int32) ⊕ ((Nat → Int32) × (Nat → Int32) × (Nat → Int32) × (Nat → Int32) × (Nat → Int32) × (Nat → Int32) × (Nat → Int32) × (Nat → Int32) × Int32 × Int32 × Int32)), fX7_measure_B61 (M.2.2 40) v2 x = some s → Sum.elim (fun x => Zj κ 11 61 [(0, .ref (ad 0)), (2, .int v2), (4, .int x.1), (5, .int x.2.1)] [] (mk M [(10, x.2.2.1), (11, x.2.2.2.1), (12, x.2.2.2.2.1), (13, x.2.2.2.2.2.1), (14, x.2.2.2.2.2.2.1), (15, x.2.2.2.2.2.2.2.1), (16, x.2.2.2.2.2.2.2.2.1), (17, x.2.2.2.2.2.2.2.2.2.1)] M.2.1 [(48, x.2.2.2.2.2.2.2.2.2.2.1), (49, x.2.2.2.2.2.2.2.2.2.2.2.1), (50, x.2.2.2.2.2.2.2.2.2.2.2.2)])) (fun y => Zj κ 11 239 [] [] (mk M [(10, y.1), (11, y.2.1), (12, y.2.2.1), (13, y.2.2.2.1), (14, y.2.2.2.2.1), (15, y.2.2.2.2.2.1), (16, y.2.2.2.2.2.2.1), (17, y.2.2.2.2.2.2.2.1)] M.2.1 [(48, y.2.2.2.2.2.2.2.2.1), (49, y.2.2.2.2.2.2.2.2.2.1), (50, y.2.2.2.2.2.2.2.2.2.2)])) s → Zj κ 11 61 [(0, .ref (ad 0)), (2, .int v2), (4, .int x.1), (5, .int x.2.1)] [] (mk M [(10, x.2.2.1), (11, x.2.2.2.1), (12, x.2.2.2.2.1), (13, x.2.2.2.2.2.1), (14, x.2.2.2.2.2.2.1), (15, x.2.2.2.2.2.2.2.1), (16, x.2.2.2.2.2.2.2.2.1), (17, x.2.2.2.2.2.2.2.2.2.1)] M.2.1 [(48, x.2.2.2.2.2.2.2.2.2.2.1), (49, x.2.2.2.2.2.2.2.2.2.2.2.1), (50, x.2.2.2.2.2.2.2.2.2.2.2.2)]) := by
  intro x s h hs
  unfold fX7_measure_B61 at h
  refine z_iload X dX7_measure_61 3 rfl ?_
  refine z_iload X dX7_measure_63 2 rfl ?_
  refine z_icmp_ge (tgt := 239) X dX7_measure_65 (by decide) (fun c65 => ?_) (fun c65 => ?_)
  · rw [if_pos c65] at h
    have hq := Option.some.inj h
    subst hq
    exact z_sub [] rfl hs
  · rw [if_neg c65] at h
    refine z_aload_n X dX7_measure_68 0 rfl rfl ?_
    refine z_get (j := 27) (v := .ref (ad 17)) X inX7 rfl (by decide) w_560 (hw.1 _) rfl dX7_measure_69 ?_
    refine z_iload X dX7_measure_72 3 rfl ?_
    obtain ⟨t1, ht1, h⟩ := ob h
    refine z_iald X (hw.2.2.2.2.2.2.2.2.2.2.2.2.2.2.2.2.2.1 _).1 (rd_ok ht1) dX7_measure_74 ?_
    refine z_istore (lv' := [(6, .int t1), (0, .ref (ad 0)), (2, .int v2), (4, .int x.1), (5, .int x.2.1)]) X dX7_measure_75 (by decide) rfl ?_
    refine z_iconst (v := (nI 0)) X dX7_measure_77 (by decide) ?_
    refine z_istore (lv' := [(7, .int (nI 0)), (6, .int t1), (0, .ref (ad 0)), (2, .int v2), (4, .int x.1), (5, .int x.2.1)]) X dX7_measure_78 (by decide) rfl ?_
    refine z_sub [2, 3, 4, 5, 1, 0] rfl ?_
    obtain ⟨y2, hy2, h⟩ := ob h
    refine (it_Z (bX7_measure_B80 X eR hw M v2 x.2.1 t1) FU _ y2 hy2) ?_
    refine z_iinc (v := (x.2.1 + nI 1)) (lv' := [(5, .int (x.2.1 + nI 1)), (0, .ref (ad 0)), (2, .int v2), (4, .int y2.1)]) X dX7_measure_233 3 rfl rfl (by decide) rfl ?_
    refine z_goto (tgt := 61) X dX7_measure_236 (by decide) ?_
    have hq := Option.some.inj h
    subst hq
    exact z_sub [1, 2, 3, 0] rfl hs
set_option maxHeartbeats 4000000 in
theorem tX7_measure {l : Launch} {D : va_G} {ct : Nat → ClassId} {tF : Nat} {wOf : Mm → va_W} {po ad : Nat → Nat} (hw : KM wOf po ad ct) (M : Mm) {v1 : Int32} {v2 : Int32} {r : ((Nat → Int32) × (Nat → Int32) × (Nat → Int32) × (Nat → Int32) × (Nat → Int32) × (Nat → Int32) × (Nat → Int32) × (Nat → Int32) × Int32 × Int32 × Int32)} (h : fX7_measure (M.1 10) (M.1 11) (M.1 12) (M.1 13) (M.1 14) (M.1 15) (M.1 16) (M.1 17) (M.2.2 40) (M.2.2 48) (M.2.2 49) (M.2.2 50) v1 v2 = some r) : CtV l yX7_measure cX7_measure 11 { frames := 21, cells := 0, slots := 0, locals := 2165 } D ct tF wOf [.ref (ad 0), .int v1, .int v2] M (mk M [(10, r.1), (11, r.2.1), (12, r.2.2.1), (13, r.2.2.2.1), (14, r.2.2.2.2.1), (15, r.2.2.2.2.2.1), (16, r.2.2.2.2.2.2.1), (17, r.2.2.2.2.2.2.2.1)] M.2.1 [(48, r.2.2.2.2.2.2.2.2.1), (49, r.2.2.2.2.2.2.2.2.2.1), (50, r.2.2.2.2.2.2.2.2.2.2)]) := by
  refine metV (by decide) (Nat.le_of_ble_eq_true rfl) fun κ X e1 eR e3 e4 hs => ?_
  subst e1; subst e3; subst e4
  unfold fX7_measure at h
  refine z_mem (mk_self M [10, 11, 12, 13, 14, 15, 16, 17] [48, 49, 50]) ?_
  refine z_sub (lv' := [(0, .ref (ad 0)), (1, .int v1), (2, .int v2)]) [0, 1, 2] rfl ?_
  show Zj κ 11 0 _ _ (mk M [(10, (M.1 10)), (11, (M.1 11)), (12, (M.1 12)), (13, (M.1 13)), (14, (M.1 14)), (15, (M.1 15)), (16, (M.1 16)), (17, (M.1 17))] M.2.1 [(48, (M.2.2 48)), (49, (M.2.2 49)), (50, (M.2.2 50))])
  refine z_aload_n X dX7_measure_0 0 rfl rfl ?_
  refine z_aload_n X dX7_measure_1 0 rfl rfl ?_
  refine z_get (j := 0) (v := .int (M.2.2 40)) X inX7 rfl (by decide) w_502 (hw.1 _) rfl dX7_measure_2 ?_
  obtain ⟨r1, hr1, h⟩ := ob h
  refine z_cVV (As := [.int (M.2.2 40)]) (st := []) X (tX7_table hw (mk M [(10, (M.1 10)), (11, (M.1 11)), (12, (M.1 12)), (13, (M.1 13)), (14, (M.1 14)), (15, (M.1 15)), (16, (M.1 16)), (17, (M.1 17))] M.2.1 [(48, (M.2.2 48)), (49, (M.2.2 49)), (50, (M.2.2 50))]) hr1) w_481 mvX7_table (by rw [eR]; exact ⟨Nat.le_of_ble_eq_true rfl, Nat.le_of_ble_eq_true rfl⟩) ⟨rfl, rfl⟩ rfl (Nat.le_of_ble_eq_true rfl) (hw.1 _) rfl rfl dX7_measure_5 ?_
  refine z_mem (mk_mk (l' := [(10, r1.1), (11, (M.1 11)), (12, (M.1 12)), (13, (M.1 13)), (14, (M.1 14)), (15, (M.1 15)), (16, (M.1 16)), (17, (M.1 17))]) (sl' := [(48, r1.2.1), (49, r1.2.2), (50, (M.2.2 50))]) rfl rfl rfl rfl) ?_
  refine z_iconst (v := (nI 0)) X dX7_measure_8 (by decide) ?_
  refine z_istore_n (lv' := [(3, .int (nI 0)), (0, .ref (ad 0)), (1, .int v1), (2, .int v2)]) X dX7_measure_9 rfl (by decide) rfl ?_
  refine z_sub [1, 2, 3, 0] rfl ?_
  obtain ⟨y2, hy2, h⟩ := ob h
  refine (it_Z (bX7_measure_B10 X eR hw M r1.1 (M.1 11) (M.1 12) (M.1 13) (M.1 14) (M.1 15) (M.1 17) r1.2.1 r1.2.2 (M.2.2 50) v1 v2) FU _ y2 hy2) ?_
  refine z_aload_n X dX7_measure_31 0 rfl rfl ?_
  refine z_iload_n X dX7_measure_32 1 rfl rfl ?_
  refine z_aload_n X dX7_measure_33 0 rfl rfl ?_
  refine z_get (j := 0) (v := .int (M.2.2 40)) X inX7 rfl (by decide) w_502 (hw.1 _) rfl dX7_measure_34 ?_
  obtain ⟨r3, hr3, h⟩ := ob h
  refine z_cVI (As := [.int v1, .int (M.2.2 40)]) (st := []) X (tX7_numberOf hw (mk M [(10, r1.1), (11, (M.1 11)), (12, (M.1 12)), (13, (M.1 13)), (14, (M.1 14)), (15, (M.1 15)), (16, y2), (17, (M.1 17))] M.2.1 [(48, r1.2.1), (49, r1.2.2), (50, (M.2.2 50))]) hr3) w_508 mvX7_numberOf (by rw [eR]; exact ⟨Nat.le_of_ble_eq_true rfl, Nat.le_of_ble_eq_true rfl⟩) ⟨rfl, rfl⟩ rfl (Nat.le_of_ble_eq_true rfl) (hw.1 _) rfl rfl dX7_measure_37 ?_
  refine z_mem (mk_mk (l' := [(10, r3.2.1), (11, (M.1 11)), (12, (M.1 12)), (13, (M.1 13)), (14, (M.1 14)), (15, (M.1 15)), (16, y2), (17, (M.1 17))]) (sl' := [(48, r3.2.2.1), (49, r3.2.2.2), (50, (M.2.2 50))]) rfl rfl rfl rfl) ?_
  refine z_istore_n (lv' := [(3, .int r3.1), (0, .ref (ad 0)), (1, .int v1), (2, .int v2)]) X dX7_measure_40 rfl (by decide) rfl ?_
  refine z_aload_n X dX7_measure_41 1 rfl rfl ?_
  refine z_get (j := 26) (v := .ref (ad 16)) X inX7 rfl (by decide) w_559 (hw.1 _) rfl dX7_measure_42 ?_
  refine z_iload_n X dX7_measure_45 0 rfl rfl ?_
  refine z_iconst (v := (nI 0)) X dX7_measure_46 (by decide) ?_
  obtain ⟨u4, hu4, h⟩ := ob h
  refine z_iast (M' := (mk M [(10, r3.2.1), (11, (M.1 11)), (12, (M.1 12)), (13, (M.1 13)), (14, (M.1 14)), (15, (M.1 15)), (16, u4), (17, (M.1 17))] M.2.1 [(48, r3.2.2.1), (49, r3.2.2.2), (50, (M.2.2 50))])) X (hw.2.2.2.2.2.2.2.2.2.2.2.2.2.2.2.2.1 _).1 (wr_ok hu4) (mk_set1 (l' := [(10, r3.2.1), (11, (M.1 11)), (12, (M.1 12)), (13, (M.1 13)), (14, (M.1 14)), (15, (M.1 15)), (16, u4), (17, (M.1 17))]) (hw.2.2.2.2.2.2.2.2.2.2.2.2.2.2.2.2.1) rfl rfl) dX7_measure_47 ?_
  refine z_aload_n X dX7_measure_48 1 rfl rfl ?_
  refine z_get (j := 27) (v := .ref (ad 17)) X inX7 rfl (by decide) w_560 (hw.1 _) rfl dX7_measure_49 ?_
  refine z_iconst (v := (nI 0)) X dX7_measure_52 (by decide) ?_
  refine z_iload_n X dX7_measure_53 0 rfl rfl ?_
  obtain ⟨u5, hu5, h⟩ := ob h
  refine z_iast (M' := (mk M [(10, r3.2.1), (11, (M.1 11)), (12, (M.1 12)), (13, (M.1 13)), (14, (M.1 14)), (15, (M.1 15)), (16, u4), (17, u5)] M.2.1 [(48, r3.2.2.1), (49, r3.2.2.2), (50, (M.2.2 50))])) X (hw.2.2.2.2.2.2.2.2.2.2.2.2.2.2.2.2.2.1 _).1 (wr_ok hu5) (mk_set1 (l' := [(10, r3.2.1), (11, (M.1 11)), (12, (M.1 12)), (13, (M.1 13)), (14, (M.1 14)), (15, (M.1 15)), (16, u4), (17, u5)]) (hw.2.2.2.2.2.2.2.2.2.2.2.2.2.2.2.2.2.1) rfl rfl) dX7_measure_54 ?_
  refine z_iconst (v := (nI 1)) X dX7_measure_55 (by decide) ?_
  refine z_istore (lv' := [(4, .int (nI 1)), (3, .int r3.1), (0, .ref (ad 0)), (1, .int v1), (2, .int v2)]) X dX7_measure_56 (by decide) rfl ?_
  refine z_iconst (v := (nI 0)) X dX7_measure_58 (by decide) ?_
  refine z_istore (lv' := [(5, .int (nI 0)), (4, .int (nI 1)), (3, .int r3.1), (0, .ref (ad 0)), (1, .int v1), (2, .int v2)]) X dX7_measure_59 (by decide) rfl ?_
  refine z_sub [3, 5, 1, 0] rfl ?_
  obtain ⟨y6, hy6, h⟩ := ob h
  refine (it_Z (bX7_measure_B61 X eR hw M v2) FU _ y6 hy6) ?_
  have hq := Option.some.inj h
  subst hq
  exact z_vret hs dX7_measure_239
set_option maxHeartbeats 4000000 in
theorem jX7_firstTurn_J108 {κ : Rx} {ct : Nat → ClassId} {tF : Nat} {po ad : Nat → Nat} (X : CX κ ct tF cX7_firstTurn 6 RX7) (eR : kR κ = { frames := 21, cells := 0, slots := 0, locals := 2165 }) (hw : KM (kw κ) po ad ct) (M : Mm) (a_all : Nat → Int32) (a_parent : Nat → Int32) (a_left : Nat → Int32) (a_right : Nat → Int32) (a_leftSize : Nat → Int32) (a_above : Nat → Int32) (s_many : Int32) (s_tableOf : Int32) (s_read : Int32)  (v1 : Int32) (v2 : Int32) (v3 : Int32) (v4 : Int32)  (s : ((Int32 × (Nat → Int32) × (Nat → Int32) × (Nat → Int32) × (Nat → Int32) × (Nat → Int32) × (Nat → Int32) × Int32 × Int32 × Int32) ⊕ (((Nat → Int32) × (Nat → Int32) × (Nat → Int32) × (Nat → Int32) × (Nat → Int32) × (Nat → Int32) × Int32 × Int32 × Int32) ⊕ (Int32 × (Nat → Int32) × (Nat → Int32) × (Nat → Int32) × (Nat → Int32) × (Nat → Int32) × (Nat → Int32) × Int32 × Int32 × Int32)))) (h : fX7_firstTurn_J108 a_all a_parent a_left a_right a_leftSize a_above (M.1 16) (M.2.2 40) s_many s_tableOf s_read v1 v2 v3 v4 = some s) (hs : (Sum.elim (fun x => Zj κ 6 32 [(0, .ref (ad 0)), (1, .int v1), (2, .int v2), (3, .int v3), (4, .int x.1)] [] (mk M [(10, x.2.1), (11, x.2.2.1), (12, x.2.2.2.1), (13, x.2.2.2.2.1), (14, x.2.2.2.2.2.1), (15, x.2.2.2.2.2.2.1)] M.2.1 [(48, x.2.2.2.2.2.2.2.1), (49, x.2.2.2.2.2.2.2.2.1), (50, x.2.2.2.2.2.2.2.2.2)])) (Sum.elim (fun y => Zj κ 6 114 [(0, .ref (ad 0)), (1, .int v1), (2, .int v2), (3, .int v3)] [] (mk M [(10, y.1), (11, y.2.1), (12, y.2.2.1), (13, y.2.2.2.1), (14, y.2.2.2.2.1), (15, y.2.2.2.2.2.1)] M.2.1 [(48, y.2.2.2.2.2.2.1), (49, y.2.2.2.2.2.2.2.1), (50, y.2.2.2.2.2.2.2.2)])) (fun r => ZI κ cX7_firstTurn .int r.1 (mk M [(10, r.2.1), (11, r.2.2.1), (12, r.2.2.2.1), (13, r.2.2.2.2.1), (14, r.2.2.2.2.2.1), (15, r.2.2.2.2.2.2.1)] M.2.1 [(48, r.2.2.2.2.2.2.2.1), (49, r.2.2.2.2.2.2.2.2.1), (50, r.2.2.2.2.2.2.2.2.2)]))) s)) : Zj κ 6 108 [(0, .ref (ad 0)), (1, .int v1), (2, .int v2), (3, .int v3), (4, .int v4)] [] (mk M [(10, a_all), (11, a_parent), (12, a_left), (13, a_right), (14, a_leftSize), (15, a_above)] M.2.1 [(48, s_many), (49, s_tableOf), (50, s_read)]) := by
  unfold fX7_firstTurn_J108 at h
  refine z_iinc (v := (v4 + nI 1)) (lv' := [(4, .int (v4 + nI 1)), (0, .ref (ad 0)), (1, .int v1), (2, .int v2), (3, .int v3)]) X dX7_firstTurn_108 4 rfl rfl (by decide) rfl ?_
  refine z_goto (tgt := 32) X dX7_firstTurn_111 (by decide) ?_
  have hq := Option.some.inj h
  subst hq
  exact z_sub [1, 2, 3, 4, 0] rfl hs
set_option maxHeartbeats 4000000 in
theorem jX7_firstTurn_J70 {κ : Rx} {ct : Nat → ClassId} {tF : Nat} {po ad : Nat → Nat} (X : CX κ ct tF cX7_firstTurn 6 RX7) (eR : kR κ = { frames := 21, cells := 0, slots := 0, locals := 2165 }) (hw : KM (kw κ) po ad ct) (M : Mm) (a_all : Nat → Int32) (a_parent : Nat → Int32) (a_left : Nat → Int32) (a_right : Nat → Int32) (a_leftSize : Nat → Int32) (a_above : Nat → Int32) (s_many : Int32) (s_tableOf : Int32) (s_read : Int32)  (v1 : Int32) (v2 : Int32) (v3 : Int32) (v4 : Int32) (k0 : Int32) (s : ((Int32 × (Nat → Int32) × (Nat → Int32) × (Nat → Int32) × (Nat → Int32) × (Nat → Int32) × (Nat → Int32) × Int32 × Int32 × Int32) ⊕ (((Nat → Int32) × (Nat → Int32) × (Nat → Int32) × (Nat → Int32) × (Nat → Int32) × (Nat → Int32) × Int32 × Int32 × Int32) ⊕ (Int32 × (Nat → Int32) × (Nat → Int32) × (Nat → Int32) × (Nat → Int32) × (Nat → Int32) × (Nat → Int32) × Int32 × Int32 × Int32)))) (h : fX7_firstTurn_J70 a_all a_parent a_left a_right a_leftSize a_above (M.1 16) (M.2.2 40) s_many s_tableOf s_read v1 v2 v3 v4 k0 = some s) (hs : (Sum.elim (fun x => Zj κ 6 32 [(0, .ref (ad 0)), (1, .int v1), (2, .int v2), (3, .int v3), (4, .int x.1)] [] (mk M [(10, x.2.1), (11, x.2.2.1), (12, x.2.2.2.1), (13, x.2.2.2.2.1), (14, x.2.2.2.2.2.1), (15, x.2.2.2.2.2.2.1)] M.2.1 [(48, x.2.2.2.2.2.2.2.1), (49, x.2.2.2.2.2.2.2.2.1), (50, x.2.2.2.2.2.2.2.2.2)])) (Sum.elim (fun y => Zj κ 6 114 [(0, .ref (ad 0)), (1, .int v1), (2, .int v2), (3, .int v3)] [] (mk M [(10, y.1), (11, y.2.1), (12, y.2.2.1), (13, y.2.2.2.1), (14, y.2.2.2.2.1), (15, y.2.2.2.2.2.1)] M.2.1 [(48, y.2.2.2.2.2.2.1), (49, y.2.2.2.2.2.2.2.1), (50, y.2.2.2.2.2.2.2.2)])) (fun r => ZI κ cX7_firstTurn .int r.1 (mk M [(10, r.2.1), (11, r.2.2.1), (12, r.2.2.2.1), (13, r.2.2.2.2.1), (14, r.2.2.2.2.2.1), (15, r.2.2.2.2.2.2.1)] M.2.1 [(48, r.2.2.2.2.2.2.2.1), (49, r.2.2.2.2.2.2.2.2.1), (50, r.2.2.2.2.2.2.2.2.2)]))) s)) : Zj κ 6 70 [(0, .ref (ad 0)), (1, .int v1), (2, .int v2), (3, .int v3), (4, .int v4)] [.int k0] (mk M [(10, a_all), (11, a_parent), (12, a_left), (13, a_right), (14, a_leftSize), (15, a_above)] M.2.1 [(48, s_many), (49, s_tableOf), (50, s_read)]) := by
  unfold fX7_firstTurn_J70 at h
  refine z_istore (lv' := [(5, .int k0), (0, .ref (ad 0)), (1, .int v1), (2, .int v2), (3, .int v3), (4, .int v4)]) X dX7_firstTurn_70 (by decide) rfl ?_
  refine z_iload X dX7_firstTurn_72 0 rfl ?_
  refine z_bipush (v := (-5 : Int32)) X dX7_firstTurn_74 (by decide) ?_
  refine z_icmp_eq (tgt := 108) X dX7_firstTurn_76 (by decide) (fun c76 => ?_) (fun c76 => ?_)
  · rw [if_pos c76] at h
    exact z_sub [1, 2, 3, 4, 5] rfl (jX7_firstTurn_J108 X eR hw M a_all a_parent a_left a_right a_leftSize a_above s_many s_tableOf s_read v1 v2 v3 v4 _ h hs)
  · rw [if_neg c76] at h
    refine z_aload_n X dX7_firstTurn_79 1 rfl rfl ?_
    refine z_get (j := 26) (v := .ref (ad 16)) X inX7 rfl (by decide) w_559 (hw.1 _) rfl dX7_firstTurn_80 ?_
    refine z_aload_n X dX7_firstTurn_83 1 rfl rfl ?_
    refine z_iload X dX7_firstTurn_84 0 rfl ?_
    refine z_aload_n X dX7_firstTurn_86 1 rfl rfl ?_
    refine z_get (j := 0) (v := .int (M.2.2 40)) X inX7 rfl (by decide) w_502 (hw.1 _) rfl dX7_firstTurn_87 ?_
    obtain ⟨r1, hr1, h⟩ := ob h
    refine z_cVI (As := [.int k0, .int (M.2.2 40)]) (st := [.ref (ad 16)]) X (tX7_numberOf hw (mk M [(10, a_all), (11, a_parent), (12, a_left), (13, a_right), (14, a_leftSize), (15, a_above)] M.2.1 [(48, s_many), (49, s_tableOf), (50, s_read)]) hr1) w_508 mvX7_numberOf (by rw [eR]; exact ⟨Nat.le_of_ble_eq_true rfl, Nat.le_of_ble_eq_true rfl⟩) ⟨rfl, rfl⟩ rfl (Nat.le_of_ble_eq_true rfl) (hw.1 _) rfl rfl dX7_firstTurn_90 ?_
    refine z_mem (mk_mk (l' := [(10, r1.2.1), (11, a_parent), (12, a_left), (13, a_right), (14, a_leftSize), (15, a_above)]) (sl' := [(48, r1.2.2.1), (49, r1.2.2.2), (50, s_read)]) rfl rfl rfl rfl) ?_
    obtain ⟨t2, ht2, h⟩ := ob h
    refine z_iald X (hw.2.2.2.2.2.2.2.2.2.2.2.2.2.2.2.2.1 _).1 (rd_ok ht2) dX7_firstTurn_93 ?_
    refine z_iload_n X dX7_firstTurn_94 3 rfl rfl ?_
    refine z_iconst (v := (nI 1)) X dX7_firstTurn_95 (by decide) ?_
    refine z_isub X dX7_firstTurn_96 ?_
    refine z_icmp_ne (tgt := 108) X dX7_firstTurn_97 (by decide) (fun c97 => ?_) (fun c97 => ?_)
    · rw [if_neg c97] at h
      exact z_sub [1, 2, 3, 4, 5] rfl (jX7_firstTurn_J108 X eR hw M r1.2.1 a_parent a_left a_right a_leftSize a_above r1.2.2.1 r1.2.2.2 s_read v1 v2 v3 v4 _ h hs)
    · rw [if_pos c97] at h
      refine z_bipush (v := (nI 100)) X dX7_firstTurn_100 (by decide) ?_
      refine z_iload_n X dX7_firstTurn_102 4 rfl rfl ?_
      refine z_imul X dX7_firstTurn_103 ?_
      refine z_iload X dX7_firstTurn_104 5 rfl ?_
      refine z_iadd X dX7_firstTurn_106 ?_
      have hq := Option.some.inj h
      subst hq
      exact z_iret hs dX7_firstTurn_107 rfl
set_option maxHeartbeats 4000000 in
theorem bX7_firstTurn_B32 {κ : Rx} {ct : Nat → ClassId} {tF : Nat} {po ad : Nat → Nat} (X : CX κ ct tF cX7_firstTurn 6 RX7) (eR : kR κ = { frames := 21, cells := 0, slots := 0, locals := 2165 }) (hw : KM (kw κ) po ad ct) (M : Mm)  (v1 : Int32) (v2 : Int32) (v3 : Int32) : ∀ (x : (Int32 × (Nat → Int32) × (Nat → Int32) × (Nat → Int32) × (Nat → Int32) × (Nat → Int32) × (Nat → Int32) × Int32 × Int32 × Int32)) (s : (Int32 × (Nat → Int32) × (Nat → Int32) × (Nat → Int32) × (Nat → Int32) × (Nat → Int32) × (Nat → Int32) × Int32 × Int32 × Int32) ⊕ (((Nat → Int32) × (Nat → Int32) × (Nat → Int32) × (Nat → Int32) × (Nat → Int32) × (Nat → Int32) × Int32 × Int32 × Int32) ⊕ (Int32 × (Nat → Int32) × (Nat → Int32) × (Nat → Int32) × (Nat → Int32) × (Nat → Int32) × (Nat → Int32) × Int32 × Int32 × Int32))), fX7_firstTurn_B32 (M.1 16) (M.2.2 40) v1 v2 v3 x = some s → Sum.elim (fun x => Zj κ 6 32 [(0, .ref (ad 0)), (1, .int v1), (2, .int v2), (3, .int v3), (4, .int x.1)] [] (mk M [(10, x.2.1), (11, x.2.2.1), (12, x.2.2.2.1), (13, x.2.2.2.2.1), (14, x.2.2.2.2.2.1), (15, x.2.2.2.2.2.2.1)] M.2.1 [(48, x.2.2.2.2.2.2.2.1), (49, x.2.2.2.2.2.2.2.2.1), (50, x.2.2.2.2.2.2.2.2.2)])) (Sum.elim (fun y => Zj κ 6 114 [(0, .ref (ad 0)), (1, .int v1), (2, .int v2), (3, .int v3)] [] (mk M [(10, y.1), (11, y.2.1), (12, y.2.2.1), (13, y.2.2.2.1), (14, y.2.2.2.2.1), (15, y.2.2.2.2.2.1)] M.2.1 [(48, y.2.2.2.2.2.2.1), (49, y.2.2.2.2.2.2.2.1), (50, y.2.2.2.2.2.2.2.2)])) (fun r => ZI κ cX7_firstTurn .int r.1 (mk M [(10, r.2.1), (11, r.2.2.1), (12, r.2.2.2.1), (13, r.2.2.2.2.1), (14, r.2.2.2.2.2.1), (15, r.2.2.2.2.2.2.1)] M.2.1 [(48, r.2.2.2.2.2.2.2.1), (49, r.2.2.2.2.2.2.2.2.1), (50, r.2.2.2.2.2.2.2.2.2)]))) s → Zj κ 6 32 [(0, .ref (ad 0)), (1, .int v1), (2, .int v2), (3, .int v3), (4, .int x.1)] [] (mk M [(10, x.2.1), (11, x.2.2.1), (12, x.2.2.2.1), (13, x.2.2.2.2.1), (14, x.2.2.2.2.2.1), (15, x.2.2.2.2.2.2.1)] M.2.1 [(48, x.2.2.2.2.2.2.2.1), (49, x.2.2.2.2.2.2.2.2.1), (50, x.2.2.2.2.2.2.2.2.2)]) := by
  intro x s h hs
  unfold fX7_firstTurn_B32 at h
  refine z_iload X dX7_firstTurn_32 4 rfl ?_
  refine z_aload_n X dX7_firstTurn_34 0 rfl rfl ?_
  refine z_get (j := 0) (v := .int (M.2.2 40)) X inX7 rfl (by decide) w_502 (hw.1 _) rfl dX7_firstTurn_35 ?_
  refine z_icmp_ge (tgt := 114) X dX7_firstTurn_38 (by decide) (fun c38 => ?_) (fun c38 => ?_)
  · rw [if_pos c38] at h
    have hq := Option.some.inj h
    subst hq
    exact z_sub [0, 1, 2, 3] rfl hs
  · rw [if_neg c38] at h
    refine z_iload_n X dX7_firstTurn_41 3 rfl rfl ?_
    refine z_if_ne (tgt := 59) X dX7_firstTurn_42 (by decide) (fun c42 => ?_) (fun c42 => ?_)
    · rw [if_neg c42] at h
      refine z_aload_n X dX7_firstTurn_59 0 rfl rfl ?_
      refine z_iload_n X dX7_firstTurn_60 1 rfl rfl ?_
      refine z_aload_n X dX7_firstTurn_61 0 rfl rfl ?_
      refine z_get (j := 0) (v := .int (M.2.2 40)) X inX7 rfl (by decide) w_502 (hw.1 _) rfl dX7_firstTurn_62 ?_
      refine z_iload X dX7_firstTurn_65 4 rfl ?_
      obtain ⟨r1, hr1, h⟩ := ob h
      refine z_cVI (As := [.int v1, .int (M.2.2 40), .int x.1]) (st := []) X (tX7_down hw (mk M [(10, x.2.1), (11, x.2.2.1), (12, x.2.2.2.1), (13, x.2.2.2.2.1), (14, x.2.2.2.2.2.1), (15, x.2.2.2.2.2.2.1)] M.2.1 [(48, x.2.2.2.2.2.2.2.1), (49, x.2.2.2.2.2.2.2.2.1), (50, x.2.2.2.2.2.2.2.2.2)]) hr1) w_529 mvX7_down (by rw [eR]; exact ⟨Nat.le_of_ble_eq_true rfl, Nat.le_of_ble_eq_true rfl⟩) ⟨rfl, rfl⟩ rfl (Nat.le_of_ble_eq_true rfl) (hw.1 _) rfl rfl dX7_firstTurn_67 ?_
      refine z_mem (mk_mk (l' := [(10, x.2.1), (11, r1.2.1), (12, r1.2.2.1), (13, r1.2.2.2.1), (14, r1.2.2.2.2.1), (15, r1.2.2.2.2.2.1)]) (sl' := [(48, x.2.2.2.2.2.2.2.1), (49, x.2.2.2.2.2.2.2.2.1), (50, r1.2.2.2.2.2.2)]) rfl rfl rfl rfl) ?_
      exact (jX7_firstTurn_J70 X eR hw M x.2.1 r1.2.1 r1.2.2.1 r1.2.2.2.1 r1.2.2.2.2.1 r1.2.2.2.2.2.1 x.2.2.2.2.2.2.2.1 x.2.2.2.2.2.2.2.2.1 r1.2.2.2.2.2.2 v1 v2 v3 x.1 r1.1 _ h hs)
    · rw [if_pos c42] at h
      refine z_aload_n X dX7_firstTurn_45 0 rfl rfl ?_
      refine z_iload_n X dX7_firstTurn_46 1 rfl rfl ?_
      refine z_aload_n X dX7_firstTurn_47 0 rfl rfl ?_
      refine z_get (j := 0) (v := .int (M.2.2 40)) X inX7 rfl (by decide) w_502 (hw.1 _) rfl dX7_firstTurn_48 ?_
      refine z_iload X dX7_firstTurn_51 4 rfl ?_
      obtain ⟨r2, hr2, h⟩ := ob h
      refine z_cVI (As := [.int v1, .int (M.2.2 40), .int x.1]) (st := []) X (tX7_up hw (mk M [(10, x.2.1), (11, x.2.2.1), (12, x.2.2.2.1), (13, x.2.2.2.2.1), (14, x.2.2.2.2.2.1), (15, x.2.2.2.2.2.2.1)] M.2.1 [(48, x.2.2.2.2.2.2.2.1), (49, x.2.2.2.2.2.2.2.2.1), (50, x.2.2.2.2.2.2.2.2.2)]) hr2) w_525 mvX7_up (by rw [eR]; exact ⟨Nat.le_of_ble_eq_true rfl, Nat.le_of_ble_eq_true rfl⟩) ⟨rfl, rfl⟩ rfl (Nat.le_of_ble_eq_true rfl) (hw.1 _) rfl rfl dX7_firstTurn_53 ?_
      refine z_mem (mk_mk (l' := [(10, x.2.1), (11, r2.2.1), (12, r2.2.2.1), (13, r2.2.2.2.1), (14, r2.2.2.2.2.1), (15, r2.2.2.2.2.2.1)]) (sl' := [(48, x.2.2.2.2.2.2.2.1), (49, x.2.2.2.2.2.2.2.2.1), (50, r2.2.2.2.2.2.2)]) rfl rfl rfl rfl) ?_
      refine z_goto (tgt := 70) X dX7_firstTurn_56 (by decide) ?_
      exact (jX7_firstTurn_J70 X eR hw M x.2.1 r2.2.1 r2.2.2.1 r2.2.2.2.1 r2.2.2.2.2.1 r2.2.2.2.2.2.1 x.2.2.2.2.2.2.2.1 x.2.2.2.2.2.2.2.2.1 r2.2.2.2.2.2.2 v1 v2 v3 x.1 r2.1 _ h hs)
set_option maxHeartbeats 4000000 in
theorem bX7_firstTurn_B24 {κ : Rx} {ct : Nat → ClassId} {tF : Nat} {po ad : Nat → Nat} (X : CX κ ct tF cX7_firstTurn 6 RX7) (eR : kR κ = { frames := 21, cells := 0, slots := 0, locals := 2165 }) (hw : KM (kw κ) po ad ct) (M : Mm)  (v1 : Int32) (v2 : Int32) : ∀ (x : (Int32 × (Nat → Int32) × (Nat → Int32) × (Nat → Int32) × (Nat → Int32) × (Nat → Int32) × (Nat → Int32) × Int32 × Int32 × Int32)) (s : (Int32 × (Nat → Int32) × (Nat → Int32) × (Nat → Int32) × (Nat → Int32) × (Nat → Int32) × (Nat → Int32) × Int32 × Int32 × Int32) ⊕ (((Nat → Int32) × (Nat → Int32) × (Nat → Int32) × (Nat → Int32) × (Nat → Int32) × (Nat → Int32) × Int32 × Int32 × Int32) ⊕ (Int32 × (Nat → Int32) × (Nat → Int32) × (Nat → Int32) × (Nat → Int32) × (Nat → Int32) × (Nat → Int32) × Int32 × Int32 × Int32))), fX7_firstTurn_B24 (M.1 16) (M.2.2 40) v1 v2 x = some s → Sum.elim (fun x => Zj κ 6 24 [(0, .ref (ad 0)), (1, .int v1), (2, .int v2), (3, .int x.1)] [] (mk M [(10, x.2.1), (11, x.2.2.1), (12, x.2.2.2.1), (13, x.2.2.2.2.1), (14, x.2.2.2.2.2.1), (15, x.2.2.2.2.2.2.1)] M.2.1 [(48, x.2.2.2.2.2.2.2.1), (49, x.2.2.2.2.2.2.2.2.1), (50, x.2.2.2.2.2.2.2.2.2)])) (Sum.elim (fun y => Zj κ 6 120 [] [] (mk M [(10, y.1), (11, y.2.1), (12, y.2.2.1), (13, y.2.2.2.1), (14, y.2.2.2.2.1), (15, y.2.2.2.2.2.1)] M.2.1 [(48, y.2.2.2.2.2.2.1), (49, y.2.2.2.2.2.2.2.1), (50, y.2.2.2.2.2.2.2.2)])) (fun r => ZI κ cX7_firstTurn .int r.1 (mk M [(10, r.2.1), (11, r.2.2.1), (12, r.2.2.2.1), (13, r.2.2.2.2.1), (14, r.2.2.2.2.2.1), (15, r.2.2.2.2.2.2.1)] M.2.1 [(48, r.2.2.2.2.2.2.2.1), (49, r.2.2.2.2.2.2.2.2.1), (50, r.2.2.2.2.2.2.2.2.2)]))) s → Zj κ 6 24 [(0, .ref (ad 0)), (1, .int v1), (2, .int v2), (3, .int x.1)] [] (mk M [(10, x.2.1), (11, x.2.2.1), (12, x.2.2.2.1), (13, x.2.2.2.2.1), (14, x.2.2.2.2.2.1), (15, x.2.2.2.2.2.2.1)] M.2.1 [(48, x.2.2.2.2.2.2.2.1), (49, x.2.2.2.2.2.2.2.2.1), (50, x.2.2.2.2.2.2.2.2.2)]) := by
  intro x s h hs
  unfold fX7_firstTurn_B24 at h
  refine z_iload_n X dX7_firstTurn_24 3 rfl rfl ?_
  refine z_iconst (v := (nI 2)) X dX7_firstTurn_25 (by decide) ?_
  refine z_icmp_ge (tgt := 120) X dX7_firstTurn_26 (by decide) (fun c26 => ?_) (fun c26 => ?_)
  · rw [if_pos c26] at h
    have hq := Option.some.inj h
    subst hq
    exact z_sub [] rfl hs
  · rw [if_neg c26] at h
    refine z_iconst (v := (nI 0)) X dX7_firstTurn_29 (by decide) ?_
    refine z_istore (lv' := [(4, .int (nI 0)), (0, .ref (ad 0)), (1, .int v1), (2, .int v2), (3, .int x.1)]) X dX7_firstTurn_30 (by decide) rfl ?_
    refine z_sub [1, 2, 3, 4, 0] rfl ?_
    obtain ⟨y1_, hy1, h⟩ := ob h
    cases y1_ with
    | inl y1 =>
      rw [Sum.elim_inl] at h
      refine (it_Z (bX7_firstTurn_B32 X eR hw M v1 v2 x.1) FU _ (.inl y1) hy1) ?_
      refine z_iinc (v := (x.1 + nI 1)) (lv' := [(3, .int (x.1 + nI 1)), (0, .ref (ad 0)), (1, .int v1), (2, .int v2)]) X dX7_firstTurn_114 3 rfl rfl (by decide) rfl ?_
      refine z_goto (tgt := 24) X dX7_firstTurn_117 (by decide) ?_
      have hq := Option.some.inj h
      subst hq
      exact z_sub [1, 2, 3, 0] rfl hs
    | inr y1 =>
      rw [Sum.elim_inr] at h
      have hq := Option.some.inj h
      subst hq
      exact (it_Z (bX7_firstTurn_B32 X eR hw M v1 v2 x.1) FU _ (.inr _) hy1) hs
set_option maxHeartbeats 4000000 in
theorem tX7_firstTurn {l : Launch} {D : va_G} {ct : Nat → ClassId} {tF : Nat} {wOf : Mm → va_W} {po ad : Nat → Nat} (hw : KM wOf po ad ct) (M : Mm) {v1 : Int32} {r : (Int32 × (Nat → Int32) × (Nat → Int32) × (Nat → Int32) × (Nat → Int32) × (Nat → Int32) × (Nat → Int32) × Int32 × Int32 × Int32)} (h : fX7_firstTurn (M.1 10) (M.1 11) (M.1 12) (M.1 13) (M.1 14) (M.1 15) (M.1 16) (M.2.2 40) (M.2.2 48) (M.2.2 49) (M.2.2 50) v1 = some r) : CtI l yX7_firstTurn cX7_firstTurn 6 .int { frames := 21, cells := 0, slots := 0, locals := 2165 } D ct tF wOf [.ref (ad 0), .int v1] M r.1 (mk M [(10, r.2.1), (11, r.2.2.1), (12, r.2.2.2.1), (13, r.2.2.2.2.1), (14, r.2.2.2.2.2.1), (15, r.2.2.2.2.2.2.1)] M.2.1 [(48, r.2.2.2.2.2.2.2.1), (49, r.2.2.2.2.2.2.2.2.1), (50, r.2.2.2.2.2.2.2.2.2)]) := by
  refine metI (by decide) (Nat.le_of_ble_eq_true rfl) fun κ X e1 eR e3 e4 hs => ?_
  subst e1; subst e3; subst e4
  unfold fX7_firstTurn at h
  refine z_mem (mk_self M [10, 11, 12, 13, 14, 15] [48, 49, 50]) ?_
  refine z_sub (lv' := [(0, .ref (ad 0)), (1, .int v1)]) [0, 1] rfl ?_
  show Zj κ 6 0 _ _ (mk M [(10, (M.1 10)), (11, (M.1 11)), (12, (M.1 12)), (13, (M.1 13)), (14, (M.1 14)), (15, (M.1 15))] M.2.1 [(48, (M.2.2 48)), (49, (M.2.2 49)), (50, (M.2.2 50))])
  refine z_aload_n X dX7_firstTurn_0 0 rfl rfl ?_
  refine z_get (j := 26) (v := .ref (ad 16)) X inX7 rfl (by decide) w_559 (hw.1 _) rfl dX7_firstTurn_1 ?_
  refine z_aload_n X dX7_firstTurn_4 0 rfl rfl ?_
  refine z_iload_n X dX7_firstTurn_5 1 rfl rfl ?_
  refine z_aload_n X dX7_firstTurn_6 0 rfl rfl ?_
  refine z_get (j := 0) (v := .int (M.2.2 40)) X inX7 rfl (by decide) w_502 (hw.1 _) rfl dX7_firstTurn_7 ?_
  obtain ⟨r1, hr1, h⟩ := ob h
  refine z_cVI (As := [.int v1, .int (M.2.2 40)]) (st := [.ref (ad 16)]) X (tX7_numberOf hw (mk M [(10, (M.1 10)), (11, (M.1 11)), (12, (M.1 12)), (13, (M.1 13)), (14, (M.1 14)), (15, (M.1 15))] M.2.1 [(48, (M.2.2 48)), (49, (M.2.2 49)), (50, (M.2.2 50))]) hr1) w_508 mvX7_numberOf (by rw [eR]; exact ⟨Nat.le_of_ble_eq_true rfl, Nat.le_of_ble_eq_true rfl⟩) ⟨rfl, rfl⟩ rfl (Nat.le_of_ble_eq_true rfl) (hw.1 _) rfl rfl dX7_firstTurn_10 ?_
  refine z_mem (mk_mk (l' := [(10, r1.2.1), (11, (M.1 11)), (12, (M.1 12)), (13, (M.1 13)), (14, (M.1 14)), (15, (M.1 15))]) (sl' := [(48, r1.2.2.1), (49, r1.2.2.2), (50, (M.2.2 50))]) rfl rfl rfl rfl) ?_
  obtain ⟨t2, ht2, h⟩ := ob h
  refine z_iald X (hw.2.2.2.2.2.2.2.2.2.2.2.2.2.2.2.2.1 _).1 (rd_ok ht2) dX7_firstTurn_13 ?_
  refine z_istore_n (lv' := [(2, .int t2), (0, .ref (ad 0)), (1, .int v1)]) X dX7_firstTurn_14 rfl (by decide) rfl ?_
  refine z_iload_n X dX7_firstTurn_15 0 rfl rfl ?_
  refine z_if_ne (tgt := 22) X dX7_firstTurn_16 (by decide) (fun c16 => ?_) (fun c16 => ?_)
  · rw [if_neg c16] at h
    refine z_iconst (v := (nI 0)) X dX7_firstTurn_22 (by decide) ?_
    refine z_istore_n (lv' := [(3, .int (nI 0)), (2, .int t2), (0, .ref (ad 0)), (1, .int v1)]) X dX7_firstTurn_23 rfl (by decide) rfl ?_
    refine z_sub [2, 3, 1, 0] rfl ?_
    obtain ⟨y3_, hy3, h⟩ := ob h
    cases y3_ with
    | inl y3 =>
      rw [Sum.elim_inl] at h
      refine (it_Z (bX7_firstTurn_B24 X eR hw M v1 t2) FU _ (.inl y3) hy3) ?_
      refine z_bipush (v := (-5 : Int32)) X dX7_firstTurn_120 (by decide) ?_
      have hq := Option.some.inj h
      subst hq
      exact z_iret hs dX7_firstTurn_122 rfl
    | inr y3 =>
      rw [Sum.elim_inr] at h
      have hq := Option.some.inj h
      subst hq
      exact (it_Z (bX7_firstTurn_B24 X eR hw M v1 t2) FU _ (.inr _) hy3) hs
  · rw [if_pos c16] at h
    refine z_bipush (v := (-5 : Int32)) X dX7_firstTurn_19 (by decide) ?_
    have hq := Option.some.inj h
    subst hq
    exact z_iret hs dX7_firstTurn_21 rfl
set_option maxHeartbeats 4000000 in
theorem tX7_way {l : Launch} {D : va_G} {ct : Nat → ClassId} {tF : Nat} {wOf : Mm → va_W} {po ad : Nat → Nat} (hw : KM wOf po ad ct) (M : Mm) {v1 : Int32} {v2 : Int32} {r : (Int32 × (Nat → Int32) × (Nat → Int32) × (Nat → Int32) × (Nat → Int32) × (Nat → Int32) × (Nat → Int32) × (Nat → Int32) × (Nat → Int32) × Int32 × Int32 × Int32)} (h : fX7_way (M.1 1) (M.1 2) (M.1 10) (M.1 11) (M.1 12) (M.1 13) (M.1 14) (M.1 15) (M.1 16) (M.1 17) (M.2.2 40) (M.2.2 41) (M.2.2 48) (M.2.2 49) (M.2.2 50) v1 v2 = some r) : CtI l yX7_way cX7_way 4 .int { frames := 22, cells := 0, slots := 0, locals := 2195 } D ct tF wOf [.ref (ad 0), .int v1, .int v2] M r.1 (mk M [(10, r.2.1), (11, r.2.2.1), (12, r.2.2.2.1), (13, r.2.2.2.2.1), (14, r.2.2.2.2.2.1), (15, r.2.2.2.2.2.2.1), (16, r.2.2.2.2.2.2.2.1), (17, r.2.2.2.2.2.2.2.2.1)] M.2.1 [(48, r.2.2.2.2.2.2.2.2.2.1), (49, r.2.2.2.2.2.2.2.2.2.2.1), (50, r.2.2.2.2.2.2.2.2.2.2.2)]) := by
  refine metI (by decide) (Nat.le_of_ble_eq_true rfl) fun κ X e1 eR e3 e4 hs => ?_
  subst e1; subst e3; subst e4
  unfold fX7_way at h
  refine z_mem (mk_self M [10, 11, 12, 13, 14, 15, 16, 17] [48, 49, 50]) ?_
  refine z_sub (lv' := [(0, .ref (ad 0)), (1, .int v1), (2, .int v2)]) [0, 1, 2] rfl ?_
  show Zj κ 4 0 _ _ (mk M [(10, (M.1 10)), (11, (M.1 11)), (12, (M.1 12)), (13, (M.1 13)), (14, (M.1 14)), (15, (M.1 15)), (16, (M.1 16)), (17, (M.1 17))] M.2.1 [(48, (M.2.2 48)), (49, (M.2.2 49)), (50, (M.2.2 50))])
  refine z_iload_n X dX7_way_0 1 rfl rfl ?_
  obtain ⟨r1, hr1, h⟩ := ob h
  refine z_cSI (As := [.int v1]) (st := []) X (tX7_isShelf hw (mk M [(10, (M.1 10)), (11, (M.1 11)), (12, (M.1 12)), (13, (M.1 13)), (14, (M.1 14)), (15, (M.1 15)), (16, (M.1 16)), (17, (M.1 17))] M.2.1 [(48, (M.2.2 48)), (49, (M.2.2 49)), (50, (M.2.2 50))]) hr1) w_540 msX7_isShelf (by rw [eR]; exact ⟨Nat.le_of_ble_eq_true rfl, Nat.le_of_ble_eq_true rfl⟩) ⟨rfl, rfl⟩ rfl (Nat.le_of_ble_eq_true rfl) rfl dX7_way_1 ?_
  refine z_if_eq (tgt := 17) X dX7_way_4 (by decide) (fun c4 => ?_) (fun c4 => ?_)
  · rw [if_pos c4] at h
    refine z_iconst (v := (-1 : Int32)) X dX7_way_17 (by decide) ?_
    have hq := Option.some.inj h
    subst hq
    exact z_iret hs dX7_way_18 rfl
  · rw [if_neg c4] at h
    refine z_iload_n X dX7_way_7 2 rfl rfl ?_
    refine z_i2l X dX7_way_8 ?_
    refine z_lconst (v := (0 : Int64)) X dX7_way_9 (by decide) ?_
    refine z_lconst (v := (1 : Int64)) X dX7_way_10 (by decide) ?_
    obtain ⟨r2, hr2, h⟩ := ob h
    refine z_cSI (As := [.long (v2.toInt64), .long (0 : Int64), .long (1 : Int64)]) (st := []) X (tX7_in hw (mk M [(10, (M.1 10)), (11, (M.1 11)), (12, (M.1 12)), (13, (M.1 13)), (14, (M.1 14)), (15, (M.1 15)), (16, (M.1 16)), (17, (M.1 17))] M.2.1 [(48, (M.2.2 48)), (49, (M.2.2 49)), (50, (M.2.2 50))]) hr2) w_472 msX7_in (by rw [eR]; exact ⟨Nat.le_of_ble_eq_true rfl, Nat.le_of_ble_eq_true rfl⟩) ⟨rfl, rfl⟩ rfl (Nat.le_of_ble_eq_true rfl) rfl dX7_way_11 ?_
    refine z_if_ne (tgt := 19) X dX7_way_14 (by decide) (fun c14 => ?_) (fun c14 => ?_)
    · rw [if_neg c14] at h
      refine z_aload_n X dX7_way_19 0 rfl rfl ?_
      refine z_iload_n X dX7_way_20 1 rfl rfl ?_
      obtain ⟨r3, hr3, h⟩ := ob h
      refine z_cVI (As := [.int v1]) (st := []) X (tX7_barOf hw (mk M [(10, (M.1 10)), (11, (M.1 11)), (12, (M.1 12)), (13, (M.1 13)), (14, (M.1 14)), (15, (M.1 15)), (16, (M.1 16)), (17, (M.1 17))] M.2.1 [(48, (M.2.2 48)), (49, (M.2.2 49)), (50, (M.2.2 50))]) hr3) w_543 mvX7_barOf (by rw [eR]; exact ⟨Nat.le_of_ble_eq_true rfl, Nat.le_of_ble_eq_true rfl⟩) ⟨rfl, rfl⟩ rfl (Nat.le_of_ble_eq_true rfl) (hw.1 _) rfl rfl dX7_way_21 ?_
      refine z_istore_n (lv' := [(3, .int r3), (0, .ref (ad 0)), (1, .int v1), (2, .int v2)]) X dX7_way_24 rfl (by decide) rfl ?_
      refine z_iload_n X dX7_way_25 0 rfl rfl ?_
      refine z_if_eq (tgt := 31) X dX7_way_26 (by decide) (fun c26 => ?_) (fun c26 => ?_)
      · rw [if_pos c26] at h
        refine z_aload_n X dX7_way_31 1 rfl rfl ?_
        refine z_aload_n X dX7_way_32 1 rfl rfl ?_
        refine z_get (j := 3) (v := .ref (ad 2)) X inX7 rfl (by decide) w_547 (hw.1 _) rfl dX7_way_33 ?_
        refine z_iload_n X dX7_way_36 2 rfl rfl ?_
        obtain ⟨t4, ht4, h⟩ := ob h
        refine z_iald X (hw.2.2.1 _).1 (rd_ok ht4) dX7_way_37 ?_
        refine z_iconst (v := (nI 0)) X dX7_way_38 (by decide) ?_
        obtain ⟨r5, hr5, h⟩ := ob h
        refine z_cVV (As := [.int t4, .int (nI 0)]) (st := []) X (tX7_measure hw (mk M [(10, (M.1 10)), (11, (M.1 11)), (12, (M.1 12)), (13, (M.1 13)), (14, (M.1 14)), (15, (M.1 15)), (16, (M.1 16)), (17, (M.1 17))] M.2.1 [(48, (M.2.2 48)), (49, (M.2.2 49)), (50, (M.2.2 50))]) hr5) w_561 mvX7_measure (by rw [eR]; exact ⟨Nat.le_of_ble_eq_true rfl, Nat.le_of_ble_eq_true rfl⟩) ⟨rfl, rfl⟩ rfl (Nat.le_of_ble_eq_true rfl) (hw.1 _) rfl rfl dX7_way_39 ?_
        refine z_mem (mk_mk (l' := [(10, r5.1), (11, r5.2.1), (12, r5.2.2.1), (13, r5.2.2.2.1), (14, r5.2.2.2.2.1), (15, r5.2.2.2.2.2.1), (16, r5.2.2.2.2.2.2.1), (17, r5.2.2.2.2.2.2.2.1)]) (sl' := [(48, r5.2.2.2.2.2.2.2.2.1), (49, r5.2.2.2.2.2.2.2.2.2.1), (50, r5.2.2.2.2.2.2.2.2.2.2)]) rfl rfl rfl rfl) ?_
        refine z_iload_n X dX7_way_42 3 rfl rfl ?_
        refine z_if_ne (tgt := 58) X dX7_way_43 (by decide) (fun c43 => ?_) (fun c43 => ?_)
        · rw [if_neg c43] at h
          refine z_aload_n X dX7_way_58 1 rfl rfl ?_
          refine z_aload_n X dX7_way_59 1 rfl rfl ?_
          refine z_get (j := 1) (v := .int (M.2.2 41)) X inX7 rfl (by decide) w_506 (hw.1 _) rfl dX7_way_60 ?_
          obtain ⟨r6, hr6, h⟩ := ob h
          refine z_cVI (As := [.int (M.2.2 41)]) (st := []) X (tX7_firstTurn hw (mk M [(10, r5.1), (11, r5.2.1), (12, r5.2.2.1), (13, r5.2.2.2.1), (14, r5.2.2.2.2.1), (15, r5.2.2.2.2.2.1), (16, r5.2.2.2.2.2.2.1), (17, r5.2.2.2.2.2.2.2.1)] M.2.1 [(48, r5.2.2.2.2.2.2.2.2.1), (49, r5.2.2.2.2.2.2.2.2.2.1), (50, r5.2.2.2.2.2.2.2.2.2.2)]) hr6) w_565 mvX7_firstTurn (by rw [eR]; exact ⟨Nat.le_of_ble_eq_true rfl, Nat.le_of_ble_eq_true rfl⟩) ⟨rfl, rfl⟩ rfl (Nat.le_of_ble_eq_true rfl) (hw.1 _) rfl rfl dX7_way_63 ?_
          refine z_mem (mk_mk (l' := [(10, r6.2.1), (11, r6.2.2.1), (12, r6.2.2.2.1), (13, r6.2.2.2.2.1), (14, r6.2.2.2.2.2.1), (15, r6.2.2.2.2.2.2.1), (16, r5.2.2.2.2.2.2.1), (17, r5.2.2.2.2.2.2.2.1)]) (sl' := [(48, r6.2.2.2.2.2.2.2.1), (49, r6.2.2.2.2.2.2.2.2.1), (50, r6.2.2.2.2.2.2.2.2.2)]) rfl rfl rfl rfl) ?_
          have hq := Option.some.inj h
          subst hq
          exact z_iret hs dX7_way_66 rfl
        · rw [if_pos c43] at h
          refine z_aload_n X dX7_way_46 1 rfl rfl ?_
          refine z_get (j := 26) (v := .ref (ad 16)) X inX7 rfl (by decide) w_559 (hw.1 _) rfl dX7_way_47 ?_
          refine z_aload_n X dX7_way_50 1 rfl rfl ?_
          obtain ⟨r7, hr7, h⟩ := ob h
          refine z_cVI (As := []) (st := [.ref (ad 16)]) X (tX7_which hw (mk M [(10, r5.1), (11, r5.2.1), (12, r5.2.2.1), (13, r5.2.2.2.1), (14, r5.2.2.2.2.1), (15, r5.2.2.2.2.2.1), (16, r5.2.2.2.2.2.2.1), (17, r5.2.2.2.2.2.2.2.1)] M.2.1 [(48, r5.2.2.2.2.2.2.2.2.1), (49, r5.2.2.2.2.2.2.2.2.2.1), (50, r5.2.2.2.2.2.2.2.2.2.2)]) hr7) w_516 mvX7_which (by rw [eR]; exact ⟨Nat.le_of_ble_eq_true rfl, Nat.le_of_ble_eq_true rfl⟩) ⟨rfl, rfl⟩ rfl (Nat.le_of_ble_eq_true rfl) (hw.1 _) rfl rfl dX7_way_51 ?_
          refine z_mem (mk_mk (l' := [(10, r7.2.1), (11, r5.2.1), (12, r5.2.2.1), (13, r5.2.2.2.1), (14, r5.2.2.2.2.1), (15, r5.2.2.2.2.2.1), (16, r5.2.2.2.2.2.2.1), (17, r5.2.2.2.2.2.2.2.1)]) (sl' := [(48, r7.2.2.1), (49, r7.2.2.2), (50, r5.2.2.2.2.2.2.2.2.2.2)]) rfl rfl rfl rfl) ?_
          obtain ⟨t8, ht8, h⟩ := ob h
          refine z_iald X (hw.2.2.2.2.2.2.2.2.2.2.2.2.2.2.2.2.1 _).1 (rd_ok ht8) dX7_way_54 ?_
          refine z_goto (tgt := 66) X dX7_way_55 (by decide) ?_
          have hq := Option.some.inj h
          subst hq
          exact z_iret hs dX7_way_66 rfl
      · rw [if_neg c26] at h
        refine z_iload_n X dX7_way_29 0 rfl rfl ?_
        have hq := Option.some.inj h
        subst hq
        exact z_iret hs dX7_way_30 rfl
    · rw [if_pos c14] at h
      refine z_iconst (v := (-1 : Int32)) X dX7_way_17 (by decide) ?_
      have hq := Option.some.inj h
      subst hq
      exact z_iret hs dX7_way_18 rfl
set_option maxHeartbeats 4000000 in
theorem jX7_longest_J33 {κ : Rx} {ct : Nat → ClassId} {tF : Nat} {po ad : Nat → Nat} (X : CX κ ct tF cX7_longest 6 RX7) (eR : kR κ = { frames := 21, cells := 0, slots := 0, locals := 2165 }) (hw : KM (kw κ) po ad ct) (M : Mm) (a_all : Nat → Int32) (a_parent : Nat → Int32) (a_left : Nat → Int32) (a_right : Nat → Int32) (a_leftSize : Nat → Int32) (a_above : Nat → Int32) (a_queue : Nat → Int32) (s_many : Int32) (s_tableOf : Int32) (s_read : Int32)  (v1 : Int32) (v2 : Int32) (k0 : Int32) (k1 : Int32) (s : ((Int32 × (Nat → Int32)) ⊕ (Nat → Int32))) (h : fX7_longest_J33 a_all a_queue (M.2.2 41) s_many v1 v2 k0 k1 = some s) (hs : (Sum.elim (fun x => Zj κ 6 2 [(0, .ref (ad 0)), (1, .int v1), (2, .int x.1)] [] (mk M [(10, a_all), (11, a_parent), (12, a_left), (13, a_right), (14, a_leftSize), (15, a_above), (17, x.2)] M.2.1 [(48, s_many), (49, s_tableOf), (50, s_read)])) (fun y => Zj κ 6 40 [(0, .ref (ad 0)), (1, .int v1)] [] (mk M [(10, a_all), (11, a_parent), (12, a_left), (13, a_right), (14, a_leftSize), (15, a_above), (17, y)] M.2.1 [(48, s_many), (49, s_tableOf), (50, s_read)])) s)) : Zj κ 6 33 [(0, .ref (ad 0)), (1, .int v1), (2, .int v2)] [.int k0, .int k1, .ref (ad 17)] (mk M [(10, a_all), (11, a_parent), (12, a_left), (13, a_right), (14, a_leftSize), (15, a_above), (17, a_queue)] M.2.1 [(48, s_many), (49, s_tableOf), (50, s_read)]) := by
  unfold fX7_longest_J33 at h
  obtain ⟨u1, hu1, h⟩ := ob h
  refine z_iast (M' := (mk M [(10, a_all), (11, a_parent), (12, a_left), (13, a_right), (14, a_leftSize), (15, a_above), (17, u1)] M.2.1 [(48, s_many), (49, s_tableOf), (50, s_read)])) X (hw.2.2.2.2.2.2.2.2.2.2.2.2.2.2.2.2.2.1 _).1 (wr_ok hu1) (mk_set1 (l' := [(10, a_all), (11, a_parent), (12, a_left), (13, a_right), (14, a_leftSize), (15, a_above), (17, u1)]) (hw.2.2.2.2.2.2.2.2.2.2.2.2.2.2.2.2.2.1) rfl rfl) dX7_longest_33 ?_
  refine z_iinc (v := (v2 + nI 1)) (lv' := [(2, .int (v2 + nI 1)), (0, .ref (ad 0)), (1, .int v1)]) X dX7_longest_34 2 rfl rfl (by decide) rfl ?_
  refine z_goto (tgt := 2) X dX7_longest_37 (by decide) ?_
  have hq := Option.some.inj h
  subst hq
  exact z_sub [1, 2, 0] rfl hs
set_option maxHeartbeats 4000000 in
theorem bX7_longest_B2 {κ : Rx} {ct : Nat → ClassId} {tF : Nat} {po ad : Nat → Nat} (X : CX κ ct tF cX7_longest 6 RX7) (eR : kR κ = { frames := 21, cells := 0, slots := 0, locals := 2165 }) (hw : KM (kw κ) po ad ct) (M : Mm) (a_all : Nat → Int32) (a_parent : Nat → Int32) (a_left : Nat → Int32) (a_right : Nat → Int32) (a_leftSize : Nat → Int32) (a_above : Nat → Int32) (s_many : Int32) (s_tableOf : Int32) (s_read : Int32) (v1 : Int32) : ∀ (x : (Int32 × (Nat → Int32))) (s : (Int32 × (Nat → Int32)) ⊕ (Nat → Int32)), fX7_longest_B2 a_all (M.2.2 41) s_many v1 x = some s → Sum.elim (fun x => Zj κ 6 2 [(0, .ref (ad 0)), (1, .int v1), (2, .int x.1)] [] (mk M [(10, a_all), (11, a_parent), (12, a_left), (13, a_right), (14, a_leftSize), (15, a_above), (17, x.2)] M.2.1 [(48, s_many), (49, s_tableOf), (50, s_read)])) (fun y => Zj κ 6 40 [(0, .ref (ad 0)), (1, .int v1)] [] (mk M [(10, a_all), (11, a_parent), (12, a_left), (13, a_right), (14, a_leftSize), (15, a_above), (17, y)] M.2.1 [(48, s_many), (49, s_tableOf), (50, s_read)])) s → Zj κ 6 2 [(0, .ref (ad 0)), (1, .int v1), (2, .int x.1)] [] (mk M [(10, a_all), (11, a_parent), (12, a_left), (13, a_right), (14, a_leftSize), (15, a_above), (17, x.2)] M.2.1 [(48, s_many), (49, s_tableOf), (50, s_read)]) := by
  intro x s h hs
  unfold fX7_longest_B2 at h
  refine z_iload_n X dX7_longest_2 2 rfl rfl ?_
  refine z_aload_n X dX7_longest_3 0 rfl rfl ?_
  refine z_get (j := 18) (v := .int s_many) X inX7 rfl (by decide) w_476 (hw.1 _) rfl dX7_longest_4 ?_
  refine z_icmp_ge (tgt := 40) X dX7_longest_7 (by decide) (fun c7 => ?_) (fun c7 => ?_)
  · rw [if_pos c7] at h
    have hq := Option.some.inj h
    subst hq
    exact z_sub [0, 1] rfl hs
  · rw [if_neg c7] at h
    refine z_aload_n X dX7_longest_10 0 rfl rfl ?_
    refine z_get (j := 27) (v := .ref (ad 17)) X inX7 rfl (by decide) w_560 (hw.1 _) rfl dX7_longest_11 ?_
    refine z_iload_n X dX7_longest_14 2 rfl rfl ?_
    refine z_aload_n X dX7_longest_15 0 rfl rfl ?_
    refine z_get (j := 17) (v := .ref (ad 10)) X inX7 rfl (by decide) w_480 (hw.1 _) rfl dX7_longest_16 ?_
    refine z_iload_n X dX7_longest_19 2 rfl rfl ?_
    obtain ⟨t1, ht1, h⟩ := ob h
    refine z_iald X (hw.2.2.2.2.2.2.2.2.2.2.1 _).1 (rd_ok ht1) dX7_longest_20 ?_
    refine z_aload_n X dX7_longest_21 0 rfl rfl ?_
    refine z_get (j := 1) (v := .int (M.2.2 41)) X inX7 rfl (by decide) w_506 (hw.1 _) rfl dX7_longest_22 ?_
    refine z_icmp_ne (tgt := 32) X dX7_longest_25 (by decide) (fun c25 => ?_) (fun c25 => ?_)
    · rw [if_neg c25] at h
      refine z_iconst (v := (-1 : Int32)) X dX7_longest_32 (by decide) ?_
      exact (jX7_longest_J33 X eR hw M a_all a_parent a_left a_right a_leftSize a_above x.2 s_many s_tableOf s_read v1 x.1 (-1 : Int32) x.1 _ h hs)
    · rw [if_pos c25] at h
      refine z_iconst (v := (nI 0)) X dX7_longest_28 (by decide) ?_
      refine z_goto (tgt := 33) X dX7_longest_29 (by decide) ?_
      exact (jX7_longest_J33 X eR hw M a_all a_parent a_left a_right a_leftSize a_above x.2 s_many s_tableOf s_read v1 x.1 (nI 0) x.1 _ h hs)
set_option maxHeartbeats 4000000 in
theorem jX7_longest_J137 {κ : Rx} {ct : Nat → ClassId} {tF : Nat} {po ad : Nat → Nat} (X : CX κ ct tF cX7_longest 6 RX7) (eR : kR κ = { frames := 21, cells := 0, slots := 0, locals := 2165 }) (hw : KM (kw κ) po ad ct) (M : Mm) (a_all : Nat → Int32) (a_parent : Nat → Int32) (a_left : Nat → Int32) (a_right : Nat → Int32) (a_leftSize : Nat → Int32) (a_above : Nat → Int32) (a_queue : Nat → Int32) (s_many : Int32) (s_tableOf : Int32) (s_read : Int32)  (v1 : Int32) (v2 : Int32) (v3 : Int32)  (s : ((Int32 × (Nat → Int32) × (Nat → Int32) × (Nat → Int32) × (Nat → Int32) × (Nat → Int32) × (Nat → Int32) × (Nat → Int32) × Int32 × Int32 × Int32) ⊕ ((Nat → Int32) × (Nat → Int32) × (Nat → Int32) × (Nat → Int32) × (Nat → Int32) × (Nat → Int32) × (Nat → Int32) × Int32 × Int32 × Int32))) (h : fX7_longest_J137 a_all a_parent a_left a_right a_leftSize a_above a_queue (M.2.2 40) s_many s_tableOf s_read v1 v2 v3 = some s) (hs : (Sum.elim (fun x => Zj κ 6 65 [(0, .ref (ad 0)), (1, .int v1), (2, .int v2), (3, .int x.1)] [] (mk M [(10, x.2.1), (11, x.2.2.1), (12, x.2.2.2.1), (13, x.2.2.2.2.1), (14, x.2.2.2.2.2.1), (15, x.2.2.2.2.2.2.1), (17, x.2.2.2.2.2.2.2.1)] M.2.1 [(48, x.2.2.2.2.2.2.2.2.1), (49, x.2.2.2.2.2.2.2.2.2.1), (50, x.2.2.2.2.2.2.2.2.2.2)])) (fun y => Zj κ 6 143 [(0, .ref (ad 0)), (1, .int v1), (2, .int v2)] [] (mk M [(10, y.1), (11, y.2.1), (12, y.2.2.1), (13, y.2.2.2.1), (14, y.2.2.2.2.1), (15, y.2.2.2.2.2.1), (17, y.2.2.2.2.2.2.1)] M.2.1 [(48, y.2.2.2.2.2.2.2.1), (49, y.2.2.2.2.2.2.2.2.1), (50, y.2.2.2.2.2.2.2.2.2)])) s)) : Zj κ 6 137 [(0, .ref (ad 0)), (1, .int v1), (2, .int v2), (3, .int v3)] [] (mk M [(10, a_all), (11, a_parent), (12, a_left), (13, a_right), (14, a_leftSize), (15, a_above), (17, a_queue)] M.2.1 [(48, s_many), (49, s_tableOf), (50, s_read)]) := by
  unfold fX7_longest_J137 at h
  refine z_iinc (v := (v3 + nI 1)) (lv' := [(3, .int (v3 + nI 1)), (0, .ref (ad 0)), (1, .int v1), (2, .int v2)]) X dX7_longest_137 3 rfl rfl (by decide) rfl ?_
  refine z_goto (tgt := 65) X dX7_longest_140 (by decide) ?_
  have hq := Option.some.inj h
  subst hq
  exact z_sub [1, 2, 3, 0] rfl hs
set_option maxHeartbeats 4000000 in
theorem bX7_longest_B65 {κ : Rx} {ct : Nat → ClassId} {tF : Nat} {po ad : Nat → Nat} (X : CX κ ct tF cX7_longest 6 RX7) (eR : kR κ = { frames := 21, cells := 0, slots := 0, locals := 2165 }) (hw : KM (kw κ) po ad ct) (M : Mm)  (v1 : Int32) (v2 : Int32) : ∀ (x : (Int32 × (Nat → Int32) × (Nat → Int32) × (Nat → Int32) × (Nat → Int32) × (Nat → Int32) × (Nat → Int32) × (Nat → Int32) × Int32 × Int32 × Int32)) (s : (Int32 × (Nat → Int32) × (Nat → Int32) × (Nat → Int32) × (Nat → Int32) × (Nat → Int32) × (Nat → Int32) × (Nat → Int32) × Int32 × Int32 × Int32) ⊕ ((Nat → Int32) × (Nat → Int32) × (Nat → Int32) × (Nat → Int32) × (Nat → Int32) × (Nat → Int32) × (Nat → Int32) × Int32 × Int32 × Int32)), fX7_longest_B65 (M.2.2 40) v1 v2 x = some s → Sum.elim (fun x => Zj κ 6 65 [(0, .ref (ad 0)), (1, .int v1), (2, .int v2), (3, .int x.1)] [] (mk M [(10, x.2.1), (11, x.2.2.1), (12, x.2.2.2.1), (13, x.2.2.2.2.1), (14, x.2.2.2.2.2.1), (15, x.2.2.2.2.2.2.1), (17, x.2.2.2.2.2.2.2.1)] M.2.1 [(48, x.2.2.2.2.2.2.2.2.1), (49, x.2.2.2.2.2.2.2.2.2.1), (50, x.2.2.2.2.2.2.2.2.2.2)])) (fun y => Zj κ 6 143 [(0, .ref (ad 0)), (1, .int v1), (2, .int v2)] [] (mk M [(10, y.1), (11, y.2.1), (12, y.2.2.1), (13, y.2.2.2.1), (14, y.2.2.2.2.1), (15, y.2.2.2.2.2.1), (17, y.2.2.2.2.2.2.1)] M.2.1 [(48, y.2.2.2.2.2.2.2.1), (49, y.2.2.2.2.2.2.2.2.1), (50, y.2.2.2.2.2.2.2.2.2)])) s → Zj κ 6 65 [(0, .ref (ad 0)), (1, .int v1), (2, .int v2), (3, .int x.1)] [] (mk M [(10, x.2.1), (11, x.2.2.1), (12, x.2.2.2.1), (13, x.2.2.2.2.1), (14, x.2.2.2.2.2.1), (15, x.2.2.2.2.2.2.1), (17, x.2.2.2.2.2.2.2.1)] M.2.1 [(48, x.2.2.2.2.2.2.2.2.1), (49, x.2.2.2.2.2.2.2.2.2.1), (50, x.2.2.2.2.2.2.2.2.2.2)]) := by
  intro x s h hs
  unfold fX7_longest_B65 at h
  refine z_iload_n X dX7_longest_65 3 rfl rfl ?_
  refine z_aload_n X dX7_longest_66 0 rfl rfl ?_
  refine z_get (j := 0) (v := .int (M.2.2 40)) X inX7 rfl (by decide) w_502 (hw.1 _) rfl dX7_longest_67 ?_
  refine z_icmp_ge (tgt := 143) X dX7_longest_70 (by decide) (fun c70 => ?_) (fun c70 => ?_)
  · rw [if_pos c70] at h
    have hq := Option.some.inj h
    subst hq
    exact z_sub [0, 1, 2] rfl hs
  · rw [if_neg c70] at h
    refine z_aload_n X dX7_longest_73 0 rfl rfl ?_
    refine z_aload_n X dX7_longest_74 0 rfl rfl ?_
    refine z_get (j := 17) (v := .ref (ad 10)) X inX7 rfl (by decide) w_480 (hw.1 _) rfl dX7_longest_75 ?_
    refine z_iload_n X dX7_longest_78 2 rfl rfl ?_
    obtain ⟨t1, ht1, h⟩ := ob h
    refine z_iald X (hw.2.2.2.2.2.2.2.2.2.2.1 _).1 (rd_ok ht1) dX7_longest_79 ?_
    refine z_aload_n X dX7_longest_80 0 rfl rfl ?_
    refine z_get (j := 0) (v := .int (M.2.2 40)) X inX7 rfl (by decide) w_502 (hw.1 _) rfl dX7_longest_81 ?_
    refine z_iload_n X dX7_longest_84 3 rfl rfl ?_
    obtain ⟨r2, hr2, h⟩ := ob h
    refine z_cVI (As := [.int t1, .int (M.2.2 40), .int x.1]) (st := []) X (tX7_up hw (mk M [(10, x.2.1), (11, x.2.2.1), (12, x.2.2.2.1), (13, x.2.2.2.2.1), (14, x.2.2.2.2.2.1), (15, x.2.2.2.2.2.2.1), (17, x.2.2.2.2.2.2.2.1)] M.2.1 [(48, x.2.2.2.2.2.2.2.2.1), (49, x.2.2.2.2.2.2.2.2.2.1), (50, x.2.2.2.2.2.2.2.2.2.2)]) hr2) w_525 mvX7_up (by rw [eR]; exact ⟨Nat.le_of_ble_eq_true rfl, Nat.le_of_ble_eq_true rfl⟩) ⟨rfl, rfl⟩ rfl (Nat.le_of_ble_eq_true rfl) (hw.1 _) rfl rfl dX7_longest_85 ?_
    refine z_mem (mk_mk (l' := [(10, x.2.1), (11, r2.2.1), (12, r2.2.2.1), (13, r2.2.2.2.1), (14, r2.2.2.2.2.1), (15, r2.2.2.2.2.2.1), (17, x.2.2.2.2.2.2.2.1)]) (sl' := [(48, x.2.2.2.2.2.2.2.2.1), (49, x.2.2.2.2.2.2.2.2.2.1), (50, r2.2.2.2.2.2.2)]) rfl rfl rfl rfl) ?_
    refine z_istore (lv' := [(4, .int r2.1), (0, .ref (ad 0)), (1, .int v1), (2, .int v2), (3, .int x.1)]) X dX7_longest_88 (by decide) rfl ?_
    refine z_iload X dX7_longest_90 0 rfl ?_
    refine z_bipush (v := (-5 : Int32)) X dX7_longest_92 (by decide) ?_
    refine z_icmp_ne (tgt := 100) X dX7_longest_94 (by decide) (fun c94 => ?_) (fun c94 => ?_)
    · rw [if_neg c94] at h
      refine z_aload_n X dX7_longest_100 1 rfl rfl ?_
      refine z_iload X dX7_longest_101 0 rfl ?_
      refine z_aload_n X dX7_longest_103 1 rfl rfl ?_
      refine z_get (j := 0) (v := .int (M.2.2 40)) X inX7 rfl (by decide) w_502 (hw.1 _) rfl dX7_longest_104 ?_
      obtain ⟨r3, hr3, h⟩ := ob h
      refine z_cVI (As := [.int r2.1, .int (M.2.2 40)]) (st := []) X (tX7_numberOf hw (mk M [(10, x.2.1), (11, r2.2.1), (12, r2.2.2.1), (13, r2.2.2.2.1), (14, r2.2.2.2.2.1), (15, r2.2.2.2.2.2.1), (17, x.2.2.2.2.2.2.2.1)] M.2.1 [(48, x.2.2.2.2.2.2.2.2.1), (49, x.2.2.2.2.2.2.2.2.2.1), (50, r2.2.2.2.2.2.2)]) hr3) w_508 mvX7_numberOf (by rw [eR]; exact ⟨Nat.le_of_ble_eq_true rfl, Nat.le_of_ble_eq_true rfl⟩) ⟨rfl, rfl⟩ rfl (Nat.le_of_ble_eq_true rfl) (hw.1 _) rfl rfl dX7_longest_107 ?_
      refine z_mem (mk_mk (l' := [(10, r3.2.1), (11, r2.2.1), (12, r2.2.2.1), (13, r2.2.2.2.1), (14, r2.2.2.2.2.1), (15, r2.2.2.2.2.2.1), (17, x.2.2.2.2.2.2.2.1)]) (sl' := [(48, r3.2.2.1), (49, r3.2.2.2), (50, r2.2.2.2.2.2.2)]) rfl rfl rfl rfl) ?_
      refine z_istore (lv' := [(5, .int r3.1), (4, .int r2.1), (0, .ref (ad 0)), (1, .int v1), (2, .int v2), (3, .int x.1)]) X dX7_longest_110 (by decide) rfl ?_
      refine z_aload_n X dX7_longest_112 2 rfl rfl ?_
      refine z_get (j := 27) (v := .ref (ad 17)) X inX7 rfl (by decide) w_560 (hw.1 _) rfl dX7_longest_113 ?_
      refine z_iload X dX7_longest_116 0 rfl ?_
      refine z_aload_n X dX7_longest_118 2 rfl rfl ?_
      refine z_get (j := 27) (v := .ref (ad 17)) X inX7 rfl (by decide) w_560 (hw.1 _) rfl dX7_longest_119 ?_
      refine z_iload X dX7_longest_122 0 rfl ?_
      obtain ⟨t4, ht4, h⟩ := ob h
      refine z_iald X (hw.2.2.2.2.2.2.2.2.2.2.2.2.2.2.2.2.2.1 _).1 (rd_ok ht4) dX7_longest_124 ?_
      refine z_aload_n X dX7_longest_125 2 rfl rfl ?_
      refine z_get (j := 27) (v := .ref (ad 17)) X inX7 rfl (by decide) w_560 (hw.1 _) rfl dX7_longest_126 ?_
      refine z_iload_n X dX7_longest_129 4 rfl rfl ?_
      obtain ⟨t5, ht5, h⟩ := ob h
      refine z_iald X (hw.2.2.2.2.2.2.2.2.2.2.2.2.2.2.2.2.2.1 _).1 (rd_ok ht5) dX7_longest_130 ?_
      refine z_iconst (v := (nI 1)) X dX7_longest_131 (by decide) ?_
      refine z_iadd X dX7_longest_132 ?_
      refine z_max X w_569 w_max (by rw [eR]; exact Nat.le_of_ble_eq_true rfl) (by rw [eR]; exact Nat.le_of_ble_eq_true rfl) dX7_longest_133 ?_
      obtain ⟨u6, hu6, h⟩ := ob h
      refine z_iast (M' := (mk M [(10, r3.2.1), (11, r2.2.1), (12, r2.2.2.1), (13, r2.2.2.2.1), (14, r2.2.2.2.2.1), (15, r2.2.2.2.2.2.1), (17, u6)] M.2.1 [(48, r3.2.2.1), (49, r3.2.2.2), (50, r2.2.2.2.2.2.2)])) X (hw.2.2.2.2.2.2.2.2.2.2.2.2.2.2.2.2.2.1 _).1 (wr_ok hu6) (mk_set1 (l' := [(10, r3.2.1), (11, r2.2.1), (12, r2.2.2.1), (13, r2.2.2.2.1), (14, r2.2.2.2.2.1), (15, r2.2.2.2.2.2.1), (17, u6)]) (hw.2.2.2.2.2.2.2.2.2.2.2.2.2.2.2.2.2.1) rfl rfl) dX7_longest_136 ?_
      exact z_sub [2, 3, 4, 5] rfl (jX7_longest_J137 X eR hw M r3.2.1 r2.2.1 r2.2.2.1 r2.2.2.2.1 r2.2.2.2.2.1 r2.2.2.2.2.2.1 u6 r3.2.2.1 r3.2.2.2 r2.2.2.2.2.2.2 v1 v2 x.1 _ h hs)
    · rw [if_pos c94] at h
      refine z_goto (tgt := 137) X dX7_longest_97 (by decide) ?_
      exact z_sub [1, 2, 3, 4] rfl (jX7_longest_J137 X eR hw M x.2.1 r2.2.1 r2.2.2.1 r2.2.2.2.1 r2.2.2.2.2.1 r2.2.2.2.2.2.1 x.2.2.2.2.2.2.2.1 x.2.2.2.2.2.2.2.2.1 x.2.2.2.2.2.2.2.2.2.1 r2.2.2.2.2.2.2 v1 v2 x.1 _ h hs)
set_option maxHeartbeats 4000000 in
theorem jX7_longest_J143 {κ : Rx} {ct : Nat → ClassId} {tF : Nat} {po ad : Nat → Nat} (X : CX κ ct tF cX7_longest 6 RX7) (eR : kR κ = { frames := 21, cells := 0, slots := 0, locals := 2165 }) (hw : KM (kw κ) po ad ct) (M : Mm) (a_all : Nat → Int32) (a_parent : Nat → Int32) (a_left : Nat → Int32) (a_right : Nat → Int32) (a_leftSize : Nat → Int32) (a_above : Nat → Int32) (a_queue : Nat → Int32) (s_many : Int32) (s_tableOf : Int32) (s_read : Int32)  (v1 : Int32) (v2 : Int32)  (s : ((Int32 × (Nat → Int32) × (Nat → Int32) × (Nat → Int32) × (Nat → Int32) × (Nat → Int32) × (Nat → Int32) × (Nat → Int32) × Int32 × Int32 × Int32) ⊕ ((Nat → Int32) × (Nat → Int32) × (Nat → Int32) × (Nat → Int32) × (Nat → Int32) × (Nat → Int32) × (Nat → Int32) × Int32 × Int32 × Int32))) (h : fX7_longest_J143 a_all a_parent a_left a_right a_leftSize a_above a_queue (M.2.2 40) s_many s_tableOf s_read v1 v2 = some s) (hs : (Sum.elim (fun x => Zj κ 6 42 [(0, .ref (ad 0)), (1, .int v1), (2, .int x.1)] [] (mk M [(10, x.2.1), (11, x.2.2.1), (12, x.2.2.2.1), (13, x.2.2.2.2.1), (14, x.2.2.2.2.2.1), (15, x.2.2.2.2.2.2.1), (17, x.2.2.2.2.2.2.2.1)] M.2.1 [(48, x.2.2.2.2.2.2.2.2.1), (49, x.2.2.2.2.2.2.2.2.2.1), (50, x.2.2.2.2.2.2.2.2.2.2)])) (fun y => Zj κ 6 149 [(0, .ref (ad 0)), (1, .int v1)] [] (mk M [(10, y.1), (11, y.2.1), (12, y.2.2.1), (13, y.2.2.2.1), (14, y.2.2.2.2.1), (15, y.2.2.2.2.2.1), (17, y.2.2.2.2.2.2.1)] M.2.1 [(48, y.2.2.2.2.2.2.2.1), (49, y.2.2.2.2.2.2.2.2.1), (50, y.2.2.2.2.2.2.2.2.2)])) s)) : Zj κ 6 143 [(0, .ref (ad 0)), (1, .int v1), (2, .int v2)] [] (mk M [(10, a_all), (11, a_parent), (12, a_left), (13, a_right), (14, a_leftSize), (15, a_above), (17, a_queue)] M.2.1 [(48, s_many), (49, s_tableOf), (50, s_read)]) := by
  unfold fX7_longest_J143 at h
  refine z_iinc (v := (v2 + nI 1)) (lv' := [(2, .int (v2 + nI 1)), (0, .ref (ad 0)), (1, .int v1)]) X dX7_longest_143 2 rfl rfl (by decide) rfl ?_
  refine z_goto (tgt := 42) X dX7_longest_146 (by decide) ?_
  have hq := Option.some.inj h
  subst hq
  exact z_sub [1, 2, 0] rfl hs
set_option maxHeartbeats 4000000 in
theorem bX7_longest_B42 {κ : Rx} {ct : Nat → ClassId} {tF : Nat} {po ad : Nat → Nat} (X : CX κ ct tF cX7_longest 6 RX7) (eR : kR κ = { frames := 21, cells := 0, slots := 0, locals := 2165 }) (hw : KM (kw κ) po ad ct) (M : Mm)  (v1 : Int32) : ∀ (x : (Int32 × (Nat → Int32) × (Nat → Int32) × (Nat → Int32) × (Nat → Int32) × (Nat → Int32) × (Nat → Int32) × (Nat → Int32) × Int32 × Int32 × Int32)) (s : (Int32 × (Nat → Int32) × (Nat → Int32) × (Nat → Int32) × (Nat → Int32) × (Nat → Int32) × (Nat → Int32) × (Nat → Int32) × Int32 × Int32 × Int32) ⊕ ((Nat → Int32) × (Nat → Int32) × (Nat → Int32) × (Nat → Int32) × (Nat → Int32) × (Nat → Int32) × (Nat → Int32) × Int32 × Int32 × Int32)), fX7_longest_B42 (M.2.2 40) v1 x = some s → Sum.elim (fun x => Zj κ 6 42 [(0, .ref (ad 0)), (1, .int v1), (2, .int x.1)] [] (mk M [(10, x.2.1), (11, x.2.2.1), (12, x.2.2.2.1), (13, x.2.2.2.2.1), (14, x.2.2.2.2.2.1), (15, x.2.2.2.2.2.2.1), (17, x.2.2.2.2.2.2.2.1)] M.2.1 [(48, x.2.2.2.2.2.2.2.2.1), (49, x.2.2.2.2.2.2.2.2.2.1), (50, x.2.2.2.2.2.2.2.2.2.2)])) (fun y => Zj κ 6 149 [(0, .ref (ad 0)), (1, .int v1)] [] (mk M [(10, y.1), (11, y.2.1), (12, y.2.2.1), (13, y.2.2.2.1), (14, y.2.2.2.2.1), (15, y.2.2.2.2.2.1), (17, y.2.2.2.2.2.2.1)] M.2.1 [(48, y.2.2.2.2.2.2.2.1), (49, y.2.2.2.2.2.2.2.2.1), (50, y.2.2.2.2.2.2.2.2.2)])) s → Zj κ 6 42 [(0, .ref (ad 0)), (1, .int v1), (2, .int x.1)] [] (mk M [(10, x.2.1), (11, x.2.2.1), (12, x.2.2.2.1), (13, x.2.2.2.2.1), (14, x.2.2.2.2.2.1), (15, x.2.2.2.2.2.2.1), (17, x.2.2.2.2.2.2.2.1)] M.2.1 [(48, x.2.2.2.2.2.2.2.2.1), (49, x.2.2.2.2.2.2.2.2.2.1), (50, x.2.2.2.2.2.2.2.2.2.2)]) := by
  intro x s h hs
  unfold fX7_longest_B42 at h
  refine z_iload_n X dX7_longest_42 2 rfl rfl ?_
  refine z_aload_n X dX7_longest_43 0 rfl rfl ?_
  refine z_get (j := 18) (v := .int x.2.2.2.2.2.2.2.2.1) X inX7 rfl (by decide) w_476 (hw.1 _) rfl dX7_longest_44 ?_
  refine z_icmp_ge (tgt := 149) X dX7_longest_47 (by decide) (fun c47 => ?_) (fun c47 => ?_)
  · rw [if_pos c47] at h
    have hq := Option.some.inj h
    subst hq
    exact z_sub [0, 1] rfl hs
  · rw [if_neg c47] at h
    refine z_aload_n X dX7_longest_50 0 rfl rfl ?_
    refine z_get (j := 27) (v := .ref (ad 17)) X inX7 rfl (by decide) w_560 (hw.1 _) rfl dX7_longest_51 ?_
    refine z_iload_n X dX7_longest_54 2 rfl rfl ?_
    obtain ⟨t1, ht1, h⟩ := ob h
    refine z_iald X (hw.2.2.2.2.2.2.2.2.2.2.2.2.2.2.2.2.2.1 _).1 (rd_ok ht1) dX7_longest_55 ?_
    refine z_iconst (v := (-1 : Int32)) X dX7_longest_56 (by decide) ?_
    refine z_icmp_ne (tgt := 63) X dX7_longest_57 (by decide) (fun c57 => ?_) (fun c57 => ?_)
    · rw [if_neg c57] at h
      refine z_iconst (v := (nI 0)) X dX7_longest_63 (by decide) ?_
      refine z_istore_n (lv' := [(3, .int (nI 0)), (0, .ref (ad 0)), (1, .int v1), (2, .int x.1)]) X dX7_longest_64 rfl (by decide) rfl ?_
      refine z_sub [1, 2, 3, 0] rfl ?_
      obtain ⟨y2, hy2, h⟩ := ob h
      refine (it_Z (bX7_longest_B65 X eR hw M v1 x.1) FU _ y2 hy2) ?_
      exact (jX7_longest_J143 X eR hw M y2.1 y2.2.1 y2.2.2.1 y2.2.2.2.1 y2.2.2.2.2.1 y2.2.2.2.2.2.1 y2.2.2.2.2.2.2.1 y2.2.2.2.2.2.2.2.1 y2.2.2.2.2.2.2.2.2.1 y2.2.2.2.2.2.2.2.2.2 v1 x.1 _ h hs)
    · rw [if_pos c57] at h
      refine z_goto (tgt := 143) X dX7_longest_60 (by decide) ?_
      exact (jX7_longest_J143 X eR hw M x.2.1 x.2.2.1 x.2.2.2.1 x.2.2.2.2.1 x.2.2.2.2.2.1 x.2.2.2.2.2.2.1 x.2.2.2.2.2.2.2.1 x.2.2.2.2.2.2.2.2.1 x.2.2.2.2.2.2.2.2.2.1 x.2.2.2.2.2.2.2.2.2.2 v1 x.1 _ h hs)
set_option maxHeartbeats 4000000 in
theorem tX7_longest {l : Launch} {D : va_G} {ct : Nat → ClassId} {tF : Nat} {wOf : Mm → va_W} {po ad : Nat → Nat} (hw : KM wOf po ad ct) (M : Mm) {v1 : Int32} {r : (Int32 × (Nat → Int32) × (Nat → Int32) × (Nat → Int32) × (Nat → Int32) × (Nat → Int32) × (Nat → Int32) × (Nat → Int32) × Int32 × Int32 × Int32)} (h : fX7_longest (M.1 10) (M.1 11) (M.1 12) (M.1 13) (M.1 14) (M.1 15) (M.1 17) (M.2.2 40) (M.2.2 41) (M.2.2 48) (M.2.2 49) (M.2.2 50) v1 = some r) : CtI l yX7_longest cX7_longest 6 .int { frames := 21, cells := 0, slots := 0, locals := 2165 } D ct tF wOf [.ref (ad 0), .int v1] M r.1 (mk M [(10, r.2.1), (11, r.2.2.1), (12, r.2.2.2.1), (13, r.2.2.2.2.1), (14, r.2.2.2.2.2.1), (15, r.2.2.2.2.2.2.1), (17, r.2.2.2.2.2.2.2.1)] M.2.1 [(48, r.2.2.2.2.2.2.2.2.1), (49, r.2.2.2.2.2.2.2.2.2.1), (50, r.2.2.2.2.2.2.2.2.2.2)]) := by
  refine metI (by decide) (Nat.le_of_ble_eq_true rfl) fun κ X e1 eR e3 e4 hs => ?_
  subst e1; subst e3; subst e4
  unfold fX7_longest at h
  refine z_mem (mk_self M [10, 11, 12, 13, 14, 15, 17] [48, 49, 50]) ?_
  refine z_sub (lv' := [(0, .ref (ad 0)), (1, .int v1)]) [0, 1] rfl ?_
  show Zj κ 6 0 _ _ (mk M [(10, (M.1 10)), (11, (M.1 11)), (12, (M.1 12)), (13, (M.1 13)), (14, (M.1 14)), (15, (M.1 15)), (17, (M.1 17))] M.2.1 [(48, (M.2.2 48)), (49, (M.2.2 49)), (50, (M.2.2 50))])
  refine z_iconst (v := (nI 0)) X dX7_longest_0 (by decide) ?_
  refine z_istore_n (lv' := [(2, .int (nI 0)), (0, .ref (ad 0)), (1, .int v1)]) X dX7_longest_1 rfl (by decide) rfl ?_
  refine z_sub [1, 2, 0] rfl ?_
  obtain ⟨y1, hy1, h⟩ := ob h
  refine (it_Z (bX7_longest_B2 X eR hw M (M.1 10) (M.1 11) (M.1 12) (M.1 13) (M.1 14) (M.1 15) (M.2.2 48) (M.2.2 49) (M.2.2 50) v1) FU _ y1 hy1) ?_
  refine z_iconst (v := (nI 0)) X dX7_longest_40 (by decide) ?_
  refine z_istore_n (lv' := [(2, .int (nI 0)), (0, .ref (ad 0)), (1, .int v1)]) X dX7_longest_41 rfl (by decide) rfl ?_
  refine z_sub [1, 2, 0] rfl ?_
  obtain ⟨y2, hy2, h⟩ := ob h
  refine (it_Z (bX7_longest_B42 X eR hw M v1) FU _ y2 hy2) ?_
  refine z_aload_n X dX7_longest_149 0 rfl rfl ?_
  refine z_get (j := 27) (v := .ref (ad 17)) X inX7 rfl (by decide) w_560 (hw.1 _) rfl dX7_longest_150 ?_
  refine z_aload_n X dX7_longest_153 0 rfl rfl ?_
  refine z_iload_n X dX7_longest_154 1 rfl rfl ?_
  refine z_aload_n X dX7_longest_155 0 rfl rfl ?_
  refine z_get (j := 0) (v := .int (M.2.2 40)) X inX7 rfl (by decide) w_502 (hw.1 _) rfl dX7_longest_156 ?_
  obtain ⟨r3, hr3, h⟩ := ob h
  refine z_cVI (As := [.int v1, .int (M.2.2 40)]) (st := [.ref (ad 17)]) X (tX7_numberOf hw (mk M [(10, y2.1), (11, y2.2.1), (12, y2.2.2.1), (13, y2.2.2.2.1), (14, y2.2.2.2.2.1), (15, y2.2.2.2.2.2.1), (17, y2.2.2.2.2.2.2.1)] M.2.1 [(48, y2.2.2.2.2.2.2.2.1), (49, y2.2.2.2.2.2.2.2.2.1), (50, y2.2.2.2.2.2.2.2.2.2)]) hr3) w_508 mvX7_numberOf (by rw [eR]; exact ⟨Nat.le_of_ble_eq_true rfl, Nat.le_of_ble_eq_true rfl⟩) ⟨rfl, rfl⟩ rfl (Nat.le_of_ble_eq_true rfl) (hw.1 _) rfl rfl dX7_longest_159 ?_
  refine z_mem (mk_mk (l' := [(10, r3.2.1), (11, y2.2.1), (12, y2.2.2.1), (13, y2.2.2.2.1), (14, y2.2.2.2.2.1), (15, y2.2.2.2.2.2.1), (17, y2.2.2.2.2.2.2.1)]) (sl' := [(48, r3.2.2.1), (49, r3.2.2.2), (50, y2.2.2.2.2.2.2.2.2.2)]) rfl rfl rfl rfl) ?_
  obtain ⟨t4, ht4, h⟩ := ob h
  refine z_iald X (hw.2.2.2.2.2.2.2.2.2.2.2.2.2.2.2.2.2.1 _).1 (rd_ok ht4) dX7_longest_162 ?_
  have hq := Option.some.inj h
  subst hq
  exact z_iret hs dX7_longest_163 rfl
set_option maxHeartbeats 4000000 in
theorem tX7_chain {l : Launch} {D : va_G} {ct : Nat → ClassId} {tF : Nat} {wOf : Mm → va_W} {po ad : Nat → Nat} (hw : KM wOf po ad ct) (M : Mm) {v1 : Int32} {v2 : Int32} {r : (Int32 × (Nat → Int32) × (Nat → Int32) × (Nat → Int32) × (Nat → Int32) × (Nat → Int32) × (Nat → Int32) × (Nat → Int32) × (Nat → Int32) × Int32 × Int32 × Int32)} (h : fX7_chain (M.1 1) (M.1 2) (M.1 10) (M.1 11) (M.1 12) (M.1 13) (M.1 14) (M.1 15) (M.1 16) (M.1 17) (M.2.2 40) (M.2.2 41) (M.2.2 48) (M.2.2 49) (M.2.2 50) v1 v2 = some r) : CtI l yX7_chain cX7_chain 4 .int { frames := 22, cells := 0, slots := 0, locals := 2195 } D ct tF wOf [.ref (ad 0), .int v1, .int v2] M r.1 (mk M [(10, r.2.1), (11, r.2.2.1), (12, r.2.2.2.1), (13, r.2.2.2.2.1), (14, r.2.2.2.2.2.1), (15, r.2.2.2.2.2.2.1), (16, r.2.2.2.2.2.2.2.1), (17, r.2.2.2.2.2.2.2.2.1)] M.2.1 [(48, r.2.2.2.2.2.2.2.2.2.1), (49, r.2.2.2.2.2.2.2.2.2.2.1), (50, r.2.2.2.2.2.2.2.2.2.2.2)]) := by
  refine metI (by decide) (Nat.le_of_ble_eq_true rfl) fun κ X e1 eR e3 e4 hs => ?_
  subst e1; subst e3; subst e4
  unfold fX7_chain at h
  refine z_mem (mk_self M [10, 11, 12, 13, 14, 15, 16, 17] [48, 49, 50]) ?_
  refine z_sub (lv' := [(0, .ref (ad 0)), (1, .int v1), (2, .int v2)]) [0, 1, 2] rfl ?_
  show Zj κ 4 0 _ _ (mk M [(10, (M.1 10)), (11, (M.1 11)), (12, (M.1 12)), (13, (M.1 13)), (14, (M.1 14)), (15, (M.1 15)), (16, (M.1 16)), (17, (M.1 17))] M.2.1 [(48, (M.2.2 48)), (49, (M.2.2 49)), (50, (M.2.2 50))])
  refine z_iload_n X dX7_chain_0 1 rfl rfl ?_
  obtain ⟨r1, hr1, h⟩ := ob h
  refine z_cSI (As := [.int v1]) (st := []) X (tX7_isShelf hw (mk M [(10, (M.1 10)), (11, (M.1 11)), (12, (M.1 12)), (13, (M.1 13)), (14, (M.1 14)), (15, (M.1 15)), (16, (M.1 16)), (17, (M.1 17))] M.2.1 [(48, (M.2.2 48)), (49, (M.2.2 49)), (50, (M.2.2 50))]) hr1) w_540 msX7_isShelf (by rw [eR]; exact ⟨Nat.le_of_ble_eq_true rfl, Nat.le_of_ble_eq_true rfl⟩) ⟨rfl, rfl⟩ rfl (Nat.le_of_ble_eq_true rfl) rfl dX7_chain_1 ?_
  refine z_if_eq (tgt := 17) X dX7_chain_4 (by decide) (fun c4 => ?_) (fun c4 => ?_)
  · rw [if_pos c4] at h
    refine z_iconst (v := (-1 : Int32)) X dX7_chain_17 (by decide) ?_
    have hq := Option.some.inj h
    subst hq
    exact z_iret hs dX7_chain_18 rfl
  · rw [if_neg c4] at h
    refine z_iload_n X dX7_chain_7 2 rfl rfl ?_
    refine z_i2l X dX7_chain_8 ?_
    refine z_lconst (v := (0 : Int64)) X dX7_chain_9 (by decide) ?_
    refine z_lconst (v := (1 : Int64)) X dX7_chain_10 (by decide) ?_
    obtain ⟨r2, hr2, h⟩ := ob h
    refine z_cSI (As := [.long (v2.toInt64), .long (0 : Int64), .long (1 : Int64)]) (st := []) X (tX7_in hw (mk M [(10, (M.1 10)), (11, (M.1 11)), (12, (M.1 12)), (13, (M.1 13)), (14, (M.1 14)), (15, (M.1 15)), (16, (M.1 16)), (17, (M.1 17))] M.2.1 [(48, (M.2.2 48)), (49, (M.2.2 49)), (50, (M.2.2 50))]) hr2) w_472 msX7_in (by rw [eR]; exact ⟨Nat.le_of_ble_eq_true rfl, Nat.le_of_ble_eq_true rfl⟩) ⟨rfl, rfl⟩ rfl (Nat.le_of_ble_eq_true rfl) rfl dX7_chain_11 ?_
    refine z_if_ne (tgt := 19) X dX7_chain_14 (by decide) (fun c14 => ?_) (fun c14 => ?_)
    · rw [if_neg c14] at h
      refine z_aload_n X dX7_chain_19 0 rfl rfl ?_
      refine z_iload_n X dX7_chain_20 1 rfl rfl ?_
      obtain ⟨r3, hr3, h⟩ := ob h
      refine z_cVI (As := [.int v1]) (st := []) X (tX7_barOf hw (mk M [(10, (M.1 10)), (11, (M.1 11)), (12, (M.1 12)), (13, (M.1 13)), (14, (M.1 14)), (15, (M.1 15)), (16, (M.1 16)), (17, (M.1 17))] M.2.1 [(48, (M.2.2 48)), (49, (M.2.2 49)), (50, (M.2.2 50))]) hr3) w_543 mvX7_barOf (by rw [eR]; exact ⟨Nat.le_of_ble_eq_true rfl, Nat.le_of_ble_eq_true rfl⟩) ⟨rfl, rfl⟩ rfl (Nat.le_of_ble_eq_true rfl) (hw.1 _) rfl rfl dX7_chain_21 ?_
      refine z_istore_n (lv' := [(3, .int r3), (0, .ref (ad 0)), (1, .int v1), (2, .int v2)]) X dX7_chain_24 rfl (by decide) rfl ?_
      refine z_iload_n X dX7_chain_25 0 rfl rfl ?_
      refine z_if_eq (tgt := 31) X dX7_chain_26 (by decide) (fun c26 => ?_) (fun c26 => ?_)
      · rw [if_pos c26] at h
        refine z_aload_n X dX7_chain_31 1 rfl rfl ?_
        refine z_get (j := 1) (v := .int (M.2.2 41)) X inX7 rfl (by decide) w_506 (hw.1 _) rfl dX7_chain_32 ?_
        refine z_aload_n X dX7_chain_35 1 rfl rfl ?_
        refine z_get (j := 3) (v := .ref (ad 2)) X inX7 rfl (by decide) w_547 (hw.1 _) rfl dX7_chain_36 ?_
        refine z_iload_n X dX7_chain_39 2 rfl rfl ?_
        obtain ⟨t4, ht4, h⟩ := ob h
        refine z_iald X (hw.2.2.1 _).1 (rd_ok ht4) dX7_chain_40 ?_
        refine z_aload_n X dX7_chain_41 1 rfl rfl ?_
        refine z_get (j := 0) (v := .int (M.2.2 40)) X inX7 rfl (by decide) w_502 (hw.1 _) rfl dX7_chain_42 ?_
        obtain ⟨r5, hr5, h⟩ := ob h
        refine z_cSI (As := [.int (M.2.2 41), .int t4, .int (M.2.2 40)]) (st := []) X (tX7_isBelow hw (mk M [(10, (M.1 10)), (11, (M.1 11)), (12, (M.1 12)), (13, (M.1 13)), (14, (M.1 14)), (15, (M.1 15)), (16, (M.1 16)), (17, (M.1 17))] M.2.1 [(48, (M.2.2 48)), (49, (M.2.2 49)), (50, (M.2.2 50))]) hr5) w_548 msX7_isBelow (by rw [eR]; exact ⟨Nat.le_of_ble_eq_true rfl, Nat.le_of_ble_eq_true rfl⟩) ⟨rfl, rfl⟩ rfl (Nat.le_of_ble_eq_true rfl) rfl dX7_chain_45 ?_
        refine z_if_ne (tgt := 54) X dX7_chain_48 (by decide) (fun c48 => ?_) (fun c48 => ?_)
        · rw [if_neg c48] at h
          refine z_aload_n X dX7_chain_54 1 rfl rfl ?_
          refine z_aload_n X dX7_chain_55 1 rfl rfl ?_
          refine z_get (j := 0) (v := .int (M.2.2 40)) X inX7 rfl (by decide) w_502 (hw.1 _) rfl dX7_chain_56 ?_
          obtain ⟨r6, hr6, h⟩ := ob h
          refine z_cVV (As := [.int (M.2.2 40)]) (st := []) X (tX7_table hw (mk M [(10, (M.1 10)), (11, (M.1 11)), (12, (M.1 12)), (13, (M.1 13)), (14, (M.1 14)), (15, (M.1 15)), (16, (M.1 16)), (17, (M.1 17))] M.2.1 [(48, (M.2.2 48)), (49, (M.2.2 49)), (50, (M.2.2 50))]) hr6) w_481 mvX7_table (by rw [eR]; exact ⟨Nat.le_of_ble_eq_true rfl, Nat.le_of_ble_eq_true rfl⟩) ⟨rfl, rfl⟩ rfl (Nat.le_of_ble_eq_true rfl) (hw.1 _) rfl rfl dX7_chain_59 ?_
          refine z_mem (mk_mk (l' := [(10, r6.1), (11, (M.1 11)), (12, (M.1 12)), (13, (M.1 13)), (14, (M.1 14)), (15, (M.1 15)), (16, (M.1 16)), (17, (M.1 17))]) (sl' := [(48, r6.2.1), (49, r6.2.2), (50, (M.2.2 50))]) rfl rfl rfl rfl) ?_
          refine z_iload_n X dX7_chain_62 3 rfl rfl ?_
          refine z_iconst (v := (nI 1)) X dX7_chain_63 (by decide) ?_
          refine z_icmp_ne (tgt := 78) X dX7_chain_64 (by decide) (fun c64 => ?_) (fun c64 => ?_)
          · rw [if_neg c64] at h
            refine z_aload_n X dX7_chain_78 1 rfl rfl ?_
            refine z_aload_n X dX7_chain_79 1 rfl rfl ?_
            refine z_get (j := 1) (v := .int (M.2.2 41)) X inX7 rfl (by decide) w_506 (hw.1 _) rfl dX7_chain_80 ?_
            refine z_iconst (v := (nI 1)) X dX7_chain_83 (by decide) ?_
            obtain ⟨r7, hr7, h⟩ := ob h
            refine z_cVV (As := [.int (M.2.2 41), .int (nI 1)]) (st := []) X (tX7_measure hw (mk M [(10, r6.1), (11, (M.1 11)), (12, (M.1 12)), (13, (M.1 13)), (14, (M.1 14)), (15, (M.1 15)), (16, (M.1 16)), (17, (M.1 17))] M.2.1 [(48, r6.2.1), (49, r6.2.2), (50, (M.2.2 50))]) hr7) w_561 mvX7_measure (by rw [eR]; exact ⟨Nat.le_of_ble_eq_true rfl, Nat.le_of_ble_eq_true rfl⟩) ⟨rfl, rfl⟩ rfl (Nat.le_of_ble_eq_true rfl) (hw.1 _) rfl rfl dX7_chain_84 ?_
            refine z_mem (mk_mk (l' := [(10, r7.1), (11, r7.2.1), (12, r7.2.2.1), (13, r7.2.2.2.1), (14, r7.2.2.2.2.1), (15, r7.2.2.2.2.2.1), (16, r7.2.2.2.2.2.2.1), (17, r7.2.2.2.2.2.2.2.1)]) (sl' := [(48, r7.2.2.2.2.2.2.2.2.1), (49, r7.2.2.2.2.2.2.2.2.2.1), (50, r7.2.2.2.2.2.2.2.2.2.2)]) rfl rfl rfl rfl) ?_
            refine z_aload_n X dX7_chain_87 1 rfl rfl ?_
            refine z_get (j := 26) (v := .ref (ad 16)) X inX7 rfl (by decide) w_559 (hw.1 _) rfl dX7_chain_88 ?_
            refine z_aload_n X dX7_chain_91 1 rfl rfl ?_
            refine z_aload_n X dX7_chain_92 1 rfl rfl ?_
            refine z_get (j := 3) (v := .ref (ad 2)) X inX7 rfl (by decide) w_547 (hw.1 _) rfl dX7_chain_93 ?_
            refine z_iload_n X dX7_chain_96 2 rfl rfl ?_
            obtain ⟨t8, ht8, h⟩ := ob h
            refine z_iald X (hw.2.2.1 _).1 (rd_ok ht8) dX7_chain_97 ?_
            refine z_aload_n X dX7_chain_98 1 rfl rfl ?_
            refine z_get (j := 0) (v := .int (M.2.2 40)) X inX7 rfl (by decide) w_502 (hw.1 _) rfl dX7_chain_99 ?_
            obtain ⟨r9, hr9, h⟩ := ob h
            refine z_cVI (As := [.int t8, .int (M.2.2 40)]) (st := [.ref (ad 16)]) X (tX7_numberOf hw (mk M [(10, r7.1), (11, r7.2.1), (12, r7.2.2.1), (13, r7.2.2.2.1), (14, r7.2.2.2.2.1), (15, r7.2.2.2.2.2.1), (16, r7.2.2.2.2.2.2.1), (17, r7.2.2.2.2.2.2.2.1)] M.2.1 [(48, r7.2.2.2.2.2.2.2.2.1), (49, r7.2.2.2.2.2.2.2.2.2.1), (50, r7.2.2.2.2.2.2.2.2.2.2)]) hr9) w_508 mvX7_numberOf (by rw [eR]; exact ⟨Nat.le_of_ble_eq_true rfl, Nat.le_of_ble_eq_true rfl⟩) ⟨rfl, rfl⟩ rfl (Nat.le_of_ble_eq_true rfl) (hw.1 _) rfl rfl dX7_chain_102 ?_
            refine z_mem (mk_mk (l' := [(10, r9.2.1), (11, r7.2.1), (12, r7.2.2.1), (13, r7.2.2.2.1), (14, r7.2.2.2.2.1), (15, r7.2.2.2.2.2.1), (16, r7.2.2.2.2.2.2.1), (17, r7.2.2.2.2.2.2.2.1)]) (sl' := [(48, r9.2.2.1), (49, r9.2.2.2), (50, r7.2.2.2.2.2.2.2.2.2.2)]) rfl rfl rfl rfl) ?_
            obtain ⟨t10, ht10, h⟩ := ob h
            refine z_iald X (hw.2.2.2.2.2.2.2.2.2.2.2.2.2.2.2.2.1 _).1 (rd_ok ht10) dX7_chain_105 ?_
            have hq := Option.some.inj h
            subst hq
            exact z_iret hs dX7_chain_106 rfl
          · rw [if_pos c64] at h
            refine z_aload_n X dX7_chain_67 1 rfl rfl ?_
            refine z_aload_n X dX7_chain_68 1 rfl rfl ?_
            refine z_get (j := 3) (v := .ref (ad 2)) X inX7 rfl (by decide) w_547 (hw.1 _) rfl dX7_chain_69 ?_
            refine z_iload_n X dX7_chain_72 2 rfl rfl ?_
            obtain ⟨t11, ht11, h⟩ := ob h
            refine z_iald X (hw.2.2.1 _).1 (rd_ok ht11) dX7_chain_73 ?_
            obtain ⟨r12, hr12, h⟩ := ob h
            refine z_cVI (As := [.int t11]) (st := []) X (tX7_longest hw (mk M [(10, r6.1), (11, (M.1 11)), (12, (M.1 12)), (13, (M.1 13)), (14, (M.1 14)), (15, (M.1 15)), (16, (M.1 16)), (17, (M.1 17))] M.2.1 [(48, r6.2.1), (49, r6.2.2), (50, (M.2.2 50))]) hr12) w_570 mvX7_longest (by rw [eR]; exact ⟨Nat.le_of_ble_eq_true rfl, Nat.le_of_ble_eq_true rfl⟩) ⟨rfl, rfl⟩ rfl (Nat.le_of_ble_eq_true rfl) (hw.1 _) rfl rfl dX7_chain_74 ?_
            refine z_mem (mk_mk (l' := [(10, r12.2.1), (11, r12.2.2.1), (12, r12.2.2.2.1), (13, r12.2.2.2.2.1), (14, r12.2.2.2.2.2.1), (15, r12.2.2.2.2.2.2.1), (16, (M.1 16)), (17, r12.2.2.2.2.2.2.2.1)]) (sl' := [(48, r12.2.2.2.2.2.2.2.2.1), (49, r12.2.2.2.2.2.2.2.2.2.1), (50, r12.2.2.2.2.2.2.2.2.2.2)]) rfl rfl rfl rfl) ?_
            have hq := Option.some.inj h
            subst hq
            exact z_iret hs dX7_chain_77 rfl
        · rw [if_pos c48] at h
          refine z_bipush (v := (-5 : Int32)) X dX7_chain_51 (by decide) ?_
          have hq := Option.some.inj h
          subst hq
          exact z_iret hs dX7_chain_53 rfl
      · rw [if_neg c26] at h
        refine z_iload_n X dX7_chain_29 0 rfl rfl ?_
        have hq := Option.some.inj h
        subst hq
        exact z_iret hs dX7_chain_30 rfl
    · rw [if_pos c14] at h
      refine z_iconst (v := (-1 : Int32)) X dX7_chain_17 (by decide) ?_
      have hq := Option.some.inj h
      subst hq
      exact z_iret hs dX7_chain_18 rfl
set_option maxHeartbeats 4000000 in
theorem jX7_mark_J190 {κ : Rx} {ct : Nat → ClassId} {tF : Nat} {po ad : Nat → Nat} (X : CX κ ct tF cX7_mark 6 RX7) (eR : kR κ = { frames := 5, cells := 0, slots := 0, locals := 116 }) (hw : KM (kw κ) po ad ct) (M : Mm) (a_all : Nat → Int32) (a_marks : Nat → Int32) (s_many : Int32) (s_tableOf : Int32)  (v3 : Int32) (v4 : Int32)  (s : ((Int32 × (Nat → Int32)) ⊕ (Nat → Int32))) (h : fX7_mark_J190 a_all a_marks (M.2.2 40) (M.2.2 41) s_many v3 v4 = some s) (hs : (Sum.elim (fun x => Zj κ 6 61 [(0, .ref (ad 0)), (3, .int v3), (4, .int x.1)] [] (mk M [(10, a_all), (18, x.2)] M.2.1 [(48, s_many), (49, s_tableOf)])) (fun y => Zj κ 6 196 [(0, .ref (ad 0)), (3, .int v3)] [] (mk M [(10, a_all), (18, y)] M.2.1 [(48, s_many), (49, s_tableOf)])) s)) : Zj κ 6 190 [(0, .ref (ad 0)), (3, .int v3), (4, .int v4)] [] (mk M [(10, a_all), (18, a_marks)] M.2.1 [(48, s_many), (49, s_tableOf)]) := by
  unfold fX7_mark_J190 at h
  refine z_iinc (v := (v4 + nI 1)) (lv' := [(4, .int (v4 + nI 1)), (0, .ref (ad 0)), (3, .int v3)]) X dX7_mark_190 2 rfl rfl (by decide) rfl ?_
  refine z_goto (tgt := 61) X dX7_mark_193 (by decide) ?_
  have hq := Option.some.inj h
  subst hq
  exact z_sub [1, 2, 0] rfl hs
set_option maxHeartbeats 4000000 in
theorem jX7_mark_J184 {κ : Rx} {ct : Nat → ClassId} {tF : Nat} {po ad : Nat → Nat} (X : CX κ ct tF cX7_mark 6 RX7) (eR : kR κ = { frames := 5, cells := 0, slots := 0, locals := 116 }) (hw : KM (kw κ) po ad ct) (M : Mm) (a_all : Nat → Int32) (a_marks : Nat → Int32) (s_many : Int32) (s_tableOf : Int32)  (v3 : Int32) (v4 : Int32) (v5 : Int32)  (s : ((Int32 × (Nat → Int32)) ⊕ (Nat → Int32))) (h : fX7_mark_J184 a_all a_marks (M.2.2 40) (M.2.2 41) v3 v4 v5 = some s) (hs : (Sum.elim (fun x => Zj κ 6 135 [(0, .ref (ad 0)), (3, .int v3), (4, .int v4), (5, .int x.1)] [] (mk M [(10, a_all), (18, x.2)] M.2.1 [(48, s_many), (49, s_tableOf)])) (fun y => Zj κ 6 190 [(0, .ref (ad 0)), (3, .int v3), (4, .int v4)] [] (mk M [(10, a_all), (18, y)] M.2.1 [(48, s_many), (49, s_tableOf)])) s)) : Zj κ 6 184 [(0, .ref (ad 0)), (3, .int v3), (4, .int v4), (5, .int v5)] [] (mk M [(10, a_all), (18, a_marks)] M.2.1 [(48, s_many), (49, s_tableOf)]) := by
  unfold fX7_mark_J184 at h
  refine z_iinc (v := (v5 + nI 1)) (lv' := [(5, .int (v5 + nI 1)), (0, .ref (ad 0)), (3, .int v3), (4, .int v4)]) X dX7_mark_184 3 rfl rfl (by decide) rfl ?_
  refine z_goto (tgt := 135) X dX7_mark_187 (by decide) ?_
  have hq := Option.some.inj h
  subst hq
  exact z_sub [1, 2, 3, 0] rfl hs
set_option maxHeartbeats 4000000 in
theorem bX7_mark_B135 {κ : Rx} {ct : Nat → ClassId} {tF : Nat} {po ad : Nat → Nat} (X : CX κ ct tF cX7_mark 6 RX7) (eR : kR κ = { frames := 5, cells := 0, slots := 0, locals := 116 }) (hw : KM (kw κ) po ad ct) (M : Mm) (a_all : Nat → Int32) (s_many : Int32) (s_tableOf : Int32) (v3 : Int32) (v4 : Int32) : ∀ (x : (Int32 × (Nat → Int32))) (s : (Int32 × (Nat → Int32)) ⊕ (Nat → Int32)), fX7_mark_B135 a_all (M.2.2 40) (M.2.2 41) v3 v4 x = some s → Sum.elim (fun x => Zj κ 6 135 [(0, .ref (ad 0)), (3, .int v3), (4, .int v4), (5, .int x.1)] [] (mk M [(10, a_all), (18, x.2)] M.2.1 [(48, s_many), (49, s_tableOf)])) (fun y => Zj κ 6 190 [(0, .ref (ad 0)), (3, .int v3), (4, .int v4)] [] (mk M [(10, a_all), (18, y)] M.2.1 [(48, s_many), (49, s_tableOf)])) s → Zj κ 6 135 [(0, .ref (ad 0)), (3, .int v3), (4, .int v4), (5, .int x.1)] [] (mk M [(10, a_all), (18, x.2)] M.2.1 [(48, s_many), (49, s_tableOf)]) := by
  intro x s h hs
  unfold fX7_mark_B135 at h
  refine z_iload X dX7_mark_135 3 rfl ?_
  refine z_iload X dX7_mark_137 2 rfl ?_
  refine z_icmp_ge (tgt := 190) X dX7_mark_139 (by decide) (fun c139 => ?_) (fun c139 => ?_)
  · rw [if_pos c139] at h
    have hq := Option.some.inj h
    subst hq
    exact z_sub [0, 1, 2] rfl hs
  · rw [if_neg c139] at h
    refine z_aload_n X dX7_mark_142 0 rfl rfl ?_
    refine z_aload_n X dX7_mark_143 0 rfl rfl ?_
    refine z_get (j := 17) (v := .ref (ad 10)) X inX7 rfl (by decide) w_480 (hw.1 _) rfl dX7_mark_144 ?_
    refine z_iload X dX7_mark_147 3 rfl ?_
    obtain ⟨t1, ht1, h⟩ := ob h
    refine z_iald X (hw.2.2.2.2.2.2.2.2.2.2.1 _).1 (rd_ok ht1) dX7_mark_149 ?_
    refine z_aload_n X dX7_mark_150 0 rfl rfl ?_
    refine z_get (j := 1) (v := .int (M.2.2 41)) X inX7 rfl (by decide) w_506 (hw.1 _) rfl dX7_mark_151 ?_
    refine z_aload_n X dX7_mark_154 0 rfl rfl ?_
    refine z_get (j := 17) (v := .ref (ad 10)) X inX7 rfl (by decide) w_480 (hw.1 _) rfl dX7_mark_155 ?_
    refine z_iload X dX7_mark_158 2 rfl ?_
    obtain ⟨t2, ht2, h⟩ := ob h
    refine z_iald X (hw.2.2.2.2.2.2.2.2.2.2.1 _).1 (rd_ok ht2) dX7_mark_160 ?_
    obtain ⟨r3, hr3, h⟩ := ob h
    refine z_cVI (As := [.int t1, .int (M.2.2 41), .int t2]) (st := []) X (tX7_isBetween hw (mk M [(10, a_all), (18, x.2)] M.2.1 [(48, s_many), (49, s_tableOf)]) hr3) w_555 mvX7_isBetween (by rw [eR]; exact ⟨Nat.le_of_ble_eq_true rfl, Nat.le_of_ble_eq_true rfl⟩) ⟨rfl, rfl⟩ rfl (Nat.le_of_ble_eq_true rfl) (hw.1 _) rfl rfl dX7_mark_161 ?_
    refine z_if_eq (tgt := 184) X dX7_mark_164 (by decide) (fun c164 => ?_) (fun c164 => ?_)
    · rw [if_pos c164] at h
      exact (jX7_mark_J184 X eR hw M a_all x.2 s_many s_tableOf v3 v4 x.1 _ h hs)
    · rw [if_neg c164] at h
      refine z_aload_n X dX7_mark_167 0 rfl rfl ?_
      refine z_get (j := 28) (v := .ref (ad 18)) X inX7 rfl (by decide) w_574 (hw.1 _) rfl dX7_mark_168 ?_
      refine z_iload X dX7_mark_171 2 rfl ?_
      refine z_dup2 X dX7_mark_173 rfl rfl ?_
      obtain ⟨t4, ht4, h⟩ := ob h
      refine z_iald X (hw.2.2.2.2.2.2.2.2.2.2.2.2.2.2.2.2.2.2.1 _).1 (rd_ok ht4) dX7_mark_174 ?_
      refine z_aload_n X dX7_mark_175 0 rfl rfl ?_
      refine z_get (j := 28) (v := .ref (ad 18)) X inX7 rfl (by decide) w_574 (hw.1 _) rfl dX7_mark_176 ?_
      refine z_iload X dX7_mark_179 3 rfl ?_
      obtain ⟨t5, ht5, h⟩ := ob h
      refine z_iald X (hw.2.2.2.2.2.2.2.2.2.2.2.2.2.2.2.2.2.2.1 _).1 (rd_ok ht5) dX7_mark_181 ?_
      refine z_isub X dX7_mark_182 ?_
      obtain ⟨u6, hu6, h⟩ := ob h
      refine z_iast (M' := (mk M [(10, a_all), (18, u6)] M.2.1 [(48, s_many), (49, s_tableOf)])) X (hw.2.2.2.2.2.2.2.2.2.2.2.2.2.2.2.2.2.2.1 _).1 (wr_ok hu6) (mk_set1 (l' := [(10, a_all), (18, u6)]) (hw.2.2.2.2.2.2.2.2.2.2.2.2.2.2.2.2.2.2.1) rfl rfl) dX7_mark_183 ?_
      exact (jX7_mark_J184 X eR hw M a_all u6 s_many s_tableOf v3 v4 x.1 _ h hs)
set_option maxHeartbeats 4000000 in
theorem jX7_mark_J95 {κ : Rx} {ct : Nat → ClassId} {tF : Nat} {po ad : Nat → Nat} (X : CX κ ct tF cX7_mark 6 RX7) (eR : kR κ = { frames := 5, cells := 0, slots := 0, locals := 116 }) (hw : KM (kw κ) po ad ct) (M : Mm) (a_all : Nat → Int32) (a_marks : Nat → Int32) (s_many : Int32) (s_tableOf : Int32)  (v3 : Int32) (v4 : Int32) (k0 : Int32) (k1 : Int32) (s : ((Int32 × (Nat → Int32)) ⊕ (Nat → Int32))) (h : fX7_mark_J95 a_all a_marks (M.2.2 40) (M.2.2 41) s_many v3 v4 k0 k1 = some s) (hs : (Sum.elim (fun x => Zj κ 6 61 [(0, .ref (ad 0)), (3, .int v3), (4, .int x.1)] [] (mk M [(10, a_all), (18, x.2)] M.2.1 [(48, s_many), (49, s_tableOf)])) (fun y => Zj κ 6 196 [(0, .ref (ad 0)), (3, .int v3)] [] (mk M [(10, a_all), (18, y)] M.2.1 [(48, s_many), (49, s_tableOf)])) s)) : Zj κ 6 95 [(0, .ref (ad 0)), (3, .int v3), (4, .int v4)] [.int k0, .int k1, .ref (ad 18)] (mk M [(10, a_all), (18, a_marks)] M.2.1 [(48, s_many), (49, s_tableOf)]) := by
  unfold fX7_mark_J95 at h
  obtain ⟨u1, hu1, h⟩ := ob h
  refine z_iast (M' := (mk M [(10, a_all), (18, u1)] M.2.1 [(48, s_many), (49, s_tableOf)])) X (hw.2.2.2.2.2.2.2.2.2.2.2.2.2.2.2.2.2.2.1 _).1 (wr_ok hu1) (mk_set1 (l' := [(10, a_all), (18, u1)]) (hw.2.2.2.2.2.2.2.2.2.2.2.2.2.2.2.2.2.2.1) rfl rfl) dX7_mark_95 ?_
  refine z_aload_n X dX7_mark_96 0 rfl rfl ?_
  refine z_get (j := 17) (v := .ref (ad 10)) X inX7 rfl (by decide) w_480 (hw.1 _) rfl dX7_mark_97 ?_
  refine z_iload X dX7_mark_100 2 rfl ?_
  obtain ⟨t2, ht2, h⟩ := ob h
  refine z_iald X (hw.2.2.2.2.2.2.2.2.2.2.1 _).1 (rd_ok ht2) dX7_mark_102 ?_
  refine z_aload_n X dX7_mark_103 0 rfl rfl ?_
  refine z_get (j := 1) (v := .int (M.2.2 41)) X inX7 rfl (by decide) w_506 (hw.1 _) rfl dX7_mark_104 ?_
  refine z_icmp_eq (tgt := 190) X dX7_mark_107 (by decide) (fun c107 => ?_) (fun c107 => ?_)
  · rw [if_pos c107] at h
    exact (jX7_mark_J190 X eR hw M a_all u1 s_many s_tableOf v3 v4 _ h hs)
  · rw [if_neg c107] at h
    refine z_aload_n X dX7_mark_110 0 rfl rfl ?_
    refine z_aload_n X dX7_mark_111 0 rfl rfl ?_
    refine z_get (j := 17) (v := .ref (ad 10)) X inX7 rfl (by decide) w_480 (hw.1 _) rfl dX7_mark_112 ?_
    refine z_iload X dX7_mark_115 2 rfl ?_
    obtain ⟨t3, ht3, h⟩ := ob h
    refine z_iald X (hw.2.2.2.2.2.2.2.2.2.2.1 _).1 (rd_ok ht3) dX7_mark_117 ?_
    refine z_aload_n X dX7_mark_118 0 rfl rfl ?_
    refine z_get (j := 1) (v := .int (M.2.2 41)) X inX7 rfl (by decide) w_506 (hw.1 _) rfl dX7_mark_119 ?_
    refine z_iload_n X dX7_mark_122 1 rfl rfl ?_
    obtain ⟨r4, hr4, h⟩ := ob h
    refine z_cVI (As := [.int t3, .int (M.2.2 41), .int v3]) (st := []) X (tX7_isBetween hw (mk M [(10, a_all), (18, u1)] M.2.1 [(48, s_many), (49, s_tableOf)]) hr4) w_555 mvX7_isBetween (by rw [eR]; exact ⟨Nat.le_of_ble_eq_true rfl, Nat.le_of_ble_eq_true rfl⟩) ⟨rfl, rfl⟩ rfl (Nat.le_of_ble_eq_true rfl) (hw.1 _) rfl rfl dX7_mark_123 ?_
    refine z_if_ne (tgt := 132) X dX7_mark_126 (by decide) (fun c126 => ?_) (fun c126 => ?_)
    · rw [if_neg c126] at h
      refine z_iconst (v := (nI 0)) X dX7_mark_132 (by decide) ?_
      refine z_istore (lv' := [(5, .int (nI 0)), (0, .ref (ad 0)), (3, .int v3), (4, .int v4)]) X dX7_mark_133 (by decide) rfl ?_
      refine z_sub [1, 2, 3, 0] rfl ?_
      obtain ⟨y5, hy5, h⟩ := ob h
      refine (it_Z (bX7_mark_B135 X eR hw M a_all s_many s_tableOf v3 v4) FU _ y5 hy5) ?_
      exact (jX7_mark_J190 X eR hw M a_all y5 s_many s_tableOf v3 v4 _ h hs)
    · rw [if_pos c126] at h
      refine z_goto (tgt := 190) X dX7_mark_129 (by decide) ?_
      exact (jX7_mark_J190 X eR hw M a_all u1 s_many s_tableOf v3 v4 _ h hs)
set_option maxHeartbeats 4000000 in
theorem bX7_mark_B61 {κ : Rx} {ct : Nat → ClassId} {tF : Nat} {po ad : Nat → Nat} (X : CX κ ct tF cX7_mark 6 RX7) (eR : kR κ = { frames := 5, cells := 0, slots := 0, locals := 116 }) (hw : KM (kw κ) po ad ct) (M : Mm) (a_all : Nat → Int32) (s_many : Int32) (s_tableOf : Int32) (v3 : Int32) : ∀ (x : (Int32 × (Nat → Int32))) (s : (Int32 × (Nat → Int32)) ⊕ (Nat → Int32)), fX7_mark_B61 a_all (M.2.2 40) (M.2.2 41) s_many v3 x = some s → Sum.elim (fun x => Zj κ 6 61 [(0, .ref (ad 0)), (3, .int v3), (4, .int x.1)] [] (mk M [(10, a_all), (18, x.2)] M.2.1 [(48, s_many), (49, s_tableOf)])) (fun y => Zj κ 6 196 [(0, .ref (ad 0)), (3, .int v3)] [] (mk M [(10, a_all), (18, y)] M.2.1 [(48, s_many), (49, s_tableOf)])) s → Zj κ 6 61 [(0, .ref (ad 0)), (3, .int v3), (4, .int x.1)] [] (mk M [(10, a_all), (18, x.2)] M.2.1 [(48, s_many), (49, s_tableOf)]) := by
  intro x s h hs
  unfold fX7_mark_B61 at h
  refine z_iload X dX7_mark_61 2 rfl ?_
  refine z_aload_n X dX7_mark_63 0 rfl rfl ?_
  refine z_get (j := 18) (v := .int s_many) X inX7 rfl (by decide) w_476 (hw.1 _) rfl dX7_mark_64 ?_
  refine z_icmp_ge (tgt := 196) X dX7_mark_67 (by decide) (fun c67 => ?_) (fun c67 => ?_)
  · rw [if_pos c67] at h
    have hq := Option.some.inj h
    subst hq
    exact z_sub [0, 1] rfl hs
  · rw [if_neg c67] at h
    refine z_aload_n X dX7_mark_70 0 rfl rfl ?_
    refine z_get (j := 28) (v := .ref (ad 18)) X inX7 rfl (by decide) w_574 (hw.1 _) rfl dX7_mark_71 ?_
    refine z_iload X dX7_mark_74 2 rfl ?_
    refine z_aload_n X dX7_mark_76 0 rfl rfl ?_
    refine z_get (j := 17) (v := .ref (ad 10)) X inX7 rfl (by decide) w_480 (hw.1 _) rfl dX7_mark_77 ?_
    refine z_iload X dX7_mark_80 2 rfl ?_
    obtain ⟨t1, ht1, h⟩ := ob h
    refine z_iald X (hw.2.2.2.2.2.2.2.2.2.2.1 _).1 (rd_ok ht1) dX7_mark_82 ?_
    refine z_aload_n X dX7_mark_83 0 rfl rfl ?_
    refine z_get (j := 1) (v := .int (M.2.2 41)) X inX7 rfl (by decide) w_506 (hw.1 _) rfl dX7_mark_84 ?_
    refine z_icmp_ne (tgt := 94) X dX7_mark_87 (by decide) (fun c87 => ?_) (fun c87 => ?_)
    · rw [if_neg c87] at h
      refine z_iconst (v := (nI 0)) X dX7_mark_94 (by decide) ?_
      exact (jX7_mark_J95 X eR hw M a_all x.2 s_many s_tableOf v3 x.1 (nI 0) x.1 _ h hs)
    · rw [if_pos c87] at h
      refine z_iconst (v := (nI 1)) X dX7_mark_90 (by decide) ?_
      refine z_goto (tgt := 95) X dX7_mark_91 (by decide) ?_
      exact (jX7_mark_J95 X eR hw M a_all x.2 s_many s_tableOf v3 x.1 (nI 1) x.1 _ h hs)
set_option maxHeartbeats 4000000 in
theorem tX7_mark {l : Launch} {D : va_G} {ct : Nat → ClassId} {tF : Nat} {wOf : Mm → va_W} {po ad : Nat → Nat} (hw : KM wOf po ad ct) (M : Mm) {v1 : Int32} {r : (Int32 × (Nat → Int32) × (Nat → Int32) × Int32 × Int32)} (h : fX7_mark (M.1 1) (M.1 2) (M.1 10) (M.1 18) (M.2.2 40) (M.2.2 41) (M.2.2 48) (M.2.2 49) v1 = some r) : CtI l yX7_mark cX7_mark 6 .int { frames := 5, cells := 0, slots := 0, locals := 116 } D ct tF wOf [.ref (ad 0), .int v1] M r.1 (mk M [(10, r.2.1), (18, r.2.2.1)] M.2.1 [(48, r.2.2.2.1), (49, r.2.2.2.2)]) := by
  refine metI (by decide) (Nat.le_of_ble_eq_true rfl) fun κ X e1 eR e3 e4 hs => ?_
  subst e1; subst e3; subst e4
  unfold fX7_mark at h
  refine z_mem (mk_self M [10, 18] [48, 49]) ?_
  refine z_sub (lv' := [(0, .ref (ad 0)), (1, .int v1)]) [0, 1] rfl ?_
  show Zj κ 6 0 _ _ (mk M [(10, (M.1 10)), (18, (M.1 18))] M.2.1 [(48, (M.2.2 48)), (49, (M.2.2 49))])
  refine z_iload_n X dX7_mark_0 1 rfl rfl ?_
  obtain ⟨r1, hr1, h⟩ := ob h
  refine z_cSI (As := [.int v1]) (st := []) X (tX7_isShelf hw (mk M [(10, (M.1 10)), (18, (M.1 18))] M.2.1 [(48, (M.2.2 48)), (49, (M.2.2 49))]) hr1) w_540 msX7_isShelf (by rw [eR]; exact ⟨Nat.le_of_ble_eq_true rfl, Nat.le_of_ble_eq_true rfl⟩) ⟨rfl, rfl⟩ rfl (Nat.le_of_ble_eq_true rfl) rfl dX7_mark_1 ?_
  refine z_if_ne (tgt := 10) X dX7_mark_4 (by decide) (fun c4 => ?_) (fun c4 => ?_)
  · rw [if_neg c4] at h
    refine z_aload_n X dX7_mark_10 0 rfl rfl ?_
    refine z_iload_n X dX7_mark_11 1 rfl rfl ?_
    obtain ⟨r2, hr2, h⟩ := ob h
    refine z_cVI (As := [.int v1]) (st := []) X (tX7_barOf hw (mk M [(10, (M.1 10)), (18, (M.1 18))] M.2.1 [(48, (M.2.2 48)), (49, (M.2.2 49))]) hr2) w_543 mvX7_barOf (by rw [eR]; exact ⟨Nat.le_of_ble_eq_true rfl, Nat.le_of_ble_eq_true rfl⟩) ⟨rfl, rfl⟩ rfl (Nat.le_of_ble_eq_true rfl) (hw.1 _) rfl rfl dX7_mark_12 ?_
    refine z_istore_n (lv' := [(2, .int r2), (0, .ref (ad 0)), (1, .int v1)]) X dX7_mark_15 rfl (by decide) rfl ?_
    refine z_iload_n X dX7_mark_16 0 rfl rfl ?_
    refine z_if_eq (tgt := 25) X dX7_mark_17 (by decide) (fun c17 => ?_) (fun c17 => ?_)
    · rw [if_pos c17] at h
      refine z_aload_n X dX7_mark_25 1 rfl rfl ?_
      refine z_get (j := 3) (v := .ref (ad 2)) X inX7 rfl (by decide) w_547 (hw.1 _) rfl dX7_mark_26 ?_
      refine z_iload_n X dX7_mark_29 2 rfl rfl ?_
      obtain ⟨t3, ht3, h⟩ := ob h
      refine z_iald X (hw.2.2.1 _).1 (rd_ok ht3) dX7_mark_30 ?_
      refine z_istore_n (lv' := [(3, .int t3), (2, .int r2), (0, .ref (ad 0)), (1, .int v1)]) X dX7_mark_31 rfl (by decide) rfl ?_
      refine z_aload_n X dX7_mark_32 2 rfl rfl ?_
      refine z_get (j := 1) (v := .int (M.2.2 41)) X inX7 rfl (by decide) w_506 (hw.1 _) rfl dX7_mark_33 ?_
      refine z_iload_n X dX7_mark_36 0 rfl rfl ?_
      refine z_aload_n X dX7_mark_37 2 rfl rfl ?_
      refine z_get (j := 0) (v := .int (M.2.2 40)) X inX7 rfl (by decide) w_502 (hw.1 _) rfl dX7_mark_38 ?_
      obtain ⟨r4, hr4, h⟩ := ob h
      refine z_cSI (As := [.int (M.2.2 41), .int t3, .int (M.2.2 40)]) (st := []) X (tX7_isBelow hw (mk M [(10, (M.1 10)), (18, (M.1 18))] M.2.1 [(48, (M.2.2 48)), (49, (M.2.2 49))]) hr4) w_548 msX7_isBelow (by rw [eR]; exact ⟨Nat.le_of_ble_eq_true rfl, Nat.le_of_ble_eq_true rfl⟩) ⟨rfl, rfl⟩ rfl (Nat.le_of_ble_eq_true rfl) rfl dX7_mark_41 ?_
      refine z_if_ne (tgt := 50) X dX7_mark_44 (by decide) (fun c44 => ?_) (fun c44 => ?_)
      · rw [if_neg c44] at h
        refine z_aload_n X dX7_mark_50 2 rfl rfl ?_
        refine z_aload_n X dX7_mark_51 2 rfl rfl ?_
        refine z_get (j := 0) (v := .int (M.2.2 40)) X inX7 rfl (by decide) w_502 (hw.1 _) rfl dX7_mark_52 ?_
        obtain ⟨r5, hr5, h⟩ := ob h
        refine z_cVV (As := [.int (M.2.2 40)]) (st := []) X (tX7_table hw (mk M [(10, (M.1 10)), (18, (M.1 18))] M.2.1 [(48, (M.2.2 48)), (49, (M.2.2 49))]) hr5) w_481 mvX7_table (by rw [eR]; exact ⟨Nat.le_of_ble_eq_true rfl, Nat.le_of_ble_eq_true rfl⟩) ⟨rfl, rfl⟩ rfl (Nat.le_of_ble_eq_true rfl) (hw.1 _) rfl rfl dX7_mark_55 ?_
        refine z_mem (mk_mk (l' := [(10, r5.1), (18, (M.1 18))]) (sl' := [(48, r5.2.1), (49, r5.2.2)]) rfl rfl rfl rfl) ?_
        refine z_iconst (v := (nI 0)) X dX7_mark_58 (by decide) ?_
        refine z_istore (lv' := [(4, .int (nI 0)), (3, .int t3), (2, .int r2), (0, .ref (ad 0)), (1, .int v1)]) X dX7_mark_59 (by decide) rfl ?_
        refine z_sub [3, 1, 0] rfl ?_
        obtain ⟨y6, hy6, h⟩ := ob h
        refine (it_Z (bX7_mark_B61 X eR hw M r5.1 r5.2.1 r5.2.2 t3) FU _ y6 hy6) ?_
        refine z_aload_n X dX7_mark_196 0 rfl rfl ?_
        refine z_get (j := 28) (v := .ref (ad 18)) X inX7 rfl (by decide) w_574 (hw.1 _) rfl dX7_mark_197 ?_
        refine z_aload_n X dX7_mark_200 0 rfl rfl ?_
        refine z_iload_n X dX7_mark_201 1 rfl rfl ?_
        refine z_aload_n X dX7_mark_202 0 rfl rfl ?_
        refine z_get (j := 0) (v := .int (M.2.2 40)) X inX7 rfl (by decide) w_502 (hw.1 _) rfl dX7_mark_203 ?_
        obtain ⟨r7, hr7, h⟩ := ob h
        refine z_cVI (As := [.int t3, .int (M.2.2 40)]) (st := [.ref (ad 18)]) X (tX7_numberOf hw (mk M [(10, r5.1), (18, y6)] M.2.1 [(48, r5.2.1), (49, r5.2.2)]) hr7) w_508 mvX7_numberOf (by rw [eR]; exact ⟨Nat.le_of_ble_eq_true rfl, Nat.le_of_ble_eq_true rfl⟩) ⟨rfl, rfl⟩ rfl (Nat.le_of_ble_eq_true rfl) (hw.1 _) rfl rfl dX7_mark_206 ?_
        refine z_mem (mk_mk (l' := [(10, r7.2.1), (18, y6)]) (sl' := [(48, r7.2.2.1), (49, r7.2.2.2)]) rfl rfl rfl rfl) ?_
        obtain ⟨t8, ht8, h⟩ := ob h
        refine z_iald X (hw.2.2.2.2.2.2.2.2.2.2.2.2.2.2.2.2.2.2.1 _).1 (rd_ok ht8) dX7_mark_209 ?_
        have hq := Option.some.inj h
        subst hq
        exact z_iret hs dX7_mark_210 rfl
      · rw [if_pos c44] at h
        refine z_bipush (v := (-95 : Int32)) X dX7_mark_47 (by decide) ?_
        have hq := Option.some.inj h
        subst hq
        exact z_iret hs dX7_mark_49 rfl
    · rw [if_neg c17] at h
      refine z_bipush (v := (-100 : Int32)) X dX7_mark_20 (by decide) ?_
      refine z_iload_n X dX7_mark_22 0 rfl rfl ?_
      refine z_isub X dX7_mark_23 ?_
      have hq := Option.some.inj h
      subst hq
      exact z_iret hs dX7_mark_24 rfl
  · rw [if_pos c4] at h
    refine z_bipush (v := (-99 : Int32)) X dX7_mark_7 (by decide) ?_
    have hq := Option.some.inj h
    subst hq
    exact z_iret hs dX7_mark_9 rfl
set_option maxHeartbeats 4000000 in
theorem jX7_pairs_J67 {κ : Rx} {ct : Nat → ClassId} {tF : Nat} {po ad : Nat → Nat} (X : CX κ ct tF cX7_pairs 5 RX7) (eR : kR κ = { frames := 4, cells := 0, slots := 0, locals := 93 }) (hw : KM (kw κ) po ad ct) (M : Mm) (a_all : Nat → Int32) (s_many : Int32) (s_tableOf : Int32)  (v1 : Int32) (v2 : Int32) (v3 : Int32) (v4 : Int32)  (s : ((Int32 × Int32) ⊕ Int32)) (h : fX7_pairs_J67 a_all s_many v1 v2 v3 v4 = some s) (hs : (Sum.elim (fun x => Zj κ 5 35 [(0, .ref (ad 0)), (1, .int v1), (2, .int x.1), (3, .int v3), (4, .int x.2)] [] (mk M [(10, a_all)] M.2.1 [(48, s_many), (49, s_tableOf)])) (fun y => Zj κ 5 73 [(0, .ref (ad 0)), (1, .int v1), (2, .int y), (3, .int v3)] [] (mk M [(10, a_all)] M.2.1 [(48, s_many), (49, s_tableOf)])) s)) : Zj κ 5 67 [(0, .ref (ad 0)), (1, .int v1), (2, .int v2), (3, .int v3), (4, .int v4)] [] (mk M [(10, a_all)] M.2.1 [(48, s_many), (49, s_tableOf)]) := by
  unfold fX7_pairs_J67 at h
  refine z_iinc (v := (v4 + nI 1)) (lv' := [(4, .int (v4 + nI 1)), (0, .ref (ad 0)), (1, .int v1), (2, .int v2), (3, .int v3)]) X dX7_pairs_67 4 rfl rfl (by decide) rfl ?_
  refine z_goto (tgt := 35) X dX7_pairs_70 (by decide) ?_
  have hq := Option.some.inj h
  subst hq
  exact z_sub [1, 2, 3, 4, 0] rfl hs
set_option maxHeartbeats 4000000 in
theorem bX7_pairs_B35 {κ : Rx} {ct : Nat → ClassId} {tF : Nat} {po ad : Nat → Nat} (X : CX κ ct tF cX7_pairs 5 RX7) (eR : kR κ = { frames := 4, cells := 0, slots := 0, locals := 93 }) (hw : KM (kw κ) po ad ct) (M : Mm) (a_all : Nat → Int32) (s_many : Int32) (s_tableOf : Int32) (v1 : Int32) (v3 : Int32) : ∀ (x : (Int32 × Int32)) (s : (Int32 × Int32) ⊕ Int32), fX7_pairs_B35 a_all s_many v1 v3 x = some s → Sum.elim (fun x => Zj κ 5 35 [(0, .ref (ad 0)), (1, .int v1), (2, .int x.1), (3, .int v3), (4, .int x.2)] [] (mk M [(10, a_all)] M.2.1 [(48, s_many), (49, s_tableOf)])) (fun y => Zj κ 5 73 [(0, .ref (ad 0)), (1, .int v1), (2, .int y), (3, .int v3)] [] (mk M [(10, a_all)] M.2.1 [(48, s_many), (49, s_tableOf)])) s → Zj κ 5 35 [(0, .ref (ad 0)), (1, .int v1), (2, .int x.1), (3, .int v3), (4, .int x.2)] [] (mk M [(10, a_all)] M.2.1 [(48, s_many), (49, s_tableOf)]) := by
  intro x s h hs
  unfold fX7_pairs_B35 at h
  refine z_iload X dX7_pairs_35 4 rfl ?_
  refine z_aload_n X dX7_pairs_37 0 rfl rfl ?_
  refine z_get (j := 18) (v := .int s_many) X inX7 rfl (by decide) w_476 (hw.1 _) rfl dX7_pairs_38 ?_
  refine z_icmp_ge (tgt := 73) X dX7_pairs_41 (by decide) (fun c41 => ?_) (fun c41 => ?_)
  · rw [if_pos c41] at h
    have hq := Option.some.inj h
    subst hq
    exact z_sub [0, 1, 2, 3] rfl hs
  · rw [if_neg c41] at h
    refine z_aload_n X dX7_pairs_44 0 rfl rfl ?_
    refine z_get (j := 17) (v := .ref (ad 10)) X inX7 rfl (by decide) w_480 (hw.1 _) rfl dX7_pairs_45 ?_
    refine z_iload_n X dX7_pairs_48 3 rfl rfl ?_
    obtain ⟨t1, ht1, h⟩ := ob h
    refine z_iald X (hw.2.2.2.2.2.2.2.2.2.2.1 _).1 (rd_ok ht1) dX7_pairs_49 ?_
    refine z_aload_n X dX7_pairs_50 0 rfl rfl ?_
    refine z_get (j := 17) (v := .ref (ad 10)) X inX7 rfl (by decide) w_480 (hw.1 _) rfl dX7_pairs_51 ?_
    refine z_iload X dX7_pairs_54 4 rfl ?_
    obtain ⟨t2, ht2, h⟩ := ob h
    refine z_iald X (hw.2.2.2.2.2.2.2.2.2.2.1 _).1 (rd_ok ht2) dX7_pairs_56 ?_
    refine z_iload_n X dX7_pairs_57 1 rfl rfl ?_
    obtain ⟨r3, hr3, h⟩ := ob h
    refine z_cSI (As := [.int t1, .int t2, .int v1]) (st := []) X (tX7_isBelow hw (mk M [(10, a_all)] M.2.1 [(48, s_many), (49, s_tableOf)]) hr3) w_548 msX7_isBelow (by rw [eR]; exact ⟨Nat.le_of_ble_eq_true rfl, Nat.le_of_ble_eq_true rfl⟩) ⟨rfl, rfl⟩ rfl (Nat.le_of_ble_eq_true rfl) rfl dX7_pairs_58 ?_
    refine z_if_eq (tgt := 67) X dX7_pairs_61 (by decide) (fun c61 => ?_) (fun c61 => ?_)
    · rw [if_pos c61] at h
      exact (jX7_pairs_J67 X eR hw M a_all s_many s_tableOf v1 x.1 v3 x.2 _ h hs)
    · rw [if_neg c61] at h
      refine z_iinc (v := (x.1 + nI 1)) (lv' := [(2, .int (x.1 + nI 1)), (0, .ref (ad 0)), (1, .int v1), (3, .int v3), (4, .int x.2)]) X dX7_pairs_64 2 rfl rfl (by decide) rfl ?_
      exact z_sub [1, 2, 0, 3, 4] rfl (jX7_pairs_J67 X eR hw M a_all s_many s_tableOf v1 (x.1 + nI 1) v3 x.2 _ h hs)
set_option maxHeartbeats 4000000 in
theorem bX7_pairs_B24 {κ : Rx} {ct : Nat → ClassId} {tF : Nat} {po ad : Nat → Nat} (X : CX κ ct tF cX7_pairs 5 RX7) (eR : kR κ = { frames := 4, cells := 0, slots := 0, locals := 93 }) (hw : KM (kw κ) po ad ct) (M : Mm) (a_all : Nat → Int32) (s_many : Int32) (s_tableOf : Int32) (v1 : Int32) : ∀ (x : (Int32 × Int32)) (s : (Int32 × Int32) ⊕ Int32), fX7_pairs_B24 a_all s_many v1 x = some s → Sum.elim (fun x => Zj κ 5 24 [(0, .ref (ad 0)), (1, .int v1), (2, .int x.1), (3, .int x.2)] [] (mk M [(10, a_all)] M.2.1 [(48, s_many), (49, s_tableOf)])) (fun y => Zj κ 5 79 [(2, .int y)] [] (mk M [(10, a_all)] M.2.1 [(48, s_many), (49, s_tableOf)])) s → Zj κ 5 24 [(0, .ref (ad 0)), (1, .int v1), (2, .int x.1), (3, .int x.2)] [] (mk M [(10, a_all)] M.2.1 [(48, s_many), (49, s_tableOf)]) := by
  intro x s h hs
  unfold fX7_pairs_B24 at h
  refine z_iload_n X dX7_pairs_24 3 rfl rfl ?_
  refine z_aload_n X dX7_pairs_25 0 rfl rfl ?_
  refine z_get (j := 18) (v := .int s_many) X inX7 rfl (by decide) w_476 (hw.1 _) rfl dX7_pairs_26 ?_
  refine z_icmp_ge (tgt := 79) X dX7_pairs_29 (by decide) (fun c29 => ?_) (fun c29 => ?_)
  · rw [if_pos c29] at h
    have hq := Option.some.inj h
    subst hq
    exact z_sub [2] rfl hs
  · rw [if_neg c29] at h
    refine z_iload_n X dX7_pairs_32 3 rfl rfl ?_
    refine z_istore (lv' := [(4, .int x.2), (0, .ref (ad 0)), (1, .int v1), (2, .int x.1), (3, .int x.2)]) X dX7_pairs_33 (by decide) rfl ?_
    refine z_sub [1, 2, 3, 4, 0] rfl ?_
    obtain ⟨y1, hy1, h⟩ := ob h
    refine (it_Z (bX7_pairs_B35 X eR hw M a_all s_many s_tableOf v1 x.2) FU _ y1 hy1) ?_
    refine z_iinc (v := (x.2 + nI 1)) (lv' := [(3, .int (x.2 + nI 1)), (0, .ref (ad 0)), (1, .int v1), (2, .int y1)]) X dX7_pairs_73 3 rfl rfl (by decide) rfl ?_
    refine z_goto (tgt := 24) X dX7_pairs_76 (by decide) ?_
    have hq := Option.some.inj h
    subst hq
    exact z_sub [1, 2, 3, 0] rfl hs
set_option maxHeartbeats 4000000 in
theorem tX7_pairs {l : Launch} {D : va_G} {ct : Nat → ClassId} {tF : Nat} {wOf : Mm → va_W} {po ad : Nat → Nat} (hw : KM wOf po ad ct) (M : Mm) {v1 : Int32} {r : (Int32 × (Nat → Int32) × Int32 × Int32)} (h : fX7_pairs (M.1 10) (M.2.2 48) (M.2.2 49) v1 = some r) : CtI l yX7_pairs cX7_pairs 5 .int { frames := 4, cells := 0, slots := 0, locals := 93 } D ct tF wOf [.ref (ad 0), .int v1] M r.1 (mk M [(10, r.2.1)] M.2.1 [(48, r.2.2.1), (49, r.2.2.2)]) := by
  refine metI (by decide) (Nat.le_of_ble_eq_true rfl) fun κ X e1 eR e3 e4 hs => ?_
  subst e1; subst e3; subst e4
  unfold fX7_pairs at h
  refine z_mem (mk_self M [10] [48, 49]) ?_
  refine z_sub (lv' := [(0, .ref (ad 0)), (1, .int v1)]) [0, 1] rfl ?_
  show Zj κ 5 0 _ _ (mk M [(10, (M.1 10))] M.2.1 [(48, (M.2.2 48)), (49, (M.2.2 49))])
  refine z_iload_n X dX7_pairs_0 1 rfl rfl ?_
  refine z_i2l X dX7_pairs_1 ?_
  refine z_lconst (v := (1 : Int64)) X dX7_pairs_2 (by decide) ?_
  refine z_ldc2 X w_575 dX7_pairs_3 ?_
  obtain ⟨r1, hr1, h⟩ := ob h
  refine z_cSI (As := [.long (v1.toInt64), .long (1 : Int64), .long (6 : Int64)]) (st := []) X (tX7_in hw (mk M [(10, (M.1 10))] M.2.1 [(48, (M.2.2 48)), (49, (M.2.2 49))]) hr1) w_472 msX7_in (by rw [eR]; exact ⟨Nat.le_of_ble_eq_true rfl, Nat.le_of_ble_eq_true rfl⟩) ⟨rfl, rfl⟩ rfl (Nat.le_of_ble_eq_true rfl) rfl dX7_pairs_6 ?_
  refine z_if_ne (tgt := 15) X dX7_pairs_9 (by decide) (fun c9 => ?_) (fun c9 => ?_)
  · rw [if_neg c9] at h
    refine z_aload_n X dX7_pairs_15 0 rfl rfl ?_
    refine z_iload_n X dX7_pairs_16 1 rfl rfl ?_
    obtain ⟨r2, hr2, h⟩ := ob h
    refine z_cVV (As := [.int v1]) (st := []) X (tX7_table hw (mk M [(10, (M.1 10))] M.2.1 [(48, (M.2.2 48)), (49, (M.2.2 49))]) hr2) w_481 mvX7_table (by rw [eR]; exact ⟨Nat.le_of_ble_eq_true rfl, Nat.le_of_ble_eq_true rfl⟩) ⟨rfl, rfl⟩ rfl (Nat.le_of_ble_eq_true rfl) (hw.1 _) rfl rfl dX7_pairs_17 ?_
    refine z_mem (mk_mk (l' := [(10, r2.1)]) (sl' := [(48, r2.2.1), (49, r2.2.2)]) rfl rfl rfl rfl) ?_
    refine z_iconst (v := (nI 0)) X dX7_pairs_20 (by decide) ?_
    refine z_istore_n (lv' := [(2, .int (nI 0)), (0, .ref (ad 0)), (1, .int v1)]) X dX7_pairs_21 rfl (by decide) rfl ?_
    refine z_iconst (v := (nI 0)) X dX7_pairs_22 (by decide) ?_
    refine z_istore_n (lv' := [(3, .int (nI 0)), (2, .int (nI 0)), (0, .ref (ad 0)), (1, .int v1)]) X dX7_pairs_23 rfl (by decide) rfl ?_
    refine z_sub [2, 3, 1, 0] rfl ?_
    obtain ⟨y3, hy3, h⟩ := ob h
    refine (it_Z (bX7_pairs_B24 X eR hw M r2.1 r2.2.1 r2.2.2 v1) FU _ y3 hy3) ?_
    refine z_iload_n X dX7_pairs_79 0 rfl rfl ?_
    have hq := Option.some.inj h
    subst hq
    exact z_iret hs dX7_pairs_80 rfl
  · rw [if_pos c9] at h
    refine z_bipush (v := (-2 : Int32)) X dX7_pairs_12 (by decide) ?_
    have hq := Option.some.inj h
    subst hq
    exact z_iret hs dX7_pairs_14 rfl
set_option maxHeartbeats 4000000 in
theorem jX7_far_J90 {κ : Rx} {ct : Nat → ClassId} {tF : Nat} {po ad : Nat → Nat} (X : CX κ ct tF cX7_far 6 RX7) (eR : kR κ = { frames := 22, cells := 0, slots := 0, locals := 2195 }) (hw : KM (kw κ) po ad ct) (M : Mm) (a_all : Nat → Int32) (a_parent : Nat → Int32) (a_left : Nat → Int32) (a_right : Nat → Int32) (a_leftSize : Nat → Int32) (a_above : Nat → Int32) (a_dist : Nat → Int32) (a_queue : Nat → Int32) (s_many : Int32) (s_tableOf : Int32) (s_read : Int32)  (v1 : Int32) (v2 : Int32) (v3 : Int32) (v4 : Int32) (v5 : Int32)  (s : ((Int32 × Int32 × Int32 × Int32) ⊕ (Int32 × Int32 × Int32))) (h : fX7_far_J90 a_dist s_many v1 v2 v3 v4 v5 = some s) (hs : (Sum.elim (fun x => Zj κ 6 33 [(0, .ref (ad 0)), (1, .int v1), (2, .int x.1), (3, .int x.2.1), (4, .int x.2.2.1), (5, .int x.2.2.2)] [] (mk M [(10, a_all), (11, a_parent), (12, a_left), (13, a_right), (14, a_leftSize), (15, a_above), (16, a_dist), (17, a_queue)] M.2.1 [(48, s_many), (49, s_tableOf), (50, s_read)])) (fun y => Zj κ 6 96 [(1, .int v1), (2, .int y.1), (3, .int y.2.1), (4, .int y.2.2)] [] (mk M [(10, a_all), (11, a_parent), (12, a_left), (13, a_right), (14, a_leftSize), (15, a_above), (16, a_dist), (17, a_queue)] M.2.1 [(48, s_many), (49, s_tableOf), (50, s_read)])) s)) : Zj κ 6 90 [(0, .ref (ad 0)), (1, .int v1), (2, .int v2), (3, .int v3), (4, .int v4), (5, .int v5)] [] (mk M [(10, a_all), (11, a_parent), (12, a_left), (13, a_right), (14, a_leftSize), (15, a_above), (16, a_dist), (17, a_queue)] M.2.1 [(48, s_many), (49, s_tableOf), (50, s_read)]) := by
  unfold fX7_far_J90 at h
  refine z_iinc (v := (v5 + nI 1)) (lv' := [(5, .int (v5 + nI 1)), (0, .ref (ad 0)), (1, .int v1), (2, .int v2), (3, .int v3), (4, .int v4)]) X dX7_far_90 5 rfl rfl (by decide) rfl ?_
  refine z_goto (tgt := 33) X dX7_far_93 (by decide) ?_
  have hq := Option.some.inj h
  subst hq
  exact z_sub [1, 2, 3, 4, 5, 0] rfl hs
set_option maxHeartbeats 4000000 in
theorem jX7_far_J87 {κ : Rx} {ct : Nat → ClassId} {tF : Nat} {po ad : Nat → Nat} (X : CX κ ct tF cX7_far 6 RX7) (eR : kR κ = { frames := 22, cells := 0, slots := 0, locals := 2195 }) (hw : KM (kw κ) po ad ct) (M : Mm) (a_all : Nat → Int32) (a_parent : Nat → Int32) (a_left : Nat → Int32) (a_right : Nat → Int32) (a_leftSize : Nat → Int32) (a_above : Nat → Int32) (a_dist : Nat → Int32) (a_queue : Nat → Int32) (s_many : Int32) (s_tableOf : Int32) (s_read : Int32)  (v1 : Int32) (v2 : Int32) (v3 : Int32) (v4 : Int32) (v5 : Int32)  (s : ((Int32 × Int32 × Int32 × Int32) ⊕ (Int32 × Int32 × Int32))) (h : fX7_far_J87 a_dist s_many v1 v2 v3 v4 v5 = some s) (hs : (Sum.elim (fun x => Zj κ 6 33 [(0, .ref (ad 0)), (1, .int v1), (2, .int x.1), (3, .int x.2.1), (4, .int x.2.2.1), (5, .int x.2.2.2)] [] (mk M [(10, a_all), (11, a_parent), (12, a_left), (13, a_right), (14, a_leftSize), (15, a_above), (16, a_dist), (17, a_queue)] M.2.1 [(48, s_many), (49, s_tableOf), (50, s_read)])) (fun y => Zj κ 6 96 [(1, .int v1), (2, .int y.1), (3, .int y.2.1), (4, .int y.2.2)] [] (mk M [(10, a_all), (11, a_parent), (12, a_left), (13, a_right), (14, a_leftSize), (15, a_above), (16, a_dist), (17, a_queue)] M.2.1 [(48, s_many), (49, s_tableOf), (50, s_read)])) s)) : Zj κ 6 87 [(0, .ref (ad 0)), (1, .int v1), (2, .int v2), (3, .int v3), (4, .int v4), (5, .int v5)] [] (mk M [(10, a_all), (11, a_parent), (12, a_left), (13, a_right), (14, a_leftSize), (15, a_above), (16, a_dist), (17, a_queue)] M.2.1 [(48, s_many), (49, s_tableOf), (50, s_read)]) := by
  unfold fX7_far_J87 at h
  refine z_iinc (v := (v3 + nI 1)) (lv' := [(3, .int (v3 + nI 1)), (0, .ref (ad 0)), (1, .int v1), (2, .int v2), (4, .int v4), (5, .int v5)]) X dX7_far_87 3 rfl rfl (by decide) rfl ?_
  exact z_sub [1, 2, 3, 0, 4, 5] rfl (jX7_far_J90 X eR hw M a_all a_parent a_left a_right a_leftSize a_above a_dist a_queue s_many s_tableOf s_read v1 v2 (v3 + nI 1) v4 v5 _ h hs)
set_option maxHeartbeats 4000000 in
theorem jX7_far_J73 {κ : Rx} {ct : Nat → ClassId} {tF : Nat} {po ad : Nat → Nat} (X : CX κ ct tF cX7_far 6 RX7) (eR : kR κ = { frames := 22, cells := 0, slots := 0, locals := 2195 }) (hw : KM (kw κ) po ad ct) (M : Mm) (a_all : Nat → Int32) (a_parent : Nat → Int32) (a_left : Nat → Int32) (a_right : Nat → Int32) (a_leftSize : Nat → Int32) (a_above : Nat → Int32) (a_dist : Nat → Int32) (a_queue : Nat → Int32) (s_many : Int32) (s_tableOf : Int32) (s_read : Int32)  (v1 : Int32) (v5 : Int32)  (s : ((Int32 × Int32 × Int32 × Int32) ⊕ (Int32 × Int32 × Int32))) (h : fX7_far_J73 a_dist s_many v1 v5 = some s) (hs : (Sum.elim (fun x => Zj κ 6 33 [(0, .ref (ad 0)), (1, .int v1), (2, .int x.1), (3, .int x.2.1), (4, .int x.2.2.1), (5, .int x.2.2.2)] [] (mk M [(10, a_all), (11, a_parent), (12, a_left), (13, a_right), (14, a_leftSize), (15, a_above), (16, a_dist), (17, a_queue)] M.2.1 [(48, s_many), (49, s_tableOf), (50, s_read)])) (fun y => Zj κ 6 96 [(1, .int v1), (2, .int y.1), (3, .int y.2.1), (4, .int y.2.2)] [] (mk M [(10, a_all), (11, a_parent), (12, a_left), (13, a_right), (14, a_leftSize), (15, a_above), (16, a_dist), (17, a_queue)] M.2.1 [(48, s_many), (49, s_tableOf), (50, s_read)])) s)) : Zj κ 6 73 [(0, .ref (ad 0)), (1, .int v1), (5, .int v5)] [] (mk M [(10, a_all), (11, a_parent), (12, a_left), (13, a_right), (14, a_leftSize), (15, a_above), (16, a_dist), (17, a_queue)] M.2.1 [(48, s_many), (49, s_tableOf), (50, s_read)]) := by
  unfold fX7_far_J73 at h
  refine z_aload_n X dX7_far_73 0 rfl rfl ?_
  refine z_get (j := 26) (v := .ref (ad 16)) X inX7 rfl (by decide) w_559 (hw.1 _) rfl dX7_far_74 ?_
  refine z_iload X dX7_far_77 2 rfl ?_
  obtain ⟨t1, ht1, h⟩ := ob h
  refine z_iald X (hw.2.2.2.2.2.2.2.2.2.2.2.2.2.2.2.2.1 _).1 (rd_ok ht1) dX7_far_79 ?_
  refine z_istore_n (lv' := [(2, .int t1), (0, .ref (ad 0)), (1, .int v1), (5, .int v5)]) X dX7_far_80 rfl (by decide) rfl ?_
  refine z_iconst (v := (nI 0)) X dX7_far_81 (by decide) ?_
  refine z_istore_n (lv' := [(3, .int (nI 0)), (2, .int t1), (0, .ref (ad 0)), (1, .int v1), (5, .int v5)]) X dX7_far_82 rfl (by decide) rfl ?_
  refine z_iload X dX7_far_83 4 rfl ?_
  refine z_istore (lv' := [(4, .int v5), (3, .int (nI 0)), (2, .int t1), (0, .ref (ad 0)), (1, .int v1), (5, .int v5)]) X dX7_far_85 (by decide) rfl ?_
  exact z_sub [3, 4, 2, 1, 0, 5] rfl (jX7_far_J87 X eR hw M a_all a_parent a_left a_right a_leftSize a_above a_dist a_queue s_many s_tableOf s_read v1 t1 (nI 0) v5 v5 _ h hs)
set_option maxHeartbeats 4000000 in
theorem bX7_far_B33 {κ : Rx} {ct : Nat → ClassId} {tF : Nat} {po ad : Nat → Nat} (X : CX κ ct tF cX7_far 6 RX7) (eR : kR κ = { frames := 22, cells := 0, slots := 0, locals := 2195 }) (hw : KM (kw κ) po ad ct) (M : Mm) (a_all : Nat → Int32) (a_parent : Nat → Int32) (a_left : Nat → Int32) (a_right : Nat → Int32) (a_leftSize : Nat → Int32) (a_above : Nat → Int32) (a_dist : Nat → Int32) (a_queue : Nat → Int32) (s_many : Int32) (s_tableOf : Int32) (s_read : Int32) (v1 : Int32) : ∀ (x : (Int32 × Int32 × Int32 × Int32)) (s : (Int32 × Int32 × Int32 × Int32) ⊕ (Int32 × Int32 × Int32)), fX7_far_B33 a_dist s_many v1 x = some s → Sum.elim (fun x => Zj κ 6 33 [(0, .ref (ad 0)), (1, .int v1), (2, .int x.1), (3, .int x.2.1), (4, .int x.2.2.1), (5, .int x.2.2.2)] [] (mk M [(10, a_all), (11, a_parent), (12, a_left), (13, a_right), (14, a_leftSize), (15, a_above), (16, a_dist), (17, a_queue)] M.2.1 [(48, s_many), (49, s_tableOf), (50, s_read)])) (fun y => Zj κ 6 96 [(1, .int v1), (2, .int y.1), (3, .int y.2.1), (4, .int y.2.2)] [] (mk M [(10, a_all), (11, a_parent), (12, a_left), (13, a_right), (14, a_leftSize), (15, a_above), (16, a_dist), (17, a_queue)] M.2.1 [(48, s_many), (49, s_tableOf), (50, s_read)])) s → Zj κ 6 33 [(0, .ref (ad 0)), (1, .int v1), (2, .int x.1), (3, .int x.2.1), (4, .int x.2.2.1), (5, .int x.2.2.2)] [] (mk M [(10, a_all), (11, a_parent), (12, a_left), (13, a_right), (14, a_leftSize), (15, a_above), (16, a_dist), (17, a_queue)] M.2.1 [(48, s_many), (49, s_tableOf), (50, s_read)]) := by
  intro x s h hs
  unfold fX7_far_B33 at h
  refine z_iload X dX7_far_33 5 rfl ?_
  refine z_aload_n X dX7_far_35 0 rfl rfl ?_
  refine z_get (j := 18) (v := .int s_many) X inX7 rfl (by decide) w_476 (hw.1 _) rfl dX7_far_36 ?_
  refine z_icmp_ge (tgt := 96) X dX7_far_39 (by decide) (fun c39 => ?_) (fun c39 => ?_)
  · rw [if_pos c39] at h
    have hq := Option.some.inj h
    subst hq
    exact z_sub [1, 2, 3, 4] rfl hs
  · rw [if_neg c39] at h
    refine z_aload_n X dX7_far_42 0 rfl rfl ?_
    refine z_get (j := 26) (v := .ref (ad 16)) X inX7 rfl (by decide) w_559 (hw.1 _) rfl dX7_far_43 ?_
    refine z_iload X dX7_far_46 5 rfl ?_
    obtain ⟨t1, ht1, h⟩ := ob h
    refine z_iald X (hw.2.2.2.2.2.2.2.2.2.2.2.2.2.2.2.2.1 _).1 (rd_ok ht1) dX7_far_48 ?_
    refine z_iload_n X dX7_far_49 2 rfl rfl ?_
    refine z_icmp_ge (tgt := 56) X dX7_far_50 (by decide) (fun c50 => ?_) (fun c50 => ?_)
    · rw [if_pos c50] at h
      refine z_aload_n X dX7_far_56 0 rfl rfl ?_
      refine z_get (j := 26) (v := .ref (ad 16)) X inX7 rfl (by decide) w_559 (hw.1 _) rfl dX7_far_57 ?_
      refine z_iload X dX7_far_60 5 rfl ?_
      obtain ⟨t2, ht2, h⟩ := ob h
      refine z_iald X (hw.2.2.2.2.2.2.2.2.2.2.2.2.2.2.2.2.1 _).1 (rd_ok ht2) dX7_far_62 ?_
      refine z_iload_n X dX7_far_63 2 rfl rfl ?_
      refine z_icmp_gt (tgt := 73) X dX7_far_64 (by decide) (fun c64 => ?_) (fun c64 => ?_)
      · rw [if_pos c64] at h
        exact z_sub [0, 1, 5] rfl (jX7_far_J73 X eR hw M a_all a_parent a_left a_right a_leftSize a_above a_dist a_queue s_many s_tableOf s_read v1 x.2.2.2 _ h hs)
      · rw [if_neg c64] at h
        refine z_iload X dX7_far_67 4 rfl ?_
        refine z_iconst (v := (-1 : Int32)) X dX7_far_69 (by decide) ?_
        refine z_icmp_ne (tgt := 87) X dX7_far_70 (by decide) (fun c70 => ?_) (fun c70 => ?_)
        · rw [if_neg c70] at h
          exact (jX7_far_J87 X eR hw M a_all a_parent a_left a_right a_leftSize a_above a_dist a_queue s_many s_tableOf s_read v1 x.1 x.2.1 x.2.2.1 x.2.2.2 _ h hs)
        · rw [if_pos c70] at h
          exact z_sub [0, 1, 5] rfl (jX7_far_J73 X eR hw M a_all a_parent a_left a_right a_leftSize a_above a_dist a_queue s_many s_tableOf s_read v1 x.2.2.2 _ h hs)
    · rw [if_neg c50] at h
      refine z_goto (tgt := 90) X dX7_far_53 (by decide) ?_
      exact (jX7_far_J90 X eR hw M a_all a_parent a_left a_right a_leftSize a_above a_dist a_queue s_many s_tableOf s_read v1 x.1 x.2.1 x.2.2.1 x.2.2.2 _ h hs)
set_option maxHeartbeats 4000000 in
theorem tX7_far {l : Launch} {D : va_G} {ct : Nat → ClassId} {tF : Nat} {wOf : Mm → va_W} {po ad : Nat → Nat} (hw : KM wOf po ad ct) (M : Mm) {v1 : Int32} {r : (Int32 × (Nat → Int32) × (Nat → Int32) × (Nat → Int32) × (Nat → Int32) × (Nat → Int32) × (Nat → Int32) × (Nat → Int32) × (Nat → Int32) × Int32 × Int32 × Int32)} (h : fX7_far (M.1 10) (M.1 11) (M.1 12) (M.1 13) (M.1 14) (M.1 15) (M.1 16) (M.1 17) (M.2.2 40) (M.2.2 41) (M.2.2 48) (M.2.2 49) (M.2.2 50) v1 = some r) : CtI l yX7_far cX7_far 6 .int { frames := 22, cells := 0, slots := 0, locals := 2195 } D ct tF wOf [.ref (ad 0), .int v1] M r.1 (mk M [(10, r.2.1), (11, r.2.2.1), (12, r.2.2.2.1), (13, r.2.2.2.2.1), (14, r.2.2.2.2.2.1), (15, r.2.2.2.2.2.2.1), (16, r.2.2.2.2.2.2.2.1), (17, r.2.2.2.2.2.2.2.2.1)] M.2.1 [(48, r.2.2.2.2.2.2.2.2.2.1), (49, r.2.2.2.2.2.2.2.2.2.2.1), (50, r.2.2.2.2.2.2.2.2.2.2.2)]) := by
  refine metI (by decide) (Nat.le_of_ble_eq_true rfl) fun κ X e1 eR e3 e4 hs => ?_
  subst e1; subst e3; subst e4
  unfold fX7_far at h
  refine z_mem (mk_self M [10, 11, 12, 13, 14, 15, 16, 17] [48, 49, 50]) ?_
  refine z_sub (lv' := [(0, .ref (ad 0)), (1, .int v1)]) [0, 1] rfl ?_
  show Zj κ 6 0 _ _ (mk M [(10, (M.1 10)), (11, (M.1 11)), (12, (M.1 12)), (13, (M.1 13)), (14, (M.1 14)), (15, (M.1 15)), (16, (M.1 16)), (17, (M.1 17))] M.2.1 [(48, (M.2.2 48)), (49, (M.2.2 49)), (50, (M.2.2 50))])
  refine z_iload_n X dX7_far_0 1 rfl rfl ?_
  refine z_i2l X dX7_far_1 ?_
  refine z_lconst (v := (0 : Int64)) X dX7_far_2 (by decide) ?_
  refine z_ldc2 X w_576 dX7_far_3 ?_
  obtain ⟨r1, hr1, h⟩ := ob h
  refine z_cSI (As := [.long (v1.toInt64), .long (0 : Int64), .long (2 : Int64)]) (st := []) X (tX7_in hw (mk M [(10, (M.1 10)), (11, (M.1 11)), (12, (M.1 12)), (13, (M.1 13)), (14, (M.1 14)), (15, (M.1 15)), (16, (M.1 16)), (17, (M.1 17))] M.2.1 [(48, (M.2.2 48)), (49, (M.2.2 49)), (50, (M.2.2 50))]) hr1) w_472 msX7_in (by rw [eR]; exact ⟨Nat.le_of_ble_eq_true rfl, Nat.le_of_ble_eq_true rfl⟩) ⟨rfl, rfl⟩ rfl (Nat.le_of_ble_eq_true rfl) rfl dX7_far_6 ?_
  refine z_if_ne (tgt := 14) X dX7_far_9 (by decide) (fun c9 => ?_) (fun c9 => ?_)
  · rw [if_neg c9] at h
    refine z_aload_n X dX7_far_14 0 rfl rfl ?_
    refine z_aload_n X dX7_far_15 0 rfl rfl ?_
    refine z_get (j := 1) (v := .int (M.2.2 41)) X inX7 rfl (by decide) w_506 (hw.1 _) rfl dX7_far_16 ?_
    refine z_iconst (v := (nI 0)) X dX7_far_19 (by decide) ?_
    obtain ⟨r2, hr2, h⟩ := ob h
    refine z_cVV (As := [.int (M.2.2 41), .int (nI 0)]) (st := []) X (tX7_measure hw (mk M [(10, (M.1 10)), (11, (M.1 11)), (12, (M.1 12)), (13, (M.1 13)), (14, (M.1 14)), (15, (M.1 15)), (16, (M.1 16)), (17, (M.1 17))] M.2.1 [(48, (M.2.2 48)), (49, (M.2.2 49)), (50, (M.2.2 50))]) hr2) w_561 mvX7_measure (by rw [eR]; exact ⟨Nat.le_of_ble_eq_true rfl, Nat.le_of_ble_eq_true rfl⟩) ⟨rfl, rfl⟩ rfl (Nat.le_of_ble_eq_true rfl) (hw.1 _) rfl rfl dX7_far_20 ?_
    refine z_mem (mk_mk (l' := [(10, r2.1), (11, r2.2.1), (12, r2.2.2.1), (13, r2.2.2.2.1), (14, r2.2.2.2.2.1), (15, r2.2.2.2.2.2.1), (16, r2.2.2.2.2.2.2.1), (17, r2.2.2.2.2.2.2.2.1)]) (sl' := [(48, r2.2.2.2.2.2.2.2.2.1), (49, r2.2.2.2.2.2.2.2.2.2.1), (50, r2.2.2.2.2.2.2.2.2.2.2)]) rfl rfl rfl rfl) ?_
    refine z_iconst (v := (nI 0)) X dX7_far_23 (by decide) ?_
    refine z_istore_n (lv' := [(2, .int (nI 0)), (0, .ref (ad 0)), (1, .int v1)]) X dX7_far_24 rfl (by decide) rfl ?_
    refine z_iconst (v := (nI 0)) X dX7_far_25 (by decide) ?_
    refine z_istore_n (lv' := [(3, .int (nI 0)), (2, .int (nI 0)), (0, .ref (ad 0)), (1, .int v1)]) X dX7_far_26 rfl (by decide) rfl ?_
    refine z_iconst (v := (-1 : Int32)) X dX7_far_27 (by decide) ?_
    refine z_istore (lv' := [(4, .int (-1 : Int32)), (3, .int (nI 0)), (2, .int (nI 0)), (0, .ref (ad 0)), (1, .int v1)]) X dX7_far_28 (by decide) rfl ?_
    refine z_iconst (v := (nI 0)) X dX7_far_30 (by decide) ?_
    refine z_istore (lv' := [(5, .int (nI 0)), (4, .int (-1 : Int32)), (3, .int (nI 0)), (2, .int (nI 0)), (0, .ref (ad 0)), (1, .int v1)]) X dX7_far_31 (by decide) rfl ?_
    refine z_sub [4, 5, 3, 2, 1, 0] rfl ?_
    obtain ⟨y3, hy3, h⟩ := ob h
    refine (it_Z (bX7_far_B33 X eR hw M r2.1 r2.2.1 r2.2.2.1 r2.2.2.2.1 r2.2.2.2.2.1 r2.2.2.2.2.2.1 r2.2.2.2.2.2.2.1 r2.2.2.2.2.2.2.2.1 r2.2.2.2.2.2.2.2.2.1 r2.2.2.2.2.2.2.2.2.2.1 r2.2.2.2.2.2.2.2.2.2.2 v1) FU _ y3 hy3) ?_
    refine z_iload_n X dX7_far_96 0 rfl rfl ?_
    refine z_if_ne (tgt := 104) X dX7_far_97 (by decide) (fun c97 => ?_) (fun c97 => ?_)
    · rw [if_neg c97] at h
      refine z_iload_n X dX7_far_104 0 rfl rfl ?_
      refine z_iconst (v := (nI 1)) X dX7_far_105 (by decide) ?_
      refine z_icmp_ne (tgt := 113) X dX7_far_106 (by decide) (fun c106 => ?_) (fun c106 => ?_)
      · rw [if_neg c106] at h
        refine z_iload X dX7_far_113 3 rfl ?_
        have hq := Option.some.inj h
        subst hq
        exact z_iret hs dX7_far_115 rfl
      · rw [if_pos c106] at h
        refine z_iload_n X dX7_far_109 2 rfl rfl ?_
        refine z_goto (tgt := 115) X dX7_far_110 (by decide) ?_
        have hq := Option.some.inj h
        subst hq
        exact z_iret hs dX7_far_115 rfl
    · rw [if_pos c97] at h
      refine z_iload_n X dX7_far_100 1 rfl rfl ?_
      refine z_goto (tgt := 115) X dX7_far_101 (by decide) ?_
      have hq := Option.some.inj h
      subst hq
      exact z_iret hs dX7_far_115 rfl
  · rw [if_pos c9] at h
    refine z_iconst (v := (-1 : Int32)) X dX7_far_12 (by decide) ?_
    have hq := Option.some.inj h
    subst hq
    exact z_iret hs dX7_far_13 rfl
set_option maxHeartbeats 4000000 in
theorem jX7_canopyOf_J26 {κ : Rx} {ct : Nat → ClassId} {tF : Nat} {po ad : Nat → Nat} (X : CX κ ct tF cX7_canopyOf 4 RX7) (eR : kR κ = { frames := 2, cells := 0, slots := 0, locals := 44 }) (hw : KM (kw κ) po ad ct) (M : Mm)   (v0 : Int32) (v1 : Int32) (v2 : Int32) (v3 : Int32)  (s : ((Int32 × Int32) ⊕ Int32)) (h : fX7_canopyOf_J26 v0 v1 v2 v3 = some s) (hs : (Sum.elim (fun x => Zj κ 4 4 [(0, .int v0), (1, .int v1), (2, .int x.1), (3, .int x.2)] [] M) (fun y => Zj κ 4 32 [(2, .int y)] [] M) s)) : Zj κ 4 26 [(0, .int v0), (1, .int v1), (2, .int v2), (3, .int v3)] [] M := by
  unfold fX7_canopyOf_J26 at h
  refine z_iinc (v := (v3 + nI 1)) (lv' := [(3, .int (v3 + nI 1)), (0, .int v0), (1, .int v1), (2, .int v2)]) X dX7_canopyOf_26 3 rfl rfl (by decide) rfl ?_
  refine z_goto (tgt := 4) X dX7_canopyOf_29 (by decide) ?_
  have hq := Option.some.inj h
  subst hq
  exact z_sub [1, 2, 3, 0] rfl hs
set_option maxHeartbeats 4000000 in
theorem bX7_canopyOf_B4 {κ : Rx} {ct : Nat → ClassId} {tF : Nat} {po ad : Nat → Nat} (X : CX κ ct tF cX7_canopyOf 4 RX7) (eR : kR κ = { frames := 2, cells := 0, slots := 0, locals := 44 }) (hw : KM (kw κ) po ad ct) (M : Mm)  (v0 : Int32) (v1 : Int32) : ∀ (x : (Int32 × Int32)) (s : (Int32 × Int32) ⊕ Int32), fX7_canopyOf_B4 v0 v1 x = some s → Sum.elim (fun x => Zj κ 4 4 [(0, .int v0), (1, .int v1), (2, .int x.1), (3, .int x.2)] [] M) (fun y => Zj κ 4 32 [(2, .int y)] [] M) s → Zj κ 4 4 [(0, .int v0), (1, .int v1), (2, .int x.1), (3, .int x.2)] [] M := by
  intro x s h hs
  unfold fX7_canopyOf_B4 at h
  refine z_iload_n X dX7_canopyOf_4 3 rfl rfl ?_
  refine z_iload_n X dX7_canopyOf_5 1 rfl rfl ?_
  refine z_iconst (v := (nI 1)) X dX7_canopyOf_6 (by decide) ?_
  refine z_isub X dX7_canopyOf_7 ?_
  refine z_icmp_ge (tgt := 32) X dX7_canopyOf_8 (by decide) (fun c8 => ?_) (fun c8 => ?_)
  · rw [if_pos c8] at h
    have hq := Option.some.inj h
    subst hq
    exact z_sub [2] rfl hs
  · rw [if_neg c8] at h
    refine z_iload_n X dX7_canopyOf_11 0 rfl rfl ?_
    refine z_iload_n X dX7_canopyOf_12 1 rfl rfl ?_
    refine z_iload_n X dX7_canopyOf_13 3 rfl rfl ?_
    obtain ⟨r1, hr1, h⟩ := ob h
    refine z_cSI (As := [.int v0, .int v1, .int x.2]) (st := []) X (tX7_at hw M hr1) w_469 msX7_at (by rw [eR]; exact ⟨Nat.le_of_ble_eq_true rfl, Nat.le_of_ble_eq_true rfl⟩) ⟨rfl, rfl⟩ rfl (Nat.le_of_ble_eq_true rfl) rfl dX7_canopyOf_14 ?_
    refine z_if_le (tgt := 26) X dX7_canopyOf_17 (by decide) (fun c17 => ?_) (fun c17 => ?_)
    · rw [if_pos c17] at h
      exact (jX7_canopyOf_J26 X eR hw M v0 v1 x.1 x.2 _ h hs)
    · rw [if_neg c17] at h
      refine z_iload_n X dX7_canopyOf_20 2 rfl rfl ?_
      refine z_iconst (v := (nI 1)) X dX7_canopyOf_21 (by decide) ?_
      refine z_iload_n X dX7_canopyOf_22 3 rfl rfl ?_
      refine z_ishl X dX7_canopyOf_23 ?_
      refine z_ior X dX7_canopyOf_24 ?_
      refine z_istore_n (lv' := [(2, .int (x.1 ||| ((nI 1) <<< (x.2 &&& 31)))), (0, .int v0), (1, .int v1), (3, .int x.2)]) X dX7_canopyOf_25 rfl (by decide) rfl ?_
      exact z_sub [1, 2, 0, 3] rfl (jX7_canopyOf_J26 X eR hw M v0 v1 (x.1 ||| ((nI 1) <<< (x.2 &&& 31))) x.2 _ h hs)
set_option maxHeartbeats 4000000 in
theorem tX7_canopyOf {l : Launch} {D : va_G} {ct : Nat → ClassId} {tF : Nat} {wOf : Mm → va_W} {po ad : Nat → Nat} (hw : KM wOf po ad ct) (M : Mm) {v0 : Int32} {v1 : Int32} {r : Int32} (h : fX7_canopyOf v0 v1 = some r) : CtI l yX7_canopyOf cX7_canopyOf 4 .int { frames := 2, cells := 0, slots := 0, locals := 44 } D ct tF wOf [.int v0, .int v1] M r M := by
  refine metI (by decide) (Nat.le_of_ble_eq_true rfl) fun κ X e1 eR e3 e4 hs => ?_
  subst e1; subst e3; subst e4
  unfold fX7_canopyOf at h
  refine z_sub (lv' := [(0, .int v0), (1, .int v1)]) [0, 1] rfl ?_
  refine z_iconst (v := (nI 0)) X dX7_canopyOf_0 (by decide) ?_
  refine z_istore_n (lv' := [(2, .int (nI 0)), (0, .int v0), (1, .int v1)]) X dX7_canopyOf_1 rfl (by decide) rfl ?_
  refine z_iconst (v := (nI 0)) X dX7_canopyOf_2 (by decide) ?_
  refine z_istore_n (lv' := [(3, .int (nI 0)), (2, .int (nI 0)), (0, .int v0), (1, .int v1)]) X dX7_canopyOf_3 rfl (by decide) rfl ?_
  refine z_sub [2, 3, 1, 0] rfl ?_
  obtain ⟨y1, hy1, h⟩ := ob h
  refine (it_Z (bX7_canopyOf_B4 X eR hw M v0 v1) FU _ y1 hy1) ?_
  refine z_iload_n X dX7_canopyOf_32 0 rfl rfl ?_
  have hq := Option.some.inj h
  subst hq
  exact z_iret hs dX7_canopyOf_33 rfl
set_option maxHeartbeats 4000000 in
theorem tX7_canopy {l : Launch} {D : va_G} {ct : Nat → ClassId} {tF : Nat} {wOf : Mm → va_W} {po ad : Nat → Nat} (hw : KM wOf po ad ct) (M : Mm)  {r : Int32} (h : fX7_canopy (M.2.2 40) (M.2.2 41) = some r) : CtI l yX7_canopy cX7_canopy 1 .int { frames := 3, cells := 0, slots := 0, locals := 67 } D ct tF wOf [.ref (ad 0)] M r M := by
  refine metI (by decide) (Nat.le_of_ble_eq_true rfl) fun κ X e1 eR e3 e4 hs => ?_
  subst e1; subst e3; subst e4
  unfold fX7_canopy at h
  refine z_sub (lv' := [(0, .ref (ad 0))]) [0] rfl ?_
  refine z_aload_n X dX7_canopy_0 0 rfl rfl ?_
  refine z_get (j := 1) (v := .int (M.2.2 41)) X inX7 rfl (by decide) w_506 (hw.1 _) rfl dX7_canopy_1 ?_
  refine z_aload_n X dX7_canopy_4 0 rfl rfl ?_
  refine z_get (j := 0) (v := .int (M.2.2 40)) X inX7 rfl (by decide) w_502 (hw.1 _) rfl dX7_canopy_5 ?_
  obtain ⟨r1, hr1, h⟩ := ob h
  refine z_cSI (As := [.int (M.2.2 41), .int (M.2.2 40)]) (st := []) X (tX7_canopyOf hw M hr1) w_577 msX7_canopyOf (by rw [eR]; exact ⟨Nat.le_of_ble_eq_true rfl, Nat.le_of_ble_eq_true rfl⟩) ⟨rfl, rfl⟩ rfl (Nat.le_of_ble_eq_true rfl) rfl dX7_canopy_8 ?_
  have hq := Option.some.inj h
  subst hq
  exact z_iret hs dX7_canopy_11 rfl
set_option maxHeartbeats 4000000 in
theorem jX7_inClass_J101 {κ : Rx} {ct : Nat → ClassId} {tF : Nat} {po ad : Nat → Nat} (X : CX κ ct tF cX7_inClass 7 RX7) (eR : kR κ = { frames := 4, cells := 0, slots := 0, locals := 93 }) (hw : KM (kw κ) po ad ct) (M : Mm) (a_all : Nat → Int32) (s_many : Int32) (s_tableOf : Int32)  (v1 : Int32) (v2 : Int32) (v3 : Int32) (v4 : Int32) (v5 : Int32) (v6 : Int32)  (s : ((Int32 × Int32 × Int32 × Int32) ⊕ (Int32 × Int32 × Int32))) (h : fX7_inClass_J101 a_all (M.2.2 40) s_many v1 v2 v3 v4 v5 v6 = some s) (hs : (Sum.elim (fun x => Zj κ 7 56 [(0, .ref (ad 0)), (1, .int v1), (2, .int v2), (3, .int x.1), (4, .int x.2.1), (5, .int x.2.2.1), (6, .int x.2.2.2)] [] (mk M [(10, a_all)] M.2.1 [(48, s_many), (49, s_tableOf)])) (fun y => Zj κ 7 107 [(2, .int v2), (3, .int y.1), (4, .int y.2.1), (5, .int y.2.2)] [] (mk M [(10, a_all)] M.2.1 [(48, s_many), (49, s_tableOf)])) s)) : Zj κ 7 101 [(0, .ref (ad 0)), (1, .int v1), (2, .int v2), (3, .int v3), (4, .int v4), (5, .int v5), (6, .int v6)] [] (mk M [(10, a_all)] M.2.1 [(48, s_many), (49, s_tableOf)]) := by
  unfold fX7_inClass_J101 at h
  refine z_iinc (v := (v6 + nI 1)) (lv' := [(6, .int (v6 + nI 1)), (0, .ref (ad 0)), (1, .int v1), (2, .int v2), (3, .int v3), (4, .int v4), (5, .int v5)]) X dX7_inClass_101 6 rfl rfl (by decide) rfl ?_
  refine z_goto (tgt := 56) X dX7_inClass_104 (by decide) ?_
  have hq := Option.some.inj h
  subst hq
  exact z_sub [1, 2, 3, 4, 5, 6, 0] rfl hs
set_option maxHeartbeats 4000000 in
theorem jX7_inClass_J94 {κ : Rx} {ct : Nat → ClassId} {tF : Nat} {po ad : Nat → Nat} (X : CX κ ct tF cX7_inClass 7 RX7) (eR : kR κ = { frames := 4, cells := 0, slots := 0, locals := 93 }) (hw : KM (kw κ) po ad ct) (M : Mm) (a_all : Nat → Int32) (s_many : Int32) (s_tableOf : Int32)  (v1 : Int32) (v2 : Int32) (v3 : Int32) (v4 : Int32) (v6 : Int32)  (s : ((Int32 × Int32 × Int32 × Int32) ⊕ (Int32 × Int32 × Int32))) (h : fX7_inClass_J94 a_all (M.2.2 40) s_many v1 v2 v3 v4 v6 = some s) (hs : (Sum.elim (fun x => Zj κ 7 56 [(0, .ref (ad 0)), (1, .int v1), (2, .int v2), (3, .int x.1), (4, .int x.2.1), (5, .int x.2.2.1), (6, .int x.2.2.2)] [] (mk M [(10, a_all)] M.2.1 [(48, s_many), (49, s_tableOf)])) (fun y => Zj κ 7 107 [(2, .int v2), (3, .int y.1), (4, .int y.2.1), (5, .int y.2.2)] [] (mk M [(10, a_all)] M.2.1 [(48, s_many), (49, s_tableOf)])) s)) : Zj κ 7 94 [(0, .ref (ad 0)), (1, .int v1), (2, .int v2), (3, .int v3), (4, .int v4), (6, .int v6)] [] (mk M [(10, a_all)] M.2.1 [(48, s_many), (49, s_tableOf)]) := by
  unfold fX7_inClass_J94 at h
  refine z_iload X dX7_inClass_94 5 rfl ?_
  refine z_istore (lv' := [(5, .int v6), (0, .ref (ad 0)), (1, .int v1), (2, .int v2), (3, .int v3), (4, .int v4), (6, .int v6)]) X dX7_inClass_96 (by decide) rfl ?_
  refine z_iinc (v := (v3 + nI 1)) (lv' := [(3, .int (v3 + nI 1)), (5, .int v6), (0, .ref (ad 0)), (1, .int v1), (2, .int v2), (4, .int v4), (6, .int v6)]) X dX7_inClass_98 4 rfl rfl (by decide) rfl ?_
  exact z_sub [2, 3, 4, 0, 5, 1, 6] rfl (jX7_inClass_J101 X eR hw M a_all s_many s_tableOf v1 v2 (v3 + nI 1) v4 v6 v6 _ h hs)
set_option maxHeartbeats 4000000 in
theorem bX7_inClass_B56 {κ : Rx} {ct : Nat → ClassId} {tF : Nat} {po ad : Nat → Nat} (X : CX κ ct tF cX7_inClass 7 RX7) (eR : kR κ = { frames := 4, cells := 0, slots := 0, locals := 93 }) (hw : KM (kw κ) po ad ct) (M : Mm) (a_all : Nat → Int32) (s_many : Int32) (s_tableOf : Int32) (v1 : Int32) (v2 : Int32) : ∀ (x : (Int32 × Int32 × Int32 × Int32)) (s : (Int32 × Int32 × Int32 × Int32) ⊕ (Int32 × Int32 × Int32)), fX7_inClass_B56 a_all (M.2.2 40) s_many v1 v2 x = some s → Sum.elim (fun x => Zj κ 7 56 [(0, .ref (ad 0)), (1, .int v1), (2, .int v2), (3, .int x.1), (4, .int x.2.1), (5, .int x.2.2.1), (6, .int x.2.2.2)] [] (mk M [(10, a_all)] M.2.1 [(48, s_many), (49, s_tableOf)])) (fun y => Zj κ 7 107 [(2, .int v2), (3, .int y.1), (4, .int y.2.1), (5, .int y.2.2)] [] (mk M [(10, a_all)] M.2.1 [(48, s_many), (49, s_tableOf)])) s → Zj κ 7 56 [(0, .ref (ad 0)), (1, .int v1), (2, .int v2), (3, .int x.1), (4, .int x.2.1), (5, .int x.2.2.1), (6, .int x.2.2.2)] [] (mk M [(10, a_all)] M.2.1 [(48, s_many), (49, s_tableOf)]) := by
  intro x s h hs
  unfold fX7_inClass_B56 at h
  refine z_iload X dX7_inClass_56 6 rfl ?_
  refine z_aload_n X dX7_inClass_58 0 rfl rfl ?_
  refine z_get (j := 18) (v := .int s_many) X inX7 rfl (by decide) w_476 (hw.1 _) rfl dX7_inClass_59 ?_
  refine z_icmp_ge (tgt := 107) X dX7_inClass_62 (by decide) (fun c62 => ?_) (fun c62 => ?_)
  · rw [if_pos c62] at h
    have hq := Option.some.inj h
    subst hq
    exact z_sub [2, 3, 4, 5] rfl hs
  · rw [if_neg c62] at h
    refine z_aload_n X dX7_inClass_65 0 rfl rfl ?_
    refine z_get (j := 17) (v := .ref (ad 10)) X inX7 rfl (by decide) w_480 (hw.1 _) rfl dX7_inClass_66 ?_
    refine z_iload X dX7_inClass_69 6 rfl ?_
    obtain ⟨t1, ht1, h⟩ := ob h
    refine z_iald X (hw.2.2.2.2.2.2.2.2.2.2.1 _).1 (rd_ok ht1) dX7_inClass_71 ?_
    refine z_aload_n X dX7_inClass_72 0 rfl rfl ?_
    refine z_get (j := 0) (v := .int (M.2.2 40)) X inX7 rfl (by decide) w_502 (hw.1 _) rfl dX7_inClass_73 ?_
    obtain ⟨r2, hr2, h⟩ := ob h
    refine z_cSI (As := [.int t1, .int (M.2.2 40)]) (st := []) X (tX7_canopyOf hw (mk M [(10, a_all)] M.2.1 [(48, s_many), (49, s_tableOf)]) hr2) w_577 msX7_canopyOf (by rw [eR]; exact ⟨Nat.le_of_ble_eq_true rfl, Nat.le_of_ble_eq_true rfl⟩) ⟨rfl, rfl⟩ rfl (Nat.le_of_ble_eq_true rfl) rfl dX7_inClass_76 ?_
    refine z_iload_n X dX7_inClass_79 1 rfl rfl ?_
    refine z_icmp_eq (tgt := 86) X dX7_inClass_80 (by decide) (fun c80 => ?_) (fun c80 => ?_)
    · rw [if_pos c80] at h
      refine z_iload_n X dX7_inClass_86 3 rfl rfl ?_
      refine z_if_ne (tgt := 94) X dX7_inClass_87 (by decide) (fun c87 => ?_) (fun c87 => ?_)
      · rw [if_neg c87] at h
        exact z_sub [0, 1, 2, 3, 4, 6] rfl (jX7_inClass_J94 X eR hw M a_all s_many s_tableOf v1 v2 x.1 x.2.1 x.2.2.2 _ h hs)
      · rw [if_pos c87] at h
        refine z_iload X dX7_inClass_90 6 rfl ?_
        refine z_istore (lv' := [(4, .int x.2.2.2), (0, .ref (ad 0)), (1, .int v1), (2, .int v2), (3, .int x.1), (5, .int x.2.2.1), (6, .int x.2.2.2)]) X dX7_inClass_92 (by decide) rfl ?_
        exact z_sub [1, 2, 3, 4, 0, 6] rfl (jX7_inClass_J94 X eR hw M a_all s_many s_tableOf v1 v2 x.1 x.2.2.2 x.2.2.2 _ h hs)
    · rw [if_neg c80] at h
      refine z_goto (tgt := 101) X dX7_inClass_83 (by decide) ?_
      exact (jX7_inClass_J101 X eR hw M a_all s_many s_tableOf v1 v2 x.1 x.2.1 x.2.2.1 x.2.2.2 _ h hs)
set_option maxHeartbeats 4000000 in
theorem tX7_inClass {l : Launch} {D : va_G} {ct : Nat → ClassId} {tF : Nat} {wOf : Mm → va_W} {po ad : Nat → Nat} (hw : KM wOf po ad ct) (M : Mm) {v1 : Int32} {v2 : Int32} {r : (Int32 × (Nat → Int32) × Int32 × Int32)} (h : fX7_inClass (M.1 10) (M.2.2 40) (M.2.2 48) (M.2.2 49) v1 v2 = some r) : CtI l yX7_inClass cX7_inClass 7 .int { frames := 4, cells := 0, slots := 0, locals := 93 } D ct tF wOf [.ref (ad 0), .int v1, .int v2] M r.1 (mk M [(10, r.2.1)] M.2.1 [(48, r.2.2.1), (49, r.2.2.2)]) := by
  refine metI (by decide) (Nat.le_of_ble_eq_true rfl) fun κ X e1 eR e3 e4 hs => ?_
  subst e1; subst e3; subst e4
  unfold fX7_inClass at h
  refine z_mem (mk_self M [10] [48, 49]) ?_
  refine z_sub (lv' := [(0, .ref (ad 0)), (1, .int v1), (2, .int v2)]) [0, 1, 2] rfl ?_
  show Zj κ 7 0 _ _ (mk M [(10, (M.1 10))] M.2.1 [(48, (M.2.2 48)), (49, (M.2.2 49))])
  refine z_iload_n X dX7_inClass_0 1 rfl rfl ?_
  refine z_i2l X dX7_inClass_1 ?_
  refine z_lconst (v := (0 : Int64)) X dX7_inClass_2 (by decide) ?_
  refine z_iconst (v := (nI 1)) X dX7_inClass_3 (by decide) ?_
  refine z_aload_n X dX7_inClass_4 0 rfl rfl ?_
  refine z_get (j := 0) (v := .int (M.2.2 40)) X inX7 rfl (by decide) w_502 (hw.1 _) rfl dX7_inClass_5 ?_
  refine z_iconst (v := (nI 1)) X dX7_inClass_8 (by decide) ?_
  refine z_isub X dX7_inClass_9 ?_
  refine z_ishl X dX7_inClass_10 ?_
  refine z_iconst (v := (nI 1)) X dX7_inClass_11 (by decide) ?_
  refine z_isub X dX7_inClass_12 ?_
  refine z_i2l X dX7_inClass_13 ?_
  obtain ⟨r1, hr1, h⟩ := ob h
  refine z_cSI (As := [.long (v1.toInt64), .long (0 : Int64), .long (((((nI 1) <<< (((M.2.2 40) - (nI 1)) &&& 31)) - (nI 1))).toInt64)]) (st := []) X (tX7_in hw (mk M [(10, (M.1 10))] M.2.1 [(48, (M.2.2 48)), (49, (M.2.2 49))]) hr1) w_472 msX7_in (by rw [eR]; exact ⟨Nat.le_of_ble_eq_true rfl, Nat.le_of_ble_eq_true rfl⟩) ⟨rfl, rfl⟩ rfl (Nat.le_of_ble_eq_true rfl) rfl dX7_inClass_14 ?_
  refine z_if_ne (tgt := 23) X dX7_inClass_17 (by decide) (fun c17 => ?_) (fun c17 => ?_)
  · rw [if_neg c17] at h
    refine z_iload_n X dX7_inClass_23 2 rfl rfl ?_
    refine z_i2l X dX7_inClass_24 ?_
    refine z_lconst (v := (0 : Int64)) X dX7_inClass_25 (by decide) ?_
    refine z_ldc2 X w_576 dX7_inClass_26 ?_
    obtain ⟨r2, hr2, h⟩ := ob h
    refine z_cSI (As := [.long (v2.toInt64), .long (0 : Int64), .long (2 : Int64)]) (st := []) X (tX7_in hw (mk M [(10, (M.1 10))] M.2.1 [(48, (M.2.2 48)), (49, (M.2.2 49))]) hr2) w_472 msX7_in (by rw [eR]; exact ⟨Nat.le_of_ble_eq_true rfl, Nat.le_of_ble_eq_true rfl⟩) ⟨rfl, rfl⟩ rfl (Nat.le_of_ble_eq_true rfl) rfl dX7_inClass_29 ?_
    refine z_if_ne (tgt := 37) X dX7_inClass_32 (by decide) (fun c32 => ?_) (fun c32 => ?_)
    · rw [if_neg c32] at h
      refine z_aload_n X dX7_inClass_37 0 rfl rfl ?_
      refine z_aload_n X dX7_inClass_38 0 rfl rfl ?_
      refine z_get (j := 0) (v := .int (M.2.2 40)) X inX7 rfl (by decide) w_502 (hw.1 _) rfl dX7_inClass_39 ?_
      obtain ⟨r3, hr3, h⟩ := ob h
      refine z_cVV (As := [.int (M.2.2 40)]) (st := []) X (tX7_table hw (mk M [(10, (M.1 10))] M.2.1 [(48, (M.2.2 48)), (49, (M.2.2 49))]) hr3) w_481 mvX7_table (by rw [eR]; exact ⟨Nat.le_of_ble_eq_true rfl, Nat.le_of_ble_eq_true rfl⟩) ⟨rfl, rfl⟩ rfl (Nat.le_of_ble_eq_true rfl) (hw.1 _) rfl rfl dX7_inClass_42 ?_
      refine z_mem (mk_mk (l' := [(10, r3.1)]) (sl' := [(48, r3.2.1), (49, r3.2.2)]) rfl rfl rfl rfl) ?_
      refine z_iconst (v := (nI 0)) X dX7_inClass_45 (by decide) ?_
      refine z_istore_n (lv' := [(3, .int (nI 0)), (0, .ref (ad 0)), (1, .int v1), (2, .int v2)]) X dX7_inClass_46 rfl (by decide) rfl ?_
      refine z_iconst (v := (-1 : Int32)) X dX7_inClass_47 (by decide) ?_
      refine z_istore (lv' := [(4, .int (-1 : Int32)), (3, .int (nI 0)), (0, .ref (ad 0)), (1, .int v1), (2, .int v2)]) X dX7_inClass_48 (by decide) rfl ?_
      refine z_iconst (v := (-1 : Int32)) X dX7_inClass_50 (by decide) ?_
      refine z_istore (lv' := [(5, .int (-1 : Int32)), (4, .int (-1 : Int32)), (3, .int (nI 0)), (0, .ref (ad 0)), (1, .int v1), (2, .int v2)]) X dX7_inClass_51 (by decide) rfl ?_
      refine z_iconst (v := (nI 0)) X dX7_inClass_53 (by decide) ?_
      refine z_istore (lv' := [(6, .int (nI 0)), (5, .int (-1 : Int32)), (4, .int (-1 : Int32)), (3, .int (nI 0)), (0, .ref (ad 0)), (1, .int v1), (2, .int v2)]) X dX7_inClass_54 (by decide) rfl ?_
      refine z_sub [4, 5, 6, 3, 2, 1, 0] rfl ?_
      obtain ⟨y4, hy4, h⟩ := ob h
      refine (it_Z (bX7_inClass_B56 X eR hw M r3.1 r3.2.1 r3.2.2 v1 v2) FU _ y4 hy4) ?_
      refine z_iload_n X dX7_inClass_107 0 rfl rfl ?_
      refine z_if_ne (tgt := 115) X dX7_inClass_108 (by decide) (fun c108 => ?_) (fun c108 => ?_)
      · rw [if_neg c108] at h
        refine z_iload_n X dX7_inClass_115 0 rfl rfl ?_
        refine z_iconst (v := (nI 1)) X dX7_inClass_116 (by decide) ?_
        refine z_icmp_ne (tgt := 125) X dX7_inClass_117 (by decide) (fun c117 => ?_) (fun c117 => ?_)
        · rw [if_neg c117] at h
          refine z_iload X dX7_inClass_125 3 rfl ?_
          have hq := Option.some.inj h
          subst hq
          exact z_iret hs dX7_inClass_127 rfl
        · rw [if_pos c117] at h
          refine z_iload X dX7_inClass_120 2 rfl ?_
          refine z_goto (tgt := 127) X dX7_inClass_122 (by decide) ?_
          have hq := Option.some.inj h
          subst hq
          exact z_iret hs dX7_inClass_127 rfl
      · rw [if_pos c108] at h
        refine z_iload_n X dX7_inClass_111 1 rfl rfl ?_
        refine z_goto (tgt := 127) X dX7_inClass_112 (by decide) ?_
        have hq := Option.some.inj h
        subst hq
        exact z_iret hs dX7_inClass_127 rfl
    · rw [if_pos c32] at h
      refine z_iconst (v := (-1 : Int32)) X dX7_inClass_35 (by decide) ?_
      have hq := Option.some.inj h
      subst hq
      exact z_iret hs dX7_inClass_36 rfl
  · rw [if_pos c17] at h
    refine z_bipush (v := (-2 : Int32)) X dX7_inClass_20 (by decide) ?_
    have hq := Option.some.inj h
    subst hq
    exact z_iret hs dX7_inClass_22 rfl
