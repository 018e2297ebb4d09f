set_option maxHeartbeats 4000000 in
theorem tX5_isTree {l : Launch} {D : va_G} {ct : Nat → ClassId} {tF : Nat} {wOf : Mm → va_W} {po ad : Nat → Nat} (hw : KC wOf po ad ct) (M : Mm) {v0 : Int32} {r : Int32} (h : fX5_isTree v0 = some r) : CtI l yX5_isTree cX5_isTree 1 .boolean { frames := 0, cells := 0, slots := 0, locals := 0 } D ct tF wOf [.int v0] M r M := by
  refine metI (by decide) (Nat.le_of_ble_eq_true rfl) fun κ X e1 eR e3 e4 hs => ?_
  subst e1; subst e3; subst e4
  unfold fX5_isTree at h
  refine z_sub (lv' := [(0, .int v0)]) [0] rfl ?_
  refine z_iload_n X dX5_isTree_0 0 rfl rfl ?_
  refine z_if_le (tgt := 15) X dX5_isTree_1 (by decide) (fun c1 => ?_) (fun c1 => ?_)
  · rw [if_pos c1] at h
    refine z_iconst (v := (nI 0)) X dX5_isTree_15 (by decide) ?_
    have hq := Option.some.inj h
    subst hq
    exact z_iret hs dX5_isTree_16 rfl
  · rw [if_neg c1] at h
    refine z_iload_n X dX5_isTree_4 0 rfl rfl ?_
    refine z_sipush (v := (nI 626)) X dX5_isTree_5 (by decide) ?_
    refine z_icmp_ge (tgt := 15) X dX5_isTree_8 (by decide) (fun c8 => ?_) (fun c8 => ?_)
    · rw [if_pos c8] at h
      refine z_iconst (v := (nI 0)) X dX5_isTree_15 (by decide) ?_
      have hq := Option.some.inj h
      subst hq
      exact z_iret hs dX5_isTree_16 rfl
    · rw [if_neg c8] at h
      refine z_iconst (v := (nI 1)) X dX5_isTree_11 (by decide) ?_
      refine z_goto (tgt := 16) X dX5_isTree_12 (by decide) ?_
      have hq := Option.some.inj h
      subst hq
      exact z_iret hs dX5_isTree_16 rfl
set_option maxHeartbeats 4000000 in
theorem tX5_turnPlace {l : Launch} {D : va_G} {ct : Nat → ClassId} {tF : Nat} {wOf : Mm → va_W} {po ad : Nat → Nat} (hw : KC wOf po ad ct) (M : Mm) {v0 : Int32} {v1 : Int32} {r : Int32} (h : fX5_turnPlace v0 v1 = some r) : CtI l yX5_turnPlace cX5_turnPlace 2 .int { frames := 0, cells := 0, slots := 0, locals := 0 } D ct tF wOf [.int v0, .int v1] M r M := by
  refine metI (by decide) (Nat.le_of_ble_eq_true rfl) fun κ X e1 eR e3 e4 hs => ?_
  subst e1; subst e3; subst e4
  unfold fX5_turnPlace at h
  refine z_sub (lv' := [(0, .int v0), (1, .int v1)]) [0, 1] rfl ?_
  refine z_iload_n X dX5_turnPlace_0 0 rfl rfl ?_
  refine z_bipush (v := (nI 7)) X dX5_turnPlace_1 (by decide) ?_
  refine z_imul X dX5_turnPlace_3 ?_
  refine z_iload_n X dX5_turnPlace_4 1 rfl rfl ?_
  refine z_iadd X dX5_turnPlace_5 ?_
  have hq := Option.some.inj h
  subst hq
  exact z_iret hs dX5_turnPlace_6 rfl
set_option maxHeartbeats 4000000 in
theorem jX5_learn_J88 {κ : Rx} {ct : Nat → ClassId} {tF : Nat} {po ad : Nat → Nat} (X : CX κ ct tF cX5_learn 5 RX5) (eR : kR κ = { frames := 4, cells := 0, slots := 0, locals := 92 }) (hw : KC (kw κ) po ad ct) (M : Mm) (a_ups : Nat → Int32) (a_backs : Nat → Int32) (a_learned : Nat → Int32)  (v1 : Int32) (v2 : Int32) (v3 : Int32)  (s : ((Int32 × (Nat → Int32) × (Nat → Int32)) ⊕ ((Nat → Int32) × (Nat → Int32)))) (h : fX5_learn_J88 (M.1 2) (M.1 3) a_ups a_backs v1 v2 v3 = some s) (hs : (Sum.elim (fun x => Zj κ 5 40 [(0, .ref (ad 7)), (1, .int v1), (2, .int v2), (3, .int x.1)] [] (mk M [(8, x.2.1), (9, x.2.2), (10, a_learned)] M.2.1 [])) (fun y => Zj κ 5 94 [(0, .ref (ad 7)), (1, .int v1), (2, .int v2)] [] (mk M [(8, y.1), (9, y.2), (10, a_learned)] M.2.1 [])) s)) : Zj κ 5 88 [(0, .ref (ad 7)), (1, .int v1), (2, .int v2), (3, .int v3)] [] (mk M [(8, a_ups), (9, a_backs), (10, a_learned)] M.2.1 []) := by
  unfold fX5_learn_J88 at h
  refine z_iinc (v := (v3 + nI 1)) (lv' := [(3, .int (v3 + nI 1)), (0, .ref (ad 7)), (1, .int v1), (2, .int v2)]) X dX5_learn_88 3 rfl rfl (by decide) rfl ?_
  refine z_goto (tgt := 40) X dX5_learn_91 (by decide) ?_
  have hq := Option.some.inj h
  subst hq
  exact z_sub [1, 2, 3, 0] rfl hs
set_option maxHeartbeats 4000000 in
theorem bX5_learn_B40 {κ : Rx} {ct : Nat → ClassId} {tF : Nat} {po ad : Nat → Nat} (X : CX κ ct tF cX5_learn 5 RX5) (eR : kR κ = { frames := 4, cells := 0, slots := 0, locals := 92 }) (hw : KC (kw κ) po ad ct) (M : Mm) (a_learned : Nat → Int32) (v1 : Int32) (v2 : Int32) : ∀ (x : (Int32 × (Nat → Int32) × (Nat → Int32))) (s : (Int32 × (Nat → Int32) × (Nat → Int32)) ⊕ ((Nat → Int32) × (Nat → Int32))), fX5_learn_B40 (M.1 2) (M.1 3) v1 v2 x = some s → Sum.elim (fun x => Zj κ 5 40 [(0, .ref (ad 7)), (1, .int v1), (2, .int v2), (3, .int x.1)] [] (mk M [(8, x.2.1), (9, x.2.2), (10, a_learned)] M.2.1 [])) (fun y => Zj κ 5 94 [(0, .ref (ad 7)), (1, .int v1), (2, .int v2)] [] (mk M [(8, y.1), (9, y.2), (10, a_learned)] M.2.1 [])) s → Zj κ 5 40 [(0, .ref (ad 7)), (1, .int v1), (2, .int v2), (3, .int x.1)] [] (mk M [(8, x.2.1), (9, x.2.2), (10, a_learned)] M.2.1 []) := by
  intro x s h hs
  unfold fX5_learn_B40 at h
  refine z_iload_n X dX5_learn_40 3 rfl rfl ?_
  refine z_iload_n X dX5_learn_41 1 rfl rfl ?_
  refine z_icmp_ge (tgt := 94) X dX5_learn_42 (by decide) (fun c42 => ?_) (fun c42 => ?_)
  · rw [if_pos c42] at h
    have hq := Option.some.inj h
    subst hq
    exact z_sub [0, 1, 2] rfl hs
  · rw [if_neg c42] at h
    refine z_aload_n X dX5_learn_45 0 rfl rfl ?_
    refine z_get (j := 0) (v := .ref (ad 1)) X inX5 rfl (by decide) w_221 (hw.2.2.1 _) rfl dX5_learn_46 ?_
    refine z_iload_n X dX5_learn_49 2 rfl rfl ?_
    refine z_iload_n X dX5_learn_50 3 rfl rfl ?_
    obtain ⟨r1, hr1, h⟩ := ob h
    refine z_cVI (As := [.int v2, .int x.1]) (st := []) X (tX0_turnedUp hw.1 (mk M [(8, x.2.1), (9, x.2.2), (10, a_learned)] M.2.1 []) hr1) w_224 mvX0_turnedUp (by rw [eR]; exact ⟨Nat.le_of_ble_eq_true rfl, Nat.le_of_ble_eq_true rfl⟩) ⟨rfl, rfl⟩ rfl (Nat.le_of_ble_eq_true rfl) (hw.1.1 _) rfl rfl dX5_learn_51 ?_
    refine z_istore (lv' := [(4, .int r1), (0, .ref (ad 7)), (1, .int v1), (2, .int v2), (3, .int x.1)]) X dX5_learn_54 (by decide) rfl ?_
    refine z_iload X dX5_learn_56 0 rfl ?_
    obtain ⟨r2, hr2, h⟩ := ob h
    refine z_cSI (As := [.int r1]) (st := []) X (tX5_isTree hw (mk M [(8, x.2.1), (9, x.2.2), (10, a_learned)] M.2.1 []) hr2) w_225 msX5_isTree (by rw [eR]; exact ⟨Nat.le_of_ble_eq_true rfl, Nat.le_of_ble_eq_true rfl⟩) ⟨rfl, rfl⟩ rfl (Nat.le_of_ble_eq_true rfl) rfl dX5_learn_58 ?_
    refine z_if_eq (tgt := 88) X dX5_learn_61 (by decide) (fun c61 => ?_) (fun c61 => ?_)
    · rw [if_pos c61] at h
      exact z_sub [1, 2, 3, 4] rfl (jX5_learn_J88 X eR hw M x.2.1 x.2.2 a_learned v1 v2 x.1 _ h hs)
    · rw [if_neg c61] at h
      refine z_aload_n X dX5_learn_64 1 rfl rfl ?_
      refine z_get (j := 1) (v := .ref (ad 8)) X inX5 rfl (by decide) w_229 (hw.2.2.1 _) rfl dX5_learn_65 ?_
      refine z_iload_n X dX5_learn_68 3 rfl rfl ?_
      refine z_iload_n X dX5_learn_69 4 rfl rfl ?_
      obtain ⟨r3, hr3, h⟩ := ob h
      refine z_cSI (As := [.int v2, .int x.1]) (st := [.ref (ad 8)]) X (tX5_turnPlace hw (mk M [(8, x.2.1), (9, x.2.2), (10, a_learned)] M.2.1 []) hr3) w_230 msX5_turnPlace (by rw [eR]; exact ⟨Nat.le_of_ble_eq_true rfl, Nat.le_of_ble_eq_true rfl⟩) ⟨rfl, rfl⟩ rfl (Nat.le_of_ble_eq_true rfl) rfl dX5_learn_70 ?_
      refine z_iload X dX5_learn_73 0 rfl ?_
      obtain ⟨u4, hu4, h⟩ := ob h
      refine z_iast (M' := (mk M [(8, u4), (9, x.2.2), (10, a_learned)] M.2.1 [])) X (hw.2.2.2.2.2.2.2.2.2.1 _).1 (wr_ok hu4) (mk_set1 (l' := [(8, u4), (9, x.2.2), (10, a_learned)]) (hw.2.2.2.2.2.2.2.2.2.1) rfl rfl) dX5_learn_75 ?_
      refine z_aload_n X dX5_learn_76 1 rfl rfl ?_
      refine z_get (j := 2) (v := .ref (ad 9)) X inX5 rfl (by decide) w_233 (hw.2.2.1 _) rfl dX5_learn_77 ?_
      refine z_iload X dX5_learn_80 0 rfl ?_
      refine z_iload_n X dX5_learn_82 4 rfl rfl ?_
      obtain ⟨r5, hr5, h⟩ := ob h
      refine z_cSI (As := [.int r1, .int x.1]) (st := [.ref (ad 9)]) X (tX5_turnPlace hw (mk M [(8, u4), (9, x.2.2), (10, a_learned)] M.2.1 []) hr5) w_230 msX5_turnPlace (by rw [eR]; exact ⟨Nat.le_of_ble_eq_true rfl, Nat.le_of_ble_eq_true rfl⟩) ⟨rfl, rfl⟩ rfl (Nat.le_of_ble_eq_true rfl) rfl dX5_learn_83 ?_
      refine z_iload_n X dX5_learn_86 3 rfl rfl ?_
      obtain ⟨u6, hu6, h⟩ := ob h
      refine z_iast (M' := (mk M [(8, u4), (9, u6), (10, a_learned)] M.2.1 [])) X (hw.2.2.2.2.2.2.2.2.2.2.1 _).1 (wr_ok hu6) (mk_set1 (l' := [(8, u4), (9, u6), (10, a_learned)]) (hw.2.2.2.2.2.2.2.2.2.2.1) rfl rfl) dX5_learn_87 ?_
      exact z_sub [1, 2, 3, 4] rfl (jX5_learn_J88 X eR hw M u4 u6 a_learned v1 v2 x.1 _ h hs)
set_option maxHeartbeats 4000000 in
theorem bX5_learn_B26 {κ : Rx} {ct : Nat → ClassId} {tF : Nat} {po ad : Nat → Nat} (X : CX κ ct tF cX5_learn 5 RX5) (eR : kR κ = { frames := 4, cells := 0, slots := 0, locals := 92 }) (hw : KC (kw κ) po ad ct) (M : Mm) (a_learned : Nat → Int32) (v1 : Int32) : ∀ (x : (Int32 × (Nat → Int32) × (Nat → Int32))) (s : (Int32 × (Nat → Int32) × (Nat → Int32)) ⊕ ((Nat → Int32) × (Nat → Int32))), fX5_learn_B26 (M.1 2) (M.1 3) v1 x = some s → Sum.elim (fun x => Zj κ 5 26 [(0, .ref (ad 7)), (1, .int v1), (2, .int x.1)] [] (mk M [(8, x.2.1), (9, x.2.2), (10, a_learned)] M.2.1 [])) (fun y => Zj κ 5 100 [(0, .ref (ad 7)), (1, .int v1)] [] (mk M [(8, y.1), (9, y.2), (10, a_learned)] M.2.1 [])) s → Zj κ 5 26 [(0, .ref (ad 7)), (1, .int v1), (2, .int x.1)] [] (mk M [(8, x.2.1), (9, x.2.2), (10, a_learned)] M.2.1 []) := by
  intro x s h hs
  unfold fX5_learn_B26 at h
  refine z_iload_n X dX5_learn_26 2 rfl rfl ?_
  refine z_aload_n X dX5_learn_27 0 rfl rfl ?_
  refine z_get (j := 0) (v := .ref (ad 1)) X inX5 rfl (by decide) w_221 (hw.2.2.1 _) rfl dX5_learn_28 ?_
  refine z_iload_n X dX5_learn_31 1 rfl rfl ?_
  obtain ⟨r1, hr1, h⟩ := ob h
  refine z_cVI (As := [.int v1]) (st := [.int x.1]) X (tX0_lastOf hw.1 (mk M [(8, x.2.1), (9, x.2.2), (10, a_learned)] M.2.1 []) hr1) w_223 mvX0_lastOf (by rw [eR]; exact ⟨Nat.le_of_ble_eq_true rfl, Nat.le_of_ble_eq_true rfl⟩) ⟨rfl, rfl⟩ rfl (Nat.le_of_ble_eq_true rfl) (hw.1.1 _) rfl rfl dX5_learn_32 ?_
  refine z_icmp_gt (tgt := 100) X dX5_learn_35 (by decide) (fun c35 => ?_) (fun c35 => ?_)
  · rw [if_pos c35] at h
    have hq := Option.some.inj h
    subst hq
    exact z_sub [0, 1] rfl hs
  · rw [if_neg c35] at h
    refine z_iconst (v := (nI 0)) X dX5_learn_38 (by decide) ?_
    refine z_istore_n (lv' := [(3, .int (nI 0)), (0, .ref (ad 7)), (1, .int v1), (2, .int x.1)]) X dX5_learn_39 rfl (by decide) rfl ?_
    refine z_sub [1, 2, 3, 0] rfl ?_
    obtain ⟨y2, hy2, h⟩ := ob h
    refine (it_Z (bX5_learn_B40 X eR hw M a_learned v1 x.1) FU _ y2 hy2) ?_
    refine z_iinc (v := (x.1 + nI 1)) (lv' := [(2, .int (x.1 + nI 1)), (0, .ref (ad 7)), (1, .int v1)]) X dX5_learn_94 2 rfl rfl (by decide) rfl ?_
    refine z_goto (tgt := 26) X dX5_learn_97 (by decide) ?_
    have hq := Option.some.inj h
    subst hq
    exact z_sub [1, 2, 0] rfl hs
set_option maxHeartbeats 4000000 in
theorem tX5_learn {l : Launch} {D : va_G} {ct : Nat → ClassId} {tF : Nat} {wOf : Mm → va_W} {po ad : Nat → Nat} (hw : KC wOf po ad ct) (M : Mm) {v1 : Int32} {r : ((Nat → Int32) × (Nat → Int32) × (Nat → Int32))} (h : fX5_learn (M.1 2) (M.1 3) (M.1 8) (M.1 9) (M.1 10) v1 = some r) : CtV l yX5_learn cX5_learn 5 { frames := 4, cells := 0, slots := 0, locals := 92 } D ct tF wOf [.ref (ad 7), .int v1] M (mk M [(8, r.1), (9, r.2.1), (10, r.2.2)] M.2.1 []) := by
  refine metV (by decide) (Nat.le_of_ble_eq_true rfl) fun κ X e1 eR e3 e4 hs => ?_
  subst e1; subst e3; subst e4
  unfold fX5_learn at h
  refine z_mem (mk_self M [8, 9, 10] []) ?_
  refine z_sub (lv' := [(0, .ref (ad 7)), (1, .int v1)]) [0, 1] rfl ?_
  show Zj κ 5 0 _ _ (mk M [(8, (M.1 8)), (9, (M.1 9)), (10, (M.1 10))] M.2.1 [])
  refine z_iload_n X dX5_learn_0 1 rfl rfl ?_
  obtain ⟨r1, hr1, h⟩ := ob h
  refine z_cSI (As := [.int v1]) (st := []) X (tX0_isSize hw.1 (mk M [(8, (M.1 8)), (9, (M.1 9)), (10, (M.1 10))] M.2.1 []) hr1) w_219 msX0_isSize (by rw [eR]; exact ⟨Nat.le_of_ble_eq_true rfl, Nat.le_of_ble_eq_true rfl⟩) ⟨rfl, rfl⟩ rfl (Nat.le_of_ble_eq_true rfl) rfl dX5_learn_1 ?_
  refine z_if_eq (tgt := 16) X dX5_learn_4 (by decide) (fun c4 => ?_) (fun c4 => ?_)
  · rw [if_pos c4] at h
    have hq := Option.some.inj h
    subst hq
    exact z_vret hs dX5_learn_16
  · rw [if_neg c4] at h
    refine z_aload_n X dX5_learn_7 0 rfl rfl ?_
    refine z_get (j := 3) (v := .ref (ad 10)) X inX5 rfl (by decide) w_220 (hw.2.2.1 _) rfl dX5_learn_8 ?_
    refine z_iload_n X dX5_learn_11 1 rfl rfl ?_
    obtain ⟨t2, ht2, h⟩ := ob h
    refine z_zald X (hw.2.2.2.2.2.2.2.2.2.2.2.1 _).1 (rd_ok ht2) dX5_learn_12 ?_
    refine z_if_eq (tgt := 17) X dX5_learn_13 (by decide) (fun c13 => ?_) (fun c13 => ?_)
    · rw [if_pos c13] at h
      refine z_aload_n X dX5_learn_17 0 rfl rfl ?_
      refine z_get (j := 0) (v := .ref (ad 1)) X inX5 rfl (by decide) w_221 (hw.2.2.1 _) rfl dX5_learn_18 ?_
      refine z_iload_n X dX5_learn_21 1 rfl rfl ?_
      obtain ⟨r3, hr3, h⟩ := ob h
      refine z_cVI (As := [.int v1]) (st := []) X (tX0_firstOf hw.1 (mk M [(8, (M.1 8)), (9, (M.1 9)), (10, (M.1 10))] M.2.1 []) hr3) w_222 mvX0_firstOf (by rw [eR]; exact ⟨Nat.le_of_ble_eq_true rfl, Nat.le_of_ble_eq_true rfl⟩) ⟨rfl, rfl⟩ rfl (Nat.le_of_ble_eq_true rfl) (hw.1.1 _) rfl rfl dX5_learn_22 ?_
      refine z_istore_n (lv' := [(2, .int r3), (0, .ref (ad 7)), (1, .int v1)]) X dX5_learn_25 rfl (by decide) rfl ?_
      refine z_sub [1, 2, 0] rfl ?_
      obtain ⟨y4, hy4, h⟩ := ob h
      refine (it_Z (bX5_learn_B26 X eR hw M (M.1 10) v1) FU _ y4 hy4) ?_
      refine z_aload_n X dX5_learn_100 0 rfl rfl ?_
      refine z_get (j := 3) (v := .ref (ad 10)) X inX5 rfl (by decide) w_220 (hw.2.2.1 _) rfl dX5_learn_101 ?_
      refine z_iload_n X dX5_learn_104 1 rfl rfl ?_
      refine z_iconst (v := (nI 1)) X dX5_learn_105 (by decide) ?_
      obtain ⟨u5, hu5, h⟩ := ob h
      refine z_zast (M' := (mk M [(8, y4.1), (9, y4.2), (10, u5)] M.2.1 [])) X (hw.2.2.2.2.2.2.2.2.2.2.2.1 _).1 (wr_ok hu5) (mk_set1 (l' := [(8, y4.1), (9, y4.2), (10, u5)]) (hw.2.2.2.2.2.2.2.2.2.2.2.1) rfl rfl) dX5_learn_106 ?_
      have hq := Option.some.inj h
      subst hq
      exact z_vret hs dX5_learn_107
    · rw [if_neg c13] at h
      have hq := Option.some.inj h
      subst hq
      exact z_vret hs dX5_learn_16
set_option maxHeartbeats 4000000 in
theorem tX5_reach {l : Launch} {D : va_G} {ct : Nat → ClassId} {tF : Nat} {wOf : Mm → va_W} {po ad : Nat → Nat} (hw : KC wOf po ad ct) (M : Mm) {v1 : Int32} {v2 : Int32} {r : ((Nat → Int32) × (Nat → Int32) × Int32)} (h : fX5_reach (M.1 11) (M.1 12) (M.2.2 42) v1 v2 = some r) : CtV l yX5_reach cX5_reach 3 { frames := 1, cells := 0, slots := 0, locals := 20 } D ct tF wOf [.ref (ad 7), .int v1, .int v2] M (mk M [(11, r.1), (12, r.2.1)] M.2.1 [(42, r.2.2)]) := by
  refine metV (by decide) (Nat.le_of_ble_eq_true rfl) fun κ X e1 eR e3 e4 hs => ?_
  subst e1; subst e3; subst e4
  unfold fX5_reach at h
  refine z_mem (mk_self M [11, 12] [42]) ?_
  refine z_sub (lv' := [(0, .ref (ad 7)), (1, .int v1), (2, .int v2)]) [0, 1, 2] rfl ?_
  show Zj κ 3 0 _ _ (mk M [(11, (M.1 11)), (12, (M.1 12))] M.2.1 [(42, (M.2.2 42))])
  refine z_iload_n X dX5_reach_0 1 rfl rfl ?_
  obtain ⟨r1, hr1, h⟩ := ob h
  refine z_cSI (As := [.int v1]) (st := []) X (tX5_isTree hw (mk M [(11, (M.1 11)), (12, (M.1 12))] M.2.1 [(42, (M.2.2 42))]) hr1) w_225 msX5_isTree (by rw [eR]; exact ⟨Nat.le_of_ble_eq_true rfl, Nat.le_of_ble_eq_true rfl⟩) ⟨rfl, rfl⟩ rfl (Nat.le_of_ble_eq_true rfl) rfl dX5_reach_1 ?_
  refine z_if_eq (tgt := 54) X dX5_reach_4 (by decide) (fun c4 => ?_) (fun c4 => ?_)
  · rw [if_pos c4] at h
    have hq := Option.some.inj h
    subst hq
    exact z_vret hs dX5_reach_54
  · rw [if_neg c4] at h
    refine z_aload_n X dX5_reach_7 0 rfl rfl ?_
    refine z_get (j := 4) (v := .ref (ad 11)) X inX5 rfl (by decide) w_234 (hw.2.2.1 _) rfl dX5_reach_8 ?_
    refine z_iload_n X dX5_reach_11 1 rfl rfl ?_
    obtain ⟨t2, ht2, h⟩ := ob h
    refine z_iald X (hw.2.2.2.2.2.2.2.2.2.2.2.2.1 _).1 (rd_ok ht2) dX5_reach_12 ?_
    refine z_iconst (v := (-1 : Int32)) X dX5_reach_13 (by decide) ?_
    refine z_icmp_ne (tgt := 54) X dX5_reach_14 (by decide) (fun c14 => ?_) (fun c14 => ?_)
    · rw [if_neg c14] at h
      have hq := Option.some.inj h
      subst hq
      exact z_vret hs dX5_reach_54
    · rw [if_pos c14] at h
      refine z_aload_n X dX5_reach_17 0 rfl rfl ?_
      refine z_get (j := 7) (v := .int (M.2.2 42)) X inX5 rfl (by decide) w_235 (hw.2.2.1 _) rfl dX5_reach_18 ?_
      refine z_sipush (v := (nI 429)) X dX5_reach_21 (by decide) ?_
      refine z_icmp_ge (tgt := 54) X dX5_reach_24 (by decide) (fun c24 => ?_) (fun c24 => ?_)
      · rw [if_pos c24] at h
        have hq := Option.some.inj h
        subst hq
        exact z_vret hs dX5_reach_54
      · rw [if_neg c24] at h
        refine z_aload_n X dX5_reach_27 0 rfl rfl ?_
        refine z_get (j := 4) (v := .ref (ad 11)) X inX5 rfl (by decide) w_234 (hw.2.2.1 _) rfl dX5_reach_28 ?_
        refine z_iload_n X dX5_reach_31 1 rfl rfl ?_
        refine z_iload_n X dX5_reach_32 2 rfl rfl ?_
        obtain ⟨u3, hu3, h⟩ := ob h
        refine z_iast (M' := (mk M [(11, u3), (12, (M.1 12))] M.2.1 [(42, (M.2.2 42))])) X (hw.2.2.2.2.2.2.2.2.2.2.2.2.1 _).1 (wr_ok hu3) (mk_set1 (l' := [(11, u3), (12, (M.1 12))]) (hw.2.2.2.2.2.2.2.2.2.2.2.2.1) rfl rfl) dX5_reach_33 ?_
        refine z_aload_n X dX5_reach_34 0 rfl rfl ?_
        refine z_get (j := 5) (v := .ref (ad 12)) X inX5 rfl (by decide) w_236 (hw.2.2.1 _) rfl dX5_reach_35 ?_
        refine z_aload_n X dX5_reach_38 0 rfl rfl ?_
        refine z_get (j := 7) (v := .int (M.2.2 42)) X inX5 rfl (by decide) w_235 (hw.2.2.1 _) rfl dX5_reach_39 ?_
        refine z_iload_n X dX5_reach_42 1 rfl rfl ?_
        obtain ⟨u4, hu4, h⟩ := ob h
        refine z_iast (M' := (mk M [(11, u3), (12, u4)] M.2.1 [(42, (M.2.2 42))])) X (hw.2.2.2.2.2.2.2.2.2.2.2.2.2.1 _).1 (wr_ok hu4) (mk_set1 (l' := [(11, u3), (12, u4)]) (hw.2.2.2.2.2.2.2.2.2.2.2.2.2.1) rfl rfl) dX5_reach_43 ?_
        refine z_aload_n X dX5_reach_44 0 rfl rfl ?_
        refine z_dup X dX5_reach_45 rfl ?_
        refine z_get (j := 7) (v := .int (M.2.2 42)) X inX5 rfl (by decide) w_235 (hw.2.2.1 _) rfl dX5_reach_46 ?_
        refine z_iconst (v := (nI 1)) X dX5_reach_49 (by decide) ?_
        refine z_iadd X dX5_reach_50 ?_
        refine z_put (j := 7) (ty := .int) (M' := (mk M [(11, u3), (12, u4)] M.2.1 [(42, ((M.2.2 42) + (nI 1)))])) X inX5 tyX5 tyX5_ok nmX5 rfl (by decide) w_235 rfl (by decide +kernel) rfl rfl (hw.2.2.1 _) (Nat.le_of_ble_eq_true rfl) (mk_setS (sl' := [(42, ((M.2.2 42) + (nI 1)))]) (hw.2.2.2.2.2.2.2.2.2.2.2.2.2.2.2.2.2.2.2.2.2.2.2.2.2.1) rfl rfl) dX5_reach_51 ?_
        have hq := Option.some.inj h
        subst hq
        exact z_vret hs dX5_reach_54
set_option maxHeartbeats 4000000 in
theorem bX5_measure_B77 {κ : Rx} {ct : Nat → ClassId} {tF : Nat} {po ad : Nat → Nat} (X : CX κ ct tF cX5_measure 6 RX5) (eR : kR κ = { frames := 5, cells := 0, slots := 0, locals := 116 }) (hw : KC (kw κ) po ad ct) (M : Mm) (a_ups : Nat → Int32) (a_backs : Nat → Int32) (a_learned : Nat → Int32) (s_measured : Int32) (v1 : Int32) (v2 : Int32) (v3 : Int32) (v4 : Int32) : ∀ (x : (Int32 × (Nat → Int32) × (Nat → Int32) × Int32)) (s : (Int32 × (Nat → Int32) × (Nat → Int32) × Int32) ⊕ ((Nat → Int32) × (Nat → Int32) × Int32)), fX5_measure_B77 a_ups a_backs v1 v2 v3 v4 x = some s → Sum.elim (fun x => Zj κ 6 77 [(0, .ref (ad 7)), (1, .int v1), (2, .int v2), (3, .int v3), (4, .int v4), (5, .int x.1)] [] (mk M [(8, a_ups), (9, a_backs), (10, a_learned), (11, x.2.1), (12, x.2.2.1)] M.2.1 [(42, x.2.2.2), (43, s_measured)])) (fun y => Zj κ 6 139 [(0, .ref (ad 7)), (1, .int v1), (2, .int v2), (3, .int v3)] [] (mk M [(8, a_ups), (9, a_backs), (10, a_learned), (11, y.1), (12, y.2.1)] M.2.1 [(42, y.2.2), (43, s_measured)])) s → Zj κ 6 77 [(0, .ref (ad 7)), (1, .int v1), (2, .int v2), (3, .int v3), (4, .int v4), (5, .int x.1)] [] (mk M [(8, a_ups), (9, a_backs), (10, a_learned), (11, x.2.1), (12, x.2.2.1)] M.2.1 [(42, x.2.2.2), (43, s_measured)]) := by
  intro x s h hs
  unfold fX5_measure_B77 at h
  refine z_iload X dX5_measure_77 5 rfl ?_
  refine z_iload_n X dX5_measure_79 2 rfl rfl ?_
  refine z_icmp_ge (tgt := 139) X dX5_measure_80 (by decide) (fun c80 => ?_) (fun c80 => ?_)
  · rw [if_pos c80] at h
    have hq := Option.some.inj h
    subst hq
    exact z_sub [0, 1, 2, 3] rfl hs
  · rw [if_neg c80] at h
    refine z_aload_n X dX5_measure_83 0 rfl rfl ?_
    refine z_aload_n X dX5_measure_84 0 rfl rfl ?_
    refine z_get (j := 1) (v := .ref (ad 8)) X inX5 rfl (by decide) w_229 (hw.2.2.1 _) rfl dX5_measure_85 ?_
    refine z_iload X dX5_measure_88 4 rfl ?_
    refine z_iload X dX5_measure_90 5 rfl ?_
    obtain ⟨r1, hr1, h⟩ := ob h
    refine z_cSI (As := [.int v4, .int x.1]) (st := [.ref (ad 8), .ref (ad 7)]) X (tX5_turnPlace hw (mk M [(8, a_ups), (9, a_backs), (10, a_learned), (11, x.2.1), (12, x.2.2.1)] M.2.1 [(42, x.2.2.2), (43, s_measured)]) hr1) w_230 msX5_turnPlace (by rw [eR]; exact ⟨Nat.le_of_ble_eq_true rfl, Nat.le_of_ble_eq_true rfl⟩) ⟨rfl, rfl⟩ rfl (Nat.le_of_ble_eq_true rfl) rfl dX5_measure_92 ?_
    obtain ⟨t2, ht2, h⟩ := ob h
    refine z_iald X (hw.2.2.2.2.2.2.2.2.2.1 _).1 (rd_ok ht2) dX5_measure_95 ?_
    refine z_aload_n X dX5_measure_96 0 rfl rfl ?_
    refine z_get (j := 4) (v := .ref (ad 11)) X inX5 rfl (by decide) w_234 (hw.2.2.1 _) rfl dX5_measure_97 ?_
    refine z_iload X dX5_measure_100 4 rfl ?_
    obtain ⟨t3, ht3, h⟩ := ob h
    refine z_iald X (hw.2.2.2.2.2.2.2.2.2.2.2.2.1 _).1 (rd_ok ht3) dX5_measure_102 ?_
    refine z_iconst (v := (nI 1)) X dX5_measure_103 (by decide) ?_
    refine z_iadd X dX5_measure_104 ?_
    obtain ⟨r4, hr4, h⟩ := ob h
    refine z_cVV (As := [.int t2, .int (t3 + (nI 1))]) (st := []) X (tX5_reach hw (mk M [(8, a_ups), (9, a_backs), (10, a_learned), (11, x.2.1), (12, x.2.2.1)] M.2.1 [(42, x.2.2.2), (43, s_measured)]) hr4) w_244 mvX5_reach (by rw [eR]; exact ⟨Nat.le_of_ble_eq_true rfl, Nat.le_of_ble_eq_true rfl⟩) ⟨rfl, rfl⟩ rfl (Nat.le_of_ble_eq_true rfl) (hw.2.2.1 _) rfl rfl dX5_measure_105 ?_
    refine z_mem (mk_mk (l' := [(8, a_ups), (9, a_backs), (10, a_learned), (11, r4.1), (12, r4.2.1)]) (sl' := [(42, r4.2.2), (43, s_measured)]) rfl rfl rfl rfl) ?_
    refine z_aload_n X dX5_measure_108 0 rfl rfl ?_
    refine z_aload_n X dX5_measure_109 0 rfl rfl ?_
    refine z_get (j := 2) (v := .ref (ad 9)) X inX5 rfl (by decide) w_233 (hw.2.2.1 _) rfl dX5_measure_110 ?_
    refine z_iload X dX5_measure_113 4 rfl ?_
    refine z_iload X dX5_measure_115 5 rfl ?_
    obtain ⟨r5, hr5, h⟩ := ob h
    refine z_cSI (As := [.int v4, .int x.1]) (st := [.ref (ad 9), .ref (ad 7)]) X (tX5_turnPlace hw (mk M [(8, a_ups), (9, a_backs), (10, a_learned), (11, r4.1), (12, r4.2.1)] M.2.1 [(42, r4.2.2), (43, s_measured)]) hr5) w_230 msX5_turnPlace (by rw [eR]; exact ⟨Nat.le_of_ble_eq_true rfl, Nat.le_of_ble_eq_true rfl⟩) ⟨rfl, rfl⟩ rfl (Nat.le_of_ble_eq_true rfl) rfl dX5_measure_117 ?_
    obtain ⟨t6, ht6, h⟩ := ob h
    refine z_iald X (hw.2.2.2.2.2.2.2.2.2.2.1 _).1 (rd_ok ht6) dX5_measure_120 ?_
    refine z_aload_n X dX5_measure_121 0 rfl rfl ?_
    refine z_get (j := 4) (v := .ref (ad 11)) X inX5 rfl (by decide) w_234 (hw.2.2.1 _) rfl dX5_measure_122 ?_
    refine z_iload X dX5_measure_125 4 rfl ?_
    obtain ⟨t7, ht7, h⟩ := ob h
    refine z_iald X (hw.2.2.2.2.2.2.2.2.2.2.2.2.1 _).1 (rd_ok ht7) dX5_measure_127 ?_
    refine z_iconst (v := (nI 1)) X dX5_measure_128 (by decide) ?_
    refine z_iadd X dX5_measure_129 ?_
    obtain ⟨r8, hr8, h⟩ := ob h
    refine z_cVV (As := [.int t6, .int (t7 + (nI 1))]) (st := []) X (tX5_reach hw (mk M [(8, a_ups), (9, a_backs), (10, a_learned), (11, r4.1), (12, r4.2.1)] M.2.1 [(42, r4.2.2), (43, s_measured)]) hr8) w_244 mvX5_reach (by rw [eR]; exact ⟨Nat.le_of_ble_eq_true rfl, Nat.le_of_ble_eq_true rfl⟩) ⟨rfl, rfl⟩ rfl (Nat.le_of_ble_eq_true rfl) (hw.2.2.1 _) rfl rfl dX5_measure_130 ?_
    refine z_mem (mk_mk (l' := [(8, a_ups), (9, a_backs), (10, a_learned), (11, r8.1), (12, r8.2.1)]) (sl' := [(42, r8.2.2), (43, s_measured)]) rfl rfl rfl rfl) ?_
    refine z_iinc (v := (x.1 + nI 1)) (lv' := [(5, .int (x.1 + nI 1)), (0, .ref (ad 7)), (1, .int v1), (2, .int v2), (3, .int v3), (4, .int v4)]) X dX5_measure_133 5 rfl rfl (by decide) rfl ?_
    refine z_goto (tgt := 77) X dX5_measure_136 (by decide) ?_
    have hq := Option.some.inj h
    subst hq
    exact z_sub [1, 2, 3, 4, 5, 0] rfl hs
set_option maxHeartbeats 4000000 in
theorem bX5_measure_B51 {κ : Rx} {ct : Nat → ClassId} {tF : Nat} {po ad : Nat → Nat} (X : CX κ ct tF cX5_measure 6 RX5) (eR : kR κ = { frames := 5, cells := 0, slots := 0, locals := 116 }) (hw : KC (kw κ) po ad ct) (M : Mm) (a_ups : Nat → Int32) (a_backs : Nat → Int32) (a_learned : Nat → Int32) (s_measured : Int32) (v1 : Int32) (v2 : Int32) : ∀ (x : (Int32 × (Nat → Int32) × (Nat → Int32) × Int32)) (s : (Int32 × (Nat → Int32) × (Nat → Int32) × Int32) ⊕ ((Nat → Int32) × (Nat → Int32) × Int32)), fX5_measure_B51 a_ups a_backs v1 v2 x = some s → Sum.elim (fun x => Zj κ 6 51 [(0, .ref (ad 7)), (1, .int v1), (2, .int v2), (3, .int x.1)] [] (mk M [(8, a_ups), (9, a_backs), (10, a_learned), (11, x.2.1), (12, x.2.2.1)] M.2.1 [(42, x.2.2.2), (43, s_measured)])) (fun y => Zj κ 6 145 [(0, .ref (ad 7)), (1, .int v1)] [] (mk M [(8, a_ups), (9, a_backs), (10, a_learned), (11, y.1), (12, y.2.1)] M.2.1 [(42, y.2.2), (43, s_measured)])) s → Zj κ 6 51 [(0, .ref (ad 7)), (1, .int v1), (2, .int v2), (3, .int x.1)] [] (mk M [(8, a_ups), (9, a_backs), (10, a_learned), (11, x.2.1), (12, x.2.2.1)] M.2.1 [(42, x.2.2.2), (43, s_measured)]) := by
  intro x s h hs
  unfold fX5_measure_B51 at h
  refine z_iload_n X dX5_measure_51 3 rfl rfl ?_
  refine z_aload_n X dX5_measure_52 0 rfl rfl ?_
  refine z_get (j := 7) (v := .int x.2.2.2) X inX5 rfl (by decide) w_235 (hw.2.2.1 _) rfl dX5_measure_53 ?_
  refine z_icmp_ge (tgt := 145) X dX5_measure_56 (by decide) (fun c56 => ?_) (fun c56 => ?_)
  · rw [if_pos c56] at h
    have hq := Option.some.inj h
    subst hq
    exact z_sub [0, 1] rfl hs
  · rw [if_neg c56] at h
    refine z_iload_n X dX5_measure_59 3 rfl rfl ?_
    refine z_sipush (v := (nI 429)) X dX5_measure_60 (by decide) ?_
    refine z_icmp_ge (tgt := 145) X dX5_measure_63 (by decide) (fun c63 => ?_) (fun c63 => ?_)
    · rw [if_pos c63] at h
      have hq := Option.some.inj h
      subst hq
      exact z_sub [0, 1] rfl hs
    · rw [if_neg c63] at h
      refine z_aload_n X dX5_measure_66 0 rfl rfl ?_
      refine z_get (j := 5) (v := .ref (ad 12)) X inX5 rfl (by decide) w_236 (hw.2.2.1 _) rfl dX5_measure_67 ?_
      refine z_iload_n X dX5_measure_70 3 rfl rfl ?_
      obtain ⟨t1, ht1, h⟩ := ob h
      refine z_iald X (hw.2.2.2.2.2.2.2.2.2.2.2.2.2.1 _).1 (rd_ok ht1) dX5_measure_71 ?_
      refine z_istore (lv' := [(4, .int t1), (0, .ref (ad 7)), (1, .int v1), (2, .int v2), (3, .int x.1)]) X dX5_measure_72 (by decide) rfl ?_
      refine z_iconst (v := (nI 0)) X dX5_measure_74 (by decide) ?_
      refine z_istore (lv' := [(5, .int (nI 0)), (4, .int t1), (0, .ref (ad 7)), (1, .int v1), (2, .int v2), (3, .int x.1)]) X dX5_measure_75 (by decide) rfl ?_
      refine z_sub [2, 3, 4, 5, 1, 0] rfl ?_
      obtain ⟨y2, hy2, h⟩ := ob h
      refine (it_Z (bX5_measure_B77 X eR hw M a_ups a_backs a_learned s_measured v1 v2 x.1 t1) FU _ y2 hy2) ?_
      refine z_iinc (v := (x.1 + nI 1)) (lv' := [(3, .int (x.1 + nI 1)), (0, .ref (ad 7)), (1, .int v1), (2, .int v2)]) X dX5_measure_139 3 rfl rfl (by decide) rfl ?_
      refine z_goto (tgt := 51) X dX5_measure_142 (by decide) ?_
      have hq := Option.some.inj h
      subst hq
      exact z_sub [1, 2, 3, 0] rfl hs
set_option maxHeartbeats 4000000 in
theorem tX5_measure {l : Launch} {D : va_G} {ct : Nat → ClassId} {tF : Nat} {wOf : Mm → va_W} {po ad : Nat → Nat} (hw : KC wOf po ad ct) (M : Mm) {v1 : Int32} {r : ((Nat → Int32) × (Nat → Int32) × (Nat → Int32) × (Nat → Int32) × (Nat → Int32) × Int32 × Int32)} (h : fX5_measure (M.1 2) (M.1 3) (M.1 8) (M.1 9) (M.1 10) (M.1 11) (M.1 12) (M.2.2 42) (M.2.2 43) v1 = some r) : CtV l yX5_measure cX5_measure 6 { frames := 5, cells := 0, slots := 0, locals := 116 } D ct tF wOf [.ref (ad 7), .int v1] M (mk M [(8, r.1), (9, r.2.1), (10, r.2.2.1), (11, r.2.2.2.1), (12, r.2.2.2.2.1)] M.2.1 [(42, r.2.2.2.2.2.1), (43, r.2.2.2.2.2.2)]) := by
  refine metV (by decide) (Nat.le_of_ble_eq_true rfl) fun κ X e1 eR e3 e4 hs => ?_
  subst e1; subst e3; subst e4
  unfold fX5_measure at h
  refine z_mem (mk_self M [8, 9, 10, 11, 12] [42, 43]) ?_
  refine z_sub (lv' := [(0, .ref (ad 7)), (1, .int v1)]) [0, 1] rfl ?_
  show Zj κ 6 0 _ _ (mk M [(8, (M.1 8)), (9, (M.1 9)), (10, (M.1 10)), (11, (M.1 11)), (12, (M.1 12))] M.2.1 [(42, (M.2.2 42)), (43, (M.2.2 43))])
  refine z_iload_n X dX5_measure_0 1 rfl rfl ?_
  refine z_aload_n X dX5_measure_1 0 rfl rfl ?_
  refine z_get (j := 8) (v := .int (M.2.2 43)) X inX5 rfl (by decide) w_237 (hw.2.2.1 _) rfl dX5_measure_2 ?_
  refine z_icmp_eq (tgt := 15) X dX5_measure_5 (by decide) (fun c5 => ?_) (fun c5 => ?_)
  · rw [if_pos c5] at h
    have hq := Option.some.inj h
    subst hq
    exact z_vret hs dX5_measure_15
  · rw [if_neg c5] at h
    refine z_iload_n X dX5_measure_8 1 rfl rfl ?_
    obtain ⟨r1, hr1, h⟩ := ob h
    refine z_cSI (As := [.int v1]) (st := []) X (tX5_isTree hw (mk M [(8, (M.1 8)), (9, (M.1 9)), (10, (M.1 10)), (11, (M.1 11)), (12, (M.1 12))] M.2.1 [(42, (M.2.2 42)), (43, (M.2.2 43))]) hr1) w_225 msX5_isTree (by rw [eR]; exact ⟨Nat.le_of_ble_eq_true rfl, Nat.le_of_ble_eq_true rfl⟩) ⟨rfl, rfl⟩ rfl (Nat.le_of_ble_eq_true rfl) rfl dX5_measure_9 ?_
    refine z_if_ne (tgt := 16) X dX5_measure_12 (by decide) (fun c12 => ?_) (fun c12 => ?_)
    · rw [if_neg c12] at h
      refine z_aload_n X dX5_measure_16 0 rfl rfl ?_
      refine z_get (j := 0) (v := .ref (ad 1)) X inX5 rfl (by decide) w_221 (hw.2.2.1 _) rfl dX5_measure_17 ?_
      refine z_iload_n X dX5_measure_20 1 rfl rfl ?_
      obtain ⟨r2, hr2, h⟩ := ob h
      refine z_cVI (As := [.int v1]) (st := []) X (tX0_sizeOf hw.1 (mk M [(8, (M.1 8)), (9, (M.1 9)), (10, (M.1 10)), (11, (M.1 11)), (12, (M.1 12))] M.2.1 [(42, (M.2.2 42)), (43, (M.2.2 43))]) hr2) w_238 mvX0_sizeOf (by rw [eR]; exact ⟨Nat.le_of_ble_eq_true rfl, Nat.le_of_ble_eq_true rfl⟩) ⟨rfl, rfl⟩ rfl (Nat.le_of_ble_eq_true rfl) (hw.1.1 _) rfl rfl dX5_measure_21 ?_
      refine z_istore_n (lv' := [(2, .int r2), (0, .ref (ad 7)), (1, .int v1)]) X dX5_measure_24 rfl (by decide) rfl ?_
      refine z_aload_n X dX5_measure_25 1 rfl rfl ?_
      refine z_iload_n X dX5_measure_26 0 rfl rfl ?_
      obtain ⟨r3, hr3, h⟩ := ob h
      refine z_cVV (As := [.int r2]) (st := []) X (tX5_learn hw (mk M [(8, (M.1 8)), (9, (M.1 9)), (10, (M.1 10)), (11, (M.1 11)), (12, (M.1 12))] M.2.1 [(42, (M.2.2 42)), (43, (M.2.2 43))]) hr3) w_239 mvX5_learn (by rw [eR]; exact ⟨Nat.le_of_ble_eq_true rfl, Nat.le_of_ble_eq_true rfl⟩) ⟨rfl, rfl⟩ rfl (Nat.le_of_ble_eq_true rfl) (hw.2.2.1 _) rfl rfl dX5_measure_27 ?_
      refine z_mem (mk_mk (l' := [(8, r3.1), (9, r3.2.1), (10, r3.2.2), (11, (M.1 11)), (12, (M.1 12))]) (sl' := [(42, (M.2.2 42)), (43, (M.2.2 43))]) rfl rfl rfl rfl) ?_
      refine z_aload_n X dX5_measure_30 1 rfl rfl ?_
      refine z_get (j := 4) (v := .ref (ad 11)) X inX5 rfl (by decide) w_234 (hw.2.2.1 _) rfl dX5_measure_31 ?_
      refine z_iconst (v := (-1 : Int32)) X dX5_measure_34 (by decide) ?_
      refine z_cSV (As := [.ref (ad 11), .int (-1 : Int32)]) (st := []) X (tJ_fillI (hw.2.2.2.2.2.2.2.2.2.2.2.2.1) (by decide) (mk M [(8, r3.1), (9, r3.2.1), (10, r3.2.2), (11, (M.1 11)), (12, (M.1 12))] M.2.1 [(42, (M.2.2 42)), (43, (M.2.2 43))]) (-1 : Int32)) w_243 msJ_fillI (by rw [eR]; exact ⟨Nat.le_of_ble_eq_true rfl, Nat.le_of_ble_eq_true rfl⟩) ⟨rfl, rfl⟩ rfl (Nat.le_of_ble_eq_true rfl) rfl dX5_measure_35 ?_
      refine z_mem (mk_mk (l' := [(8, r3.1), (9, r3.2.1), (10, r3.2.2), (11, (fillF 626 (-1 : Int32) (M.1 11))), (12, (M.1 12))]) (sl' := [(42, (M.2.2 42)), (43, (M.2.2 43))]) rfl rfl rfl rfl) ?_
      refine z_aload_n X dX5_measure_38 1 rfl rfl ?_
      refine z_iconst (v := (nI 0)) X dX5_measure_39 (by decide) ?_
      refine z_put (j := 7) (ty := .int) (M' := (mk M [(8, r3.1), (9, r3.2.1), (10, r3.2.2), (11, (fillF 626 (-1 : Int32) (M.1 11))), (12, (M.1 12))] M.2.1 [(42, (nI 0)), (43, (M.2.2 43))])) X inX5 tyX5 tyX5_ok nmX5 rfl (by decide) w_235 rfl (by decide +kernel) rfl rfl (hw.2.2.1 _) (Nat.le_of_ble_eq_true rfl) (mk_setS (sl' := [(42, (nI 0)), (43, (M.2.2 43))]) (hw.2.2.2.2.2.2.2.2.2.2.2.2.2.2.2.2.2.2.2.2.2.2.2.2.2.1) rfl rfl) dX5_measure_40 ?_
      refine z_aload_n X dX5_measure_43 1 rfl rfl ?_
      refine z_iload_n X dX5_measure_44 2 rfl rfl ?_
      refine z_iconst (v := (nI 0)) X dX5_measure_45 (by decide) ?_
      obtain ⟨r4, hr4, h⟩ := ob h
      refine z_cVV (As := [.int v1, .int (nI 0)]) (st := []) X (tX5_reach hw (mk M [(8, r3.1), (9, r3.2.1), (10, r3.2.2), (11, (fillF 626 (-1 : Int32) (M.1 11))), (12, (M.1 12))] M.2.1 [(42, (nI 0)), (43, (M.2.2 43))]) hr4) w_244 mvX5_reach (by rw [eR]; exact ⟨Nat.le_of_ble_eq_true rfl, Nat.le_of_ble_eq_true rfl⟩) ⟨rfl, rfl⟩ rfl (Nat.le_of_ble_eq_true rfl) (hw.2.2.1 _) rfl rfl dX5_measure_46 ?_
      refine z_mem (mk_mk (l' := [(8, r3.1), (9, r3.2.1), (10, r3.2.2), (11, r4.1), (12, r4.2.1)]) (sl' := [(42, r4.2.2), (43, (M.2.2 43))]) rfl rfl rfl rfl) ?_
      refine z_iconst (v := (nI 0)) X dX5_measure_49 (by decide) ?_
      refine z_istore_n (lv' := [(3, .int (nI 0)), (2, .int r2), (0, .ref (ad 7)), (1, .int v1)]) X dX5_measure_50 rfl (by decide) rfl ?_
      refine z_sub [2, 3, 1, 0] rfl ?_
      obtain ⟨y5, hy5, h⟩ := ob h
      refine (it_Z (bX5_measure_B51 X eR hw M r3.1 r3.2.1 r3.2.2 (M.2.2 43) v1 r2) FU _ y5 hy5) ?_
      refine z_aload_n X dX5_measure_145 0 rfl rfl ?_
      refine z_iload_n X dX5_measure_146 1 rfl rfl ?_
      refine z_put (j := 8) (ty := .int) (M' := (mk M [(8, r3.1), (9, r3.2.1), (10, r3.2.2), (11, y5.1), (12, y5.2.1)] M.2.1 [(42, y5.2.2), (43, v1)])) X inX5 tyX5 tyX5_ok nmX5 rfl (by decide) w_237 rfl (by decide +kernel) rfl rfl (hw.2.2.1 _) (Nat.le_of_ble_eq_true rfl) (mk_setS (sl' := [(42, y5.2.2), (43, v1)]) (hw.2.2.2.2.2.2.2.2.2.2.2.2.2.2.2.2.2.2.2.2.2.2.2.2.2.2.1) rfl rfl) dX5_measure_147 ?_
      have hq := Option.some.inj h
      subst hq
      exact z_vret hs dX5_measure_150
    · rw [if_pos c12] at h
      have hq := Option.some.inj h
      subst hq
      exact z_vret hs dX5_measure_15
set_option maxHeartbeats 4000000 in
theorem tX5_turnsFrom {l : Launch} {D : va_G} {ct : Nat → ClassId} {tF : Nat} {wOf : Mm → va_W} {po ad : Nat → Nat} (hw : KC wOf po ad ct) (M : Mm) {v1 : Int32} {r : Int32} (h : fX5_turnsFrom (M.1 11) v1 = some r) : CtI l yX5_turnsFrom cX5_turnsFrom 2 .int { frames := 1, cells := 0, slots := 0, locals := 20 } D ct tF wOf [.ref (ad 7), .int v1] M r M := by
  refine metI (by decide) (Nat.le_of_ble_eq_true rfl) fun κ X e1 eR e3 e4 hs => ?_
  subst e1; subst e3; subst e4
  unfold fX5_turnsFrom at h
  refine z_sub (lv' := [(0, .ref (ad 7)), (1, .int v1)]) [0, 1] rfl ?_
  refine z_iload_n X dX5_turnsFrom_0 1 rfl rfl ?_
  obtain ⟨r1, hr1, h⟩ := ob h
  refine z_cSI (As := [.int v1]) (st := []) X (tX5_isTree hw M hr1) w_225 msX5_isTree (by rw [eR]; exact ⟨Nat.le_of_ble_eq_true rfl, Nat.le_of_ble_eq_true rfl⟩) ⟨rfl, rfl⟩ rfl (Nat.le_of_ble_eq_true rfl) rfl dX5_turnsFrom_1 ?_
  refine z_if_eq (tgt := 16) X dX5_turnsFrom_4 (by decide) (fun c4 => ?_) (fun c4 => ?_)
  · rw [if_pos c4] at h
    refine z_iconst (v := (-1 : Int32)) X dX5_turnsFrom_16 (by decide) ?_
    have hq := Option.some.inj h
    subst hq
    exact z_iret hs dX5_turnsFrom_17 rfl
  · rw [if_neg c4] at h
    refine z_aload_n X dX5_turnsFrom_7 0 rfl rfl ?_
    refine z_get (j := 4) (v := .ref (ad 11)) X inX5 rfl (by decide) w_234 (hw.2.2.1 _) rfl dX5_turnsFrom_8 ?_
    refine z_iload_n X dX5_turnsFrom_11 1 rfl rfl ?_
    obtain ⟨t2, ht2, h⟩ := ob h
    refine z_iald X (hw.2.2.2.2.2.2.2.2.2.2.2.2.1 _).1 (rd_ok ht2) dX5_turnsFrom_12 ?_
    refine z_goto (tgt := 17) X dX5_turnsFrom_13 (by decide) ?_
    have hq := Option.some.inj h
    subst hq
    exact z_iret hs dX5_turnsFrom_17 rfl
set_option maxHeartbeats 4000000 in
theorem bX5_firstTurn_B40 {κ : Rx} {ct : Nat → ClassId} {tF : Nat} {po ad : Nat → Nat} (X : CX κ ct tF cX5_firstTurn 5 RX5) (eR : kR κ = { frames := 2, cells := 0, slots := 0, locals := 41 }) (hw : KC (kw κ) po ad ct) (M : Mm)  (v1 : Int32) (v2 : Int32) (v3 : Int32) : ∀ (x : Int32) (s : Int32 ⊕ (Unit ⊕ Int32)), fX5_firstTurn_B40 (M.1 8) (M.1 11) v1 v2 v3 x = some s → Sum.elim (fun x => Zj κ 5 40 [(0, .ref (ad 7)), (1, .int v1), (2, .int v2), (3, .int v3), (4, .int x)] [] M) (Sum.elim (fun y => Zj κ 5 74 [(0, .ref (ad 7)), (1, .int v1), (2, .int v2), (3, .int v3)] [] M) (fun r => ZI κ cX5_firstTurn .int r M)) s → Zj κ 5 40 [(0, .ref (ad 7)), (1, .int v1), (2, .int v2), (3, .int v3), (4, .int x)] [] M := by
  intro x s h hs
  unfold fX5_firstTurn_B40 at h
  refine z_iload X dX5_firstTurn_40 4 rfl ?_
  refine z_iload_n X dX5_firstTurn_42 3 rfl rfl ?_
  refine z_icmp_ge (tgt := 74) X dX5_firstTurn_43 (by decide) (fun c43 => ?_) (fun c43 => ?_)
  · rw [if_pos c43] at h
    have hq := Option.some.inj h
    subst hq
    exact z_sub [0, 1, 2, 3] rfl hs
  · rw [if_neg c43] at h
    refine z_aload_n X dX5_firstTurn_46 0 rfl rfl ?_
    refine z_aload_n X dX5_firstTurn_47 0 rfl rfl ?_
    refine z_get (j := 1) (v := .ref (ad 8)) X inX5 rfl (by decide) w_229 (hw.2.2.1 _) rfl dX5_firstTurn_48 ?_
    refine z_iload_n X dX5_firstTurn_51 1 rfl rfl ?_
    refine z_iload X dX5_firstTurn_52 4 rfl ?_
    obtain ⟨r1, hr1, h⟩ := ob h
    refine z_cSI (As := [.int v1, .int x]) (st := [.ref (ad 8), .ref (ad 7)]) X (tX5_turnPlace hw M hr1) w_230 msX5_turnPlace (by rw [eR]; exact ⟨Nat.le_of_ble_eq_true rfl, Nat.le_of_ble_eq_true rfl⟩) ⟨rfl, rfl⟩ rfl (Nat.le_of_ble_eq_true rfl) rfl dX5_firstTurn_54 ?_
    obtain ⟨t2, ht2, h⟩ := ob h
    refine z_iald X (hw.2.2.2.2.2.2.2.2.2.1 _).1 (rd_ok ht2) dX5_firstTurn_57 ?_
    obtain ⟨r3, hr3, h⟩ := ob h
    refine z_cVI (As := [.int t2]) (st := []) X (tX5_turnsFrom hw M hr3) w_248 mvX5_turnsFrom (by rw [eR]; exact ⟨Nat.le_of_ble_eq_true rfl, Nat.le_of_ble_eq_true rfl⟩) ⟨rfl, rfl⟩ rfl (Nat.le_of_ble_eq_true rfl) (hw.2.2.1 _) rfl rfl dX5_firstTurn_58 ?_
    refine z_iload_n X dX5_firstTurn_61 2 rfl rfl ?_
    refine z_icmp_ne (tgt := 68) X dX5_firstTurn_62 (by decide) (fun c62 => ?_) (fun c62 => ?_)
    · rw [if_neg c62] at h
      refine z_iinc (v := (x + nI 1)) (lv' := [(4, .int (x + nI 1)), (0, .ref (ad 7)), (1, .int v1), (2, .int v2), (3, .int v3)]) X dX5_firstTurn_68 4 rfl rfl (by decide) rfl ?_
      refine z_goto (tgt := 40) X dX5_firstTurn_71 (by decide) ?_
      have hq := Option.some.inj h
      subst hq
      exact z_sub [1, 2, 3, 4, 0] rfl hs
    · rw [if_pos c62] at h
      refine z_iload X dX5_firstTurn_65 4 rfl ?_
      have hq := Option.some.inj h
      subst hq
      exact z_iret hs dX5_firstTurn_67 rfl
set_option maxHeartbeats 4000000 in
theorem bX5_firstTurn_B77 {κ : Rx} {ct : Nat → ClassId} {tF : Nat} {po ad : Nat → Nat} (X : CX κ ct tF cX5_firstTurn 5 RX5) (eR : kR κ = { frames := 2, cells := 0, slots := 0, locals := 41 }) (hw : KC (kw κ) po ad ct) (M : Mm)  (v1 : Int32) (v2 : Int32) (v3 : Int32) : ∀ (x : Int32) (s : Int32 ⊕ (Unit ⊕ Int32)), fX5_firstTurn_B77 (M.1 9) (M.1 11) v1 v2 v3 x = some s → Sum.elim (fun x => Zj κ 5 77 [(0, .ref (ad 7)), (1, .int v1), (2, .int v2), (3, .int v3), (4, .int x)] [] M) (Sum.elim (fun y => Zj κ 5 113 [] [] M) (fun r => ZI κ cX5_firstTurn .int r M)) s → Zj κ 5 77 [(0, .ref (ad 7)), (1, .int v1), (2, .int v2), (3, .int v3), (4, .int x)] [] M := by
  intro x s h hs
  unfold fX5_firstTurn_B77 at h
  refine z_iload X dX5_firstTurn_77 4 rfl ?_
  refine z_iload_n X dX5_firstTurn_79 3 rfl rfl ?_
  refine z_icmp_ge (tgt := 113) X dX5_firstTurn_80 (by decide) (fun c80 => ?_) (fun c80 => ?_)
  · rw [if_pos c80] at h
    have hq := Option.some.inj h
    subst hq
    exact z_sub [] rfl hs
  · rw [if_neg c80] at h
    refine z_aload_n X dX5_firstTurn_83 0 rfl rfl ?_
    refine z_aload_n X dX5_firstTurn_84 0 rfl rfl ?_
    refine z_get (j := 2) (v := .ref (ad 9)) X inX5 rfl (by decide) w_233 (hw.2.2.1 _) rfl dX5_firstTurn_85 ?_
    refine z_iload_n X dX5_firstTurn_88 1 rfl rfl ?_
    refine z_iload X dX5_firstTurn_89 4 rfl ?_
    obtain ⟨r1, hr1, h⟩ := ob h
    refine z_cSI (As := [.int v1, .int x]) (st := [.ref (ad 9), .ref (ad 7)]) X (tX5_turnPlace hw M hr1) w_230 msX5_turnPlace (by rw [eR]; exact ⟨Nat.le_of_ble_eq_true rfl, Nat.le_of_ble_eq_true rfl⟩) ⟨rfl, rfl⟩ rfl (Nat.le_of_ble_eq_true rfl) rfl dX5_firstTurn_91 ?_
    obtain ⟨t2, ht2, h⟩ := ob h
    refine z_iald X (hw.2.2.2.2.2.2.2.2.2.2.1 _).1 (rd_ok ht2) dX5_firstTurn_94 ?_
    obtain ⟨r3, hr3, h⟩ := ob h
    refine z_cVI (As := [.int t2]) (st := []) X (tX5_turnsFrom hw M hr3) w_248 mvX5_turnsFrom (by rw [eR]; exact ⟨Nat.le_of_ble_eq_true rfl, Nat.le_of_ble_eq_true rfl⟩) ⟨rfl, rfl⟩ rfl (Nat.le_of_ble_eq_true rfl) (hw.2.2.1 _) rfl rfl dX5_firstTurn_95 ?_
    refine z_iload_n X dX5_firstTurn_98 2 rfl rfl ?_
    refine z_icmp_ne (tgt := 107) X dX5_firstTurn_99 (by decide) (fun c99 => ?_) (fun c99 => ?_)
    · rw [if_neg c99] at h
      refine z_iinc (v := (x + nI 1)) (lv' := [(4, .int (x + nI 1)), (0, .ref (ad 7)), (1, .int v1), (2, .int v2), (3, .int v3)]) X dX5_firstTurn_107 4 rfl rfl (by decide) rfl ?_
      refine z_goto (tgt := 77) X dX5_firstTurn_110 (by decide) ?_
      have hq := Option.some.inj h
      subst hq
      exact z_sub [1, 2, 3, 4, 0] rfl hs
    · rw [if_pos c99] at h
      refine z_iconst (v := (-1 : Int32)) X dX5_firstTurn_102 (by decide) ?_
      refine z_iload X dX5_firstTurn_103 4 rfl ?_
      refine z_isub X dX5_firstTurn_105 ?_
      have hq := Option.some.inj h
      subst hq
      exact z_iret hs dX5_firstTurn_106 rfl
set_option maxHeartbeats 4000000 in
theorem tX5_firstTurn {l : Launch} {D : va_G} {ct : Nat → ClassId} {tF : Nat} {wOf : Mm → va_W} {po ad : Nat → Nat} (hw : KC wOf po ad ct) (M : Mm) {v1 : Int32} {r : Int32} (h : fX5_firstTurn (M.1 3) (M.1 8) (M.1 9) (M.1 11) v1 = some r) : CtI l yX5_firstTurn cX5_firstTurn 5 .int { frames := 2, cells := 0, slots := 0, locals := 41 } D ct tF wOf [.ref (ad 7), .int v1] M r M := by
  refine metI (by decide) (Nat.le_of_ble_eq_true rfl) fun κ X e1 eR e3 e4 hs => ?_
  subst e1; subst e3; subst e4
  unfold fX5_firstTurn at h
  refine z_sub (lv' := [(0, .ref (ad 7)), (1, .int v1)]) [0, 1] rfl ?_
  refine z_iload_n X dX5_firstTurn_0 1 rfl rfl ?_
  obtain ⟨r1, hr1, h⟩ := ob h
  refine z_cSI (As := [.int v1]) (st := []) X (tX5_isTree hw M hr1) w_225 msX5_isTree (by rw [eR]; exact ⟨Nat.le_of_ble_eq_true rfl, Nat.le_of_ble_eq_true rfl⟩) ⟨rfl, rfl⟩ rfl (Nat.le_of_ble_eq_true rfl) rfl dX5_firstTurn_1 ?_
  refine z_if_eq (tgt := 16) X dX5_firstTurn_4 (by decide) (fun c4 => ?_) (fun c4 => ?_)
  · rw [if_pos c4] at h
    refine z_bipush (v := (-5 : Int32)) X dX5_firstTurn_16 (by decide) ?_
    have hq := Option.some.inj h
    subst hq
    exact z_iret hs dX5_firstTurn_18 rfl
  · rw [if_neg c4] at h
    refine z_aload_n X dX5_firstTurn_7 0 rfl rfl ?_
    refine z_get (j := 4) (v := .ref (ad 11)) X inX5 rfl (by decide) w_234 (hw.2.2.1 _) rfl dX5_firstTurn_8 ?_
    refine z_iload_n X dX5_firstTurn_11 1 rfl rfl ?_
    obtain ⟨t2, ht2, h⟩ := ob h
    refine z_iald X (hw.2.2.2.2.2.2.2.2.2.2.2.2.1 _).1 (rd_ok ht2) dX5_firstTurn_12 ?_
    refine z_if_gt (tgt := 19) X dX5_firstTurn_13 (by decide) (fun c13 => ?_) (fun c13 => ?_)
    · rw [if_pos c13] at h
      refine z_aload_n X dX5_firstTurn_19 0 rfl rfl ?_
      refine z_get (j := 4) (v := .ref (ad 11)) X inX5 rfl (by decide) w_234 (hw.2.2.1 _) rfl dX5_firstTurn_20 ?_
      refine z_iload_n X dX5_firstTurn_23 1 rfl rfl ?_
      obtain ⟨t3, ht3, h⟩ := ob h
      refine z_iald X (hw.2.2.2.2.2.2.2.2.2.2.2.2.1 _).1 (rd_ok ht3) dX5_firstTurn_24 ?_
      refine z_iconst (v := (nI 1)) X dX5_firstTurn_25 (by decide) ?_
      refine z_isub X dX5_firstTurn_26 ?_
      refine z_istore_n (lv' := [(2, .int (t3 - (nI 1))), (0, .ref (ad 7)), (1, .int v1)]) X dX5_firstTurn_27 rfl (by decide) rfl ?_
      refine z_aload_n X dX5_firstTurn_28 1 rfl rfl ?_
      refine z_get (j := 0) (v := .ref (ad 1)) X inX5 rfl (by decide) w_221 (hw.2.2.1 _) rfl dX5_firstTurn_29 ?_
      refine z_iload_n X dX5_firstTurn_32 2 rfl rfl ?_
      obtain ⟨r4, hr4, h⟩ := ob h
      refine z_cVI (As := [.int v1]) (st := []) X (tX0_sizeOf hw.1 M hr4) w_238 mvX0_sizeOf (by rw [eR]; exact ⟨Nat.le_of_ble_eq_true rfl, Nat.le_of_ble_eq_true rfl⟩) ⟨rfl, rfl⟩ rfl (Nat.le_of_ble_eq_true rfl) (hw.1.1 _) rfl rfl dX5_firstTurn_33 ?_
      refine z_istore_n (lv' := [(3, .int r4), (2, .int (t3 - (nI 1))), (0, .ref (ad 7)), (1, .int v1)]) X dX5_firstTurn_36 rfl (by decide) rfl ?_
      refine z_iconst (v := (nI 0)) X dX5_firstTurn_37 (by decide) ?_
      refine z_istore (lv' := [(4, .int (nI 0)), (3, .int r4), (2, .int (t3 - (nI 1))), (0, .ref (ad 7)), (1, .int v1)]) X dX5_firstTurn_38 (by decide) rfl ?_
      refine z_sub [3, 4, 2, 1, 0] rfl ?_
      obtain ⟨y5_, hy5, h⟩ := ob h
      cases y5_ with
      | inl y5 =>
        rw [Sum.elim_inl] at h
        refine (it_Z (bX5_firstTurn_B40 X eR hw M v1 (t3 - (nI 1)) r4) FU _ (.inl y5) hy5) ?_
        refine z_iconst (v := (nI 0)) X dX5_firstTurn_74 (by decide) ?_
        refine z_istore (lv' := [(4, .int (nI 0)), (0, .ref (ad 7)), (1, .int v1), (2, .int (t3 - (nI 1))), (3, .int r4)]) X dX5_firstTurn_75 (by decide) rfl ?_
        refine z_sub [1, 2, 3, 4, 0] rfl ?_
        obtain ⟨y6_, hy6, h⟩ := ob h
        cases y6_ with
        | inl y6 =>
          rw [Sum.elim_inl] at h
          refine (it_Z (bX5_firstTurn_B77 X eR hw M v1 (t3 - (nI 1)) r4) FU _ (.inl y6) hy6) ?_
          refine z_bipush (v := (-5 : Int32)) X dX5_firstTurn_113 (by decide) ?_
          have hq := Option.some.inj h
          subst hq
          exact z_iret hs dX5_firstTurn_115 rfl
        | inr y6 =>
          rw [Sum.elim_inr] at h
          have hq := Option.some.inj h
          subst hq
          exact (it_Z (bX5_firstTurn_B77 X eR hw M v1 (t3 - (nI 1)) r4) FU _ (.inr _) hy6) hs
      | inr y5 =>
        rw [Sum.elim_inr] at h
        have hq := Option.some.inj h
        subst hq
        exact (it_Z (bX5_firstTurn_B40 X eR hw M v1 (t3 - (nI 1)) r4) FU _ (.inr _) hy5) hs
    · rw [if_neg c13] at h
      refine z_bipush (v := (-5 : Int32)) X dX5_firstTurn_16 (by decide) ?_
      have hq := Option.some.inj h
      subst hq
      exact z_iret hs dX5_firstTurn_18 rfl
set_option maxHeartbeats 4000000 in
theorem jX5_improve_J41 {κ : Rx} {ct : Nat → ClassId} {tF : Nat} {po ad : Nat → Nat} (X : CX κ ct tF cX5_improve 5 RX5) (eR : kR κ = { frames := 1, cells := 0, slots := 0, locals := 20 }) (hw : KC (kw κ) po ad ct) (M : Mm) (a_turnsUp : Nat → Int32)  (v1 : Int32) (v2 : Int32)  (s : (Nat → Int32)) (h : fX5_improve_J41 a_turnsUp v1 v2 = some s) (hs : (ZV κ cX5_improve (mk M [(13, s)] M.2.1 []))) : Zj κ 5 41 [(0, .ref (ad 7)), (1, .int v1), (2, .int v2)] [] (mk M [(13, a_turnsUp)] M.2.1 []) := by
  unfold fX5_improve_J41 at h
  refine z_aload_n X dX5_improve_41 0 rfl rfl ?_
  refine z_get (j := 6) (v := .ref (ad 13)) X inX5 rfl (by decide) w_262 (hw.2.2.1 _) rfl dX5_improve_42 ?_
  refine z_iload_n X dX5_improve_45 1 rfl rfl ?_
  refine z_iload_n X dX5_improve_46 2 rfl rfl ?_
  obtain ⟨u1, hu1, h⟩ := ob h
  refine z_iast (M' := (mk M [(13, u1)] M.2.1 [])) X (hw.2.2.2.2.2.2.2.2.2.2.2.2.2.2.1 _).1 (wr_ok hu1) (mk_set1 (l' := [(13, u1)]) (hw.2.2.2.2.2.2.2.2.2.2.2.2.2.2.1) rfl rfl) dX5_improve_47 ?_
  have hq := Option.some.inj h
  subst hq
  exact z_vret hs dX5_improve_48
set_option maxHeartbeats 4000000 in
theorem tX5_improve {l : Launch} {D : va_G} {ct : Nat → ClassId} {tF : Nat} {wOf : Mm → va_W} {po ad : Nat → Nat} (hw : KC wOf po ad ct) (M : Mm) {v1 : Int32} {v2 : Int32} {v3 : Int32} {r : (Nat → Int32)} (h : fX5_improve (M.1 13) v1 v2 v3 = some r) : CtV l yX5_improve cX5_improve 5 { frames := 1, cells := 0, slots := 0, locals := 20 } D ct tF wOf [.ref (ad 7), .int v1, .int v2, .int v3] M (mk M [(13, r)] M.2.1 []) := by
  refine metV (by decide) (Nat.le_of_ble_eq_true rfl) fun κ X e1 eR e3 e4 hs => ?_
  subst e1; subst e3; subst e4
  unfold fX5_improve at h
  refine z_mem (mk_self M [13] []) ?_
  refine z_sub (lv' := [(0, .ref (ad 7)), (1, .int v1), (2, .int v2), (3, .int v3)]) [0, 1, 2, 3] rfl ?_
  show Zj κ 5 0 _ _ (mk M [(13, (M.1 13))] M.2.1 [])
  refine z_iload_n X dX5_improve_0 1 rfl rfl ?_
  obtain ⟨r1, hr1, h⟩ := ob h
  refine z_cSI (As := [.int v1]) (st := []) X (tX5_isTree hw (mk M [(13, (M.1 13))] M.2.1 []) hr1) w_225 msX5_isTree (by rw [eR]; exact ⟨Nat.le_of_ble_eq_true rfl, Nat.le_of_ble_eq_true rfl⟩) ⟨rfl, rfl⟩ rfl (Nat.le_of_ble_eq_true rfl) rfl dX5_improve_1 ?_
  refine z_if_ne (tgt := 8) X dX5_improve_4 (by decide) (fun c4 => ?_) (fun c4 => ?_)
  · rw [if_neg c4] at h
    refine z_aload_n X dX5_improve_8 0 rfl rfl ?_
    refine z_get (j := 6) (v := .ref (ad 13)) X inX5 rfl (by decide) w_262 (hw.2.2.1 _) rfl dX5_improve_9 ?_
    refine z_iload_n X dX5_improve_12 1 rfl rfl ?_
    obtain ⟨t2, ht2, h⟩ := ob h
    refine z_iald X (hw.2.2.2.2.2.2.2.2.2.2.2.2.2.2.1 _).1 (rd_ok ht2) dX5_improve_13 ?_
    refine z_istore (lv' := [(4, .int t2), (0, .ref (ad 7)), (1, .int v1), (2, .int v2), (3, .int v3)]) X dX5_improve_14 (by decide) rfl ?_
    refine z_iload X dX5_improve_16 0 rfl ?_
    refine z_iconst (v := (-1 : Int32)) X dX5_improve_18 (by decide) ?_
    refine z_icmp_eq (tgt := 41) X dX5_improve_19 (by decide) (fun c19 => ?_) (fun c19 => ?_)
    · rw [if_pos c19] at h
      exact z_sub [1, 2, 3] rfl (jX5_improve_J41 X eR hw M (M.1 13) v1 v2 _ h hs)
    · rw [if_neg c19] at h
      refine z_iload_n X dX5_improve_22 4 rfl rfl ?_
      refine z_if_eq (tgt := 35) X dX5_improve_23 (by decide) (fun c23 => ?_) (fun c23 => ?_)
      · rw [if_pos c23] at h
        refine z_iload_n X dX5_improve_35 3 rfl rfl ?_
        refine z_iload X dX5_improve_36 0 rfl ?_
        refine z_icmp_ge (tgt := 48) X dX5_improve_38 (by decide) (fun c38 => ?_) (fun c38 => ?_)
        · rw [if_pos c38] at h
          have hq := Option.some.inj h
          subst hq
          exact z_vret hs dX5_improve_48
        · rw [if_neg c38] at h
          exact z_sub [1, 2, 3] rfl (jX5_improve_J41 X eR hw M (M.1 13) v1 v2 _ h hs)
      · rw [if_neg c23] at h
        refine z_iload_n X dX5_improve_26 3 rfl rfl ?_
        refine z_iload X dX5_improve_27 0 rfl ?_
        refine z_icmp_le (tgt := 48) X dX5_improve_29 (by decide) (fun c29 => ?_) (fun c29 => ?_)
        · rw [if_pos c29] at h
          have hq := Option.some.inj h
          subst hq
          exact z_vret hs dX5_improve_48
        · rw [if_neg c29] at h
          refine z_goto (tgt := 41) X dX5_improve_32 (by decide) ?_
          exact z_sub [1, 2, 3] rfl (jX5_improve_J41 X eR hw M (M.1 13) v1 v2 _ h hs)
  · rw [if_pos c4] at h
    have hq := Option.some.inj h
    subst hq
    exact z_vret hs dX5_improve_7
set_option maxHeartbeats 4000000 in
theorem bX5_turnsUpAlone_B60 {κ : Rx} {ct : Nat → ClassId} {tF : Nat} {po ad : Nat → Nat} (X : CX κ ct tF cX5_turnsUpAlone 7 RX5) (eR : kR κ = { frames := 5, cells := 0, slots := 0, locals := 116 }) (hw : KC (kw κ) po ad ct) (M : Mm) (a_ups : Nat → Int32) (a_backs : Nat → Int32) (a_learned : Nat → Int32) (v2 : Int32) (v3 : Int32) (v4 : Int32) (v5 : Int32) : ∀ (x : (Int32 × (Nat → Int32))) (s : (Int32 × (Nat → Int32)) ⊕ (Nat → Int32)), fX5_turnsUpAlone_B60 a_ups v2 v3 v4 v5 x = some s → Sum.elim (fun x => Zj κ 7 60 [(0, .ref (ad 7)), (2, .int v2), (3, .int v3), (4, .int v4), (5, .int v5), (6, .int x.1)] [] (mk M [(8, a_ups), (9, a_backs), (10, a_learned), (13, x.2)] M.2.1 [])) (fun y => Zj κ 7 110 [(0, .ref (ad 7)), (2, .int v2), (3, .int v3), (4, .int v4), (5, .int v5)] [] (mk M [(8, a_ups), (9, a_backs), (10, a_learned), (13, y)] M.2.1 [])) s → Zj κ 7 60 [(0, .ref (ad 7)), (2, .int v2), (3, .int v3), (4, .int v4), (5, .int v5), (6, .int x.1)] [] (mk M [(8, a_ups), (9, a_backs), (10, a_learned), (13, x.2)] M.2.1 []) := by
  intro x s h hs
  unfold fX5_turnsUpAlone_B60 at h
  refine z_iload X dX5_turnsUpAlone_60 5 rfl ?_
  refine z_iload X dX5_turnsUpAlone_62 3 rfl ?_
  refine z_icmp_ge (tgt := 110) X dX5_turnsUpAlone_64 (by decide) (fun c64 => ?_) (fun c64 => ?_)
  · rw [if_pos c64] at h
    have hq := Option.some.inj h
    subst hq
    exact z_sub [0, 1, 2, 3, 4] rfl hs
  · rw [if_neg c64] at h
    refine z_aload_n X dX5_turnsUpAlone_67 0 rfl rfl ?_
    refine z_get (j := 6) (v := .ref (ad 13)) X inX5 rfl (by decide) w_262 (hw.2.2.1 _) rfl dX5_turnsUpAlone_68 ?_
    refine z_iload X dX5_turnsUpAlone_71 4 rfl ?_
    obtain ⟨t1, ht1, h⟩ := ob h
    refine z_iald X (hw.2.2.2.2.2.2.2.2.2.2.2.2.2.2.1 _).1 (rd_ok ht1) dX5_turnsUpAlone_73 ?_
    refine z_iconst (v := (-1 : Int32)) X dX5_turnsUpAlone_74 (by decide) ?_
    refine z_icmp_eq (tgt := 110) X dX5_turnsUpAlone_75 (by decide) (fun c75 => ?_) (fun c75 => ?_)
    · rw [if_pos c75] at h
      have hq := Option.some.inj h
      subst hq
      exact z_sub [0, 1, 2, 3, 4] rfl hs
    · rw [if_neg c75] at h
      refine z_aload_n X dX5_turnsUpAlone_78 0 rfl rfl ?_
      refine z_aload_n X dX5_turnsUpAlone_79 0 rfl rfl ?_
      refine z_get (j := 1) (v := .ref (ad 8)) X inX5 rfl (by decide) w_229 (hw.2.2.1 _) rfl dX5_turnsUpAlone_80 ?_
      refine z_iload X dX5_turnsUpAlone_83 4 rfl ?_
      refine z_iload X dX5_turnsUpAlone_85 5 rfl ?_
      obtain ⟨r2, hr2, h⟩ := ob h
      refine z_cSI (As := [.int v5, .int x.1]) (st := [.ref (ad 8), .ref (ad 7)]) X (tX5_turnPlace hw (mk M [(8, a_ups), (9, a_backs), (10, a_learned), (13, x.2)] M.2.1 []) hr2) w_230 msX5_turnPlace (by rw [eR]; exact ⟨Nat.le_of_ble_eq_true rfl, Nat.le_of_ble_eq_true rfl⟩) ⟨rfl, rfl⟩ rfl (Nat.le_of_ble_eq_true rfl) rfl dX5_turnsUpAlone_87 ?_
      obtain ⟨t3, ht3, h⟩ := ob h
      refine z_iald X (hw.2.2.2.2.2.2.2.2.2.1 _).1 (rd_ok ht3) dX5_turnsUpAlone_90 ?_
      refine z_aload_n X dX5_turnsUpAlone_91 0 rfl rfl ?_
      refine z_get (j := 6) (v := .ref (ad 13)) X inX5 rfl (by decide) w_262 (hw.2.2.1 _) rfl dX5_turnsUpAlone_92 ?_
      refine z_iload X dX5_turnsUpAlone_95 4 rfl ?_
      obtain ⟨t4, ht4, h⟩ := ob h
      refine z_iald X (hw.2.2.2.2.2.2.2.2.2.2.2.2.2.2.1 _).1 (rd_ok ht4) dX5_turnsUpAlone_97 ?_
      refine z_iconst (v := (nI 1)) X dX5_turnsUpAlone_98 (by decide) ?_
      refine z_iadd X dX5_turnsUpAlone_99 ?_
      refine z_iload_n X dX5_turnsUpAlone_100 2 rfl rfl ?_
      obtain ⟨r5, hr5, h⟩ := ob h
      refine z_cVV (As := [.int t3, .int (t4 + (nI 1)), .int v3]) (st := []) X (tX5_improve hw (mk M [(8, a_ups), (9, a_backs), (10, a_learned), (13, x.2)] M.2.1 []) hr5) w_263 mvX5_improve (by rw [eR]; exact ⟨Nat.le_of_ble_eq_true rfl, Nat.le_of_ble_eq_true rfl⟩) ⟨rfl, rfl⟩ rfl (Nat.le_of_ble_eq_true rfl) (hw.2.2.1 _) rfl rfl dX5_turnsUpAlone_101 ?_
      refine z_mem (mk_mk (l' := [(8, a_ups), (9, a_backs), (10, a_learned), (13, r5)]) (sl' := []) rfl rfl rfl rfl) ?_
      refine z_iinc (v := (x.1 + nI 1)) (lv' := [(6, .int (x.1 + nI 1)), (0, .ref (ad 7)), (2, .int v2), (3, .int v3), (4, .int v4), (5, .int v5)]) X dX5_turnsUpAlone_104 5 rfl rfl (by decide) rfl ?_
      refine z_goto (tgt := 60) X dX5_turnsUpAlone_107 (by decide) ?_
      have hq := Option.some.inj h
      subst hq
      exact z_sub [1, 2, 3, 4, 5, 0] rfl hs
set_option maxHeartbeats 4000000 in
theorem bX5_turnsUpAlone_B51 {κ : Rx} {ct : Nat → ClassId} {tF : Nat} {po ad : Nat → Nat} (X : CX κ ct tF cX5_turnsUpAlone 7 RX5) (eR : kR κ = { frames := 5, cells := 0, slots := 0, locals := 116 }) (hw : KC (kw κ) po ad ct) (M : Mm) (a_ups : Nat → Int32) (a_backs : Nat → Int32) (a_learned : Nat → Int32) (v2 : Int32) (v3 : Int32) (v4 : Int32) : ∀ (x : (Int32 × (Nat → Int32))) (s : (Int32 × (Nat → Int32)) ⊕ (Nat → Int32)), fX5_turnsUpAlone_B51 a_ups v2 v3 v4 x = some s → Sum.elim (fun x => Zj κ 7 51 [(0, .ref (ad 7)), (2, .int v2), (3, .int v3), (4, .int v4), (5, .int x.1)] [] (mk M [(8, a_ups), (9, a_backs), (10, a_learned), (13, x.2)] M.2.1 [])) (fun y => Zj κ 7 116 [(0, .ref (ad 7)), (2, .int v2)] [] (mk M [(8, a_ups), (9, a_backs), (10, a_learned), (13, y)] M.2.1 [])) s → Zj κ 7 51 [(0, .ref (ad 7)), (2, .int v2), (3, .int v3), (4, .int v4), (5, .int x.1)] [] (mk M [(8, a_ups), (9, a_backs), (10, a_learned), (13, x.2)] M.2.1 []) := by
  intro x s h hs
  unfold fX5_turnsUpAlone_B51 at h
  refine z_iload X dX5_turnsUpAlone_51 4 rfl ?_
  refine z_iload_n X dX5_turnsUpAlone_53 1 rfl rfl ?_
  refine z_icmp_ge (tgt := 116) X dX5_turnsUpAlone_54 (by decide) (fun c54 => ?_) (fun c54 => ?_)
  · rw [if_pos c54] at h
    have hq := Option.some.inj h
    subst hq
    exact z_sub [0, 1] rfl hs
  · rw [if_neg c54] at h
    refine z_iconst (v := (nI 0)) X dX5_turnsUpAlone_57 (by decide) ?_
    refine z_istore (lv' := [(6, .int (nI 0)), (0, .ref (ad 7)), (2, .int v2), (3, .int v3), (4, .int v4), (5, .int x.1)]) X dX5_turnsUpAlone_58 (by decide) rfl ?_
    refine z_sub [1, 2, 3, 4, 5, 0] rfl ?_
    obtain ⟨y1, hy1, h⟩ := ob h
    refine (it_Z (bX5_turnsUpAlone_B60 X eR hw M a_ups a_backs a_learned v2 v3 v4 x.1) FU _ y1 hy1) ?_
    refine z_iinc (v := (x.1 + nI 1)) (lv' := [(5, .int (x.1 + nI 1)), (0, .ref (ad 7)), (2, .int v2), (3, .int v3), (4, .int v4)]) X dX5_turnsUpAlone_110 4 rfl rfl (by decide) rfl ?_
    refine z_goto (tgt := 51) X dX5_turnsUpAlone_113 (by decide) ?_
    have hq := Option.some.inj h
    subst hq
    exact z_sub [1, 2, 3, 4, 0] rfl hs
set_option maxHeartbeats 4000000 in
theorem tX5_turnsUpAlone {l : Launch} {D : va_G} {ct : Nat → ClassId} {tF : Nat} {wOf : Mm → va_W} {po ad : Nat → Nat} (hw : KC wOf po ad ct) (M : Mm) {v1 : Int32} {v2 : Int32} {v3 : Int32} {r : (Int32 × (Nat → Int32) × (Nat → Int32) × (Nat → Int32) × (Nat → Int32))} (h : fX5_turnsUpAlone (M.1 2) (M.1 3) (M.1 8) (M.1 9) (M.1 10) (M.1 13) v1 v2 v3 = some r) : CtI l yX5_turnsUpAlone cX5_turnsUpAlone 7 .int { frames := 5, cells := 0, slots := 0, locals := 116 } D ct tF wOf [.ref (ad 7), .int v1, .int v2, .int v3] M r.1 (mk M [(8, r.2.1), (9, r.2.2.1), (10, r.2.2.2.1), (13, r.2.2.2.2)] M.2.1 []) := by
  refine metI (by decide) (Nat.le_of_ble_eq_true rfl) fun κ X e1 eR e3 e4 hs => ?_
  subst e1; subst e3; subst e4
  unfold fX5_turnsUpAlone at h
  refine z_mem (mk_self M [8, 9, 10, 13] []) ?_
  refine z_sub (lv' := [(0, .ref (ad 7)), (1, .int v1), (2, .int v2), (3, .int v3)]) [0, 1, 2, 3] rfl ?_
  show Zj κ 7 0 _ _ (mk M [(8, (M.1 8)), (9, (M.1 9)), (10, (M.1 10)), (13, (M.1 13))] M.2.1 [])
  refine z_iload_n X dX5_turnsUpAlone_0 1 rfl rfl ?_
  obtain ⟨r1, hr1, h⟩ := ob h
  refine z_cSI (As := [.int v1]) (st := []) X (tX5_isTree hw (mk M [(8, (M.1 8)), (9, (M.1 9)), (10, (M.1 10)), (13, (M.1 13))] M.2.1 []) hr1) w_225 msX5_isTree (by rw [eR]; exact ⟨Nat.le_of_ble_eq_true rfl, Nat.le_of_ble_eq_true rfl⟩) ⟨rfl, rfl⟩ rfl (Nat.le_of_ble_eq_true rfl) rfl dX5_turnsUpAlone_1 ?_
  refine z_if_eq (tgt := 14) X dX5_turnsUpAlone_4 (by decide) (fun c4 => ?_) (fun c4 => ?_)
  · rw [if_pos c4] at h
    refine z_bipush (v := (-5 : Int32)) X dX5_turnsUpAlone_14 (by decide) ?_
    have hq := Option.some.inj h
    subst hq
    exact z_iret hs dX5_turnsUpAlone_16 rfl
  · rw [if_neg c4] at h
    refine z_iload_n X dX5_turnsUpAlone_7 2 rfl rfl ?_
    obtain ⟨r2, hr2, h⟩ := ob h
    refine z_cSI (As := [.int v2]) (st := []) X (tX5_isTree hw (mk M [(8, (M.1 8)), (9, (M.1 9)), (10, (M.1 10)), (13, (M.1 13))] M.2.1 []) hr2) w_225 msX5_isTree (by rw [eR]; exact ⟨Nat.le_of_ble_eq_true rfl, Nat.le_of_ble_eq_true rfl⟩) ⟨rfl, rfl⟩ rfl (Nat.le_of_ble_eq_true rfl) rfl dX5_turnsUpAlone_8 ?_
    refine z_if_ne (tgt := 17) X dX5_turnsUpAlone_11 (by decide) (fun c11 => ?_) (fun c11 => ?_)
    · rw [if_neg c11] at h
      refine z_aload_n X dX5_turnsUpAlone_17 0 rfl rfl ?_
      refine z_get (j := 0) (v := .ref (ad 1)) X inX5 rfl (by decide) w_221 (hw.2.2.1 _) rfl dX5_turnsUpAlone_18 ?_
      refine z_iload_n X dX5_turnsUpAlone_21 1 rfl rfl ?_
      obtain ⟨r3, hr3, h⟩ := ob h
      refine z_cVI (As := [.int v1]) (st := []) X (tX0_sizeOf hw.1 (mk M [(8, (M.1 8)), (9, (M.1 9)), (10, (M.1 10)), (13, (M.1 13))] M.2.1 []) hr3) w_238 mvX0_sizeOf (by rw [eR]; exact ⟨Nat.le_of_ble_eq_true rfl, Nat.le_of_ble_eq_true rfl⟩) ⟨rfl, rfl⟩ rfl (Nat.le_of_ble_eq_true rfl) (hw.1.1 _) rfl rfl dX5_turnsUpAlone_22 ?_
      refine z_istore (lv' := [(4, .int r3), (0, .ref (ad 7)), (1, .int v1), (2, .int v2), (3, .int v3)]) X dX5_turnsUpAlone_25 (by decide) rfl ?_
      refine z_aload_n X dX5_turnsUpAlone_27 1 rfl rfl ?_
      refine z_iload X dX5_turnsUpAlone_28 0 rfl ?_
      obtain ⟨r4, hr4, h⟩ := ob h
      refine z_cVV (As := [.int r3]) (st := []) X (tX5_learn hw (mk M [(8, (M.1 8)), (9, (M.1 9)), (10, (M.1 10)), (13, (M.1 13))] M.2.1 []) hr4) w_239 mvX5_learn (by rw [eR]; exact ⟨Nat.le_of_ble_eq_true rfl, Nat.le_of_ble_eq_true rfl⟩) ⟨rfl, rfl⟩ rfl (Nat.le_of_ble_eq_true rfl) (hw.2.2.1 _) rfl rfl dX5_turnsUpAlone_30 ?_
      refine z_mem (mk_mk (l' := [(8, r4.1), (9, r4.2.1), (10, r4.2.2), (13, (M.1 13))]) (sl' := []) rfl rfl rfl rfl) ?_
      refine z_aload_n X dX5_turnsUpAlone_33 1 rfl rfl ?_
      refine z_get (j := 6) (v := .ref (ad 13)) X inX5 rfl (by decide) w_262 (hw.2.2.1 _) rfl dX5_turnsUpAlone_34 ?_
      refine z_iconst (v := (-1 : Int32)) X dX5_turnsUpAlone_37 (by decide) ?_
      refine z_cSV (As := [.ref (ad 13), .int (-1 : Int32)]) (st := []) X (tJ_fillI (hw.2.2.2.2.2.2.2.2.2.2.2.2.2.2.1) (by decide) (mk M [(8, r4.1), (9, r4.2.1), (10, r4.2.2), (13, (M.1 13))] M.2.1 []) (-1 : Int32)) w_243 msJ_fillI (by rw [eR]; exact ⟨Nat.le_of_ble_eq_true rfl, Nat.le_of_ble_eq_true rfl⟩) ⟨rfl, rfl⟩ rfl (Nat.le_of_ble_eq_true rfl) rfl dX5_turnsUpAlone_38 ?_
      refine z_mem (mk_mk (l' := [(8, r4.1), (9, r4.2.1), (10, r4.2.2), (13, (fillF 626 (-1 : Int32) (M.1 13)))]) (sl' := []) rfl rfl rfl rfl) ?_
      refine z_aload_n X dX5_turnsUpAlone_41 1 rfl rfl ?_
      refine z_get (j := 6) (v := .ref (ad 13)) X inX5 rfl (by decide) w_262 (hw.2.2.1 _) rfl dX5_turnsUpAlone_42 ?_
      refine z_iload_n X dX5_turnsUpAlone_45 2 rfl rfl ?_
      refine z_iconst (v := (nI 0)) X dX5_turnsUpAlone_46 (by decide) ?_
      obtain ⟨u5, hu5, h⟩ := ob h
      refine z_iast (M' := (mk M [(8, r4.1), (9, r4.2.1), (10, r4.2.2), (13, u5)] M.2.1 [])) X (hw.2.2.2.2.2.2.2.2.2.2.2.2.2.2.1 _).1 (wr_ok hu5) (mk_set1 (l' := [(8, r4.1), (9, r4.2.1), (10, r4.2.2), (13, u5)]) (hw.2.2.2.2.2.2.2.2.2.2.2.2.2.2.1) rfl rfl) dX5_turnsUpAlone_47 ?_
      refine z_iload_n X dX5_turnsUpAlone_48 2 rfl rfl ?_
      refine z_istore (lv' := [(5, .int v1), (4, .int r3), (0, .ref (ad 7)), (1, .int v1), (2, .int v2), (3, .int v3)]) X dX5_turnsUpAlone_49 (by decide) rfl ?_
      refine z_sub [2, 4, 5, 1, 0] rfl ?_
      obtain ⟨y6, hy6, h⟩ := ob h
      refine (it_Z (bX5_turnsUpAlone_B51 X eR hw M r4.1 r4.2.1 r4.2.2 v2 v3 r3) FU _ y6 hy6) ?_
      refine z_aload_n X dX5_turnsUpAlone_116 0 rfl rfl ?_
      refine z_get (j := 6) (v := .ref (ad 13)) X inX5 rfl (by decide) w_262 (hw.2.2.1 _) rfl dX5_turnsUpAlone_117 ?_
      refine z_iload_n X dX5_turnsUpAlone_120 1 rfl rfl ?_
      obtain ⟨t7, ht7, h⟩ := ob h
      refine z_iald X (hw.2.2.2.2.2.2.2.2.2.2.2.2.2.2.1 _).1 (rd_ok ht7) dX5_turnsUpAlone_121 ?_
      have hq := Option.some.inj h
      subst hq
      exact z_iret hs dX5_turnsUpAlone_122 rfl
    · rw [if_pos c11] at h
      refine z_bipush (v := (-5 : Int32)) X dX5_turnsUpAlone_14 (by decide) ?_
      have hq := Option.some.inj h
      subst hq
      exact z_iret hs dX5_turnsUpAlone_16 rfl
set_option maxHeartbeats 4000000 in
theorem bX5_farthest_B4 {κ : Rx} {ct : Nat → ClassId} {tF : Nat} {po ad : Nat → Nat} (X : CX κ ct tF cX5_farthest 3 RX5) (eR : kR κ = { frames := 1, cells := 0, slots := 0, locals := 64 }) (hw : KC (kw κ) po ad ct) (M : Mm)   : ∀ (x : (Int32 × Int32)) (s : (Int32 × Int32) ⊕ Int32), fX5_farthest_B4 (M.1 11) x = some s → Sum.elim (fun x => Zj κ 3 4 [(0, .ref (ad 7)), (1, .int x.1), (2, .int x.2)] [] M) (fun y => Zj κ 3 28 [(1, .int y)] [] M) s → Zj κ 3 4 [(0, .ref (ad 7)), (1, .int x.1), (2, .int x.2)] [] M := by
  intro x s h hs
  unfold fX5_farthest_B4 at h
  refine z_iload_n X dX5_farthest_4 2 rfl rfl ?_
  refine z_sipush (v := (nI 626)) X dX5_farthest_5 (by decide) ?_
  refine z_icmp_ge (tgt := 28) X dX5_farthest_8 (by decide) (fun c8 => ?_) (fun c8 => ?_)
  · rw [if_pos c8] at h
    have hq := Option.some.inj h
    subst hq
    exact z_sub [1] rfl hs
  · rw [if_neg c8] at h
    refine z_iload_n X dX5_farthest_11 1 rfl rfl ?_
    refine z_aload_n X dX5_farthest_12 0 rfl rfl ?_
    refine z_get (j := 4) (v := .ref (ad 11)) X inX5 rfl (by decide) w_234 (hw.2.2.1 _) rfl dX5_farthest_13 ?_
    refine z_iload_n X dX5_farthest_16 2 rfl rfl ?_
    obtain ⟨t1, ht1, h⟩ := ob h
    refine z_iald X (hw.2.2.2.2.2.2.2.2.2.2.2.2.1 _).1 (rd_ok ht1) dX5_farthest_17 ?_
    refine z_max X w_287 w_max (by rw [eR]; exact Nat.le_of_ble_eq_true rfl) (by rw [eR]; exact Nat.le_of_ble_eq_true rfl) dX5_farthest_18 ?_
    refine z_istore_n (lv' := [(1, .int (if x.1 < t1 then t1 else x.1)), (0, .ref (ad 7)), (2, .int x.2)]) X dX5_farthest_21 rfl (by decide) rfl ?_
    refine z_iinc (v := (x.2 + nI 1)) (lv' := [(2, .int (x.2 + nI 1)), (1, .int (if x.1 < t1 then t1 else x.1)), (0, .ref (ad 7))]) X dX5_farthest_22 2 rfl rfl (by decide) rfl ?_
    refine z_goto (tgt := 4) X dX5_farthest_25 (by decide) ?_
    have hq := Option.some.inj h
    subst hq
    exact z_sub [2, 1, 0] rfl hs
set_option maxHeartbeats 4000000 in
theorem tX5_farthest {l : Launch} {D : va_G} {ct : Nat → ClassId} {tF : Nat} {wOf : Mm → va_W} {po ad : Nat → Nat} (hw : KC wOf po ad ct) (M : Mm)  {r : Int32} (h : fX5_farthest (M.1 11) = some r) : CtI l yX5_farthest cX5_farthest 3 .int { frames := 1, cells := 0, slots := 0, locals := 64 } D ct tF wOf [.ref (ad 7)] M r M := by
  refine metI (by decide) (Nat.le_of_ble_eq_true rfl) fun κ X e1 eR e3 e4 hs => ?_
  subst e1; subst e3; subst e4
  unfold fX5_farthest at h
  refine z_sub (lv' := [(0, .ref (ad 7))]) [0] rfl ?_
  refine z_iconst (v := (nI 0)) X dX5_farthest_0 (by decide) ?_
  refine z_istore_n (lv' := [(1, .int (nI 0)), (0, .ref (ad 7))]) X dX5_farthest_1 rfl (by decide) rfl ?_
  refine z_iconst (v := (nI 0)) X dX5_farthest_2 (by decide) ?_
  refine z_istore_n (lv' := [(2, .int (nI 0)), (1, .int (nI 0)), (0, .ref (ad 7))]) X dX5_farthest_3 rfl (by decide) rfl ?_
  refine z_sub [2, 1, 0] rfl ?_
  obtain ⟨y1, hy1, h⟩ := ob h
  refine (it_Z (bX5_farthest_B4 X eR hw M) FU _ y1 hy1) ?_
  refine z_iload_n X dX5_farthest_28 0 rfl rfl ?_
  have hq := Option.some.inj h
  subst hq
  exact z_iret hs dX5_farthest_29 rfl
set_option maxHeartbeats 4000000 in
theorem bX5_leastFarthest_B7 {κ : Rx} {ct : Nat → ClassId} {tF : Nat} {po ad : Nat → Nat} (X : CX κ ct tF cX5_leastFarthest 3 RX5) (eR : kR κ = { frames := 2, cells := 0, slots := 0, locals := 86 }) (hw : KC (kw κ) po ad ct) (M : Mm)  (v1 : Int32) : ∀ (x : Int32) (s : Int32 ⊕ (Unit ⊕ Int32)), fX5_leastFarthest_B7 (M.1 11) v1 x = some s → Sum.elim (fun x => Zj κ 3 7 [(0, .ref (ad 7)), (1, .int v1), (2, .int x)] [] M) (Sum.elim (fun y => Zj κ 3 32 [] [] M) (fun r => ZI κ cX5_leastFarthest .int r M)) s → Zj κ 3 7 [(0, .ref (ad 7)), (1, .int v1), (2, .int x)] [] M := by
  intro x s h hs
  unfold fX5_leastFarthest_B7 at h
  refine z_iload_n X dX5_leastFarthest_7 2 rfl rfl ?_
  refine z_sipush (v := (nI 626)) X dX5_leastFarthest_8 (by decide) ?_
  refine z_icmp_ge (tgt := 32) X dX5_leastFarthest_11 (by decide) (fun c11 => ?_) (fun c11 => ?_)
  · rw [if_pos c11] at h
    have hq := Option.some.inj h
    subst hq
    exact z_sub [] rfl hs
  · rw [if_neg c11] at h
    refine z_aload_n X dX5_leastFarthest_14 0 rfl rfl ?_
    refine z_get (j := 4) (v := .ref (ad 11)) X inX5 rfl (by decide) w_234 (hw.2.2.1 _) rfl dX5_leastFarthest_15 ?_
    refine z_iload_n X dX5_leastFarthest_18 2 rfl rfl ?_
    obtain ⟨t1, ht1, h⟩ := ob h
    refine z_iald X (hw.2.2.2.2.2.2.2.2.2.2.2.2.1 _).1 (rd_ok ht1) dX5_leastFarthest_19 ?_
    refine z_iload_n X dX5_leastFarthest_20 1 rfl rfl ?_
    refine z_icmp_ne (tgt := 26) X dX5_leastFarthest_21 (by decide) (fun c21 => ?_) (fun c21 => ?_)
    · rw [if_neg c21] at h
      refine z_iinc (v := (x + nI 1)) (lv' := [(2, .int (x + nI 1)), (0, .ref (ad 7)), (1, .int v1)]) X dX5_leastFarthest_26 2 rfl rfl (by decide) rfl ?_
      refine z_goto (tgt := 7) X dX5_leastFarthest_29 (by decide) ?_
      have hq := Option.some.inj h
      subst hq
      exact z_sub [1, 2, 0] rfl hs
    · rw [if_pos c21] at h
      refine z_iload_n X dX5_leastFarthest_24 2 rfl rfl ?_
      have hq := Option.some.inj h
      subst hq
      exact z_iret hs dX5_leastFarthest_25 rfl
set_option maxHeartbeats 4000000 in
theorem tX5_leastFarthest {l : Launch} {D : va_G} {ct : Nat → ClassId} {tF : Nat} {wOf : Mm → va_W} {po ad : Nat → Nat} (hw : KC wOf po ad ct) (M : Mm)  {r : Int32} (h : fX5_leastFarthest (M.1 11) = some r) : CtI l yX5_leastFarthest cX5_leastFarthest 3 .int { frames := 2, cells := 0, slots := 0, locals := 86 } D ct tF wOf [.ref (ad 7)] M r M := by
  refine metI (by decide) (Nat.le_of_ble_eq_true rfl) fun κ X e1 eR e3 e4 hs => ?_
  subst e1; subst e3; subst e4
  unfold fX5_leastFarthest at h
  refine z_sub (lv' := [(0, .ref (ad 7))]) [0] rfl ?_
  refine z_aload_n X dX5_leastFarthest_0 0 rfl rfl ?_
  obtain ⟨r1, hr1, h⟩ := ob h
  refine z_cVI (As := []) (st := []) X (tX5_farthest hw M hr1) w_288 mvX5_farthest (by rw [eR]; exact ⟨Nat.le_of_ble_eq_true rfl, Nat.le_of_ble_eq_true rfl⟩) ⟨rfl, rfl⟩ rfl (Nat.le_of_ble_eq_true rfl) (hw.2.2.1 _) rfl rfl dX5_leastFarthest_1 ?_
  refine z_istore_n (lv' := [(1, .int r1), (0, .ref (ad 7))]) X dX5_leastFarthest_4 rfl (by decide) rfl ?_
  refine z_iconst (v := (nI 0)) X dX5_leastFarthest_5 (by decide) ?_
  refine z_istore_n (lv' := [(2, .int (nI 0)), (1, .int r1), (0, .ref (ad 7))]) X dX5_leastFarthest_6 rfl (by decide) rfl ?_
  refine z_sub [2, 1, 0] rfl ?_
  obtain ⟨y2_, hy2, h⟩ := ob h
  cases y2_ with
  | inl y2 =>
    rw [Sum.elim_inl] at h
    refine (it_Z (bX5_leastFarthest_B7 X eR hw M r1) FU _ (.inl y2) hy2) ?_
    refine z_iconst (v := (nI 0)) X dX5_leastFarthest_32 (by decide) ?_
    have hq := Option.some.inj h
    subst hq
    exact z_iret hs dX5_leastFarthest_33 rfl
  | inr y2 =>
    rw [Sum.elim_inr] at h
    have hq := Option.some.inj h
    subst hq
    exact (it_Z (bX5_leastFarthest_B7 X eR hw M r1) FU _ (.inr _) hy2) hs
set_option maxHeartbeats 4000000 in
theorem jX5_howManyFarthest_J29 {κ : Rx} {ct : Nat → ClassId} {tF : Nat} {po ad : Nat → Nat} (X : CX κ ct tF cX5_howManyFarthest 4 RX5) (eR : kR κ = { frames := 2, cells := 0, slots := 0, locals := 86 }) (hw : KC (kw κ) po ad ct) (M : Mm)   (v1 : Int32) (v2 : Int32) (v3 : Int32)  (s : ((Int32 × Int32) ⊕ Int32)) (h : fX5_howManyFarthest_J29 (M.1 11) v1 v2 v3 = some s) (hs : (Sum.elim (fun x => Zj κ 4 9 [(0, .ref (ad 7)), (1, .int v1), (2, .int x.1), (3, .int x.2)] [] M) (fun y => Zj κ 4 35 [(2, .int y)] [] M) s)) : Zj κ 4 29 [(0, .ref (ad 7)), (1, .int v1), (2, .int v2), (3, .int v3)] [] M := by
  unfold fX5_howManyFarthest_J29 at h
  refine z_iinc (v := (v3 + nI 1)) (lv' := [(3, .int (v3 + nI 1)), (0, .ref (ad 7)), (1, .int v1), (2, .int v2)]) X dX5_howManyFarthest_29 3 rfl rfl (by decide) rfl ?_
  refine z_goto (tgt := 9) X dX5_howManyFarthest_32 (by decide) ?_
  have hq := Option.some.inj h
  subst hq
  exact z_sub [1, 2, 3, 0] rfl hs
set_option maxHeartbeats 4000000 in
theorem bX5_howManyFarthest_B9 {κ : Rx} {ct : Nat → ClassId} {tF : Nat} {po ad : Nat → Nat} (X : CX κ ct tF cX5_howManyFarthest 4 RX5) (eR : kR κ = { frames := 2, cells := 0, slots := 0, locals := 86 }) (hw : KC (kw κ) po ad ct) (M : Mm)  (v1 : Int32) : ∀ (x : (Int32 × Int32)) (s : (Int32 × Int32) ⊕ Int32), fX5_howManyFarthest_B9 (M.1 11) v1 x = some s → Sum.elim (fun x => Zj κ 4 9 [(0, .ref (ad 7)), (1, .int v1), (2, .int x.1), (3, .int x.2)] [] M) (fun y => Zj κ 4 35 [(2, .int y)] [] M) s → Zj κ 4 9 [(0, .ref (ad 7)), (1, .int v1), (2, .int x.1), (3, .int x.2)] [] M := by
  intro x s h hs
  unfold fX5_howManyFarthest_B9 at h
  refine z_iload_n X dX5_howManyFarthest_9 3 rfl rfl ?_
  refine z_sipush (v := (nI 626)) X dX5_howManyFarthest_10 (by decide) ?_
  refine z_icmp_ge (tgt := 35) X dX5_howManyFarthest_13 (by decide) (fun c13 => ?_) (fun c13 => ?_)
  · rw [if_pos c13] at h
    have hq := Option.some.inj h
    subst hq
    exact z_sub [2] rfl hs
  · rw [if_neg c13] at h
    refine z_aload_n X dX5_howManyFarthest_16 0 rfl rfl ?_
    refine z_get (j := 4) (v := .ref (ad 11)) X inX5 rfl (by decide) w_234 (hw.2.2.1 _) rfl dX5_howManyFarthest_17 ?_
    refine z_iload_n X dX5_howManyFarthest_20 3 rfl rfl ?_
    obtain ⟨t1, ht1, h⟩ := ob h
    refine z_iald X (hw.2.2.2.2.2.2.2.2.2.2.2.2.1 _).1 (rd_ok ht1) dX5_howManyFarthest_21 ?_
    refine z_iload_n X dX5_howManyFarthest_22 1 rfl rfl ?_
    refine z_icmp_ne (tgt := 29) X dX5_howManyFarthest_23 (by decide) (fun c23 => ?_) (fun c23 => ?_)
    · rw [if_neg c23] at h
      exact (jX5_howManyFarthest_J29 X eR hw M v1 x.1 x.2 _ h hs)
    · rw [if_pos c23] at h
      refine z_iinc (v := (x.1 + nI 1)) (lv' := [(2, .int (x.1 + nI 1)), (0, .ref (ad 7)), (1, .int v1), (3, .int x.2)]) X dX5_howManyFarthest_26 2 rfl rfl (by decide) rfl ?_
      exact z_sub [1, 2, 0, 3] rfl (jX5_howManyFarthest_J29 X eR hw M v1 (x.1 + nI 1) x.2 _ h hs)
set_option maxHeartbeats 4000000 in
theorem tX5_howManyFarthest {l : Launch} {D : va_G} {ct : Nat → ClassId} {tF : Nat} {wOf : Mm → va_W} {po ad : Nat → Nat} (hw : KC wOf po ad ct) (M : Mm)  {r : Int32} (h : fX5_howManyFarthest (M.1 11) = some r) : CtI l yX5_howManyFarthest cX5_howManyFarthest 4 .int { frames := 2, cells := 0, slots := 0, locals := 86 } D ct tF wOf [.ref (ad 7)] M r M := by
  refine metI (by decide) (Nat.le_of_ble_eq_true rfl) fun κ X e1 eR e3 e4 hs => ?_
  subst e1; subst e3; subst e4
  unfold fX5_howManyFarthest at h
  refine z_sub (lv' := [(0, .ref (ad 7))]) [0] rfl ?_
  refine z_aload_n X dX5_howManyFarthest_0 0 rfl rfl ?_
  obtain ⟨r1, hr1, h⟩ := ob h
  refine z_cVI (As := []) (st := []) X (tX5_farthest hw M hr1) w_288 mvX5_farthest (by rw [eR]; exact ⟨Nat.le_of_ble_eq_true rfl, Nat.le_of_ble_eq_true rfl⟩) ⟨rfl, rfl⟩ rfl (Nat.le_of_ble_eq_true rfl) (hw.2.2.1 _) rfl rfl dX5_howManyFarthest_1 ?_
  refine z_istore_n (lv' := [(1, .int r1), (0, .ref (ad 7))]) X dX5_howManyFarthest_4 rfl (by decide) rfl ?_
  refine z_iconst (v := (nI 0)) X dX5_howManyFarthest_5 (by decide) ?_
  refine z_istore_n (lv' := [(2, .int (nI 0)), (1, .int r1), (0, .ref (ad 7))]) X dX5_howManyFarthest_6 rfl (by decide) rfl ?_
  refine z_iconst (v := (nI 0)) X dX5_howManyFarthest_7 (by decide) ?_
  refine z_istore_n (lv' := [(3, .int (nI 0)), (2, .int (nI 0)), (1, .int r1), (0, .ref (ad 7))]) X dX5_howManyFarthest_8 rfl (by decide) rfl ?_
  refine z_sub [3, 2, 1, 0] rfl ?_
  obtain ⟨y2, hy2, h⟩ := ob h
  refine (it_Z (bX5_howManyFarthest_B9 X eR hw M r1) FU _ y2 hy2) ?_
  refine z_iload_n X dX5_howManyFarthest_35 0 rfl rfl ?_
  have hq := Option.some.inj h
  subst hq
  exact z_iret hs dX5_howManyFarthest_36 rfl
