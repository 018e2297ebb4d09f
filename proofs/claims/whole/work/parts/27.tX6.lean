set_option maxHeartbeats 4000000 in
theorem tX6_size {l : Launch} {D : va_G} {ct : Nat → ClassId} {tF : Nat} {wOf : Mm → va_W} {po ad : Nat → Nat} (hw : KC wOf po ad ct) (M : Mm)  {r : Int32} (h : fX6_size (M.1 3) (M.2.2 41) = some r) : CtI l yX6_size cX6_size 1 .int { frames := 1, cells := 0, slots := 0, locals := 21 } D ct tF wOf [.ref (ad 0)] M r M := by
  refine metI (by decide) (Nat.le_of_ble_eq_true rfl) fun κ X e1 eR e3 e4 hs => ?_
  subst e1; subst e3; subst e4
  unfold fX6_size at h
  refine z_sub (lv' := [(0, .ref (ad 0))]) [0] rfl ?_
  refine z_aload_n X dX6_size_0 0 rfl rfl ?_
  refine z_get (j := 0) (v := .ref (ad 1)) X inX6 rfl (by decide) w_7 (hw.2.2.2.2.2.2.1 _) rfl dX6_size_1 ?_
  refine z_aload_n X dX6_size_4 0 rfl rfl ?_
  refine z_get (j := 9) (v := .int (M.2.2 41)) X inX6 rfl (by decide) w_8 (hw.2.2.2.2.2.2.1 _) rfl dX6_size_5 ?_
  obtain ⟨r1, hr1, h⟩ := ob h
  refine z_cVI (As := [.int (M.2.2 41)]) (st := []) X (tX0_sizeOf hw.1 M hr1) w_9 mvX0_sizeOf (by rw [eR]; exact ⟨Nat.le_of_ble_eq_true rfl, Nat.le_of_ble_eq_true rfl⟩) ⟨rfl, rfl⟩ rfl (Nat.le_of_ble_eq_true rfl) (hw.1.1 _) rfl rfl dX6_size_8 ?_
  have hq := Option.some.inj h
  subst hq
  exact z_iret hs dX6_size_11 rfl
set_option maxHeartbeats 4000000 in
theorem tX6_nodes {l : Launch} {D : va_G} {ct : Nat → ClassId} {tF : Nat} {wOf : Mm → va_W} {po ad : Nat → Nat} (hw : KC wOf po ad ct) (M : Mm) {v1 : Int32} {r : (Int32 × Int32 × Int32)} (h : fX6_nodes (M.1 3) (M.2.2 41) (M.2.2 44) v1 = some r) : CtI l yX6_nodes cX6_nodes 3 .int { frames := 2, cells := 0, slots := 0, locals := 41 } D ct tF wOf [.ref (ad 0), .int v1] M r.1 (mk M [] M.2.1 [(41, r.2.1), (44, r.2.2)]) := by
  refine metI (by decide) (Nat.le_of_ble_eq_true rfl) fun κ X e1 eR e3 e4 hs => ?_
  subst e1; subst e3; subst e4
  unfold fX6_nodes at h
  refine z_mem (mk_self M [] [41, 44]) ?_
  refine z_sub (lv' := [(0, .ref (ad 0)), (1, .int v1)]) [0, 1] rfl ?_
  show Zj κ 3 0 _ _ (mk M [] M.2.1 [(41, (M.2.2 41)), (44, (M.2.2 44))])
  refine z_iload_n X dX6_nodes_0 1 rfl rfl ?_
  obtain ⟨r1, hr1, h⟩ := ob h
  refine z_cSI (As := [.int v1]) (st := []) X (tX0_isSize hw.1 (mk M [] M.2.1 [(41, (M.2.2 41)), (44, (M.2.2 44))]) hr1) w_17 msX0_isSize (by rw [eR]; exact ⟨Nat.le_of_ble_eq_true rfl, Nat.le_of_ble_eq_true rfl⟩) ⟨rfl, rfl⟩ rfl (Nat.le_of_ble_eq_true rfl) rfl dX6_nodes_1 ?_
  refine z_if_ne (tgt := 10) X dX6_nodes_4 (by decide) (fun c4 => ?_) (fun c4 => ?_)
  · rw [if_neg c4] at h
    refine z_aload_n X dX6_nodes_10 0 rfl rfl ?_
    obtain ⟨r2, hr2, h⟩ := ob h
    refine z_cVI (As := []) (st := []) X (tX6_size hw (mk M [] M.2.1 [(41, (M.2.2 41)), (44, (M.2.2 44))]) hr2) w_18 mvX6_size (by rw [eR]; exact ⟨Nat.le_of_ble_eq_true rfl, Nat.le_of_ble_eq_true rfl⟩) ⟨rfl, rfl⟩ rfl (Nat.le_of_ble_eq_true rfl) (hw.2.2.2.2.2.2.1 _) rfl rfl dX6_nodes_11 ?_
    refine z_istore_n (lv' := [(2, .int r2), (0, .ref (ad 0)), (1, .int v1)]) X dX6_nodes_14 rfl (by decide) rfl ?_
    refine z_aload_n X dX6_nodes_15 1 rfl rfl ?_
    refine z_aload_n X dX6_nodes_16 1 rfl rfl ?_
    refine z_get (j := 0) (v := .ref (ad 1)) X inX6 rfl (by decide) w_7 (hw.2.2.2.2.2.2.1 _) rfl dX6_nodes_17 ?_
    refine z_iload_n X dX6_nodes_20 2 rfl rfl ?_
    obtain ⟨r3, hr3, h⟩ := ob h
    refine z_cVI (As := [.int v1]) (st := [.ref (ad 0)]) X (tX0_firstOf hw.1 (mk M [] M.2.1 [(41, (M.2.2 41)), (44, (M.2.2 44))]) hr3) w_23 mvX0_firstOf (by rw [eR]; exact ⟨Nat.le_of_ble_eq_true rfl, Nat.le_of_ble_eq_true rfl⟩) ⟨rfl, rfl⟩ rfl (Nat.le_of_ble_eq_true rfl) (hw.1.1 _) rfl rfl dX6_nodes_21 ?_
    refine z_put (j := 9) (ty := .int) (M' := (mk M [] M.2.1 [(41, r3), (44, (M.2.2 44))])) X inX6 tyX6 tyX6_ok nmX6 rfl (by decide) w_8 rfl (by decide +kernel) rfl rfl (hw.2.2.2.2.2.2.1 _) (Nat.le_of_ble_eq_true rfl) (mk_setS (sl' := [(41, r3), (44, (M.2.2 44))]) (hw.2.2.2.2.2.2.2.2.2.2.2.2.2.2.2.2.2.2.2.2.2.2.2.2.2.2.2.2.2.2.2.2.2) rfl rfl) dX6_nodes_24 ?_
    refine z_aload_n X dX6_nodes_27 1 rfl rfl ?_
    refine z_get (j := 3) (v := .ref (ad 14)) X inX6 rfl (by decide) w_27 (hw.2.2.2.2.2.2.1 _) rfl dX6_nodes_28 ?_
    obtain ⟨r4, hr4, h⟩ := ob h
    refine z_cVV (As := []) (st := []) X (tX3_clear hw (mk M [] M.2.1 [(41, r3), (44, (M.2.2 44))]) hr4) w_28 mvX3_clear (by rw [eR]; exact ⟨Nat.le_of_ble_eq_true rfl, Nat.le_of_ble_eq_true rfl⟩) ⟨rfl, rfl⟩ rfl (Nat.le_of_ble_eq_true rfl) (hw.2.2.2.1 _) rfl rfl dX6_nodes_31 ?_
    refine z_mem (mk_mk (l' := []) (sl' := [(41, r3), (44, r4)]) rfl rfl rfl rfl) ?_
    refine z_iload_n X dX6_nodes_34 0 rfl rfl ?_
    have hq := Option.some.inj h
    subst hq
    exact z_iret hs dX6_nodes_35 rfl
  · rw [if_pos c4] at h
    refine z_bipush (v := (-2 : Int32)) X dX6_nodes_7 (by decide) ?_
    have hq := Option.some.inj h
    subst hq
    exact z_iret hs dX6_nodes_9 rfl
set_option maxHeartbeats 4000000 in
theorem tX6_become {l : Launch} {D : va_G} {ct : Nat → ClassId} {tF : Nat} {wOf : Mm → va_W} {po ad : Nat → Nat} (hw : KC wOf po ad ct) (M : Mm) {v1 : Int32} {r : ((Nat → Int32) × Int32 × Int32)} (h : fX6_become (M.1 15) (M.2.2 41) (M.2.2 44) v1 = some r) : CtV l yX6_become cX6_become 2 { frames := 2, cells := 0, slots := 0, locals := 85 } D ct tF wOf [.ref (ad 0), .int v1] M (mk M [(15, r.1)] M.2.1 [(41, r.2.1), (44, r.2.2)]) := by
  refine metV (by decide) (Nat.le_of_ble_eq_true rfl) fun κ X e1 eR e3 e4 hs => ?_
  subst e1; subst e3; subst e4
  unfold fX6_become at h
  refine z_mem (mk_self M [15] [41, 44]) ?_
  refine z_sub (lv' := [(0, .ref (ad 0)), (1, .int v1)]) [0, 1] rfl ?_
  show Zj κ 2 0 _ _ (mk M [(15, (M.1 15))] M.2.1 [(41, (M.2.2 41)), (44, (M.2.2 44))])
  refine z_iload_n X dX6_become_0 1 rfl rfl ?_
  refine z_aload_n X dX6_become_1 0 rfl rfl ?_
  refine z_get (j := 9) (v := .int (M.2.2 41)) X inX6 rfl (by decide) w_8 (hw.2.2.2.2.2.2.1 _) rfl dX6_become_2 ?_
  refine z_icmp_eq (tgt := 24) X dX6_become_5 (by decide) (fun c5 => ?_) (fun c5 => ?_)
  · rw [if_pos c5] at h
    have hq := Option.some.inj h
    subst hq
    exact z_vret hs dX6_become_24
  · rw [if_neg c5] at h
    refine z_aload_n X dX6_become_8 0 rfl rfl ?_
    refine z_get (j := 3) (v := .ref (ad 14)) X inX6 rfl (by decide) w_27 (hw.2.2.2.2.2.2.1 _) rfl dX6_become_9 ?_
    refine z_aload_n X dX6_become_12 0 rfl rfl ?_
    refine z_get (j := 9) (v := .int (M.2.2 41)) X inX6 rfl (by decide) w_8 (hw.2.2.2.2.2.2.1 _) rfl dX6_become_13 ?_
    obtain ⟨r1, hr1, h⟩ := ob h
    refine z_cVV (As := [.int (M.2.2 41)]) (st := []) X (tX3_add hw (mk M [(15, (M.1 15))] M.2.1 [(41, (M.2.2 41)), (44, (M.2.2 44))]) hr1) w_49 mvX3_add (by rw [eR]; exact ⟨Nat.le_of_ble_eq_true rfl, Nat.le_of_ble_eq_true rfl⟩) ⟨rfl, rfl⟩ rfl (Nat.le_of_ble_eq_true rfl) (hw.2.2.2.1 _) rfl rfl dX6_become_16 ?_
    refine z_mem (mk_mk (l' := [(15, r1.1)]) (sl' := [(41, (M.2.2 41)), (44, r1.2)]) rfl rfl rfl rfl) ?_
    refine z_aload_n X dX6_become_19 0 rfl rfl ?_
    refine z_iload_n X dX6_become_20 1 rfl rfl ?_
    refine z_put (j := 9) (ty := .int) (M' := (mk M [(15, r1.1)] M.2.1 [(41, v1), (44, r1.2)])) X inX6 tyX6 tyX6_ok nmX6 rfl (by decide) w_8 rfl (by decide +kernel) rfl rfl (hw.2.2.2.2.2.2.1 _) (Nat.le_of_ble_eq_true rfl) (mk_setS (sl' := [(41, v1), (44, r1.2)]) (hw.2.2.2.2.2.2.2.2.2.2.2.2.2.2.2.2.2.2.2.2.2.2.2.2.2.2.2.2.2.2.2.2.2) rfl rfl) dX6_become_21 ?_
    have hq := Option.some.inj h
    subst hq
    exact z_vret hs dX6_become_24
set_option maxHeartbeats 4000000 in
theorem tX6_becomeAndTell {l : Launch} {D : va_G} {ct : Nat → ClassId} {tF : Nat} {wOf : Mm → va_W} {po ad : Nat → Nat} (hw : KC wOf po ad ct) (M : Mm) {v1 : Int32} {r : (Int32 × (Nat → Int32) × Int32 × Int32)} (h : fX6_becomeAndTell (M.1 3) (M.1 15) (M.2.2 41) (M.2.2 44) v1 = some r) : CtI l yX6_becomeAndTell cX6_becomeAndTell 2 .int { frames := 3, cells := 0, slots := 0, locals := 106 } D ct tF wOf [.ref (ad 0), .int v1] M r.1 (mk M [(15, r.2.1)] M.2.1 [(41, r.2.2.1), (44, r.2.2.2)]) := by
  refine metI (by decide) (Nat.le_of_ble_eq_true rfl) fun κ X e1 eR e3 e4 hs => ?_
  subst e1; subst e3; subst e4
  unfold fX6_becomeAndTell at h
  refine z_mem (mk_self M [15] [41, 44]) ?_
  refine z_sub (lv' := [(0, .ref (ad 0)), (1, .int v1)]) [0, 1] rfl ?_
  show Zj κ 2 0 _ _ (mk M [(15, (M.1 15))] M.2.1 [(41, (M.2.2 41)), (44, (M.2.2 44))])
  refine z_aload_n X dX6_becomeAndTell_0 0 rfl rfl ?_
  refine z_iload_n X dX6_becomeAndTell_1 1 rfl rfl ?_
  obtain ⟨r1, hr1, h⟩ := ob h
  refine z_cVV (As := [.int v1]) (st := []) X (tX6_become hw (mk M [(15, (M.1 15))] M.2.1 [(41, (M.2.2 41)), (44, (M.2.2 44))]) hr1) w_54 mvX6_become (by rw [eR]; exact ⟨Nat.le_of_ble_eq_true rfl, Nat.le_of_ble_eq_true rfl⟩) ⟨rfl, rfl⟩ rfl (Nat.le_of_ble_eq_true rfl) (hw.2.2.2.2.2.2.1 _) rfl rfl dX6_becomeAndTell_2 ?_
  refine z_mem (mk_mk (l' := [(15, r1.1)]) (sl' := [(41, r1.2.1), (44, r1.2.2)]) rfl rfl rfl rfl) ?_
  refine z_aload_n X dX6_becomeAndTell_5 0 rfl rfl ?_
  refine z_get (j := 0) (v := .ref (ad 1)) X inX6 rfl (by decide) w_7 (hw.2.2.2.2.2.2.1 _) rfl dX6_becomeAndTell_6 ?_
  refine z_aload_n X dX6_becomeAndTell_9 0 rfl rfl ?_
  refine z_get (j := 9) (v := .int r1.2.1) X inX6 rfl (by decide) w_8 (hw.2.2.2.2.2.2.1 _) rfl dX6_becomeAndTell_10 ?_
  obtain ⟨r2, hr2, h⟩ := ob h
  refine z_cVI (As := [.int r1.2.1]) (st := []) X (tX0_numberOf hw.1 (mk M [(15, r1.1)] M.2.1 [(41, r1.2.1), (44, r1.2.2)]) hr2) w_58 mvX0_numberOf (by rw [eR]; exact ⟨Nat.le_of_ble_eq_true rfl, Nat.le_of_ble_eq_true rfl⟩) ⟨rfl, rfl⟩ rfl (Nat.le_of_ble_eq_true rfl) (hw.1.1 _) rfl rfl dX6_becomeAndTell_13 ?_
  have hq := Option.some.inj h
  subst hq
  exact z_iret hs dX6_becomeAndTell_16 rfl
set_option maxHeartbeats 4000000 in
theorem tX6_row {l : Launch} {D : va_G} {ct : Nat → ClassId} {tF : Nat} {wOf : Mm → va_W} {po ad : Nat → Nat} (hw : KC wOf po ad ct) (M : Mm) {v1 : Int32} {r : (Int32 × (Nat → Int32) × Int32 × Int32)} (h : fX6_row (M.1 2) (M.1 3) (M.1 15) (M.2.2 41) (M.2.2 44) v1 = some r) : CtI l yX6_row cX6_row 3 .int { frames := 4, cells := 0, slots := 0, locals := 127 } D ct tF wOf [.ref (ad 0), .int v1] M r.1 (mk M [(15, r.2.1)] M.2.1 [(41, r.2.2.1), (44, r.2.2.2)]) := by
  refine metI (by decide) (Nat.le_of_ble_eq_true rfl) fun κ X e1 eR e3 e4 hs => ?_
  subst e1; subst e3; subst e4
  unfold fX6_row at h
  refine z_mem (mk_self M [15] [41, 44]) ?_
  refine z_sub (lv' := [(0, .ref (ad 0)), (1, .int v1)]) [0, 1] rfl ?_
  show Zj κ 3 0 _ _ (mk M [(15, (M.1 15))] M.2.1 [(41, (M.2.2 41)), (44, (M.2.2 44))])
  refine z_aload_n X dX6_row_0 0 rfl rfl ?_
  refine z_get (j := 0) (v := .ref (ad 1)) X inX6 rfl (by decide) w_7 (hw.2.2.2.2.2.2.1 _) rfl dX6_row_1 ?_
  refine z_aload_n X dX6_row_4 0 rfl rfl ?_
  obtain ⟨r1, hr1, h⟩ := ob h
  refine z_cVI (As := []) (st := [.ref (ad 1)]) X (tX6_size hw (mk M [(15, (M.1 15))] M.2.1 [(41, (M.2.2 41)), (44, (M.2.2 44))]) hr1) w_18 mvX6_size (by rw [eR]; exact ⟨Nat.le_of_ble_eq_true rfl, Nat.le_of_ble_eq_true rfl⟩) ⟨rfl, rfl⟩ rfl (Nat.le_of_ble_eq_true rfl) (hw.2.2.2.2.2.2.1 _) rfl rfl dX6_row_5 ?_
  refine z_iload_n X dX6_row_8 1 rfl rfl ?_
  obtain ⟨r2, hr2, h⟩ := ob h
  refine z_cVI (As := [.int r1, .int v1]) (st := []) X (tX0_findDigits hw.1 (mk M [(15, (M.1 15))] M.2.1 [(41, (M.2.2 41)), (44, (M.2.2 44))]) hr2) w_62 mvX0_findDigits (by rw [eR]; exact ⟨Nat.le_of_ble_eq_true rfl, Nat.le_of_ble_eq_true rfl⟩) ⟨rfl, rfl⟩ rfl (Nat.le_of_ble_eq_true rfl) (hw.1.1 _) rfl rfl dX6_row_9 ?_
  refine z_istore_n (lv' := [(2, .int r2), (0, .ref (ad 0)), (1, .int v1)]) X dX6_row_12 rfl (by decide) rfl ?_
  refine z_iload_n X dX6_row_13 0 rfl rfl ?_
  refine z_if_ne (tgt := 20) X dX6_row_14 (by decide) (fun c14 => ?_) (fun c14 => ?_)
  · rw [if_neg c14] at h
    refine z_aload_n X dX6_row_20 1 rfl rfl ?_
    refine z_iload_n X dX6_row_21 0 rfl rfl ?_
    obtain ⟨r3, hr3, h⟩ := ob h
    refine z_cVI (As := [.int r2]) (st := []) X (tX6_becomeAndTell hw (mk M [(15, (M.1 15))] M.2.1 [(41, (M.2.2 41)), (44, (M.2.2 44))]) hr3) w_66 mvX6_becomeAndTell (by rw [eR]; exact ⟨Nat.le_of_ble_eq_true rfl, Nat.le_of_ble_eq_true rfl⟩) ⟨rfl, rfl⟩ rfl (Nat.le_of_ble_eq_true rfl) (hw.2.2.2.2.2.2.1 _) rfl rfl dX6_row_22 ?_
    refine z_mem (mk_mk (l' := [(15, r3.2.1)]) (sl' := [(41, r3.2.2.1), (44, r3.2.2.2)]) rfl rfl rfl rfl) ?_
    have hq := Option.some.inj h
    subst hq
    exact z_iret hs dX6_row_25 rfl
  · rw [if_pos c14] at h
    refine z_bipush (v := (-2 : Int32)) X dX6_row_17 (by decide) ?_
    have hq := Option.some.inj h
    subst hq
    exact z_iret hs dX6_row_19 rfl
set_option maxHeartbeats 4000000 in
theorem tX6_isNode {l : Launch} {D : va_G} {ct : Nat → ClassId} {tF : Nat} {wOf : Mm → va_W} {po ad : Nat → Nat} (hw : KC wOf po ad ct) (M : Mm) {v1 : Int32} {r : Int32} (h : fX6_isNode (M.1 3) (M.2.2 41) v1 = some r) : CtI l yX6_isNode cX6_isNode 2 .boolean { frames := 2, cells := 0, slots := 0, locals := 41 } D ct tF wOf [.ref (ad 0), .int v1] M r M := by
  refine metI (by decide) (Nat.le_of_ble_eq_true rfl) fun κ X e1 eR e3 e4 hs => ?_
  subst e1; subst e3; subst e4
  unfold fX6_isNode at h
  refine z_sub (lv' := [(0, .ref (ad 0)), (1, .int v1)]) [0, 1] rfl ?_
  refine z_iload_n X dX6_isNode_0 1 rfl rfl ?_
  refine z_if_lt (tgt := 16) X dX6_isNode_1 (by decide) (fun c1 => ?_) (fun c1 => ?_)
  · rw [if_pos c1] at h
    refine z_iconst (v := (nI 0)) X dX6_isNode_16 (by decide) ?_
    have hq := Option.some.inj h
    subst hq
    exact z_iret hs dX6_isNode_17 rfl
  · rw [if_neg c1] at h
    refine z_iload_n X dX6_isNode_4 1 rfl rfl ?_
    refine z_aload_n X dX6_isNode_5 0 rfl rfl ?_
    obtain ⟨r1, hr1, h⟩ := ob h
    refine z_cVI (As := []) (st := [.int v1]) X (tX6_size hw M hr1) w_18 mvX6_size (by rw [eR]; exact ⟨Nat.le_of_ble_eq_true rfl, Nat.le_of_ble_eq_true rfl⟩) ⟨rfl, rfl⟩ rfl (Nat.le_of_ble_eq_true rfl) (hw.2.2.2.2.2.2.1 _) rfl rfl dX6_isNode_6 ?_
    refine z_icmp_ge (tgt := 16) X dX6_isNode_9 (by decide) (fun c9 => ?_) (fun c9 => ?_)
    · rw [if_pos c9] at h
      refine z_iconst (v := (nI 0)) X dX6_isNode_16 (by decide) ?_
      have hq := Option.some.inj h
      subst hq
      exact z_iret hs dX6_isNode_17 rfl
    · rw [if_neg c9] at h
      refine z_iconst (v := (nI 1)) X dX6_isNode_12 (by decide) ?_
      refine z_goto (tgt := 17) X dX6_isNode_13 (by decide) ?_
      have hq := Option.some.inj h
      subst hq
      exact z_iret hs dX6_isNode_17 rfl
set_option maxHeartbeats 4000000 in
theorem tX6_of {l : Launch} {D : va_G} {ct : Nat → ClassId} {tF : Nat} {wOf : Mm → va_W} {po ad : Nat → Nat} (hw : KC wOf po ad ct) (M : Mm) {v1 : Int32} {v2 : Int32} {r : Int32} (h : fX6_of (M.1 2) (M.1 3) (M.2.2 41) v1 v2 = some r) : CtI l yX6_of cX6_of 3 .int { frames := 4, cells := 0, slots := 0, locals := 92 } D ct tF wOf [.ref (ad 0), .int v1, .int v2] M r M := by
  refine metI (by decide) (Nat.le_of_ble_eq_true rfl) fun κ X e1 eR e3 e4 hs => ?_
  subst e1; subst e3; subst e4
  unfold fX6_of at h
  refine z_sub (lv' := [(0, .ref (ad 0)), (1, .int v1), (2, .int v2)]) [0, 1, 2] rfl ?_
  refine z_aload_n X dX6_of_0 0 rfl rfl ?_
  refine z_iload_n X dX6_of_1 1 rfl rfl ?_
  obtain ⟨r1, hr1, h⟩ := ob h
  refine z_cVI (As := [.int v1]) (st := []) X (tX6_isNode hw M hr1) w_86 mvX6_isNode (by rw [eR]; exact ⟨Nat.le_of_ble_eq_true rfl, Nat.le_of_ble_eq_true rfl⟩) ⟨rfl, rfl⟩ rfl (Nat.le_of_ble_eq_true rfl) (hw.2.2.2.2.2.2.1 _) rfl rfl dX6_of_2 ?_
  refine z_if_ne (tgt := 10) X dX6_of_5 (by decide) (fun c5 => ?_) (fun c5 => ?_)
  · rw [if_neg c5] at h
    refine z_iload_n X dX6_of_10 2 rfl rfl ?_
    by_cases c11_0 : v2 = nI 0
    · rw [if_pos c11_0] at h
      refine z_tabI (off := 37) (tgt := 48) X dX6_of_11 (by rw [c11_0]; decide) (by rw [c11_0]; decide) (by rw [c11_0]; decide) (by decide) ?_
      refine z_aload_n X dX6_of_48 0 rfl rfl ?_
      refine z_get (j := 0) (v := .ref (ad 1)) X inX6 rfl (by decide) w_7 (hw.2.2.2.2.2.2.1 _) rfl dX6_of_49 ?_
      refine z_aload_n X dX6_of_52 0 rfl rfl ?_
      refine z_get (j := 9) (v := .int (M.2.2 41)) X inX6 rfl (by decide) w_8 (hw.2.2.2.2.2.2.1 _) rfl dX6_of_53 ?_
      refine z_iload_n X dX6_of_56 1 rfl rfl ?_
      obtain ⟨r2, hr2, h⟩ := ob h
      refine z_cVI (As := [.int (M.2.2 41), .int v1]) (st := []) X (tX0_rightSize hw.1 M hr2) w_90 mvX0_rightSize (by rw [eR]; exact ⟨Nat.le_of_ble_eq_true rfl, Nat.le_of_ble_eq_true rfl⟩) ⟨rfl, rfl⟩ rfl (Nat.le_of_ble_eq_true rfl) (hw.1.1 _) rfl rfl dX6_of_57 ?_
      have hq := Option.some.inj h
      subst hq
      exact z_iret hs dX6_of_60 rfl
    · rw [if_neg c11_0] at h
      by_cases c11_1 : v2 = nI 1
      · rw [if_pos c11_1] at h
        refine z_tabI (off := 50) (tgt := 61) X dX6_of_11 (by rw [c11_1]; decide) (by rw [c11_1]; decide) (by rw [c11_1]; decide) (by decide) ?_
        refine z_aload_n X dX6_of_61 0 rfl rfl ?_
        refine z_get (j := 0) (v := .ref (ad 1)) X inX6 rfl (by decide) w_7 (hw.2.2.2.2.2.2.1 _) rfl dX6_of_62 ?_
        refine z_aload_n X dX6_of_65 0 rfl rfl ?_
        refine z_get (j := 9) (v := .int (M.2.2 41)) X inX6 rfl (by decide) w_8 (hw.2.2.2.2.2.2.1 _) rfl dX6_of_66 ?_
        refine z_iload_n X dX6_of_69 1 rfl rfl ?_
        obtain ⟨r3, hr3, h⟩ := ob h
        refine z_cVI (As := [.int (M.2.2 41), .int v1]) (st := []) X (tX0_parent hw.1 M hr3) w_91 mvX0_parent (by rw [eR]; exact ⟨Nat.le_of_ble_eq_true rfl, Nat.le_of_ble_eq_true rfl⟩) ⟨rfl, rfl⟩ rfl (Nat.le_of_ble_eq_true rfl) (hw.1.1 _) rfl rfl dX6_of_70 ?_
        have hq := Option.some.inj h
        subst hq
        exact z_iret hs dX6_of_73 rfl
      · rw [if_neg c11_1] at h
        by_cases c11_2 : v2 = nI 2
        · rw [if_pos c11_2] at h
          refine z_tabI (off := 63) (tgt := 74) X dX6_of_11 (by rw [c11_2]; decide) (by rw [c11_2]; decide) (by rw [c11_2]; decide) (by decide) ?_
          refine z_aload_n X dX6_of_74 0 rfl rfl ?_
          refine z_get (j := 0) (v := .ref (ad 1)) X inX6 rfl (by decide) w_7 (hw.2.2.2.2.2.2.1 _) rfl dX6_of_75 ?_
          refine z_aload_n X dX6_of_78 0 rfl rfl ?_
          refine z_get (j := 9) (v := .int (M.2.2 41)) X inX6 rfl (by decide) w_8 (hw.2.2.2.2.2.2.1 _) rfl dX6_of_79 ?_
          refine z_iload_n X dX6_of_82 1 rfl rfl ?_
          obtain ⟨r4, hr4, h⟩ := ob h
          refine z_cVI (As := [.int (M.2.2 41), .int v1]) (st := []) X (tX0_leftChild hw.1 M hr4) w_95 mvX0_leftChild (by rw [eR]; exact ⟨Nat.le_of_ble_eq_true rfl, Nat.le_of_ble_eq_true rfl⟩) ⟨rfl, rfl⟩ rfl (Nat.le_of_ble_eq_true rfl) (hw.1.1 _) rfl rfl dX6_of_83 ?_
          have hq := Option.some.inj h
          subst hq
          exact z_iret hs dX6_of_86 rfl
        · rw [if_neg c11_2] at h
          by_cases c11_3 : v2 = nI 3
          · rw [if_pos c11_3] at h
            refine z_tabI (off := 76) (tgt := 87) X dX6_of_11 (by rw [c11_3]; decide) (by rw [c11_3]; decide) (by rw [c11_3]; decide) (by decide) ?_
            refine z_aload_n X dX6_of_87 0 rfl rfl ?_
            refine z_get (j := 0) (v := .ref (ad 1)) X inX6 rfl (by decide) w_7 (hw.2.2.2.2.2.2.1 _) rfl dX6_of_88 ?_
            refine z_aload_n X dX6_of_91 0 rfl rfl ?_
            refine z_get (j := 9) (v := .int (M.2.2 41)) X inX6 rfl (by decide) w_8 (hw.2.2.2.2.2.2.1 _) rfl dX6_of_92 ?_
            refine z_iload_n X dX6_of_95 1 rfl rfl ?_
            obtain ⟨r5, hr5, h⟩ := ob h
            refine z_cVI (As := [.int (M.2.2 41), .int v1]) (st := []) X (tX0_rightChild hw.1 M hr5) w_99 mvX0_rightChild (by rw [eR]; exact ⟨Nat.le_of_ble_eq_true rfl, Nat.le_of_ble_eq_true rfl⟩) ⟨rfl, rfl⟩ rfl (Nat.le_of_ble_eq_true rfl) (hw.1.1 _) rfl rfl dX6_of_96 ?_
            have hq := Option.some.inj h
            subst hq
            exact z_iret hs dX6_of_99 rfl
          · rw [if_neg c11_3] at h
            by_cases c11_4 : v2 = nI 4
            · rw [if_pos c11_4] at h
              refine z_tabI (off := 89) (tgt := 100) X dX6_of_11 (by rw [c11_4]; decide) (by rw [c11_4]; decide) (by rw [c11_4]; decide) (by decide) ?_
              refine z_aload_n X dX6_of_100 0 rfl rfl ?_
              refine z_get (j := 0) (v := .ref (ad 1)) X inX6 rfl (by decide) w_7 (hw.2.2.2.2.2.2.1 _) rfl dX6_of_101 ?_
              refine z_aload_n X dX6_of_104 0 rfl rfl ?_
              refine z_get (j := 9) (v := .int (M.2.2 41)) X inX6 rfl (by decide) w_8 (hw.2.2.2.2.2.2.1 _) rfl dX6_of_105 ?_
              refine z_iload_n X dX6_of_108 1 rfl rfl ?_
              obtain ⟨r6, hr6, h⟩ := ob h
              refine z_cVI (As := [.int (M.2.2 41), .int v1]) (st := []) X (tX0_leftSize hw.1 M hr6) w_103 mvX0_leftSize (by rw [eR]; exact ⟨Nat.le_of_ble_eq_true rfl, Nat.le_of_ble_eq_true rfl⟩) ⟨rfl, rfl⟩ rfl (Nat.le_of_ble_eq_true rfl) (hw.1.1 _) rfl rfl dX6_of_109 ?_
              have hq := Option.some.inj h
              subst hq
              exact z_iret hs dX6_of_112 rfl
            · rw [if_neg c11_4] at h
              by_cases c11_5 : v2 = nI 5
              · rw [if_pos c11_5] at h
                refine z_tabI (off := 102) (tgt := 113) X dX6_of_11 (by rw [c11_5]; decide) (by rw [c11_5]; decide) (by rw [c11_5]; decide) (by decide) ?_
                refine z_aload_n X dX6_of_113 0 rfl rfl ?_
                refine z_get (j := 0) (v := .ref (ad 1)) X inX6 rfl (by decide) w_7 (hw.2.2.2.2.2.2.1 _) rfl dX6_of_114 ?_
                refine z_aload_n X dX6_of_117 0 rfl rfl ?_
                refine z_get (j := 9) (v := .int (M.2.2 41)) X inX6 rfl (by decide) w_8 (hw.2.2.2.2.2.2.1 _) rfl dX6_of_118 ?_
                refine z_iload_n X dX6_of_121 1 rfl rfl ?_
                obtain ⟨r7, hr7, h⟩ := ob h
                refine z_cVI (As := [.int (M.2.2 41), .int v1]) (st := []) X (tX0_depth hw.1 M hr7) w_104 mvX0_depth (by rw [eR]; exact ⟨Nat.le_of_ble_eq_true rfl, Nat.le_of_ble_eq_true rfl⟩) ⟨rfl, rfl⟩ rfl (Nat.le_of_ble_eq_true rfl) (hw.1.1 _) rfl rfl dX6_of_122 ?_
                have hq := Option.some.inj h
                subst hq
                exact z_iret hs dX6_of_125 rfl
              · rw [if_neg c11_5] at h
                refine z_tabO (tgt := 126) X dX6_of_11 (by have q0 := lv_neT c11_0 (show (nI 0).toInt = 0 from rfl); have q1 := lv_neT c11_1 (show (nI 1).toInt = 1 from rfl); have q2 := lv_neT c11_2 (show (nI 2).toInt = 2 from rfl); have q3 := lv_neT c11_3 (show (nI 3).toInt = 3 from rfl); have q4 := lv_neT c11_4 (show (nI 4).toInt = 4 from rfl); have q5 := lv_neT c11_5 (show (nI 5).toInt = 5 from rfl); omega) (by decide) ?_
                refine z_iconst (v := (-1 : Int32)) X dX6_of_126 (by decide) ?_
                have hq := Option.some.inj h
                subst hq
                exact z_iret hs dX6_of_127 rfl
  · rw [if_pos c5] at h
    refine z_iconst (v := (-1 : Int32)) X dX6_of_8 (by decide) ?_
    have hq := Option.some.inj h
    subst hq
    exact z_iret hs dX6_of_9 rfl
set_option maxHeartbeats 4000000 in
theorem tX6_number {l : Launch} {D : va_G} {ct : Nat → ClassId} {tF : Nat} {wOf : Mm → va_W} {po ad : Nat → Nat} (hw : KC wOf po ad ct) (M : Mm) {v1 : Int32} {r : (Int32 × (Nat → Int32) × Int32 × Int32)} (h : fX6_number (M.1 3) (M.1 15) (M.2.2 41) (M.2.2 44) v1 = some r) : CtI l yX6_number cX6_number 3 .int { frames := 3, cells := 0, slots := 0, locals := 106 } D ct tF wOf [.ref (ad 0), .int v1] M r.1 (mk M [(15, r.2.1)] M.2.1 [(41, r.2.2.1), (44, r.2.2.2)]) := by
  refine metI (by decide) (Nat.le_of_ble_eq_true rfl) fun κ X e1 eR e3 e4 hs => ?_
  subst e1; subst e3; subst e4
  unfold fX6_number at h
  refine z_mem (mk_self M [15] [41, 44]) ?_
  refine z_sub (lv' := [(0, .ref (ad 0)), (1, .int v1)]) [0, 1] rfl ?_
  show Zj κ 3 0 _ _ (mk M [(15, (M.1 15))] M.2.1 [(41, (M.2.2 41)), (44, (M.2.2 44))])
  refine z_iload_n X dX6_number_0 1 rfl rfl ?_
  refine z_if_lt (tgt := 19) X dX6_number_1 (by decide) (fun c1 => ?_) (fun c1 => ?_)
  · rw [if_pos c1] at h
    refine z_iconst (v := (-1 : Int32)) X dX6_number_19 (by decide) ?_
    have hq := Option.some.inj h
    subst hq
    exact z_iret hs dX6_number_20 rfl
  · rw [if_neg c1] at h
    refine z_iload_n X dX6_number_4 1 rfl rfl ?_
    refine z_aload_n X dX6_number_5 0 rfl rfl ?_
    refine z_get (j := 0) (v := .ref (ad 1)) X inX6 rfl (by decide) w_7 (hw.2.2.2.2.2.2.1 _) rfl dX6_number_6 ?_
    refine z_aload_n X dX6_number_9 0 rfl rfl ?_
    obtain ⟨r1, hr1, h⟩ := ob h
    refine z_cVI (As := []) (st := [.ref (ad 1), .int v1]) X (tX6_size hw (mk M [(15, (M.1 15))] M.2.1 [(41, (M.2.2 41)), (44, (M.2.2 44))]) hr1) w_18 mvX6_size (by rw [eR]; exact ⟨Nat.le_of_ble_eq_true rfl, Nat.le_of_ble_eq_true rfl⟩) ⟨rfl, rfl⟩ rfl (Nat.le_of_ble_eq_true rfl) (hw.2.2.2.2.2.2.1 _) rfl rfl dX6_number_10 ?_
    obtain ⟨r2, hr2, h⟩ := ob h
    refine z_cVI (As := [.int r1]) (st := [.int v1]) X (tX0_howMany hw.1 (mk M [(15, (M.1 15))] M.2.1 [(41, (M.2.2 41)), (44, (M.2.2 44))]) hr2) w_108 mvX0_howMany (by rw [eR]; exact ⟨Nat.le_of_ble_eq_true rfl, Nat.le_of_ble_eq_true rfl⟩) ⟨rfl, rfl⟩ rfl (Nat.le_of_ble_eq_true rfl) (hw.1.1 _) rfl rfl dX6_number_13 ?_
    refine z_icmp_lt (tgt := 21) X dX6_number_16 (by decide) (fun c16 => ?_) (fun c16 => ?_)
    · rw [if_pos c16] at h
      refine z_aload_n X dX6_number_21 0 rfl rfl ?_
      refine z_get (j := 0) (v := .ref (ad 1)) X inX6 rfl (by decide) w_7 (hw.2.2.2.2.2.2.1 _) rfl dX6_number_22 ?_
      refine z_aload_n X dX6_number_25 0 rfl rfl ?_
      refine z_get (j := 9) (v := .int (M.2.2 41)) X inX6 rfl (by decide) w_8 (hw.2.2.2.2.2.2.1 _) rfl dX6_number_26 ?_
      obtain ⟨r3, hr3, h⟩ := ob h
      refine z_cVI (As := [.int (M.2.2 41)]) (st := []) X (tX0_numberOf hw.1 (mk M [(15, (M.1 15))] M.2.1 [(41, (M.2.2 41)), (44, (M.2.2 44))]) hr3) w_58 mvX0_numberOf (by rw [eR]; exact ⟨Nat.le_of_ble_eq_true rfl, Nat.le_of_ble_eq_true rfl⟩) ⟨rfl, rfl⟩ rfl (Nat.le_of_ble_eq_true rfl) (hw.1.1 _) rfl rfl dX6_number_29 ?_
      refine z_istore_n (lv' := [(2, .int r3), (0, .ref (ad 0)), (1, .int v1)]) X dX6_number_32 rfl (by decide) rfl ?_
      refine z_aload_n X dX6_number_33 1 rfl rfl ?_
      refine z_aload_n X dX6_number_34 1 rfl rfl ?_
      refine z_get (j := 0) (v := .ref (ad 1)) X inX6 rfl (by decide) w_7 (hw.2.2.2.2.2.2.1 _) rfl dX6_number_35 ?_
      refine z_aload_n X dX6_number_38 1 rfl rfl ?_
      obtain ⟨r4, hr4, h⟩ := ob h
      refine z_cVI (As := []) (st := [.ref (ad 1), .ref (ad 0)]) X (tX6_size hw (mk M [(15, (M.1 15))] M.2.1 [(41, (M.2.2 41)), (44, (M.2.2 44))]) hr4) w_18 mvX6_size (by rw [eR]; exact ⟨Nat.le_of_ble_eq_true rfl, Nat.le_of_ble_eq_true rfl⟩) ⟨rfl, rfl⟩ rfl (Nat.le_of_ble_eq_true rfl) (hw.2.2.2.2.2.2.1 _) rfl rfl dX6_number_39 ?_
      obtain ⟨r5, hr5, h⟩ := ob h
      refine z_cVI (As := [.int r4]) (st := [.ref (ad 0)]) X (tX0_firstOf hw.1 (mk M [(15, (M.1 15))] M.2.1 [(41, (M.2.2 41)), (44, (M.2.2 44))]) hr5) w_23 mvX0_firstOf (by rw [eR]; exact ⟨Nat.le_of_ble_eq_true rfl, Nat.le_of_ble_eq_true rfl⟩) ⟨rfl, rfl⟩ rfl (Nat.le_of_ble_eq_true rfl) (hw.1.1 _) rfl rfl dX6_number_42 ?_
      refine z_iload_n X dX6_number_45 2 rfl rfl ?_
      refine z_iadd X dX6_number_46 ?_
      obtain ⟨r6, hr6, h⟩ := ob h
      refine z_cVV (As := [.int (r5 + v1)]) (st := []) X (tX6_become hw (mk M [(15, (M.1 15))] M.2.1 [(41, (M.2.2 41)), (44, (M.2.2 44))]) hr6) w_54 mvX6_become (by rw [eR]; exact ⟨Nat.le_of_ble_eq_true rfl, Nat.le_of_ble_eq_true rfl⟩) ⟨rfl, rfl⟩ rfl (Nat.le_of_ble_eq_true rfl) (hw.2.2.2.2.2.2.1 _) rfl rfl dX6_number_47 ?_
      refine z_mem (mk_mk (l' := [(15, r6.1)]) (sl' := [(41, r6.2.1), (44, r6.2.2)]) rfl rfl rfl rfl) ?_
      refine z_iload_n X dX6_number_50 0 rfl rfl ?_
      have hq := Option.some.inj h
      subst hq
      exact z_iret hs dX6_number_51 rfl
    · rw [if_neg c16] at h
      refine z_iconst (v := (-1 : Int32)) X dX6_number_19 (by decide) ?_
      have hq := Option.some.inj h
      subst hq
      exact z_iret hs dX6_number_20 rfl
set_option maxHeartbeats 4000000 in
theorem tX6_which {l : Launch} {D : va_G} {ct : Nat → ClassId} {tF : Nat} {wOf : Mm → va_W} {po ad : Nat → Nat} (hw : KC wOf po ad ct) (M : Mm)  {r : Int32} (h : fX6_which (M.1 3) (M.2.2 41) = some r) : CtI l yX6_which cX6_which 1 .int { frames := 3, cells := 0, slots := 0, locals := 62 } D ct tF wOf [.ref (ad 0)] M r M := by
  refine metI (by decide) (Nat.le_of_ble_eq_true rfl) fun κ X e1 eR e3 e4 hs => ?_
  subst e1; subst e3; subst e4
  unfold fX6_which at h
  refine z_sub (lv' := [(0, .ref (ad 0))]) [0] rfl ?_
  refine z_aload_n X dX6_which_0 0 rfl rfl ?_
  refine z_get (j := 0) (v := .ref (ad 1)) X inX6 rfl (by decide) w_7 (hw.2.2.2.2.2.2.1 _) rfl dX6_which_1 ?_
  refine z_aload_n X dX6_which_4 0 rfl rfl ?_
  refine z_get (j := 9) (v := .int (M.2.2 41)) X inX6 rfl (by decide) w_8 (hw.2.2.2.2.2.2.1 _) rfl dX6_which_5 ?_
  obtain ⟨r1, hr1, h⟩ := ob h
  refine z_cVI (As := [.int (M.2.2 41)]) (st := []) X (tX0_numberOf hw.1 M hr1) w_58 mvX0_numberOf (by rw [eR]; exact ⟨Nat.le_of_ble_eq_true rfl, Nat.le_of_ble_eq_true rfl⟩) ⟨rfl, rfl⟩ rfl (Nat.le_of_ble_eq_true rfl) (hw.1.1 _) rfl rfl dX6_which_8 ?_
  have hq := Option.some.inj h
  subst hq
  exact z_iret hs dX6_which_11 rfl
set_option maxHeartbeats 4000000 in
theorem tX6_many {l : Launch} {D : va_G} {ct : Nat → ClassId} {tF : Nat} {wOf : Mm → va_W} {po ad : Nat → Nat} (hw : KC wOf po ad ct) (M : Mm) {v1 : Int32} {r : Int32} (h : fX6_many v1 = some r) : CtI l yX6_many cX6_many 2 .int { frames := 3, cells := 0, slots := 0, locals := 62 } D ct tF wOf [.ref (ad 0), .int v1] M r M := by
  refine metI (by decide) (Nat.le_of_ble_eq_true rfl) fun κ X e1 eR e3 e4 hs => ?_
  subst e1; subst e3; subst e4
  unfold fX6_many at h
  refine z_sub (lv' := [(0, .ref (ad 0)), (1, .int v1)]) [0, 1] rfl ?_
  refine z_iload_n X dX6_many_0 1 rfl rfl ?_
  obtain ⟨r1, hr1, h⟩ := ob h
  refine z_cSI (As := [.int v1]) (st := []) X (tX0_isSize hw.1 M hr1) w_17 msX0_isSize (by rw [eR]; exact ⟨Nat.le_of_ble_eq_true rfl, Nat.le_of_ble_eq_true rfl⟩) ⟨rfl, rfl⟩ rfl (Nat.le_of_ble_eq_true rfl) rfl dX6_many_1 ?_
  refine z_if_eq (tgt := 18) X dX6_many_4 (by decide) (fun c4 => ?_) (fun c4 => ?_)
  · rw [if_pos c4] at h
    refine z_bipush (v := (-2 : Int32)) X dX6_many_18 (by decide) ?_
    have hq := Option.some.inj h
    subst hq
    exact z_iret hs dX6_many_20 rfl
  · rw [if_neg c4] at h
    refine z_aload_n X dX6_many_7 0 rfl rfl ?_
    refine z_get (j := 0) (v := .ref (ad 1)) X inX6 rfl (by decide) w_7 (hw.2.2.2.2.2.2.1 _) rfl dX6_many_8 ?_
    refine z_iload_n X dX6_many_11 1 rfl rfl ?_
    obtain ⟨r2, hr2, h⟩ := ob h
    refine z_cVI (As := [.int v1]) (st := []) X (tX0_howMany hw.1 M hr2) w_108 mvX0_howMany (by rw [eR]; exact ⟨Nat.le_of_ble_eq_true rfl, Nat.le_of_ble_eq_true rfl⟩) ⟨rfl, rfl⟩ rfl (Nat.le_of_ble_eq_true rfl) (hw.1.1 _) rfl rfl dX6_many_12 ?_
    refine z_goto (tgt := 20) X dX6_many_15 (by decide) ?_
    have hq := Option.some.inj h
    subst hq
    exact z_iret hs dX6_many_20 rfl
set_option maxHeartbeats 4000000 in
theorem tX6_digits {l : Launch} {D : va_G} {ct : Nat → ClassId} {tF : Nat} {wOf : Mm → va_W} {po ad : Nat → Nat} (hw : KC wOf po ad ct) (M : Mm)  {r : Int32} (h : fX6_digits (M.1 2) (M.1 3) (M.2.2 41) = some r) : CtI l yX6_digits cX6_digits 1 .int { frames := 2, cells := 0, slots := 0, locals := 45 } D ct tF wOf [.ref (ad 0)] M r M := by
  refine metI (by decide) (Nat.le_of_ble_eq_true rfl) fun κ X e1 eR e3 e4 hs => ?_
  subst e1; subst e3; subst e4
  unfold fX6_digits at h
  refine z_sub (lv' := [(0, .ref (ad 0))]) [0] rfl ?_
  refine z_aload_n X dX6_digits_0 0 rfl rfl ?_
  refine z_get (j := 0) (v := .ref (ad 1)) X inX6 rfl (by decide) w_7 (hw.2.2.2.2.2.2.1 _) rfl dX6_digits_1 ?_
  refine z_aload_n X dX6_digits_4 0 rfl rfl ?_
  refine z_get (j := 9) (v := .int (M.2.2 41)) X inX6 rfl (by decide) w_8 (hw.2.2.2.2.2.2.1 _) rfl dX6_digits_5 ?_
  obtain ⟨r1, hr1, h⟩ := ob h
  refine z_cVI (As := [.int (M.2.2 41)]) (st := []) X (tX0_asDigits hw.1 M hr1) w_112 mvX0_asDigits (by rw [eR]; exact ⟨Nat.le_of_ble_eq_true rfl, Nat.le_of_ble_eq_true rfl⟩) ⟨rfl, rfl⟩ rfl (Nat.le_of_ble_eq_true rfl) (hw.1.1 _) rfl rfl dX6_digits_8 ?_
  have hq := Option.some.inj h
  subst hq
  exact z_iret hs dX6_digits_11 rfl
set_option maxHeartbeats 4000000 in
theorem tX6_turn {l : Launch} {D : va_G} {ct : Nat → ClassId} {tF : Nat} {wOf : Mm → va_W} {po ad : Nat → Nat} (hw : KC wOf po ad ct) (M : Mm) {v1 : Int32} {r : (Int32 × (Nat → Int32) × Int32 × Int32)} (h : fX6_turn (M.1 2) (M.1 3) (M.1 15) (M.2.2 41) (M.2.2 44) v1 = some r) : CtI l yX6_turn cX6_turn 3 .int { frames := 4, cells := 0, slots := 0, locals := 127 } D ct tF wOf [.ref (ad 0), .int v1] M r.1 (mk M [(15, r.2.1)] M.2.1 [(41, r.2.2.1), (44, r.2.2.2)]) := by
  refine metI (by decide) (Nat.le_of_ble_eq_true rfl) fun κ X e1 eR e3 e4 hs => ?_
  subst e1; subst e3; subst e4
  unfold fX6_turn at h
  refine z_mem (mk_self M [15] [41, 44]) ?_
  refine z_sub (lv' := [(0, .ref (ad 0)), (1, .int v1)]) [0, 1] rfl ?_
  show Zj κ 3 0 _ _ (mk M [(15, (M.1 15))] M.2.1 [(41, (M.2.2 41)), (44, (M.2.2 44))])
  refine z_aload_n X dX6_turn_0 0 rfl rfl ?_
  refine z_iload_n X dX6_turn_1 1 rfl rfl ?_
  obtain ⟨r1, hr1, h⟩ := ob h
  refine z_cVI (As := [.int v1]) (st := []) X (tX6_isNode hw (mk M [(15, (M.1 15))] M.2.1 [(41, (M.2.2 41)), (44, (M.2.2 44))]) hr1) w_86 mvX6_isNode (by rw [eR]; exact ⟨Nat.le_of_ble_eq_true rfl, Nat.le_of_ble_eq_true rfl⟩) ⟨rfl, rfl⟩ rfl (Nat.le_of_ble_eq_true rfl) (hw.2.2.2.2.2.2.1 _) rfl rfl dX6_turn_2 ?_
  refine z_if_ne (tgt := 10) X dX6_turn_5 (by decide) (fun c5 => ?_) (fun c5 => ?_)
  · rw [if_neg c5] at h
    refine z_aload_n X dX6_turn_10 0 rfl rfl ?_
    refine z_get (j := 0) (v := .ref (ad 1)) X inX6 rfl (by decide) w_7 (hw.2.2.2.2.2.2.1 _) rfl dX6_turn_11 ?_
    refine z_aload_n X dX6_turn_14 0 rfl rfl ?_
    refine z_get (j := 9) (v := .int (M.2.2 41)) X inX6 rfl (by decide) w_8 (hw.2.2.2.2.2.2.1 _) rfl dX6_turn_15 ?_
    refine z_iload_n X dX6_turn_18 1 rfl rfl ?_
    obtain ⟨r2, hr2, h⟩ := ob h
    refine z_cVI (As := [.int (M.2.2 41), .int v1]) (st := []) X (tX0_turnedUp hw.1 (mk M [(15, (M.1 15))] M.2.1 [(41, (M.2.2 41)), (44, (M.2.2 44))]) hr2) w_123 mvX0_turnedUp (by rw [eR]; exact ⟨Nat.le_of_ble_eq_true rfl, Nat.le_of_ble_eq_true rfl⟩) ⟨rfl, rfl⟩ rfl (Nat.le_of_ble_eq_true rfl) (hw.1.1 _) rfl rfl dX6_turn_19 ?_
    refine z_istore_n (lv' := [(2, .int r2), (0, .ref (ad 0)), (1, .int v1)]) X dX6_turn_22 rfl (by decide) rfl ?_
    refine z_iload_n X dX6_turn_23 0 rfl rfl ?_
    refine z_if_ne (tgt := 32) X dX6_turn_24 (by decide) (fun c24 => ?_) (fun c24 => ?_)
    · rw [if_neg c24] at h
      refine z_aload_n X dX6_turn_32 1 rfl rfl ?_
      refine z_iload_n X dX6_turn_33 0 rfl rfl ?_
      obtain ⟨r3, hr3, h⟩ := ob h
      refine z_cVI (As := [.int r2]) (st := []) X (tX6_becomeAndTell hw (mk M [(15, (M.1 15))] M.2.1 [(41, (M.2.2 41)), (44, (M.2.2 44))]) hr3) w_66 mvX6_becomeAndTell (by rw [eR]; exact ⟨Nat.le_of_ble_eq_true rfl, Nat.le_of_ble_eq_true rfl⟩) ⟨rfl, rfl⟩ rfl (Nat.le_of_ble_eq_true rfl) (hw.2.2.2.2.2.2.1 _) rfl rfl dX6_turn_34 ?_
      refine z_mem (mk_mk (l' := [(15, r3.2.1)]) (sl' := [(41, r3.2.2.1), (44, r3.2.2.2)]) rfl rfl rfl rfl) ?_
      have hq := Option.some.inj h
      subst hq
      exact z_iret hs dX6_turn_37 rfl
    · rw [if_pos c24] at h
      refine z_bipush (v := (-5 : Int32)) X dX6_turn_27 (by decide) ?_
      refine z_goto (tgt := 37) X dX6_turn_29 (by decide) ?_
      have hq := Option.some.inj h
      subst hq
      exact z_iret hs dX6_turn_37 rfl
  · rw [if_pos c5] at h
    refine z_iconst (v := (-1 : Int32)) X dX6_turn_8 (by decide) ?_
    have hq := Option.some.inj h
    subst hq
    exact z_iret hs dX6_turn_9 rfl
set_option maxHeartbeats 4000000 in
theorem tX6_back {l : Launch} {D : va_G} {ct : Nat → ClassId} {tF : Nat} {wOf : Mm → va_W} {po ad : Nat → Nat} (hw : KC wOf po ad ct) (M : Mm) {v1 : Int32} {r : (Int32 × (Nat → Int32) × Int32 × Int32)} (h : fX6_back (M.1 2) (M.1 3) (M.1 15) (M.2.2 41) (M.2.2 44) v1 = some r) : CtI l yX6_back cX6_back 3 .int { frames := 4, cells := 0, slots := 0, locals := 127 } D ct tF wOf [.ref (ad 0), .int v1] M r.1 (mk M [(15, r.2.1)] M.2.1 [(41, r.2.2.1), (44, r.2.2.2)]) := by
  refine metI (by decide) (Nat.le_of_ble_eq_true rfl) fun κ X e1 eR e3 e4 hs => ?_
  subst e1; subst e3; subst e4
  unfold fX6_back at h
  refine z_mem (mk_self M [15] [41, 44]) ?_
  refine z_sub (lv' := [(0, .ref (ad 0)), (1, .int v1)]) [0, 1] rfl ?_
  show Zj κ 3 0 _ _ (mk M [(15, (M.1 15))] M.2.1 [(41, (M.2.2 41)), (44, (M.2.2 44))])
  refine z_aload_n X dX6_back_0 0 rfl rfl ?_
  refine z_iload_n X dX6_back_1 1 rfl rfl ?_
  obtain ⟨r1, hr1, h⟩ := ob h
  refine z_cVI (As := [.int v1]) (st := []) X (tX6_isNode hw (mk M [(15, (M.1 15))] M.2.1 [(41, (M.2.2 41)), (44, (M.2.2 44))]) hr1) w_86 mvX6_isNode (by rw [eR]; exact ⟨Nat.le_of_ble_eq_true rfl, Nat.le_of_ble_eq_true rfl⟩) ⟨rfl, rfl⟩ rfl (Nat.le_of_ble_eq_true rfl) (hw.2.2.2.2.2.2.1 _) rfl rfl dX6_back_2 ?_
  refine z_if_ne (tgt := 10) X dX6_back_5 (by decide) (fun c5 => ?_) (fun c5 => ?_)
  · rw [if_neg c5] at h
    refine z_aload_n X dX6_back_10 0 rfl rfl ?_
    refine z_get (j := 0) (v := .ref (ad 1)) X inX6 rfl (by decide) w_7 (hw.2.2.2.2.2.2.1 _) rfl dX6_back_11 ?_
    refine z_aload_n X dX6_back_14 0 rfl rfl ?_
    refine z_get (j := 9) (v := .int (M.2.2 41)) X inX6 rfl (by decide) w_8 (hw.2.2.2.2.2.2.1 _) rfl dX6_back_15 ?_
    refine z_iload_n X dX6_back_18 1 rfl rfl ?_
    obtain ⟨r2, hr2, h⟩ := ob h
    refine z_cVI (As := [.int (M.2.2 41), .int v1]) (st := []) X (tX0_turnedBack hw.1 (mk M [(15, (M.1 15))] M.2.1 [(41, (M.2.2 41)), (44, (M.2.2 44))]) hr2) w_127 mvX0_turnedBack (by rw [eR]; exact ⟨Nat.le_of_ble_eq_true rfl, Nat.le_of_ble_eq_true rfl⟩) ⟨rfl, rfl⟩ rfl (Nat.le_of_ble_eq_true rfl) (hw.1.1 _) rfl rfl dX6_back_19 ?_
    refine z_istore_n (lv' := [(2, .int r2), (0, .ref (ad 0)), (1, .int v1)]) X dX6_back_22 rfl (by decide) rfl ?_
    refine z_iload_n X dX6_back_23 0 rfl rfl ?_
    refine z_if_ne (tgt := 32) X dX6_back_24 (by decide) (fun c24 => ?_) (fun c24 => ?_)
    · rw [if_neg c24] at h
      refine z_aload_n X dX6_back_32 1 rfl rfl ?_
      refine z_iload_n X dX6_back_33 0 rfl rfl ?_
      obtain ⟨r3, hr3, h⟩ := ob h
      refine z_cVI (As := [.int r2]) (st := []) X (tX6_becomeAndTell hw (mk M [(15, (M.1 15))] M.2.1 [(41, (M.2.2 41)), (44, (M.2.2 44))]) hr3) w_66 mvX6_becomeAndTell (by rw [eR]; exact ⟨Nat.le_of_ble_eq_true rfl, Nat.le_of_ble_eq_true rfl⟩) ⟨rfl, rfl⟩ rfl (Nat.le_of_ble_eq_true rfl) (hw.2.2.2.2.2.2.1 _) rfl rfl dX6_back_34 ?_
      refine z_mem (mk_mk (l' := [(15, r3.2.1)]) (sl' := [(41, r3.2.2.1), (44, r3.2.2.2)]) rfl rfl rfl rfl) ?_
      have hq := Option.some.inj h
      subst hq
      exact z_iret hs dX6_back_37 rfl
    · rw [if_pos c24] at h
      refine z_bipush (v := (-5 : Int32)) X dX6_back_27 (by decide) ?_
      refine z_goto (tgt := 37) X dX6_back_29 (by decide) ?_
      have hq := Option.some.inj h
      subst hq
      exact z_iret hs dX6_back_37 rfl
  · rw [if_pos c5] at h
    refine z_iconst (v := (-1 : Int32)) X dX6_back_8 (by decide) ?_
    have hq := Option.some.inj h
    subst hq
    exact z_iret hs dX6_back_9 rfl
set_option maxHeartbeats 4000000 in
theorem tX6_mayTurn {l : Launch} {D : va_G} {ct : Nat → ClassId} {tF : Nat} {wOf : Mm → va_W} {po ad : Nat → Nat} (hw : KC wOf po ad ct) (M : Mm) {v1 : Int32} {r : Int32} (h : fX6_mayTurn (M.1 2) (M.1 3) (M.2.2 41) v1 = some r) : CtI l yX6_mayTurn cX6_mayTurn 2 .int { frames := 4, cells := 0, slots := 0, locals := 91 } D ct tF wOf [.ref (ad 0), .int v1] M r M := by
  refine metI (by decide) (Nat.le_of_ble_eq_true rfl) fun κ X e1 eR e3 e4 hs => ?_
  subst e1; subst e3; subst e4
  unfold fX6_mayTurn at h
  refine z_sub (lv' := [(0, .ref (ad 0)), (1, .int v1)]) [0, 1] rfl ?_
  refine z_iload_n X dX6_mayTurn_0 1 rfl rfl ?_
  by_cases c1_0 : v1 = nI 0
  · rw [if_pos c1_0] at h
    refine z_tabI (off := 31) (tgt := 32) X dX6_mayTurn_1 (by rw [c1_0]; decide) (by rw [c1_0]; decide) (by rw [c1_0]; decide) (by decide) ?_
    refine z_aload_n X dX6_mayTurn_32 0 rfl rfl ?_
    refine z_get (j := 0) (v := .ref (ad 1)) X inX6 rfl (by decide) w_7 (hw.2.2.2.2.2.2.1 _) rfl dX6_mayTurn_33 ?_
    refine z_aload_n X dX6_mayTurn_36 0 rfl rfl ?_
    refine z_get (j := 9) (v := .int (M.2.2 41)) X inX6 rfl (by decide) w_8 (hw.2.2.2.2.2.2.1 _) rfl dX6_mayTurn_37 ?_
    obtain ⟨r1, hr1, h⟩ := ob h
    refine z_cVI (As := [.int (M.2.2 41)]) (st := []) X (tX0_leftChildren hw.1 M hr1) w_134 mvX0_leftChildren (by rw [eR]; exact ⟨Nat.le_of_ble_eq_true rfl, Nat.le_of_ble_eq_true rfl⟩) ⟨rfl, rfl⟩ rfl (Nat.le_of_ble_eq_true rfl) (hw.1.1 _) rfl rfl dX6_mayTurn_40 ?_
    obtain ⟨r2, hr2, h⟩ := ob h
    refine z_cSI (As := [.int r1]) (st := []) X (tJ0_bitCount M hr2) w_138 msJ0_bitCount (by rw [eR]; exact ⟨Nat.le_of_ble_eq_true rfl, Nat.le_of_ble_eq_true rfl⟩) ⟨rfl, rfl⟩ rfl (Nat.le_of_ble_eq_true rfl) rfl dX6_mayTurn_43 ?_
    have hq := Option.some.inj h
    subst hq
    exact z_iret hs dX6_mayTurn_46 rfl
  · rw [if_neg c1_0] at h
    by_cases c1_1 : v1 = nI 1
    · rw [if_pos c1_1] at h
      refine z_tabI (off := 46) (tgt := 47) X dX6_mayTurn_1 (by rw [c1_1]; decide) (by rw [c1_1]; decide) (by rw [c1_1]; decide) (by decide) ?_
      refine z_aload_n X dX6_mayTurn_47 0 rfl rfl ?_
      refine z_get (j := 0) (v := .ref (ad 1)) X inX6 rfl (by decide) w_7 (hw.2.2.2.2.2.2.1 _) rfl dX6_mayTurn_48 ?_
      refine z_aload_n X dX6_mayTurn_51 0 rfl rfl ?_
      refine z_get (j := 9) (v := .int (M.2.2 41)) X inX6 rfl (by decide) w_8 (hw.2.2.2.2.2.2.1 _) rfl dX6_mayTurn_52 ?_
      obtain ⟨r3, hr3, h⟩ := ob h
      refine z_cVI (As := [.int (M.2.2 41)]) (st := []) X (tX0_withRightChild hw.1 M hr3) w_142 mvX0_withRightChild (by rw [eR]; exact ⟨Nat.le_of_ble_eq_true rfl, Nat.le_of_ble_eq_true rfl⟩) ⟨rfl, rfl⟩ rfl (Nat.le_of_ble_eq_true rfl) (hw.1.1 _) rfl rfl dX6_mayTurn_55 ?_
      obtain ⟨r4, hr4, h⟩ := ob h
      refine z_cSI (As := [.int r3]) (st := []) X (tJ0_bitCount M hr4) w_138 msJ0_bitCount (by rw [eR]; exact ⟨Nat.le_of_ble_eq_true rfl, Nat.le_of_ble_eq_true rfl⟩) ⟨rfl, rfl⟩ rfl (Nat.le_of_ble_eq_true rfl) rfl dX6_mayTurn_58 ?_
      have hq := Option.some.inj h
      subst hq
      exact z_iret hs dX6_mayTurn_61 rfl
    · rw [if_neg c1_1] at h
      by_cases c1_2 : v1 = nI 2
      · rw [if_pos c1_2] at h
        refine z_tabI (off := 61) (tgt := 62) X dX6_mayTurn_1 (by rw [c1_2]; decide) (by rw [c1_2]; decide) (by rw [c1_2]; decide) (by decide) ?_
        refine z_aload_n X dX6_mayTurn_62 0 rfl rfl ?_
        refine z_get (j := 0) (v := .ref (ad 1)) X inX6 rfl (by decide) w_7 (hw.2.2.2.2.2.2.1 _) rfl dX6_mayTurn_63 ?_
        refine z_aload_n X dX6_mayTurn_66 0 rfl rfl ?_
        refine z_get (j := 9) (v := .int (M.2.2 41)) X inX6 rfl (by decide) w_8 (hw.2.2.2.2.2.2.1 _) rfl dX6_mayTurn_67 ?_
        obtain ⟨r5, hr5, h⟩ := ob h
        refine z_cVI (As := [.int (M.2.2 41)]) (st := []) X (tX0_leftChildren hw.1 M hr5) w_134 mvX0_leftChildren (by rw [eR]; exact ⟨Nat.le_of_ble_eq_true rfl, Nat.le_of_ble_eq_true rfl⟩) ⟨rfl, rfl⟩ rfl (Nat.le_of_ble_eq_true rfl) (hw.1.1 _) rfl rfl dX6_mayTurn_70 ?_
        have hq := Option.some.inj h
        subst hq
        exact z_iret hs dX6_mayTurn_73 rfl
      · rw [if_neg c1_2] at h
        by_cases c1_3 : v1 = nI 3
        · rw [if_pos c1_3] at h
          refine z_tabI (off := 73) (tgt := 74) X dX6_mayTurn_1 (by rw [c1_3]; decide) (by rw [c1_3]; decide) (by rw [c1_3]; decide) (by decide) ?_
          refine z_aload_n X dX6_mayTurn_74 0 rfl rfl ?_
          refine z_get (j := 0) (v := .ref (ad 1)) X inX6 rfl (by decide) w_7 (hw.2.2.2.2.2.2.1 _) rfl dX6_mayTurn_75 ?_
          refine z_aload_n X dX6_mayTurn_78 0 rfl rfl ?_
          refine z_get (j := 9) (v := .int (M.2.2 41)) X inX6 rfl (by decide) w_8 (hw.2.2.2.2.2.2.1 _) rfl dX6_mayTurn_79 ?_
          obtain ⟨r6, hr6, h⟩ := ob h
          refine z_cVI (As := [.int (M.2.2 41)]) (st := []) X (tX0_withRightChild hw.1 M hr6) w_142 mvX0_withRightChild (by rw [eR]; exact ⟨Nat.le_of_ble_eq_true rfl, Nat.le_of_ble_eq_true rfl⟩) ⟨rfl, rfl⟩ rfl (Nat.le_of_ble_eq_true rfl) (hw.1.1 _) rfl rfl dX6_mayTurn_82 ?_
          have hq := Option.some.inj h
          subst hq
          exact z_iret hs dX6_mayTurn_85 rfl
        · rw [if_neg c1_3] at h
          refine z_tabO (tgt := 86) X dX6_mayTurn_1 (by have q0 := lv_neT c1_0 (show (nI 0).toInt = 0 from rfl); have q1 := lv_neT c1_1 (show (nI 1).toInt = 1 from rfl); have q2 := lv_neT c1_2 (show (nI 2).toInt = 2 from rfl); have q3 := lv_neT c1_3 (show (nI 3).toInt = 3 from rfl); omega) (by decide) ?_
          refine z_iconst (v := (-1 : Int32)) X dX6_mayTurn_86 (by decide) ?_
          have hq := Option.some.inj h
          subst hq
          exact z_iret hs dX6_mayTurn_87 rfl
set_option maxHeartbeats 4000000 in
theorem tX6_mirror {l : Launch} {D : va_G} {ct : Nat → ClassId} {tF : Nat} {wOf : Mm → va_W} {po ad : Nat → Nat} (hw : KC wOf po ad ct) (M : Mm)  {r : (Int32 × (Nat → Int32) × Int32 × Int32)} (h : fX6_mirror (M.1 2) (M.1 3) (M.1 15) (M.2.2 41) (M.2.2 44) = some r) : CtI l yX6_mirror cX6_mirror 1 .int { frames := 4, cells := 0, slots := 0, locals := 127 } D ct tF wOf [.ref (ad 0)] M r.1 (mk M [(15, r.2.1)] M.2.1 [(41, r.2.2.1), (44, r.2.2.2)]) := by
  refine metI (by decide) (Nat.le_of_ble_eq_true rfl) fun κ X e1 eR e3 e4 hs => ?_
  subst e1; subst e3; subst e4
  unfold fX6_mirror at h
  refine z_mem (mk_self M [15] [41, 44]) ?_
  refine z_sub (lv' := [(0, .ref (ad 0))]) [0] rfl ?_
  show Zj κ 1 0 _ _ (mk M [(15, (M.1 15))] M.2.1 [(41, (M.2.2 41)), (44, (M.2.2 44))])
  refine z_aload_n X dX6_mirror_0 0 rfl rfl ?_
  refine z_aload_n X dX6_mirror_1 0 rfl rfl ?_
  refine z_get (j := 0) (v := .ref (ad 1)) X inX6 rfl (by decide) w_7 (hw.2.2.2.2.2.2.1 _) rfl dX6_mirror_2 ?_
  refine z_aload_n X dX6_mirror_5 0 rfl rfl ?_
  refine z_get (j := 9) (v := .int (M.2.2 41)) X inX6 rfl (by decide) w_8 (hw.2.2.2.2.2.2.1 _) rfl dX6_mirror_6 ?_
  obtain ⟨r1, hr1, h⟩ := ob h
  refine z_cVI (As := [.int (M.2.2 41)]) (st := [.ref (ad 0)]) X (tX0_mirrored hw.1 (mk M [(15, (M.1 15))] M.2.1 [(41, (M.2.2 41)), (44, (M.2.2 44))]) hr1) w_146 mvX0_mirrored (by rw [eR]; exact ⟨Nat.le_of_ble_eq_true rfl, Nat.le_of_ble_eq_true rfl⟩) ⟨rfl, rfl⟩ rfl (Nat.le_of_ble_eq_true rfl) (hw.1.1 _) rfl rfl dX6_mirror_9 ?_
  obtain ⟨r2, hr2, h⟩ := ob h
  refine z_cVI (As := [.int r1]) (st := []) X (tX6_becomeAndTell hw (mk M [(15, (M.1 15))] M.2.1 [(41, (M.2.2 41)), (44, (M.2.2 44))]) hr2) w_66 mvX6_becomeAndTell (by rw [eR]; exact ⟨Nat.le_of_ble_eq_true rfl, Nat.le_of_ble_eq_true rfl⟩) ⟨rfl, rfl⟩ rfl (Nat.le_of_ble_eq_true rfl) (hw.2.2.2.2.2.2.1 _) rfl rfl dX6_mirror_12 ?_
  refine z_mem (mk_mk (l' := [(15, r2.2.1)]) (sl' := [(41, r2.2.2.1), (44, r2.2.2.2)]) rfl rfl rfl rfl) ?_
  have hq := Option.some.inj h
  subst hq
  exact z_iret hs dX6_mirror_15 rfl
set_option maxHeartbeats 4000000 in
theorem tX6_off {l : Launch} {D : va_G} {ct : Nat → ClassId} {tF : Nat} {wOf : Mm → va_W} {po ad : Nat → Nat} (hw : KC wOf po ad ct) (M : Mm)  {r : (Int32 × Int32 × Int32)} (h : fX6_off (M.1 15) (M.2.2 41) (M.2.2 44) = some r) : CtI l yX6_off cX6_off 2 .int { frames := 1, cells := 0, slots := 0, locals := 20 } D ct tF wOf [.ref (ad 0)] M r.1 (mk M [] M.2.1 [(41, r.2.1), (44, r.2.2)]) := by
  refine metI (by decide) (Nat.le_of_ble_eq_true rfl) fun κ X e1 eR e3 e4 hs => ?_
  subst e1; subst e3; subst e4
  unfold fX6_off at h
  refine z_mem (mk_self M [] [41, 44]) ?_
  refine z_sub (lv' := [(0, .ref (ad 0))]) [0] rfl ?_
  show Zj κ 2 0 _ _ (mk M [] M.2.1 [(41, (M.2.2 41)), (44, (M.2.2 44))])
  refine z_aload_n X dX6_off_0 0 rfl rfl ?_
  refine z_get (j := 3) (v := .ref (ad 14)) X inX6 rfl (by decide) w_27 (hw.2.2.2.2.2.2.1 _) rfl dX6_off_1 ?_
  obtain ⟨r1, hr1, h⟩ := ob h
  refine z_cVI (As := []) (st := []) X (tX3_takeLatest hw (mk M [] M.2.1 [(41, (M.2.2 41)), (44, (M.2.2 44))]) hr1) w_150 mvX3_takeLatest (by rw [eR]; exact ⟨Nat.le_of_ble_eq_true rfl, Nat.le_of_ble_eq_true rfl⟩) ⟨rfl, rfl⟩ rfl (Nat.le_of_ble_eq_true rfl) (hw.2.2.2.1 _) rfl rfl dX6_off_4 ?_
  refine z_mem (mk_mk (l' := []) (sl' := [(41, (M.2.2 41)), (44, r1.2)]) rfl rfl rfl rfl) ?_
  refine z_istore_n (lv' := [(1, .int r1.1), (0, .ref (ad 0))]) X dX6_off_7 rfl (by decide) rfl ?_
  refine z_iload_n X dX6_off_8 0 rfl rfl ?_
  refine z_if_ne (tgt := 15) X dX6_off_9 (by decide) (fun c9 => ?_) (fun c9 => ?_)
  · rw [if_neg c9] at h
    refine z_aload_n X dX6_off_15 1 rfl rfl ?_
    refine z_iload_n X dX6_off_16 0 rfl rfl ?_
    refine z_put (j := 9) (ty := .int) (M' := (mk M [] M.2.1 [(41, r1.1), (44, r1.2)])) X inX6 tyX6 tyX6_ok nmX6 rfl (by decide) w_8 rfl (by decide +kernel) rfl rfl (hw.2.2.2.2.2.2.1 _) (Nat.le_of_ble_eq_true rfl) (mk_setS (sl' := [(41, r1.1), (44, r1.2)]) (hw.2.2.2.2.2.2.2.2.2.2.2.2.2.2.2.2.2.2.2.2.2.2.2.2.2.2.2.2.2.2.2.2.2) rfl rfl) dX6_off_17 ?_
    refine z_aload_n X dX6_off_20 1 rfl rfl ?_
    refine z_get (j := 3) (v := .ref (ad 14)) X inX6 rfl (by decide) w_27 (hw.2.2.2.2.2.2.1 _) rfl dX6_off_21 ?_
    obtain ⟨r2, hr2, h⟩ := ob h
    refine z_cVI (As := []) (st := []) X (tX3_held hw (mk M [] M.2.1 [(41, r1.1), (44, r1.2)]) hr2) w_154 mvX3_held (by rw [eR]; exact ⟨Nat.le_of_ble_eq_true rfl, Nat.le_of_ble_eq_true rfl⟩) ⟨rfl, rfl⟩ rfl (Nat.le_of_ble_eq_true rfl) (hw.2.2.2.1 _) rfl rfl dX6_off_24 ?_
    have hq := Option.some.inj h
    subst hq
    exact z_iret hs dX6_off_27 rfl
  · rw [if_pos c9] at h
    refine z_bipush (v := (-3 : Int32)) X dX6_off_12 (by decide) ?_
    have hq := Option.some.inj h
    subst hq
    exact z_iret hs dX6_off_14 rfl
set_option maxHeartbeats 4000000 in
theorem tX6_isShelf {l : Launch} {D : va_G} {ct : Nat → ClassId} {tF : Nat} {wOf : Mm → va_W} {po ad : Nat → Nat} (hw : KC wOf po ad ct) (M : Mm) {v0 : Int32} {r : Int32} (h : fX6_isShelf v0 = some r) : CtI l yX6_isShelf cX6_isShelf 1 .boolean { frames := 0, cells := 0, slots := 0, locals := 0 } D ct tF wOf [.int v0] M r M := by
  refine metI (by decide) (Nat.le_of_ble_eq_true rfl) fun κ X e1 eR e3 e4 hs => ?_
  subst e1; subst e3; subst e4
  unfold fX6_isShelf at h
  refine z_sub (lv' := [(0, .int v0)]) [0] rfl ?_
  refine z_iload_n X dX6_isShelf_0 0 rfl rfl ?_
  refine z_if_lt (tgt := 13) X dX6_isShelf_1 (by decide) (fun c1 => ?_) (fun c1 => ?_)
  · rw [if_pos c1] at h
    refine z_iconst (v := (nI 0)) X dX6_isShelf_13 (by decide) ?_
    have hq := Option.some.inj h
    subst hq
    exact z_iret hs dX6_isShelf_14 rfl
  · rw [if_neg c1] at h
    refine z_iload_n X dX6_isShelf_4 0 rfl rfl ?_
    refine z_iconst (v := (nI 4)) X dX6_isShelf_5 (by decide) ?_
    refine z_icmp_ge (tgt := 13) X dX6_isShelf_6 (by decide) (fun c6 => ?_) (fun c6 => ?_)
    · rw [if_pos c6] at h
      refine z_iconst (v := (nI 0)) X dX6_isShelf_13 (by decide) ?_
      have hq := Option.some.inj h
      subst hq
      exact z_iret hs dX6_isShelf_14 rfl
    · rw [if_neg c6] at h
      refine z_iconst (v := (nI 1)) X dX6_isShelf_9 (by decide) ?_
      refine z_goto (tgt := 14) X dX6_isShelf_10 (by decide) ?_
      have hq := Option.some.inj h
      subst hq
      exact z_iret hs dX6_isShelf_14 rfl
set_option maxHeartbeats 4000000 in
theorem tX6_lack {l : Launch} {D : va_G} {ct : Nat → ClassId} {tF : Nat} {wOf : Mm → va_W} {po ad : Nat → Nat} (hw : KC wOf po ad ct) (M : Mm) {v1 : Int32} {r : Int32} (h : fX6_lack (M.1 27) v1 = some r) : CtI l yX6_lack cX6_lack 2 .int { frames := 1, cells := 0, slots := 0, locals := 20 } D ct tF wOf [.ref (ad 0), .int v1] M r M := by
  refine metI (by decide) (Nat.le_of_ble_eq_true rfl) fun κ X e1 eR e3 e4 hs => ?_
  subst e1; subst e3; subst e4
  unfold fX6_lack at h
  refine z_sub (lv' := [(0, .ref (ad 0)), (1, .int v1)]) [0, 1] rfl ?_
  refine z_iload_n X dX6_lack_0 1 rfl rfl ?_
  obtain ⟨r1, hr1, h⟩ := ob h
  refine z_cSI (As := [.int v1]) (st := []) X (tX6_isShelf hw M hr1) w_158 msX6_isShelf (by rw [eR]; exact ⟨Nat.le_of_ble_eq_true rfl, Nat.le_of_ble_eq_true rfl⟩) ⟨rfl, rfl⟩ rfl (Nat.le_of_ble_eq_true rfl) rfl dX6_lack_1 ?_
  refine z_if_ne (tgt := 9) X dX6_lack_4 (by decide) (fun c4 => ?_) (fun c4 => ?_)
  · rw [if_neg c4] at h
    refine z_aload_n X dX6_lack_9 0 rfl rfl ?_
    refine z_get (j := 6) (v := .ref (ad 27)) X inX6 rfl (by decide) w_161 (hw.2.2.2.2.2.2.1 _) rfl dX6_lack_10 ?_
    refine z_iload_n X dX6_lack_13 1 rfl rfl ?_
    obtain ⟨t2, ht2, h⟩ := ob h
    refine z_iald X (hw.2.2.2.2.2.2.2.2.2.2.2.2.2.2.2.2.2.2.2.2.2.1 _).1 (rd_ok ht2) dX6_lack_14 ?_
    refine z_if_ne (tgt := 23) X dX6_lack_15 (by decide) (fun c15 => ?_) (fun c15 => ?_)
    · rw [if_neg c15] at h
      refine z_iconst (v := (nI 0)) X dX6_lack_23 (by decide) ?_
      have hq := Option.some.inj h
      subst hq
      exact z_iret hs dX6_lack_24 rfl
    · rw [if_pos c15] at h
      refine z_bipush (v := (-6 : Int32)) X dX6_lack_18 (by decide) ?_
      refine z_goto (tgt := 24) X dX6_lack_20 (by decide) ?_
      have hq := Option.some.inj h
      subst hq
      exact z_iret hs dX6_lack_24 rfl
  · rw [if_pos c4] at h
    refine z_iconst (v := (-1 : Int32)) X dX6_lack_7 (by decide) ?_
    have hq := Option.some.inj h
    subst hq
    exact z_iret hs dX6_lack_8 rfl
set_option maxHeartbeats 4000000 in
theorem tX6_refusal {l : Launch} {D : va_G} {ct : Nat → ClassId} {tF : Nat} {wOf : Mm → va_W} {po ad : Nat → Nat} (hw : KC wOf po ad ct) (M : Mm) {v1 : Int32} {r : Int32} (h : fX6_refusal (M.1 3) (M.1 27) (M.2.2 41) v1 = some r) : CtI l yX6_refusal cX6_refusal 3 .int { frames := 2, cells := 0, slots := 0, locals := 41 } D ct tF wOf [.ref (ad 0), .int v1] M r M := by
  refine metI (by decide) (Nat.le_of_ble_eq_true rfl) fun κ X e1 eR e3 e4 hs => ?_
  subst e1; subst e3; subst e4
  unfold fX6_refusal at h
  refine z_sub (lv' := [(0, .ref (ad 0)), (1, .int v1)]) [0, 1] rfl ?_
  refine z_aload_n X dX6_refusal_0 0 rfl rfl ?_
  refine z_iload_n X dX6_refusal_1 1 rfl rfl ?_
  obtain ⟨r1, hr1, h⟩ := ob h
  refine z_cVI (As := [.int v1]) (st := []) X (tX6_lack hw M hr1) w_162 mvX6_lack (by rw [eR]; exact ⟨Nat.le_of_ble_eq_true rfl, Nat.le_of_ble_eq_true rfl⟩) ⟨rfl, rfl⟩ rfl (Nat.le_of_ble_eq_true rfl) (hw.2.2.2.2.2.2.1 _) rfl rfl dX6_refusal_2 ?_
  refine z_istore_n (lv' := [(2, .int r1), (0, .ref (ad 0)), (1, .int v1)]) X dX6_refusal_5 rfl (by decide) rfl ?_
  refine z_iload_n X dX6_refusal_6 0 rfl rfl ?_
  refine z_if_eq (tgt := 12) X dX6_refusal_7 (by decide) (fun c7 => ?_) (fun c7 => ?_)
  · rw [if_pos c7] at h
    refine z_aload_n X dX6_refusal_12 1 rfl rfl ?_
    refine z_get (j := 0) (v := .ref (ad 1)) X inX6 rfl (by decide) w_7 (hw.2.2.2.2.2.2.1 _) rfl dX6_refusal_13 ?_
    refine z_aload_n X dX6_refusal_16 1 rfl rfl ?_
    refine z_get (j := 6) (v := .ref (ad 27)) X inX6 rfl (by decide) w_161 (hw.2.2.2.2.2.2.1 _) rfl dX6_refusal_17 ?_
    refine z_iload_n X dX6_refusal_20 2 rfl rfl ?_
    obtain ⟨t2, ht2, h⟩ := ob h
    refine z_iald X (hw.2.2.2.2.2.2.2.2.2.2.2.2.2.2.2.2.2.2.2.2.2.1 _).1 (rd_ok ht2) dX6_refusal_21 ?_
    obtain ⟨r3, hr3, h⟩ := ob h
    refine z_cVI (As := [.int t2]) (st := []) X (tX0_sizeOf hw.1 M hr3) w_9 mvX0_sizeOf (by rw [eR]; exact ⟨Nat.le_of_ble_eq_true rfl, Nat.le_of_ble_eq_true rfl⟩) ⟨rfl, rfl⟩ rfl (Nat.le_of_ble_eq_true rfl) (hw.1.1 _) rfl rfl dX6_refusal_22 ?_
    refine z_aload_n X dX6_refusal_25 1 rfl rfl ?_
    obtain ⟨r4, hr4, h⟩ := ob h
    refine z_cVI (As := []) (st := [.int r3]) X (tX6_size hw M hr4) w_18 mvX6_size (by rw [eR]; exact ⟨Nat.le_of_ble_eq_true rfl, Nat.le_of_ble_eq_true rfl⟩) ⟨rfl, rfl⟩ rfl (Nat.le_of_ble_eq_true rfl) (hw.2.2.2.2.2.2.1 _) rfl rfl dX6_refusal_26 ?_
    refine z_icmp_ne (tgt := 36) X dX6_refusal_29 (by decide) (fun c29 => ?_) (fun c29 => ?_)
    · rw [if_neg c29] at h
      refine z_bipush (v := (-7 : Int32)) X dX6_refusal_36 (by decide) ?_
      have hq := Option.some.inj h
      subst hq
      exact z_iret hs dX6_refusal_38 rfl
    · rw [if_pos c29] at h
      refine z_iconst (v := (nI 0)) X dX6_refusal_32 (by decide) ?_
      refine z_goto (tgt := 38) X dX6_refusal_33 (by decide) ?_
      have hq := Option.some.inj h
      subst hq
      exact z_iret hs dX6_refusal_38 rfl
  · rw [if_neg c7] at h
    refine z_iload_n X dX6_refusal_10 0 rfl rfl ?_
    have hq := Option.some.inj h
    subst hq
    exact z_iret hs dX6_refusal_11 rfl
set_option maxHeartbeats 4000000 in
theorem jX6_refusalOfTwo_J9 {κ : Rx} {ct : Nat → ClassId} {tF : Nat} {po ad : Nat → Nat} (X : CX κ ct tF cX6_refusalOfTwo 3 RX6) (eR : kR κ = { frames := 3, cells := 0, slots := 0, locals := 63 }) (hw : KC (kw κ) po ad ct) (M : Mm)     (s : Int32) (h : fX6_refusalOfTwo_J9 (M.1 3) (M.1 27) (M.2.2 41) = some s) (hs : (ZI κ cX6_refusalOfTwo .int s M)) : Zj κ 3 9 [] [] M := by
  unfold fX6_refusalOfTwo_J9 at h
  refine z_iconst (v := (-1 : Int32)) X dX6_refusalOfTwo_9 (by decide) ?_
  refine z_goto (tgt := 18) X dX6_refusalOfTwo_10 (by decide) ?_
  have hq := Option.some.inj h
  subst hq
  exact z_iret hs dX6_refusalOfTwo_18 rfl
set_option maxHeartbeats 4000000 in
theorem tX6_refusalOfTwo {l : Launch} {D : va_G} {ct : Nat → ClassId} {tF : Nat} {wOf : Mm → va_W} {po ad : Nat → Nat} (hw : KC wOf po ad ct) (M : Mm) {v1 : Int32} {v2 : Int32} {r : Int32} (h : fX6_refusalOfTwo (M.1 3) (M.1 27) (M.2.2 41) v1 v2 = some r) : CtI l yX6_refusalOfTwo cX6_refusalOfTwo 3 .int { frames := 3, cells := 0, slots := 0, locals := 63 } D ct tF wOf [.ref (ad 0), .int v1, .int v2] M r M := by
  refine metI (by decide) (Nat.le_of_ble_eq_true rfl) fun κ X e1 eR e3 e4 hs => ?_
  subst e1; subst e3; subst e4
  unfold fX6_refusalOfTwo at h
  refine z_sub (lv' := [(0, .ref (ad 0)), (1, .int v1), (2, .int v2)]) [0, 1, 2] rfl ?_
  refine z_iload_n X dX6_refusalOfTwo_0 2 rfl rfl ?_
  refine z_if_lt (tgt := 9) X dX6_refusalOfTwo_1 (by decide) (fun c1 => ?_) (fun c1 => ?_)
  · rw [if_pos c1] at h
    exact z_sub [] rfl (jX6_refusalOfTwo_J9 X eR hw M _ h hs)
  · rw [if_neg c1] at h
    refine z_iload_n X dX6_refusalOfTwo_4 2 rfl rfl ?_
    refine z_iconst (v := (nI 1)) X dX6_refusalOfTwo_5 (by decide) ?_
    refine z_icmp_le (tgt := 13) X dX6_refusalOfTwo_6 (by decide) (fun c6 => ?_) (fun c6 => ?_)
    · rw [if_pos c6] at h
      refine z_aload_n X dX6_refusalOfTwo_13 0 rfl rfl ?_
      refine z_iload_n X dX6_refusalOfTwo_14 1 rfl rfl ?_
      obtain ⟨r1, hr1, h⟩ := ob h
      refine z_cVI (As := [.int v1]) (st := []) X (tX6_refusal hw M hr1) w_166 mvX6_refusal (by rw [eR]; exact ⟨Nat.le_of_ble_eq_true rfl, Nat.le_of_ble_eq_true rfl⟩) ⟨rfl, rfl⟩ rfl (Nat.le_of_ble_eq_true rfl) (hw.2.2.2.2.2.2.1 _) rfl rfl dX6_refusalOfTwo_15 ?_
      have hq := Option.some.inj h
      subst hq
      exact z_iret hs dX6_refusalOfTwo_18 rfl
    · rw [if_neg c6] at h
      exact z_sub [] rfl (jX6_refusalOfTwo_J9 X eR hw M _ h hs)
set_option maxHeartbeats 4000000 in
theorem jX6_below_J54 {κ : Rx} {ct : Nat → ClassId} {tF : Nat} {po ad : Nat → Nat} (X : CX κ ct tF cX6_below 6 RX6) (eR : kR κ = { frames := 4, cells := 0, slots := 0, locals := 85 }) (hw : KC (kw κ) po ad ct) (M : Mm)    (k0 : Int32) (s : Int32) (h : fX6_below_J54 (M.1 2) (M.1 3) (M.1 27) (M.2.2 41) k0 = some s) (hs : (ZI κ cX6_below .int s M)) : Zj κ 6 54 [] [.int k0] M := by
  unfold fX6_below_J54 at h
  refine z_istore (lv' := [(5, .int k0)]) X dX6_below_54 (by decide) rfl ?_
  refine z_iload X dX6_below_56 0 rfl ?_
  refine z_if_eq (tgt := 65) X dX6_below_58 (by decide) (fun c58 => ?_) (fun c58 => ?_)
  · rw [if_pos c58] at h
    refine z_iconst (v := (nI 0)) X dX6_below_65 (by decide) ?_
    have hq := Option.some.inj h
    subst hq
    exact z_iret hs dX6_below_66 rfl
  · rw [if_neg c58] at h
    refine z_iconst (v := (nI 1)) X dX6_below_61 (by decide) ?_
    refine z_goto (tgt := 66) X dX6_below_62 (by decide) ?_
    have hq := Option.some.inj h
    subst hq
    exact z_iret hs dX6_below_66 rfl
set_option maxHeartbeats 4000000 in
theorem tX6_below {l : Launch} {D : va_G} {ct : Nat → ClassId} {tF : Nat} {wOf : Mm → va_W} {po ad : Nat → Nat} (hw : KC wOf po ad ct) (M : Mm) {v1 : Int32} {v2 : Int32} {r : Int32} (h : fX6_below (M.1 2) (M.1 3) (M.1 27) (M.2.2 41) v1 v2 = some r) : CtI l yX6_below cX6_below 6 .int { frames := 4, cells := 0, slots := 0, locals := 85 } D ct tF wOf [.ref (ad 0), .int v1, .int v2] M r M := by
  refine metI (by decide) (Nat.le_of_ble_eq_true rfl) fun κ X e1 eR e3 e4 hs => ?_
  subst e1; subst e3; subst e4
  unfold fX6_below at h
  refine z_sub (lv' := [(0, .ref (ad 0)), (1, .int v1), (2, .int v2)]) [0, 1, 2] rfl ?_
  refine z_aload_n X dX6_below_0 0 rfl rfl ?_
  refine z_iload_n X dX6_below_1 1 rfl rfl ?_
  refine z_iload_n X dX6_below_2 2 rfl rfl ?_
  obtain ⟨r1, hr1, h⟩ := ob h
  refine z_cVI (As := [.int v1, .int v2]) (st := []) X (tX6_refusalOfTwo hw M hr1) w_177 mvX6_refusalOfTwo (by rw [eR]; exact ⟨Nat.le_of_ble_eq_true rfl, Nat.le_of_ble_eq_true rfl⟩) ⟨rfl, rfl⟩ rfl (Nat.le_of_ble_eq_true rfl) (hw.2.2.2.2.2.2.1 _) rfl rfl dX6_below_3 ?_
  refine z_istore_n (lv' := [(3, .int r1), (0, .ref (ad 0)), (1, .int v1), (2, .int v2)]) X dX6_below_6 rfl (by decide) rfl ?_
  refine z_iload_n X dX6_below_7 0 rfl rfl ?_
  refine z_if_eq (tgt := 13) X dX6_below_8 (by decide) (fun c8 => ?_) (fun c8 => ?_)
  · rw [if_pos c8] at h
    refine z_aload_n X dX6_below_13 1 rfl rfl ?_
    refine z_get (j := 6) (v := .ref (ad 27)) X inX6 rfl (by decide) w_161 (hw.2.2.2.2.2.2.1 _) rfl dX6_below_14 ?_
    refine z_iload_n X dX6_below_17 2 rfl rfl ?_
    obtain ⟨t2, ht2, h⟩ := ob h
    refine z_iald X (hw.2.2.2.2.2.2.2.2.2.2.2.2.2.2.2.2.2.2.2.2.2.1 _).1 (rd_ok ht2) dX6_below_18 ?_
    refine z_istore (lv' := [(4, .int t2), (3, .int r1), (0, .ref (ad 0)), (1, .int v1), (2, .int v2)]) X dX6_below_19 (by decide) rfl ?_
    refine z_iload_n X dX6_below_21 4 rfl rfl ?_
    refine z_if_ne (tgt := 41) X dX6_below_22 (by decide) (fun c22 => ?_) (fun c22 => ?_)
    · rw [if_neg c22] at h
      refine z_aload_n X dX6_below_41 2 rfl rfl ?_
      refine z_get (j := 1) (v := .ref (ad 4)) X inX6 rfl (by decide) w_181 (hw.2.2.2.2.2.2.1 _) rfl dX6_below_42 ?_
      refine z_iload X dX6_below_45 0 rfl ?_
      refine z_aload_n X dX6_below_47 2 rfl rfl ?_
      refine z_get (j := 9) (v := .int (M.2.2 41)) X inX6 rfl (by decide) w_8 (hw.2.2.2.2.2.2.1 _) rfl dX6_below_48 ?_
      obtain ⟨r3, hr3, h⟩ := ob h
      refine z_cVI (As := [.int t2, .int (M.2.2 41)]) (st := []) X (tX2_isBelow hw M hr3) w_182 mvX2_isBelow (by rw [eR]; exact ⟨Nat.le_of_ble_eq_true rfl, Nat.le_of_ble_eq_true rfl⟩) ⟨rfl, rfl⟩ rfl (Nat.le_of_ble_eq_true rfl) (hw.2.1 _) rfl rfl dX6_below_51 ?_
      exact z_sub [] rfl (jX6_below_J54 X eR hw M r3 _ h hs)
    · rw [if_pos c22] at h
      refine z_aload_n X dX6_below_25 2 rfl rfl ?_
      refine z_get (j := 1) (v := .ref (ad 4)) X inX6 rfl (by decide) w_181 (hw.2.2.2.2.2.2.1 _) rfl dX6_below_26 ?_
      refine z_aload_n X dX6_below_29 2 rfl rfl ?_
      refine z_get (j := 9) (v := .int (M.2.2 41)) X inX6 rfl (by decide) w_8 (hw.2.2.2.2.2.2.1 _) rfl dX6_below_30 ?_
      refine z_iload X dX6_below_33 0 rfl ?_
      obtain ⟨r4, hr4, h⟩ := ob h
      refine z_cVI (As := [.int (M.2.2 41), .int t2]) (st := []) X (tX2_isBelow hw M hr4) w_182 mvX2_isBelow (by rw [eR]; exact ⟨Nat.le_of_ble_eq_true rfl, Nat.le_of_ble_eq_true rfl⟩) ⟨rfl, rfl⟩ rfl (Nat.le_of_ble_eq_true rfl) (hw.2.1 _) rfl rfl dX6_below_35 ?_
      refine z_goto (tgt := 54) X dX6_below_38 (by decide) ?_
      exact z_sub [] rfl (jX6_below_J54 X eR hw M r4 _ h hs)
  · rw [if_neg c8] at h
    refine z_iload_n X dX6_below_11 0 rfl rfl ?_
    have hq := Option.some.inj h
    subst hq
    exact z_iret hs dX6_below_12 rfl
set_option maxHeartbeats 4000000 in
theorem jX6_meet_J41 {κ : Rx} {ct : Nat → ClassId} {tF : Nat} {po ad : Nat → Nat} (X : CX κ ct tF cX6_meet 4 RX6) (eR : kR κ = { frames := 5, cells := 0, slots := 0, locals := 116 }) (hw : KC (kw κ) po ad ct) (M : Mm)    (k0 : Int32) (k1 : Int32) (k2 : Int32) (s : Int32) (h : fX6_meet_J41 (M.1 2) (M.1 3) (M.1 27) (M.2.2 41) k0 k1 k2 = some s) (hs : (ZI κ cX6_meet .int s M)) : Zj κ 4 41 [] [.int k0, .int k1, .int k2, .ref (ad 4), .ref (ad 1)] M := by
  unfold fX6_meet_J41 at h
  obtain ⟨r1, hr1, h⟩ := ob h
  refine z_cVI (As := [.int k2, .int k1, .int k0]) (st := [.ref (ad 1)]) X (tX2_meetOrJoin hw M hr1) w_204 mvX2_meetOrJoin (by rw [eR]; exact ⟨Nat.le_of_ble_eq_true rfl, Nat.le_of_ble_eq_true rfl⟩) ⟨rfl, rfl⟩ rfl (Nat.le_of_ble_eq_true rfl) (hw.2.1 _) rfl rfl dX6_meet_41 ?_
  obtain ⟨r2, hr2, h⟩ := ob h
  refine z_cVI (As := [.int r1]) (st := []) X (tX0_numberOf hw.1 M hr2) w_58 mvX0_numberOf (by rw [eR]; exact ⟨Nat.le_of_ble_eq_true rfl, Nat.le_of_ble_eq_true rfl⟩) ⟨rfl, rfl⟩ rfl (Nat.le_of_ble_eq_true rfl) (hw.1.1 _) rfl rfl dX6_meet_44 ?_
  have hq := Option.some.inj h
  subst hq
  exact z_iret hs dX6_meet_47 rfl
set_option maxHeartbeats 4000000 in
theorem tX6_meet {l : Launch} {D : va_G} {ct : Nat → ClassId} {tF : Nat} {wOf : Mm → va_W} {po ad : Nat → Nat} (hw : KC wOf po ad ct) (M : Mm) {v1 : Int32} {v2 : Int32} {r : Int32} (h : fX6_meet (M.1 2) (M.1 3) (M.1 27) (M.2.2 41) v1 v2 = some r) : CtI l yX6_meet cX6_meet 4 .int { frames := 5, cells := 0, slots := 0, locals := 116 } D ct tF wOf [.ref (ad 0), .int v1, .int v2] M r M := by
  refine metI (by decide) (Nat.le_of_ble_eq_true rfl) fun κ X e1 eR e3 e4 hs => ?_
  subst e1; subst e3; subst e4
  unfold fX6_meet at h
  refine z_sub (lv' := [(0, .ref (ad 0)), (1, .int v1), (2, .int v2)]) [0, 1, 2] rfl ?_
  refine z_aload_n X dX6_meet_0 0 rfl rfl ?_
  refine z_iload_n X dX6_meet_1 1 rfl rfl ?_
  refine z_iload_n X dX6_meet_2 2 rfl rfl ?_
  obtain ⟨r1, hr1, h⟩ := ob h
  refine z_cVI (As := [.int v1, .int v2]) (st := []) X (tX6_refusalOfTwo hw M hr1) w_177 mvX6_refusalOfTwo (by rw [eR]; exact ⟨Nat.le_of_ble_eq_true rfl, Nat.le_of_ble_eq_true rfl⟩) ⟨rfl, rfl⟩ rfl (Nat.le_of_ble_eq_true rfl) (hw.2.2.2.2.2.2.1 _) rfl rfl dX6_meet_3 ?_
  refine z_istore_n (lv' := [(3, .int r1), (0, .ref (ad 0)), (1, .int v1), (2, .int v2)]) X dX6_meet_6 rfl (by decide) rfl ?_
  refine z_iload_n X dX6_meet_7 0 rfl rfl ?_
  refine z_if_eq (tgt := 13) X dX6_meet_8 (by decide) (fun c8 => ?_) (fun c8 => ?_)
  · rw [if_pos c8] at h
    refine z_aload_n X dX6_meet_13 1 rfl rfl ?_
    refine z_get (j := 0) (v := .ref (ad 1)) X inX6 rfl (by decide) w_7 (hw.2.2.2.2.2.2.1 _) rfl dX6_meet_14 ?_
    refine z_aload_n X dX6_meet_17 1 rfl rfl ?_
    refine z_get (j := 1) (v := .ref (ad 4)) X inX6 rfl (by decide) w_181 (hw.2.2.2.2.2.2.1 _) rfl dX6_meet_18 ?_
    refine z_aload_n X dX6_meet_21 1 rfl rfl ?_
    refine z_get (j := 9) (v := .int (M.2.2 41)) X inX6 rfl (by decide) w_8 (hw.2.2.2.2.2.2.1 _) rfl dX6_meet_22 ?_
    refine z_aload_n X dX6_meet_25 1 rfl rfl ?_
    refine z_get (j := 6) (v := .ref (ad 27)) X inX6 rfl (by decide) w_161 (hw.2.2.2.2.2.2.1 _) rfl dX6_meet_26 ?_
    refine z_iload_n X dX6_meet_29 2 rfl rfl ?_
    obtain ⟨t2, ht2, h⟩ := ob h
    refine z_iald X (hw.2.2.2.2.2.2.2.2.2.2.2.2.2.2.2.2.2.2.2.2.2.1 _).1 (rd_ok ht2) dX6_meet_30 ?_
    refine z_iload_n X dX6_meet_31 3 rfl rfl ?_
    refine z_iconst (v := (nI 1)) X dX6_meet_32 (by decide) ?_
    refine z_icmp_ne (tgt := 40) X dX6_meet_33 (by decide) (fun c33 => ?_) (fun c33 => ?_)
    · rw [if_neg c33] at h
      refine z_iconst (v := (nI 0)) X dX6_meet_40 (by decide) ?_
      exact z_sub [] rfl (jX6_meet_J41 X eR hw M (nI 0) t2 (M.2.2 41) _ h hs)
    · rw [if_pos c33] at h
      refine z_iconst (v := (nI 1)) X dX6_meet_36 (by decide) ?_
      refine z_goto (tgt := 41) X dX6_meet_37 (by decide) ?_
      exact z_sub [] rfl (jX6_meet_J41 X eR hw M (nI 1) t2 (M.2.2 41) _ h hs)
  · rw [if_neg c8] at h
    refine z_iload_n X dX6_meet_11 0 rfl rfl ?_
    have hq := Option.some.inj h
    subst hq
    exact z_iret hs dX6_meet_12 rfl
set_option maxHeartbeats 4000000 in
theorem jX6_meetAll_J78 {κ : Rx} {ct : Nat → ClassId} {tF : Nat} {po ad : Nat → Nat} (X : CX κ ct tF cX6_meetAll 7 RX6) (eR : kR κ = { frames := 5, cells := 0, slots := 0, locals := 116 }) (hw : KC (kw κ) po ad ct) (M : Mm)   (v1 : Int32) (v2 : Int32) (v4 : Int32) (v5 : Int32)  (s : ((Int32 × Int32) ⊕ Int32)) (h : fX6_meetAll_J78 (M.1 2) (M.1 3) (M.1 27) (M.2.2 41) v1 v2 v4 v5 = some s) (hs : (Sum.elim (fun x => Zj κ 7 28 [(0, .ref (ad 0)), (1, .int v1), (2, .int x.1), (3, .ref (ad 27)), (4, .int v4), (5, .int x.2)] [] M) (fun y => Zj κ 7 84 [(0, .ref (ad 0)), (2, .int y)] [] M) s)) : Zj κ 7 78 [(0, .ref (ad 0)), (1, .int v1), (2, .int v2), (3, .ref (ad 27)), (4, .int v4), (5, .int v5)] [] M := by
  unfold fX6_meetAll_J78 at h
  refine z_iinc (v := (v5 + nI 1)) (lv' := [(5, .int (v5 + nI 1)), (0, .ref (ad 0)), (1, .int v1), (2, .int v2), (3, .ref (ad 27)), (4, .int v4)]) X dX6_meetAll_78 5 rfl rfl (by decide) rfl ?_
  refine z_goto (tgt := 28) X dX6_meetAll_81 (by decide) ?_
  have hq := Option.some.inj h
  subst hq
  exact z_sub [1, 2, 3, 4, 5, 0] rfl hs
set_option maxHeartbeats 4000000 in
theorem jX6_meetAll_J74 {κ : Rx} {ct : Nat → ClassId} {tF : Nat} {po ad : Nat → Nat} (X : CX κ ct tF cX6_meetAll 7 RX6) (eR : kR κ = { frames := 5, cells := 0, slots := 0, locals := 116 }) (hw : KC (kw κ) po ad ct) (M : Mm)   (v1 : Int32) (v4 : Int32) (v5 : Int32) (k0 : Int32) (k1 : Int32) (k2 : Int32) (s : ((Int32 × Int32) ⊕ Int32)) (h : fX6_meetAll_J74 (M.1 2) (M.1 3) (M.1 27) (M.2.2 41) v1 v4 v5 k0 k1 k2 = some s) (hs : (Sum.elim (fun x => Zj κ 7 28 [(0, .ref (ad 0)), (1, .int v1), (2, .int x.1), (3, .ref (ad 27)), (4, .int v4), (5, .int x.2)] [] M) (fun y => Zj κ 7 84 [(0, .ref (ad 0)), (2, .int y)] [] M) s)) : Zj κ 7 74 [(0, .ref (ad 0)), (1, .int v1), (3, .ref (ad 27)), (4, .int v4), (5, .int v5)] [.int k0, .int k1, .int k2, .ref (ad 4)] M := by
  unfold fX6_meetAll_J74 at h
  obtain ⟨r1, hr1, h⟩ := ob h
  refine z_cVI (As := [.int k2, .int k1, .int k0]) (st := []) X (tX2_meetOrJoin hw M hr1) w_204 mvX2_meetOrJoin (by rw [eR]; exact ⟨Nat.le_of_ble_eq_true rfl, Nat.le_of_ble_eq_true rfl⟩) ⟨rfl, rfl⟩ rfl (Nat.le_of_ble_eq_true rfl) (hw.2.1 _) rfl rfl dX6_meetAll_74 ?_
  refine z_istore_n (lv' := [(2, .int r1), (0, .ref (ad 0)), (1, .int v1), (3, .ref (ad 27)), (4, .int v4), (5, .int v5)]) X dX6_meetAll_77 rfl (by decide) rfl ?_
  exact z_sub [1, 2, 0, 3, 4, 5] rfl (jX6_meetAll_J78 X eR hw M v1 r1 v4 v5 _ h hs)
set_option maxHeartbeats 4000000 in
theorem bX6_meetAll_B28 {κ : Rx} {ct : Nat → ClassId} {tF : Nat} {po ad : Nat → Nat} (X : CX κ ct tF cX6_meetAll 7 RX6) (eR : kR κ = { frames := 5, cells := 0, slots := 0, locals := 116 }) (hw : KC (kw κ) po ad ct) (M : Mm)  (v1 : Int32) (v4 : Int32) : ∀ (x : (Int32 × Int32)) (s : (Int32 × Int32) ⊕ Int32), fX6_meetAll_B28 (M.1 2) (M.1 3) (M.1 27) (M.2.2 41) v1 v4 x = some s → Sum.elim (fun x => Zj κ 7 28 [(0, .ref (ad 0)), (1, .int v1), (2, .int x.1), (3, .ref (ad 27)), (4, .int v4), (5, .int x.2)] [] M) (fun y => Zj κ 7 84 [(0, .ref (ad 0)), (2, .int y)] [] M) s → Zj κ 7 28 [(0, .ref (ad 0)), (1, .int v1), (2, .int x.1), (3, .ref (ad 27)), (4, .int v4), (5, .int x.2)] [] M := by
  intro x s h hs
  unfold fX6_meetAll_B28 at h
  refine z_iload X dX6_meetAll_28 5 rfl ?_
  refine z_iload X dX6_meetAll_30 4 rfl ?_
  refine z_icmp_ge (tgt := 84) X dX6_meetAll_32 (by decide) (fun c32 => ?_) (fun c32 => ?_)
  · rw [if_pos c32] at h
    have hq := Option.some.inj h
    subst hq
    exact z_sub [0, 2] rfl hs
  · rw [if_neg c32] at h
    refine z_aload_n X dX6_meetAll_35 3 rfl rfl ?_
    refine z_iload X dX6_meetAll_36 5 rfl ?_
    obtain ⟨t1, ht1, h⟩ := ob h
    refine z_iald X (hw.2.2.2.2.2.2.2.2.2.2.2.2.2.2.2.2.2.2.2.2.2.1 _).1 (rd_ok ht1) dX6_meetAll_38 ?_
    refine z_istore (lv' := [(6, .int t1), (0, .ref (ad 0)), (1, .int v1), (2, .int x.1), (3, .ref (ad 27)), (4, .int v4), (5, .int x.2)]) X dX6_meetAll_39 (by decide) rfl ?_
    refine z_aload_n X dX6_meetAll_41 1 rfl rfl ?_
    refine z_get (j := 0) (v := .ref (ad 1)) X inX6 rfl (by decide) w_7 (hw.2.2.2.2.2.2.1 _) rfl dX6_meetAll_42 ?_
    refine z_iload X dX6_meetAll_45 0 rfl ?_
    obtain ⟨r2, hr2, h⟩ := ob h
    refine z_cVI (As := [.int t1]) (st := []) X (tX0_sizeOf hw.1 M hr2) w_9 mvX0_sizeOf (by rw [eR]; exact ⟨Nat.le_of_ble_eq_true rfl, Nat.le_of_ble_eq_true rfl⟩) ⟨rfl, rfl⟩ rfl (Nat.le_of_ble_eq_true rfl) (hw.1.1 _) rfl rfl dX6_meetAll_47 ?_
    refine z_aload_n X dX6_meetAll_50 1 rfl rfl ?_
    obtain ⟨r3, hr3, h⟩ := ob h
    refine z_cVI (As := []) (st := [.int r2]) X (tX6_size hw M hr3) w_18 mvX6_size (by rw [eR]; exact ⟨Nat.le_of_ble_eq_true rfl, Nat.le_of_ble_eq_true rfl⟩) ⟨rfl, rfl⟩ rfl (Nat.le_of_ble_eq_true rfl) (hw.2.2.2.2.2.2.1 _) rfl rfl dX6_meetAll_51 ?_
    refine z_icmp_ne (tgt := 78) X dX6_meetAll_54 (by decide) (fun c54 => ?_) (fun c54 => ?_)
    · rw [if_neg c54] at h
      exact z_sub [1, 2, 3, 4, 5, 6] rfl (jX6_meetAll_J78 X eR hw M v1 x.1 v4 x.2 _ h hs)
    · rw [if_pos c54] at h
      refine z_aload_n X dX6_meetAll_57 1 rfl rfl ?_
      refine z_get (j := 1) (v := .ref (ad 4)) X inX6 rfl (by decide) w_181 (hw.2.2.2.2.2.2.1 _) rfl dX6_meetAll_58 ?_
      refine z_iload_n X dX6_meetAll_61 3 rfl rfl ?_
      refine z_iload X dX6_meetAll_62 0 rfl ?_
      refine z_iload_n X dX6_meetAll_64 2 rfl rfl ?_
      refine z_iconst (v := (nI 1)) X dX6_meetAll_65 (by decide) ?_
      refine z_icmp_ne (tgt := 73) X dX6_meetAll_66 (by decide) (fun c66 => ?_) (fun c66 => ?_)
      · rw [if_neg c66] at h
        refine z_iconst (v := (nI 0)) X dX6_meetAll_73 (by decide) ?_
        exact z_sub [1, 2, 4, 5, 6] rfl (jX6_meetAll_J74 X eR hw M v1 v4 x.2 (nI 0) t1 x.1 _ h hs)
      · rw [if_pos c66] at h
        refine z_iconst (v := (nI 1)) X dX6_meetAll_69 (by decide) ?_
        refine z_goto (tgt := 74) X dX6_meetAll_70 (by decide) ?_
        exact z_sub [1, 2, 4, 5, 6] rfl (jX6_meetAll_J74 X eR hw M v1 v4 x.2 (nI 1) t1 x.1 _ h hs)
set_option maxHeartbeats 4000000 in
theorem tX6_meetAll {l : Launch} {D : va_G} {ct : Nat → ClassId} {tF : Nat} {wOf : Mm → va_W} {po ad : Nat → Nat} (hw : KC wOf po ad ct) (M : Mm) {v1 : Int32} {r : Int32} (h : fX6_meetAll (M.1 2) (M.1 3) (M.1 27) (M.2.2 41) v1 = some r) : CtI l yX6_meetAll cX6_meetAll 7 .int { frames := 5, cells := 0, slots := 0, locals := 116 } D ct tF wOf [.ref (ad 0), .int v1] M r M := by
  refine metI (by decide) (Nat.le_of_ble_eq_true rfl) fun κ X e1 eR e3 e4 hs => ?_
  subst e1; subst e3; subst e4
  unfold fX6_meetAll at h
  refine z_sub (lv' := [(0, .ref (ad 0)), (1, .int v1)]) [0, 1] rfl ?_
  refine z_iload_n X dX6_meetAll_0 1 rfl rfl ?_
  refine z_if_lt (tgt := 9) X dX6_meetAll_1 (by decide) (fun c1 => ?_) (fun c1 => ?_)
  · rw [if_pos c1] at h
    refine z_iconst (v := (-1 : Int32)) X dX6_meetAll_9 (by decide) ?_
    have hq := Option.some.inj h
    subst hq
    exact z_iret hs dX6_meetAll_10 rfl
  · rw [if_neg c1] at h
    refine z_iload_n X dX6_meetAll_4 1 rfl rfl ?_
    refine z_iconst (v := (nI 1)) X dX6_meetAll_5 (by decide) ?_
    refine z_icmp_le (tgt := 11) X dX6_meetAll_6 (by decide) (fun c6 => ?_) (fun c6 => ?_)
    · rw [if_pos c6] at h
      refine z_aload_n X dX6_meetAll_11 0 rfl rfl ?_
      refine z_get (j := 9) (v := .int (M.2.2 41)) X inX6 rfl (by decide) w_8 (hw.2.2.2.2.2.2.1 _) rfl dX6_meetAll_12 ?_
      refine z_istore_n (lv' := [(2, .int (M.2.2 41)), (0, .ref (ad 0)), (1, .int v1)]) X dX6_meetAll_15 rfl (by decide) rfl ?_
      refine z_aload_n X dX6_meetAll_16 1 rfl rfl ?_
      refine z_get (j := 6) (v := .ref (ad 27)) X inX6 rfl (by decide) w_161 (hw.2.2.2.2.2.2.1 _) rfl dX6_meetAll_17 ?_
      refine z_astore_n (lv' := [(3, .ref (ad 27)), (2, .int (M.2.2 41)), (0, .ref (ad 0)), (1, .int v1)]) X dX6_meetAll_20 rfl (by decide) rfl ?_
      refine z_aload_n X dX6_meetAll_21 0 rfl rfl ?_
      refine z_alen (t0 := 0) (v := (nI 4)) X (hw.2.2.2.2.2.2.2.2.2.2.2.2.2.2.2.2.2.2.2.2.2.1 _).1 rfl rfl dX6_meetAll_22 ?_
      refine z_istore (lv' := [(4, .int (nI 4)), (3, .ref (ad 27)), (2, .int (M.2.2 41)), (0, .ref (ad 0)), (1, .int v1)]) X dX6_meetAll_23 (by decide) rfl ?_
      refine z_iconst (v := (nI 0)) X dX6_meetAll_25 (by decide) ?_
      refine z_istore (lv' := [(5, .int (nI 0)), (4, .int (nI 4)), (3, .ref (ad 27)), (2, .int (M.2.2 41)), (0, .ref (ad 0)), (1, .int v1)]) X dX6_meetAll_26 (by decide) rfl ?_
      refine z_sub [4, 5, 3, 2, 1, 0] rfl ?_
      obtain ⟨y1, hy1, h⟩ := ob h
      refine (it_Z (bX6_meetAll_B28 X eR hw M v1 (nI 4)) FU _ y1 hy1) ?_
      refine z_aload_n X dX6_meetAll_84 0 rfl rfl ?_
      refine z_get (j := 0) (v := .ref (ad 1)) X inX6 rfl (by decide) w_7 (hw.2.2.2.2.2.2.1 _) rfl dX6_meetAll_85 ?_
      refine z_iload_n X dX6_meetAll_88 1 rfl rfl ?_
      obtain ⟨r2, hr2, h⟩ := ob h
      refine z_cVI (As := [.int y1]) (st := []) X (tX0_numberOf hw.1 M hr2) w_58 mvX0_numberOf (by rw [eR]; exact ⟨Nat.le_of_ble_eq_true rfl, Nat.le_of_ble_eq_true rfl⟩) ⟨rfl, rfl⟩ rfl (Nat.le_of_ble_eq_true rfl) (hw.1.1 _) rfl rfl dX6_meetAll_89 ?_
      have hq := Option.some.inj h
      subst hq
      exact z_iret hs dX6_meetAll_92 rfl
    · rw [if_neg c6] at h
      refine z_iconst (v := (-1 : Int32)) X dX6_meetAll_9 (by decide) ?_
      have hq := Option.some.inj h
      subst hq
      exact z_iret hs dX6_meetAll_10 rfl
set_option maxHeartbeats 4000000 in
theorem tX6_between {l : Launch} {D : va_G} {ct : Nat → ClassId} {tF : Nat} {wOf : Mm → va_W} {po ad : Nat → Nat} (hw : KC wOf po ad ct) (M : Mm) {v1 : Int32} {v2 : Int32} {r : Int32} (h : fX6_between (M.1 2) (M.1 3) (M.1 27) (M.2.2 41) v1 v2 = some r) : CtI l yX6_between cX6_between 5 .int { frames := 3, cells := 0, slots := 0, locals := 70 } D ct tF wOf [.ref (ad 0), .int v1, .int v2] M r M := by
  refine metI (by decide) (Nat.le_of_ble_eq_true rfl) fun κ X e1 eR e3 e4 hs => ?_
  subst e1; subst e3; subst e4
  unfold fX6_between at h
  refine z_sub (lv' := [(0, .ref (ad 0)), (1, .int v1), (2, .int v2)]) [0, 1, 2] rfl ?_
  refine z_iload_n X dX6_between_0 2 rfl rfl ?_
  refine z_iconst (v := (-1 : Int32)) X dX6_between_1 (by decide) ?_
  refine z_icmp_ge (tgt := 7) X dX6_between_2 (by decide) (fun c2 => ?_) (fun c2 => ?_)
  · rw [if_pos c2] at h
    refine z_aload_n X dX6_between_7 0 rfl rfl ?_
    refine z_iload_n X dX6_between_8 1 rfl rfl ?_
    obtain ⟨r1, hr1, h⟩ := ob h
    refine z_cVI (As := [.int v1]) (st := []) X (tX6_refusal hw M hr1) w_166 mvX6_refusal (by rw [eR]; exact ⟨Nat.le_of_ble_eq_true rfl, Nat.le_of_ble_eq_true rfl⟩) ⟨rfl, rfl⟩ rfl (Nat.le_of_ble_eq_true rfl) (hw.2.2.2.2.2.2.1 _) rfl rfl dX6_between_9 ?_
    refine z_istore_n (lv' := [(3, .int r1), (0, .ref (ad 0)), (1, .int v1), (2, .int v2)]) X dX6_between_12 rfl (by decide) rfl ?_
    refine z_iload_n X dX6_between_13 0 rfl rfl ?_
    refine z_if_eq (tgt := 19) X dX6_between_14 (by decide) (fun c14 => ?_) (fun c14 => ?_)
    · rw [if_pos c14] at h
      refine z_iload_n X dX6_between_19 3 rfl rfl ?_
      refine z_iconst (v := (-1 : Int32)) X dX6_between_20 (by decide) ?_
      refine z_icmp_ne (tgt := 42) X dX6_between_21 (by decide) (fun c21 => ?_) (fun c21 => ?_)
      · rw [if_neg c21] at h
        refine z_aload_n X dX6_between_42 1 rfl rfl ?_
        refine z_get (j := 1) (v := .ref (ad 4)) X inX6 rfl (by decide) w_181 (hw.2.2.2.2.2.2.1 _) rfl dX6_between_43 ?_
        refine z_aload_n X dX6_between_46 1 rfl rfl ?_
        refine z_get (j := 9) (v := .int (M.2.2 41)) X inX6 rfl (by decide) w_8 (hw.2.2.2.2.2.2.1 _) rfl dX6_between_47 ?_
        refine z_aload_n X dX6_between_50 1 rfl rfl ?_
        refine z_get (j := 6) (v := .ref (ad 27)) X inX6 rfl (by decide) w_161 (hw.2.2.2.2.2.2.1 _) rfl dX6_between_51 ?_
        refine z_iload_n X dX6_between_54 2 rfl rfl ?_
        obtain ⟨t2, ht2, h⟩ := ob h
        refine z_iald X (hw.2.2.2.2.2.2.2.2.2.2.2.2.2.2.2.2.2.2.2.2.2.1 _).1 (rd_ok ht2) dX6_between_55 ?_
        refine z_iload_n X dX6_between_56 3 rfl rfl ?_
        obtain ⟨r3, hr3, h⟩ := ob h
        refine z_cVI (As := [.int (M.2.2 41), .int t2, .int v2]) (st := []) X (tX2_nthBetween hw M hr3) w_211 mvX2_nthBetween (by rw [eR]; exact ⟨Nat.le_of_ble_eq_true rfl, Nat.le_of_ble_eq_true rfl⟩) ⟨rfl, rfl⟩ rfl (Nat.le_of_ble_eq_true rfl) (hw.2.1 _) rfl rfl dX6_between_57 ?_
        refine z_istore (lv' := [(4, .int r3), (3, .int r1), (0, .ref (ad 0)), (1, .int v1), (2, .int v2)]) X dX6_between_60 (by decide) rfl ?_
        refine z_iload X dX6_between_62 0 rfl ?_
        refine z_if_ne (tgt := 71) X dX6_between_64 (by decide) (fun c64 => ?_) (fun c64 => ?_)
        · rw [if_neg c64] at h
          refine z_aload_n X dX6_between_71 2 rfl rfl ?_
          refine z_get (j := 0) (v := .ref (ad 1)) X inX6 rfl (by decide) w_7 (hw.2.2.2.2.2.2.1 _) rfl dX6_between_72 ?_
          refine z_iload X dX6_between_75 0 rfl ?_
          obtain ⟨r4, hr4, h⟩ := ob h
          refine z_cVI (As := [.int r3]) (st := []) X (tX0_numberOf hw.1 M hr4) w_58 mvX0_numberOf (by rw [eR]; exact ⟨Nat.le_of_ble_eq_true rfl, Nat.le_of_ble_eq_true rfl⟩) ⟨rfl, rfl⟩ rfl (Nat.le_of_ble_eq_true rfl) (hw.1.1 _) rfl rfl dX6_between_77 ?_
          have hq := Option.some.inj h
          subst hq
          exact z_iret hs dX6_between_80 rfl
        · rw [if_pos c64] at h
          refine z_iconst (v := (-1 : Int32)) X dX6_between_67 (by decide) ?_
          refine z_goto (tgt := 80) X dX6_between_68 (by decide) ?_
          have hq := Option.some.inj h
          subst hq
          exact z_iret hs dX6_between_80 rfl
      · rw [if_pos c21] at h
        refine z_aload_n X dX6_between_24 1 rfl rfl ?_
        refine z_get (j := 1) (v := .ref (ad 4)) X inX6 rfl (by decide) w_181 (hw.2.2.2.2.2.2.1 _) rfl dX6_between_25 ?_
        refine z_aload_n X dX6_between_28 1 rfl rfl ?_
        refine z_get (j := 9) (v := .int (M.2.2 41)) X inX6 rfl (by decide) w_8 (hw.2.2.2.2.2.2.1 _) rfl dX6_between_29 ?_
        refine z_aload_n X dX6_between_32 1 rfl rfl ?_
        refine z_get (j := 6) (v := .ref (ad 27)) X inX6 rfl (by decide) w_161 (hw.2.2.2.2.2.2.1 _) rfl dX6_between_33 ?_
        refine z_iload_n X dX6_between_36 2 rfl rfl ?_
        obtain ⟨t5, ht5, h⟩ := ob h
        refine z_iald X (hw.2.2.2.2.2.2.2.2.2.2.2.2.2.2.2.2.2.2.2.2.2.1 _).1 (rd_ok ht5) dX6_between_37 ?_
        obtain ⟨r6, hr6, h⟩ := ob h
        refine z_cVI (As := [.int (M.2.2 41), .int t5]) (st := []) X (tX2_howManyBetween hw M hr6) w_215 mvX2_howManyBetween (by rw [eR]; exact ⟨Nat.le_of_ble_eq_true rfl, Nat.le_of_ble_eq_true rfl⟩) ⟨rfl, rfl⟩ rfl (Nat.le_of_ble_eq_true rfl) (hw.2.1 _) rfl rfl dX6_between_38 ?_
        have hq := Option.some.inj h
        subst hq
        exact z_iret hs dX6_between_41 rfl
    · rw [if_neg c14] at h
      refine z_iload_n X dX6_between_17 0 rfl rfl ?_
      have hq := Option.some.inj h
      subst hq
      exact z_iret hs dX6_between_18 rfl
  · rw [if_neg c2] at h
    refine z_iconst (v := (-1 : Int32)) X dX6_between_5 (by decide) ?_
    have hq := Option.some.inj h
    subst hq
    exact z_iret hs dX6_between_6 rfl
set_option maxHeartbeats 4000000 in
theorem tX6_way {l : Launch} {D : va_G} {ct : Nat → ClassId} {tF : Nat} {wOf : Mm → va_W} {po ad : Nat → Nat} (hw : KC wOf po ad ct) (M : Mm) {v1 : Int32} {v2 : Int32} {r : (Int32 × (Nat → Int32) × (Nat → Int32) × (Nat → Int32) × (Nat → Int32) × (Nat → Int32) × Int32 × Int32)} (h : fX6_way (M.1 2) (M.1 3) (M.1 8) (M.1 9) (M.1 10) (M.1 11) (M.1 12) (M.1 27) (M.2.2 41) (M.2.2 42) (M.2.2 43) v1 v2 = some r) : CtI l yX6_way cX6_way 6 .int { frames := 6, cells := 0, slots := 0, locals := 141 } D ct tF wOf [.ref (ad 0), .int v1, .int v2] M r.1 (mk M [(8, r.2.1), (9, r.2.2.1), (10, r.2.2.2.1), (11, r.2.2.2.2.1), (12, r.2.2.2.2.2.1)] M.2.1 [(42, r.2.2.2.2.2.2.1), (43, r.2.2.2.2.2.2.2)]) := by
  refine metI (by decide) (Nat.le_of_ble_eq_true rfl) fun κ X e1 eR e3 e4 hs => ?_
  subst e1; subst e3; subst e4
  unfold fX6_way at h
  refine z_mem (mk_self M [8, 9, 10, 11, 12] [42, 43]) ?_
  refine z_sub (lv' := [(0, .ref (ad 0)), (1, .int v1), (2, .int v2)]) [0, 1, 2] rfl ?_
  show Zj κ 6 0 _ _ (mk M [(8, (M.1 8)), (9, (M.1 9)), (10, (M.1 10)), (11, (M.1 11)), (12, (M.1 12))] M.2.1 [(42, (M.2.2 42)), (43, (M.2.2 43))])
  refine z_aload_n X dX6_way_0 0 rfl rfl ?_
  refine z_iload_n X dX6_way_1 1 rfl rfl ?_
  refine z_iload_n X dX6_way_2 2 rfl rfl ?_
  obtain ⟨r1, hr1, h⟩ := ob h
  refine z_cVI (As := [.int v1, .int v2]) (st := []) X (tX6_refusalOfTwo hw (mk M [(8, (M.1 8)), (9, (M.1 9)), (10, (M.1 10)), (11, (M.1 11)), (12, (M.1 12))] M.2.1 [(42, (M.2.2 42)), (43, (M.2.2 43))]) hr1) w_177 mvX6_refusalOfTwo (by rw [eR]; exact ⟨Nat.le_of_ble_eq_true rfl, Nat.le_of_ble_eq_true rfl⟩) ⟨rfl, rfl⟩ rfl (Nat.le_of_ble_eq_true rfl) (hw.2.2.2.2.2.2.1 _) rfl rfl dX6_way_3 ?_
  refine z_istore_n (lv' := [(3, .int r1), (0, .ref (ad 0)), (1, .int v1), (2, .int v2)]) X dX6_way_6 rfl (by decide) rfl ?_
  refine z_iload_n X dX6_way_7 0 rfl rfl ?_
  refine z_if_eq (tgt := 13) X dX6_way_8 (by decide) (fun c8 => ?_) (fun c8 => ?_)
  · rw [if_pos c8] at h
    refine z_aload_n X dX6_way_13 1 rfl rfl ?_
    refine z_get (j := 2) (v := .ref (ad 7)) X inX6 rfl (by decide) w_252 (hw.2.2.2.2.2.2.1 _) rfl dX6_way_14 ?_
    refine z_aload_n X dX6_way_17 1 rfl rfl ?_
    refine z_get (j := 6) (v := .ref (ad 27)) X inX6 rfl (by decide) w_161 (hw.2.2.2.2.2.2.1 _) rfl dX6_way_18 ?_
    refine z_iload_n X dX6_way_21 2 rfl rfl ?_
    obtain ⟨t2, ht2, h⟩ := ob h
    refine z_iald X (hw.2.2.2.2.2.2.2.2.2.2.2.2.2.2.2.2.2.2.2.2.2.1 _).1 (rd_ok ht2) dX6_way_22 ?_
    obtain ⟨r3, hr3, h⟩ := ob h
    refine z_cVV (As := [.int t2]) (st := []) X (tX5_measure hw (mk M [(8, (M.1 8)), (9, (M.1 9)), (10, (M.1 10)), (11, (M.1 11)), (12, (M.1 12))] M.2.1 [(42, (M.2.2 42)), (43, (M.2.2 43))]) hr3) w_253 mvX5_measure (by rw [eR]; exact ⟨Nat.le_of_ble_eq_true rfl, Nat.le_of_ble_eq_true rfl⟩) ⟨rfl, rfl⟩ rfl (Nat.le_of_ble_eq_true rfl) (hw.2.2.1 _) rfl rfl dX6_way_23 ?_
    refine z_mem (mk_mk (l' := [(8, r3.1), (9, r3.2.1), (10, r3.2.2.1), (11, r3.2.2.2.1), (12, r3.2.2.2.2.1)]) (sl' := [(42, r3.2.2.2.2.2.1), (43, r3.2.2.2.2.2.2)]) rfl rfl rfl rfl) ?_
    refine z_aload_n X dX6_way_26 1 rfl rfl ?_
    refine z_get (j := 2) (v := .ref (ad 7)) X inX6 rfl (by decide) w_252 (hw.2.2.2.2.2.2.1 _) rfl dX6_way_27 ?_
    refine z_aload_n X dX6_way_30 1 rfl rfl ?_
    refine z_get (j := 9) (v := .int (M.2.2 41)) X inX6 rfl (by decide) w_8 (hw.2.2.2.2.2.2.1 _) rfl dX6_way_31 ?_
    obtain ⟨r4, hr4, h⟩ := ob h
    refine z_cVI (As := [.int (M.2.2 41)]) (st := []) X (tX5_turnsFrom hw (mk M [(8, r3.1), (9, r3.2.1), (10, r3.2.2.1), (11, r3.2.2.2.1), (12, r3.2.2.2.2.1)] M.2.1 [(42, r3.2.2.2.2.2.1), (43, r3.2.2.2.2.2.2)]) hr4) w_257 mvX5_turnsFrom (by rw [eR]; exact ⟨Nat.le_of_ble_eq_true rfl, Nat.le_of_ble_eq_true rfl⟩) ⟨rfl, rfl⟩ rfl (Nat.le_of_ble_eq_true rfl) (hw.2.2.1 _) rfl rfl dX6_way_34 ?_
    refine z_istore (lv' := [(4, .int r4), (3, .int r1), (0, .ref (ad 0)), (1, .int v1), (2, .int v2)]) X dX6_way_37 (by decide) rfl ?_
    refine z_iload_n X dX6_way_39 4 rfl rfl ?_
    refine z_if_ne (tgt := 46) X dX6_way_40 (by decide) (fun c40 => ?_) (fun c40 => ?_)
    · rw [if_neg c40] at h
      refine z_iload X dX6_way_46 0 rfl ?_
      refine z_if_ne (tgt := 54) X dX6_way_48 (by decide) (fun c48 => ?_) (fun c48 => ?_)
      · rw [if_neg c48] at h
        refine z_aload_n X dX6_way_54 2 rfl rfl ?_
        refine z_get (j := 2) (v := .ref (ad 7)) X inX6 rfl (by decide) w_252 (hw.2.2.2.2.2.2.1 _) rfl dX6_way_55 ?_
        refine z_aload_n X dX6_way_58 2 rfl rfl ?_
        refine z_get (j := 9) (v := .int (M.2.2 41)) X inX6 rfl (by decide) w_8 (hw.2.2.2.2.2.2.1 _) rfl dX6_way_59 ?_
        obtain ⟨r5, hr5, h⟩ := ob h
        refine z_cVI (As := [.int (M.2.2 41)]) (st := []) X (tX5_firstTurn hw (mk M [(8, r3.1), (9, r3.2.1), (10, r3.2.2.1), (11, r3.2.2.2.1), (12, r3.2.2.2.2.1)] M.2.1 [(42, r3.2.2.2.2.2.1), (43, r3.2.2.2.2.2.2)]) hr5) w_258 mvX5_firstTurn (by rw [eR]; exact ⟨Nat.le_of_ble_eq_true rfl, Nat.le_of_ble_eq_true rfl⟩) ⟨rfl, rfl⟩ rfl (Nat.le_of_ble_eq_true rfl) (hw.2.2.1 _) rfl rfl dX6_way_62 ?_
        refine z_istore (lv' := [(5, .int r5), (4, .int r4), (3, .int r1), (0, .ref (ad 0)), (1, .int v1), (2, .int v2)]) X dX6_way_65 (by decide) rfl ?_
        refine z_iload X dX6_way_67 0 rfl ?_
        refine z_if_lt (tgt := 77) X dX6_way_69 (by decide) (fun c69 => ?_) (fun c69 => ?_)
        · rw [if_pos c69] at h
          refine z_bipush (v := (nI 99)) X dX6_way_77 (by decide) ?_
          refine z_iload X dX6_way_79 0 rfl ?_
          refine z_isub X dX6_way_81 ?_
          have hq := Option.some.inj h
          subst hq
          exact z_iret hs dX6_way_82 rfl
        · rw [if_neg c69] at h
          refine z_iload X dX6_way_72 0 rfl ?_
          refine z_goto (tgt := 82) X dX6_way_74 (by decide) ?_
          have hq := Option.some.inj h
          subst hq
          exact z_iret hs dX6_way_82 rfl
      · rw [if_pos c48] at h
        refine z_bipush (v := (-5 : Int32)) X dX6_way_51 (by decide) ?_
        have hq := Option.some.inj h
        subst hq
        exact z_iret hs dX6_way_53 rfl
    · rw [if_pos c40] at h
      refine z_iload X dX6_way_43 0 rfl ?_
      have hq := Option.some.inj h
      subst hq
      exact z_iret hs dX6_way_45 rfl
  · rw [if_neg c8] at h
    refine z_iload_n X dX6_way_11 0 rfl rfl ?_
    have hq := Option.some.inj h
    subst hq
    exact z_iret hs dX6_way_12 rfl
set_option maxHeartbeats 4000000 in
theorem jX6_chain_J60 {κ : Rx} {ct : Nat → ClassId} {tF : Nat} {po ad : Nat → Nat} (X : CX κ ct tF cX6_chain 4 RX6) (eR : kR κ = { frames := 6, cells := 0, slots := 0, locals := 142 }) (hw : KC (kw κ) po ad ct) (M : Mm) (a_ups : Nat → Int32) (a_backs : Nat → Int32) (a_learned : Nat → Int32) (a_turnsUp : Nat → Int32)   (k0 : Int32) (k1 : Int32) (k2 : Int32) (s : (Int32 × (Nat → Int32) × (Nat → Int32) × (Nat → Int32) × (Nat → Int32))) (h : fX6_chain_J60 (M.1 2) (M.1 3) a_ups a_backs a_learned a_turnsUp (M.1 27) (M.2.2 41) k0 k1 k2 = some s) (hs : (ZI κ cX6_chain .int s.1 (mk M [(8, s.2.1), (9, s.2.2.1), (10, s.2.2.2.1), (13, s.2.2.2.2)] M.2.1 []))) : Zj κ 4 60 [] [.int k0, .int k1, .int k2, .ref (ad 7)] (mk M [(8, a_ups), (9, a_backs), (10, a_learned), (13, a_turnsUp)] M.2.1 []) := by
  unfold fX6_chain_J60 at h
  obtain ⟨r1, hr1, h⟩ := ob h
  refine z_cVI (As := [.int k2, .int k1, .int k0]) (st := []) X (tX5_turnsUpAlone hw (mk M [(8, a_ups), (9, a_backs), (10, a_learned), (13, a_turnsUp)] M.2.1 []) hr1) w_267 mvX5_turnsUpAlone (by rw [eR]; exact ⟨Nat.le_of_ble_eq_true rfl, Nat.le_of_ble_eq_true rfl⟩) ⟨rfl, rfl⟩ rfl (Nat.le_of_ble_eq_true rfl) (hw.2.2.1 _) rfl rfl dX6_chain_60 ?_
  refine z_mem (mk_mk (l' := [(8, r1.2.1), (9, r1.2.2.1), (10, r1.2.2.2.1), (13, r1.2.2.2.2)]) (sl' := []) rfl rfl rfl rfl) ?_
  have hq := Option.some.inj h
  subst hq
  exact z_iret hs dX6_chain_63 rfl
set_option maxHeartbeats 4000000 in
theorem tX6_chain {l : Launch} {D : va_G} {ct : Nat → ClassId} {tF : Nat} {wOf : Mm → va_W} {po ad : Nat → Nat} (hw : KC wOf po ad ct) (M : Mm) {v1 : Int32} {v2 : Int32} {r : (Int32 × (Nat → Int32) × (Nat → Int32) × (Nat → Int32) × (Nat → Int32))} (h : fX6_chain (M.1 2) (M.1 3) (M.1 8) (M.1 9) (M.1 10) (M.1 13) (M.1 27) (M.2.2 41) v1 v2 = some r) : CtI l yX6_chain cX6_chain 4 .int { frames := 6, cells := 0, slots := 0, locals := 142 } D ct tF wOf [.ref (ad 0), .int v1, .int v2] M r.1 (mk M [(8, r.2.1), (9, r.2.2.1), (10, r.2.2.2.1), (13, r.2.2.2.2)] M.2.1 []) := by
  refine metI (by decide) (Nat.le_of_ble_eq_true rfl) fun κ X e1 eR e3 e4 hs => ?_
  subst e1; subst e3; subst e4
  unfold fX6_chain at h
  refine z_mem (mk_self M [8, 9, 10, 13] []) ?_
  refine z_sub (lv' := [(0, .ref (ad 0)), (1, .int v1), (2, .int v2)]) [0, 1, 2] rfl ?_
  show Zj κ 4 0 _ _ (mk M [(8, (M.1 8)), (9, (M.1 9)), (10, (M.1 10)), (13, (M.1 13))] M.2.1 [])
  refine z_aload_n X dX6_chain_0 0 rfl rfl ?_
  refine z_iload_n X dX6_chain_1 1 rfl rfl ?_
  refine z_iload_n X dX6_chain_2 2 rfl rfl ?_
  obtain ⟨r1, hr1, h⟩ := ob h
  refine z_cVI (As := [.int v1, .int v2]) (st := []) X (tX6_refusalOfTwo hw (mk M [(8, (M.1 8)), (9, (M.1 9)), (10, (M.1 10)), (13, (M.1 13))] M.2.1 []) hr1) w_177 mvX6_refusalOfTwo (by rw [eR]; exact ⟨Nat.le_of_ble_eq_true rfl, Nat.le_of_ble_eq_true rfl⟩) ⟨rfl, rfl⟩ rfl (Nat.le_of_ble_eq_true rfl) (hw.2.2.2.2.2.2.1 _) rfl rfl dX6_chain_3 ?_
  refine z_istore_n (lv' := [(3, .int r1), (0, .ref (ad 0)), (1, .int v1), (2, .int v2)]) X dX6_chain_6 rfl (by decide) rfl ?_
  refine z_iload_n X dX6_chain_7 0 rfl rfl ?_
  refine z_if_eq (tgt := 13) X dX6_chain_8 (by decide) (fun c8 => ?_) (fun c8 => ?_)
  · rw [if_pos c8] at h
    refine z_aload_n X dX6_chain_13 1 rfl rfl ?_
    refine z_get (j := 1) (v := .ref (ad 4)) X inX6 rfl (by decide) w_181 (hw.2.2.2.2.2.2.1 _) rfl dX6_chain_14 ?_
    refine z_aload_n X dX6_chain_17 1 rfl rfl ?_
    refine z_get (j := 9) (v := .int (M.2.2 41)) X inX6 rfl (by decide) w_8 (hw.2.2.2.2.2.2.1 _) rfl dX6_chain_18 ?_
    refine z_aload_n X dX6_chain_21 1 rfl rfl ?_
    refine z_get (j := 6) (v := .ref (ad 27)) X inX6 rfl (by decide) w_161 (hw.2.2.2.2.2.2.1 _) rfl dX6_chain_22 ?_
    refine z_iload_n X dX6_chain_25 2 rfl rfl ?_
    obtain ⟨t2, ht2, h⟩ := ob h
    refine z_iald X (hw.2.2.2.2.2.2.2.2.2.2.2.2.2.2.2.2.2.2.2.2.2.1 _).1 (rd_ok ht2) dX6_chain_26 ?_
    obtain ⟨r3, hr3, h⟩ := ob h
    refine z_cVI (As := [.int (M.2.2 41), .int t2]) (st := []) X (tX2_isBelow hw (mk M [(8, (M.1 8)), (9, (M.1 9)), (10, (M.1 10)), (13, (M.1 13))] M.2.1 []) hr3) w_182 mvX2_isBelow (by rw [eR]; exact ⟨Nat.le_of_ble_eq_true rfl, Nat.le_of_ble_eq_true rfl⟩) ⟨rfl, rfl⟩ rfl (Nat.le_of_ble_eq_true rfl) (hw.2.1 _) rfl rfl dX6_chain_27 ?_
    refine z_if_ne (tgt := 36) X dX6_chain_30 (by decide) (fun c30 => ?_) (fun c30 => ?_)
    · rw [if_neg c30] at h
      refine z_aload_n X dX6_chain_36 1 rfl rfl ?_
      refine z_get (j := 2) (v := .ref (ad 7)) X inX6 rfl (by decide) w_252 (hw.2.2.2.2.2.2.1 _) rfl dX6_chain_37 ?_
      refine z_aload_n X dX6_chain_40 1 rfl rfl ?_
      refine z_get (j := 9) (v := .int (M.2.2 41)) X inX6 rfl (by decide) w_8 (hw.2.2.2.2.2.2.1 _) rfl dX6_chain_41 ?_
      refine z_aload_n X dX6_chain_44 1 rfl rfl ?_
      refine z_get (j := 6) (v := .ref (ad 27)) X inX6 rfl (by decide) w_161 (hw.2.2.2.2.2.2.1 _) rfl dX6_chain_45 ?_
      refine z_iload_n X dX6_chain_48 2 rfl rfl ?_
      obtain ⟨t4, ht4, h⟩ := ob h
      refine z_iald X (hw.2.2.2.2.2.2.2.2.2.2.2.2.2.2.2.2.2.2.2.2.2.1 _).1 (rd_ok ht4) dX6_chain_49 ?_
      refine z_iload_n X dX6_chain_50 3 rfl rfl ?_
      refine z_iconst (v := (nI 1)) X dX6_chain_51 (by decide) ?_
      refine z_icmp_ne (tgt := 59) X dX6_chain_52 (by decide) (fun c52 => ?_) (fun c52 => ?_)
      · rw [if_neg c52] at h
        refine z_iconst (v := (nI 0)) X dX6_chain_59 (by decide) ?_
        exact z_sub [] rfl (jX6_chain_J60 X eR hw M (M.1 8) (M.1 9) (M.1 10) (M.1 13) (nI 0) t4 (M.2.2 41) _ h hs)
      · rw [if_pos c52] at h
        refine z_iconst (v := (nI 1)) X dX6_chain_55 (by decide) ?_
        refine z_goto (tgt := 60) X dX6_chain_56 (by decide) ?_
        exact z_sub [] rfl (jX6_chain_J60 X eR hw M (M.1 8) (M.1 9) (M.1 10) (M.1 13) (nI 1) t4 (M.2.2 41) _ h hs)
    · rw [if_pos c30] at h
      refine z_bipush (v := (-5 : Int32)) X dX6_chain_33 (by decide) ?_
      have hq := Option.some.inj h
      subst hq
      exact z_iret hs dX6_chain_35 rfl
  · rw [if_neg c8] at h
    refine z_iload_n X dX6_chain_11 0 rfl rfl ?_
    have hq := Option.some.inj h
    subst hq
    exact z_iret hs dX6_chain_12 rfl
set_option maxHeartbeats 4000000 in
theorem tX6_mark {l : Launch} {D : va_G} {ct : Nat → ClassId} {tF : Nat} {wOf : Mm → va_W} {po ad : Nat → Nat} (hw : KC wOf po ad ct) (M : Mm) {v1 : Int32} {r : (Int32 × (Nat → Int32) × (Nat → Int32))} (h : fX6_mark (M.1 2) (M.1 3) (M.1 5) (M.1 6) (M.1 27) (M.2.2 41) v1 = some r) : CtI l yX6_mark cX6_mark 3 .int { frames := 3, cells := 0, slots := 0, locals := 73 } D ct tF wOf [.ref (ad 0), .int v1] M r.1 (mk M [(5, r.2.1), (6, r.2.2)] M.2.1 []) := by
  refine metI (by decide) (Nat.le_of_ble_eq_true rfl) fun κ X e1 eR e3 e4 hs => ?_
  subst e1; subst e3; subst e4
  unfold fX6_mark at h
  refine z_mem (mk_self M [5, 6] []) ?_
  refine z_sub (lv' := [(0, .ref (ad 0)), (1, .int v1)]) [0, 1] rfl ?_
  show Zj κ 3 0 _ _ (mk M [(5, (M.1 5)), (6, (M.1 6))] M.2.1 [])
  refine z_aload_n X dX6_mark_0 0 rfl rfl ?_
  refine z_iload_n X dX6_mark_1 1 rfl rfl ?_
  obtain ⟨r1, hr1, h⟩ := ob h
  refine z_cVI (As := [.int v1]) (st := []) X (tX6_refusal hw (mk M [(5, (M.1 5)), (6, (M.1 6))] M.2.1 []) hr1) w_166 mvX6_refusal (by rw [eR]; exact ⟨Nat.le_of_ble_eq_true rfl, Nat.le_of_ble_eq_true rfl⟩) ⟨rfl, rfl⟩ rfl (Nat.le_of_ble_eq_true rfl) (hw.2.2.2.2.2.2.1 _) rfl rfl dX6_mark_2 ?_
  refine z_istore_n (lv' := [(2, .int r1), (0, .ref (ad 0)), (1, .int v1)]) X dX6_mark_5 rfl (by decide) rfl ?_
  refine z_iload_n X dX6_mark_6 0 rfl rfl ?_
  refine z_if_eq (tgt := 15) X dX6_mark_7 (by decide) (fun c7 => ?_) (fun c7 => ?_)
  · rw [if_pos c7] at h
    refine z_aload_n X dX6_mark_15 1 rfl rfl ?_
    refine z_get (j := 1) (v := .ref (ad 4)) X inX6 rfl (by decide) w_181 (hw.2.2.2.2.2.2.1 _) rfl dX6_mark_16 ?_
    refine z_aload_n X dX6_mark_19 1 rfl rfl ?_
    refine z_get (j := 9) (v := .int (M.2.2 41)) X inX6 rfl (by decide) w_8 (hw.2.2.2.2.2.2.1 _) rfl dX6_mark_20 ?_
    refine z_aload_n X dX6_mark_23 1 rfl rfl ?_
    refine z_get (j := 6) (v := .ref (ad 27)) X inX6 rfl (by decide) w_161 (hw.2.2.2.2.2.2.1 _) rfl dX6_mark_24 ?_
    refine z_iload_n X dX6_mark_27 2 rfl rfl ?_
    obtain ⟨t2, ht2, h⟩ := ob h
    refine z_iald X (hw.2.2.2.2.2.2.2.2.2.2.2.2.2.2.2.2.2.2.2.2.2.1 _).1 (rd_ok ht2) dX6_mark_28 ?_
    obtain ⟨r3, hr3, h⟩ := ob h
    refine z_cVI (As := [.int (M.2.2 41), .int t2]) (st := []) X (tX2_isBelow hw (mk M [(5, (M.1 5)), (6, (M.1 6))] M.2.1 []) hr3) w_182 mvX2_isBelow (by rw [eR]; exact ⟨Nat.le_of_ble_eq_true rfl, Nat.le_of_ble_eq_true rfl⟩) ⟨rfl, rfl⟩ rfl (Nat.le_of_ble_eq_true rfl) (hw.2.1 _) rfl rfl dX6_mark_29 ?_
    refine z_if_ne (tgt := 38) X dX6_mark_32 (by decide) (fun c32 => ?_) (fun c32 => ?_)
    · rw [if_neg c32] at h
      refine z_aload_n X dX6_mark_38 1 rfl rfl ?_
      refine z_get (j := 1) (v := .ref (ad 4)) X inX6 rfl (by decide) w_181 (hw.2.2.2.2.2.2.1 _) rfl dX6_mark_39 ?_
      refine z_aload_n X dX6_mark_42 1 rfl rfl ?_
      refine z_get (j := 9) (v := .int (M.2.2 41)) X inX6 rfl (by decide) w_8 (hw.2.2.2.2.2.2.1 _) rfl dX6_mark_43 ?_
      refine z_aload_n X dX6_mark_46 1 rfl rfl ?_
      refine z_get (j := 6) (v := .ref (ad 27)) X inX6 rfl (by decide) w_161 (hw.2.2.2.2.2.2.1 _) rfl dX6_mark_47 ?_
      refine z_iload_n X dX6_mark_50 2 rfl rfl ?_
      obtain ⟨t4, ht4, h⟩ := ob h
      refine z_iald X (hw.2.2.2.2.2.2.2.2.2.2.2.2.2.2.2.2.2.2.2.2.2.1 _).1 (rd_ok ht4) dX6_mark_51 ?_
      obtain ⟨r5, hr5, h⟩ := ob h
      refine z_cVI (As := [.int (M.2.2 41), .int t4]) (st := []) X (tX2_markOf hw (mk M [(5, (M.1 5)), (6, (M.1 6))] M.2.1 []) hr5) w_277 mvX2_markOf (by rw [eR]; exact ⟨Nat.le_of_ble_eq_true rfl, Nat.le_of_ble_eq_true rfl⟩) ⟨rfl, rfl⟩ rfl (Nat.le_of_ble_eq_true rfl) (hw.2.1 _) rfl rfl dX6_mark_52 ?_
      refine z_mem (mk_mk (l' := [(5, r5.2.1), (6, r5.2.2)]) (sl' := []) rfl rfl rfl rfl) ?_
      have hq := Option.some.inj h
      subst hq
      exact z_iret hs dX6_mark_55 rfl
    · rw [if_pos c32] at h
      refine z_bipush (v := (-95 : Int32)) X dX6_mark_35 (by decide) ?_
      have hq := Option.some.inj h
      subst hq
      exact z_iret hs dX6_mark_37 rfl
  · rw [if_neg c7] at h
    refine z_bipush (v := (-100 : Int32)) X dX6_mark_10 (by decide) ?_
    refine z_iload_n X dX6_mark_12 0 rfl rfl ?_
    refine z_isub X dX6_mark_13 ?_
    have hq := Option.some.inj h
    subst hq
    exact z_iret hs dX6_mark_14 rfl
set_option maxHeartbeats 4000000 in
theorem tX6_pairs {l : Launch} {D : va_G} {ct : Nat → ClassId} {tF : Nat} {wOf : Mm → va_W} {po ad : Nat → Nat} (hw : KC wOf po ad ct) (M : Mm) {v1 : Int32} {r : Int32} (h : fX6_pairs (M.1 2) v1 = some r) : CtI l yX6_pairs cX6_pairs 2 .int { frames := 3, cells := 0, slots := 0, locals := 67 } D ct tF wOf [.ref (ad 0), .int v1] M r M := by
  refine metI (by decide) (Nat.le_of_ble_eq_true rfl) fun κ X e1 eR e3 e4 hs => ?_
  subst e1; subst e3; subst e4
  unfold fX6_pairs at h
  refine z_sub (lv' := [(0, .ref (ad 0)), (1, .int v1)]) [0, 1] rfl ?_
  refine z_iload_n X dX6_pairs_0 1 rfl rfl ?_
  obtain ⟨r1, hr1, h⟩ := ob h
  refine z_cSI (As := [.int v1]) (st := []) X (tX0_isSize hw.1 M hr1) w_17 msX0_isSize (by rw [eR]; exact ⟨Nat.le_of_ble_eq_true rfl, Nat.le_of_ble_eq_true rfl⟩) ⟨rfl, rfl⟩ rfl (Nat.le_of_ble_eq_true rfl) rfl dX6_pairs_1 ?_
  refine z_if_eq (tgt := 24) X dX6_pairs_4 (by decide) (fun c4 => ?_) (fun c4 => ?_)
  · rw [if_pos c4] at h
    refine z_bipush (v := (-2 : Int32)) X dX6_pairs_24 (by decide) ?_
    have hq := Option.some.inj h
    subst hq
    exact z_iret hs dX6_pairs_26 rfl
  · rw [if_neg c4] at h
    refine z_iload_n X dX6_pairs_7 1 rfl rfl ?_
    refine z_bipush (v := (nI 6)) X dX6_pairs_8 (by decide) ?_
    refine z_icmp_gt (tgt := 24) X dX6_pairs_10 (by decide) (fun c10 => ?_) (fun c10 => ?_)
    · rw [if_pos c10] at h
      refine z_bipush (v := (-2 : Int32)) X dX6_pairs_24 (by decide) ?_
      have hq := Option.some.inj h
      subst hq
      exact z_iret hs dX6_pairs_26 rfl
    · rw [if_neg c10] at h
      refine z_aload_n X dX6_pairs_13 0 rfl rfl ?_
      refine z_get (j := 1) (v := .ref (ad 4)) X inX6 rfl (by decide) w_181 (hw.2.2.2.2.2.2.1 _) rfl dX6_pairs_14 ?_
      refine z_iload_n X dX6_pairs_17 1 rfl rfl ?_
      obtain ⟨r2, hr2, h⟩ := ob h
      refine z_cVI (As := [.int v1]) (st := []) X (tX2_howManyPairs hw M hr2) w_283 mvX2_howManyPairs (by rw [eR]; exact ⟨Nat.le_of_ble_eq_true rfl, Nat.le_of_ble_eq_true rfl⟩) ⟨rfl, rfl⟩ rfl (Nat.le_of_ble_eq_true rfl) (hw.2.1 _) rfl rfl dX6_pairs_18 ?_
      refine z_goto (tgt := 26) X dX6_pairs_21 (by decide) ?_
      have hq := Option.some.inj h
      subst hq
      exact z_iret hs dX6_pairs_26 rfl
set_option maxHeartbeats 4000000 in
theorem tX6_far {l : Launch} {D : va_G} {ct : Nat → ClassId} {tF : Nat} {wOf : Mm → va_W} {po ad : Nat → Nat} (hw : KC wOf po ad ct) (M : Mm) {v1 : Int32} {r : (Int32 × (Nat → Int32) × (Nat → Int32) × (Nat → Int32) × (Nat → Int32) × (Nat → Int32) × Int32 × Int32)} (h : fX6_far (M.1 2) (M.1 3) (M.1 8) (M.1 9) (M.1 10) (M.1 11) (M.1 12) (M.2.2 41) (M.2.2 42) (M.2.2 43) v1 = some r) : CtI l yX6_far cX6_far 2 .int { frames := 6, cells := 0, slots := 0, locals := 141 } D ct tF wOf [.ref (ad 0), .int v1] M r.1 (mk M [(8, r.2.1), (9, r.2.2.1), (10, r.2.2.2.1), (11, r.2.2.2.2.1), (12, r.2.2.2.2.2.1)] M.2.1 [(42, r.2.2.2.2.2.2.1), (43, r.2.2.2.2.2.2.2)]) := by
  refine metI (by decide) (Nat.le_of_ble_eq_true rfl) fun κ X e1 eR e3 e4 hs => ?_
  subst e1; subst e3; subst e4
  unfold fX6_far at h
  refine z_mem (mk_self M [8, 9, 10, 11, 12] [42, 43]) ?_
  refine z_sub (lv' := [(0, .ref (ad 0)), (1, .int v1)]) [0, 1] rfl ?_
  show Zj κ 2 0 _ _ (mk M [(8, (M.1 8)), (9, (M.1 9)), (10, (M.1 10)), (11, (M.1 11)), (12, (M.1 12))] M.2.1 [(42, (M.2.2 42)), (43, (M.2.2 43))])
  refine z_aload_n X dX6_far_0 0 rfl rfl ?_
  refine z_get (j := 2) (v := .ref (ad 7)) X inX6 rfl (by decide) w_252 (hw.2.2.2.2.2.2.1 _) rfl dX6_far_1 ?_
  refine z_aload_n X dX6_far_4 0 rfl rfl ?_
  refine z_get (j := 9) (v := .int (M.2.2 41)) X inX6 rfl (by decide) w_8 (hw.2.2.2.2.2.2.1 _) rfl dX6_far_5 ?_
  obtain ⟨r1, hr1, h⟩ := ob h
  refine z_cVV (As := [.int (M.2.2 41)]) (st := []) X (tX5_measure hw (mk M [(8, (M.1 8)), (9, (M.1 9)), (10, (M.1 10)), (11, (M.1 11)), (12, (M.1 12))] M.2.1 [(42, (M.2.2 42)), (43, (M.2.2 43))]) hr1) w_253 mvX5_measure (by rw [eR]; exact ⟨Nat.le_of_ble_eq_true rfl, Nat.le_of_ble_eq_true rfl⟩) ⟨rfl, rfl⟩ rfl (Nat.le_of_ble_eq_true rfl) (hw.2.2.1 _) rfl rfl dX6_far_8 ?_
  refine z_mem (mk_mk (l' := [(8, r1.1), (9, r1.2.1), (10, r1.2.2.1), (11, r1.2.2.2.1), (12, r1.2.2.2.2.1)]) (sl' := [(42, r1.2.2.2.2.2.1), (43, r1.2.2.2.2.2.2)]) rfl rfl rfl rfl) ?_
  refine z_iload_n X dX6_far_11 1 rfl rfl ?_
  by_cases c12_0 : v1 = nI 0
  · rw [if_pos c12_0] at h
    refine z_tabI (off := 28) (tgt := 40) X dX6_far_12 (by rw [c12_0]; decide) (by rw [c12_0]; decide) (by rw [c12_0]; decide) (by decide) ?_
    refine z_aload_n X dX6_far_40 0 rfl rfl ?_
    refine z_get (j := 2) (v := .ref (ad 7)) X inX6 rfl (by decide) w_252 (hw.2.2.2.2.2.2.1 _) rfl dX6_far_41 ?_
    obtain ⟨r2, hr2, h⟩ := ob h
    refine z_cVI (As := []) (st := []) X (tX5_farthest hw (mk M [(8, r1.1), (9, r1.2.1), (10, r1.2.2.1), (11, r1.2.2.2.1), (12, r1.2.2.2.2.1)] M.2.1 [(42, r1.2.2.2.2.2.1), (43, r1.2.2.2.2.2.2)]) hr2) w_292 mvX5_farthest (by rw [eR]; exact ⟨Nat.le_of_ble_eq_true rfl, Nat.le_of_ble_eq_true rfl⟩) ⟨rfl, rfl⟩ rfl (Nat.le_of_ble_eq_true rfl) (hw.2.2.1 _) rfl rfl dX6_far_44 ?_
    have hq := Option.some.inj h
    subst hq
    exact z_iret hs dX6_far_47 rfl
  · rw [if_neg c12_0] at h
    by_cases c12_1 : v1 = nI 1
    · rw [if_pos c12_1] at h
      refine z_tabI (off := 36) (tgt := 48) X dX6_far_12 (by rw [c12_1]; decide) (by rw [c12_1]; decide) (by rw [c12_1]; decide) (by decide) ?_
      refine z_aload_n X dX6_far_48 0 rfl rfl ?_
      refine z_get (j := 2) (v := .ref (ad 7)) X inX6 rfl (by decide) w_252 (hw.2.2.2.2.2.2.1 _) rfl dX6_far_49 ?_
      obtain ⟨r3, hr3, h⟩ := ob h
      refine z_cVI (As := []) (st := []) X (tX5_howManyFarthest hw (mk M [(8, r1.1), (9, r1.2.1), (10, r1.2.2.1), (11, r1.2.2.2.1), (12, r1.2.2.2.2.1)] M.2.1 [(42, r1.2.2.2.2.2.1), (43, r1.2.2.2.2.2.2)]) hr3) w_293 mvX5_howManyFarthest (by rw [eR]; exact ⟨Nat.le_of_ble_eq_true rfl, Nat.le_of_ble_eq_true rfl⟩) ⟨rfl, rfl⟩ rfl (Nat.le_of_ble_eq_true rfl) (hw.2.2.1 _) rfl rfl dX6_far_52 ?_
      have hq := Option.some.inj h
      subst hq
      exact z_iret hs dX6_far_55 rfl
    · rw [if_neg c12_1] at h
      by_cases c12_2 : v1 = nI 2
      · rw [if_pos c12_2] at h
        refine z_tabI (off := 44) (tgt := 56) X dX6_far_12 (by rw [c12_2]; decide) (by rw [c12_2]; decide) (by rw [c12_2]; decide) (by decide) ?_
        refine z_aload_n X dX6_far_56 0 rfl rfl ?_
        refine z_get (j := 0) (v := .ref (ad 1)) X inX6 rfl (by decide) w_7 (hw.2.2.2.2.2.2.1 _) rfl dX6_far_57 ?_
        refine z_aload_n X dX6_far_60 0 rfl rfl ?_
        refine z_get (j := 2) (v := .ref (ad 7)) X inX6 rfl (by decide) w_252 (hw.2.2.2.2.2.2.1 _) rfl dX6_far_61 ?_
        obtain ⟨r4, hr4, h⟩ := ob h
        refine z_cVI (As := []) (st := [.ref (ad 1)]) X (tX5_leastFarthest hw (mk M [(8, r1.1), (9, r1.2.1), (10, r1.2.2.1), (11, r1.2.2.2.1), (12, r1.2.2.2.2.1)] M.2.1 [(42, r1.2.2.2.2.2.1), (43, r1.2.2.2.2.2.2)]) hr4) w_297 mvX5_leastFarthest (by rw [eR]; exact ⟨Nat.le_of_ble_eq_true rfl, Nat.le_of_ble_eq_true rfl⟩) ⟨rfl, rfl⟩ rfl (Nat.le_of_ble_eq_true rfl) (hw.2.2.1 _) rfl rfl dX6_far_64 ?_
        obtain ⟨r5, hr5, h⟩ := ob h
        refine z_cVI (As := [.int r4]) (st := []) X (tX0_numberOf hw.1 (mk M [(8, r1.1), (9, r1.2.1), (10, r1.2.2.1), (11, r1.2.2.2.1), (12, r1.2.2.2.2.1)] M.2.1 [(42, r1.2.2.2.2.2.1), (43, r1.2.2.2.2.2.2)]) hr5) w_58 mvX0_numberOf (by rw [eR]; exact ⟨Nat.le_of_ble_eq_true rfl, Nat.le_of_ble_eq_true rfl⟩) ⟨rfl, rfl⟩ rfl (Nat.le_of_ble_eq_true rfl) (hw.1.1 _) rfl rfl dX6_far_67 ?_
        have hq := Option.some.inj h
        subst hq
        exact z_iret hs dX6_far_70 rfl
      · rw [if_neg c12_2] at h
        refine z_tabO (tgt := 71) X dX6_far_12 (by have q0 := lv_neT c12_0 (show (nI 0).toInt = 0 from rfl); have q1 := lv_neT c12_1 (show (nI 1).toInt = 1 from rfl); have q2 := lv_neT c12_2 (show (nI 2).toInt = 2 from rfl); omega) (by decide) ?_
        refine z_iconst (v := (-1 : Int32)) X dX6_far_71 (by decide) ?_
        have hq := Option.some.inj h
        subst hq
        exact z_iret hs dX6_far_72 rfl
set_option maxHeartbeats 4000000 in
theorem tX6_canopy {l : Launch} {D : va_G} {ct : Nat → ClassId} {tF : Nat} {wOf : Mm → va_W} {po ad : Nat → Nat} (hw : KC wOf po ad ct) (M : Mm)  {r : Int32} (h : fX6_canopy (M.1 2) (M.1 3) (M.2.2 41) = some r) : CtI l yX6_canopy cX6_canopy 1 .int { frames := 2, cells := 0, slots := 0, locals := 45 } D ct tF wOf [.ref (ad 0)] M r M := by
  refine metI (by decide) (Nat.le_of_ble_eq_true rfl) fun κ X e1 eR e3 e4 hs => ?_
  subst e1; subst e3; subst e4
  unfold fX6_canopy at h
  refine z_sub (lv' := [(0, .ref (ad 0))]) [0] rfl ?_
  refine z_aload_n X dX6_canopy_0 0 rfl rfl ?_
  refine z_get (j := 0) (v := .ref (ad 1)) X inX6 rfl (by decide) w_7 (hw.2.2.2.2.2.2.1 _) rfl dX6_canopy_1 ?_
  refine z_aload_n X dX6_canopy_4 0 rfl rfl ?_
  refine z_get (j := 9) (v := .int (M.2.2 41)) X inX6 rfl (by decide) w_8 (hw.2.2.2.2.2.2.1 _) rfl dX6_canopy_5 ?_
  obtain ⟨r1, hr1, h⟩ := ob h
  refine z_cVI (As := [.int (M.2.2 41)]) (st := []) X (tX0_withRightChild hw.1 M hr1) w_142 mvX0_withRightChild (by rw [eR]; exact ⟨Nat.le_of_ble_eq_true rfl, Nat.le_of_ble_eq_true rfl⟩) ⟨rfl, rfl⟩ rfl (Nat.le_of_ble_eq_true rfl) (hw.1.1 _) rfl rfl dX6_canopy_8 ?_
  have hq := Option.some.inj h
  subst hq
  exact z_iret hs dX6_canopy_11 rfl
set_option maxHeartbeats 4000000 in
theorem tX6_inClass {l : Launch} {D : va_G} {ct : Nat → ClassId} {tF : Nat} {wOf : Mm → va_W} {po ad : Nat → Nat} (hw : KC wOf po ad ct) (M : Mm) {v1 : Int32} {v2 : Int32} {r : Int32} (h : fX6_inClass (M.1 2) (M.1 3) (M.2.2 41) v1 v2 = some r) : CtI l yX6_inClass cX6_inClass 3 .int { frames := 3, cells := 0, slots := 0, locals := 69 } D ct tF wOf [.ref (ad 0), .int v1, .int v2] M r M := by
  refine metI (by decide) (Nat.le_of_ble_eq_true rfl) fun κ X e1 eR e3 e4 hs => ?_
  subst e1; subst e3; subst e4
  unfold fX6_inClass at h
  refine z_sub (lv' := [(0, .ref (ad 0)), (1, .int v1), (2, .int v2)]) [0, 1, 2] rfl ?_
  refine z_iload_n X dX6_inClass_0 1 rfl rfl ?_
  refine z_if_lt (tgt := 16) X dX6_inClass_1 (by decide) (fun c1 => ?_) (fun c1 => ?_)
  · rw [if_pos c1] at h
    refine z_bipush (v := (-2 : Int32)) X dX6_inClass_16 (by decide) ?_
    have hq := Option.some.inj h
    subst hq
    exact z_iret hs dX6_inClass_18 rfl
  · rw [if_neg c1] at h
    refine z_iload_n X dX6_inClass_4 1 rfl rfl ?_
    refine z_iconst (v := (nI 1)) X dX6_inClass_5 (by decide) ?_
    refine z_aload_n X dX6_inClass_6 0 rfl rfl ?_
    obtain ⟨r1, hr1, h⟩ := ob h
    refine z_cVI (As := []) (st := [.int (nI 1), .int v1]) X (tX6_size hw M hr1) w_18 mvX6_size (by rw [eR]; exact ⟨Nat.le_of_ble_eq_true rfl, Nat.le_of_ble_eq_true rfl⟩) ⟨rfl, rfl⟩ rfl (Nat.le_of_ble_eq_true rfl) (hw.2.2.2.2.2.2.1 _) rfl rfl dX6_inClass_7 ?_
    refine z_iconst (v := (nI 1)) X dX6_inClass_10 (by decide) ?_
    refine z_isub X dX6_inClass_11 ?_
    refine z_ishl X dX6_inClass_12 ?_
    refine z_icmp_lt (tgt := 19) X dX6_inClass_13 (by decide) (fun c13 => ?_) (fun c13 => ?_)
    · rw [if_pos c13] at h
      refine z_iload_n X dX6_inClass_19 2 rfl rfl ?_
      by_cases c20_0 : v2 = nI 0
      · rw [if_pos c20_0] at h
        refine z_tabI (off := 28) (tgt := 48) X dX6_inClass_20 (by rw [c20_0]; decide) (by rw [c20_0]; decide) (by rw [c20_0]; decide) (by decide) ?_
        refine z_aload_n X dX6_inClass_48 0 rfl rfl ?_
        refine z_get (j := 0) (v := .ref (ad 1)) X inX6 rfl (by decide) w_7 (hw.2.2.2.2.2.2.1 _) rfl dX6_inClass_49 ?_
        refine z_aload_n X dX6_inClass_52 0 rfl rfl ?_
        obtain ⟨r2, hr2, h⟩ := ob h
        refine z_cVI (As := []) (st := [.ref (ad 1)]) X (tX6_size hw M hr2) w_18 mvX6_size (by rw [eR]; exact ⟨Nat.le_of_ble_eq_true rfl, Nat.le_of_ble_eq_true rfl⟩) ⟨rfl, rfl⟩ rfl (Nat.le_of_ble_eq_true rfl) (hw.2.2.2.2.2.2.1 _) rfl rfl dX6_inClass_53 ?_
        refine z_iload_n X dX6_inClass_56 1 rfl rfl ?_
        obtain ⟨r3, hr3, h⟩ := ob h
        refine z_cVI (As := [.int r2, .int v1]) (st := []) X (tX0_howManyWith hw.1 M hr3) w_302 mvX0_howManyWith (by rw [eR]; exact ⟨Nat.le_of_ble_eq_true rfl, Nat.le_of_ble_eq_true rfl⟩) ⟨rfl, rfl⟩ rfl (Nat.le_of_ble_eq_true rfl) (hw.1.1 _) rfl rfl dX6_inClass_57 ?_
        have hq := Option.some.inj h
        subst hq
        exact z_iret hs dX6_inClass_60 rfl
      · rw [if_neg c20_0] at h
        by_cases c20_1 : v2 = nI 1
        · rw [if_pos c20_1] at h
          refine z_tabI (off := 41) (tgt := 61) X dX6_inClass_20 (by rw [c20_1]; decide) (by rw [c20_1]; decide) (by rw [c20_1]; decide) (by decide) ?_
          refine z_aload_n X dX6_inClass_61 0 rfl rfl ?_
          refine z_get (j := 0) (v := .ref (ad 1)) X inX6 rfl (by decide) w_7 (hw.2.2.2.2.2.2.1 _) rfl dX6_inClass_62 ?_
          refine z_aload_n X dX6_inClass_65 0 rfl rfl ?_
          refine z_get (j := 0) (v := .ref (ad 1)) X inX6 rfl (by decide) w_7 (hw.2.2.2.2.2.2.1 _) rfl dX6_inClass_66 ?_
          refine z_aload_n X dX6_inClass_69 0 rfl rfl ?_
          obtain ⟨r4, hr4, h⟩ := ob h
          refine z_cVI (As := []) (st := [.ref (ad 1), .ref (ad 1)]) X (tX6_size hw M hr4) w_18 mvX6_size (by rw [eR]; exact ⟨Nat.le_of_ble_eq_true rfl, Nat.le_of_ble_eq_true rfl⟩) ⟨rfl, rfl⟩ rfl (Nat.le_of_ble_eq_true rfl) (hw.2.2.2.2.2.2.1 _) rfl rfl dX6_inClass_70 ?_
          refine z_iload_n X dX6_inClass_73 1 rfl rfl ?_
          obtain ⟨r5, hr5, h⟩ := ob h
          refine z_cVI (As := [.int r4, .int v1]) (st := [.ref (ad 1)]) X (tX0_leastWith hw.1 M hr5) w_306 mvX0_leastWith (by rw [eR]; exact ⟨Nat.le_of_ble_eq_true rfl, Nat.le_of_ble_eq_true rfl⟩) ⟨rfl, rfl⟩ rfl (Nat.le_of_ble_eq_true rfl) (hw.1.1 _) rfl rfl dX6_inClass_74 ?_
          obtain ⟨r6, hr6, h⟩ := ob h
          refine z_cVI (As := [.int r5]) (st := []) X (tX0_numberOf hw.1 M hr6) w_58 mvX0_numberOf (by rw [eR]; exact ⟨Nat.le_of_ble_eq_true rfl, Nat.le_of_ble_eq_true rfl⟩) ⟨rfl, rfl⟩ rfl (Nat.le_of_ble_eq_true rfl) (hw.1.1 _) rfl rfl dX6_inClass_77 ?_
          have hq := Option.some.inj h
          subst hq
          exact z_iret hs dX6_inClass_80 rfl
        · rw [if_neg c20_1] at h
          by_cases c20_2 : v2 = nI 2
          · rw [if_pos c20_2] at h
            refine z_tabI (off := 61) (tgt := 81) X dX6_inClass_20 (by rw [c20_2]; decide) (by rw [c20_2]; decide) (by rw [c20_2]; decide) (by decide) ?_
            refine z_aload_n X dX6_inClass_81 0 rfl rfl ?_
            refine z_get (j := 0) (v := .ref (ad 1)) X inX6 rfl (by decide) w_7 (hw.2.2.2.2.2.2.1 _) rfl dX6_inClass_82 ?_
            refine z_aload_n X dX6_inClass_85 0 rfl rfl ?_
            refine z_get (j := 0) (v := .ref (ad 1)) X inX6 rfl (by decide) w_7 (hw.2.2.2.2.2.2.1 _) rfl dX6_inClass_86 ?_
            refine z_aload_n X dX6_inClass_89 0 rfl rfl ?_
            obtain ⟨r7, hr7, h⟩ := ob h
            refine z_cVI (As := []) (st := [.ref (ad 1), .ref (ad 1)]) X (tX6_size hw M hr7) w_18 mvX6_size (by rw [eR]; exact ⟨Nat.le_of_ble_eq_true rfl, Nat.le_of_ble_eq_true rfl⟩) ⟨rfl, rfl⟩ rfl (Nat.le_of_ble_eq_true rfl) (hw.2.2.2.2.2.2.1 _) rfl rfl dX6_inClass_90 ?_
            refine z_iload_n X dX6_inClass_93 1 rfl rfl ?_
            obtain ⟨r8, hr8, h⟩ := ob h
            refine z_cVI (As := [.int r7, .int v1]) (st := [.ref (ad 1)]) X (tX0_greatestWith hw.1 M hr8) w_310 mvX0_greatestWith (by rw [eR]; exact ⟨Nat.le_of_ble_eq_true rfl, Nat.le_of_ble_eq_true rfl⟩) ⟨rfl, rfl⟩ rfl (Nat.le_of_ble_eq_true rfl) (hw.1.1 _) rfl rfl dX6_inClass_94 ?_
            obtain ⟨r9, hr9, h⟩ := ob h
            refine z_cVI (As := [.int r8]) (st := []) X (tX0_numberOf hw.1 M hr9) w_58 mvX0_numberOf (by rw [eR]; exact ⟨Nat.le_of_ble_eq_true rfl, Nat.le_of_ble_eq_true rfl⟩) ⟨rfl, rfl⟩ rfl (Nat.le_of_ble_eq_true rfl) (hw.1.1 _) rfl rfl dX6_inClass_97 ?_
            have hq := Option.some.inj h
            subst hq
            exact z_iret hs dX6_inClass_100 rfl
          · rw [if_neg c20_2] at h
            refine z_tabO (tgt := 101) X dX6_inClass_20 (by have q0 := lv_neT c20_0 (show (nI 0).toInt = 0 from rfl); have q1 := lv_neT c20_1 (show (nI 1).toInt = 1 from rfl); have q2 := lv_neT c20_2 (show (nI 2).toInt = 2 from rfl); omega) (by decide) ?_
            refine z_iconst (v := (-1 : Int32)) X dX6_inClass_101 (by decide) ?_
            have hq := Option.some.inj h
            subst hq
            exact z_iret hs dX6_inClass_102 rfl
    · rw [if_neg c13] at h
      refine z_bipush (v := (-2 : Int32)) X dX6_inClass_16 (by decide) ?_
      have hq := Option.some.inj h
      subst hq
      exact z_iret hs dX6_inClass_18 rfl
set_option maxHeartbeats 4000000 in
theorem tX6_likeness {l : Launch} {D : va_G} {ct : Nat → ClassId} {tF : Nat} {wOf : Mm → va_W} {po ad : Nat → Nat} (hw : KC wOf po ad ct) (M : Mm) {v1 : Int32} {r : Int32} (h : fX6_likeness (M.1 2) (M.1 3) (M.1 27) (M.2.2 41) v1 = some r) : CtI l yX6_likeness cX6_likeness 3 .int { frames := 3, cells := 0, slots := 0, locals := 63 } D ct tF wOf [.ref (ad 0), .int v1] M r M := by
  refine metI (by decide) (Nat.le_of_ble_eq_true rfl) fun κ X e1 eR e3 e4 hs => ?_
  subst e1; subst e3; subst e4
  unfold fX6_likeness at h
  refine z_sub (lv' := [(0, .ref (ad 0)), (1, .int v1)]) [0, 1] rfl ?_
  refine z_aload_n X dX6_likeness_0 0 rfl rfl ?_
  refine z_iload_n X dX6_likeness_1 1 rfl rfl ?_
  obtain ⟨r1, hr1, h⟩ := ob h
  refine z_cVI (As := [.int v1]) (st := []) X (tX6_refusal hw M hr1) w_166 mvX6_refusal (by rw [eR]; exact ⟨Nat.le_of_ble_eq_true rfl, Nat.le_of_ble_eq_true rfl⟩) ⟨rfl, rfl⟩ rfl (Nat.le_of_ble_eq_true rfl) (hw.2.2.2.2.2.2.1 _) rfl rfl dX6_likeness_2 ?_
  refine z_istore_n (lv' := [(2, .int r1), (0, .ref (ad 0)), (1, .int v1)]) X dX6_likeness_5 rfl (by decide) rfl ?_
  refine z_iload_n X dX6_likeness_6 0 rfl rfl ?_
  refine z_if_eq (tgt := 12) X dX6_likeness_7 (by decide) (fun c7 => ?_) (fun c7 => ?_)
  · rw [if_pos c7] at h
    refine z_aload_n X dX6_likeness_12 1 rfl rfl ?_
    refine z_get (j := 0) (v := .ref (ad 1)) X inX6 rfl (by decide) w_7 (hw.2.2.2.2.2.2.1 _) rfl dX6_likeness_13 ?_
    refine z_aload_n X dX6_likeness_16 1 rfl rfl ?_
    refine z_get (j := 9) (v := .int (M.2.2 41)) X inX6 rfl (by decide) w_8 (hw.2.2.2.2.2.2.1 _) rfl dX6_likeness_17 ?_
    obtain ⟨r2, hr2, h⟩ := ob h
    refine z_cVI (As := [.int (M.2.2 41)]) (st := []) X (tX0_withRightChild hw.1 M hr2) w_142 mvX0_withRightChild (by rw [eR]; exact ⟨Nat.le_of_ble_eq_true rfl, Nat.le_of_ble_eq_true rfl⟩) ⟨rfl, rfl⟩ rfl (Nat.le_of_ble_eq_true rfl) (hw.1.1 _) rfl rfl dX6_likeness_20 ?_
    refine z_aload_n X dX6_likeness_23 1 rfl rfl ?_
    refine z_get (j := 0) (v := .ref (ad 1)) X inX6 rfl (by decide) w_7 (hw.2.2.2.2.2.2.1 _) rfl dX6_likeness_24 ?_
    refine z_aload_n X dX6_likeness_27 1 rfl rfl ?_
    refine z_get (j := 6) (v := .ref (ad 27)) X inX6 rfl (by decide) w_161 (hw.2.2.2.2.2.2.1 _) rfl dX6_likeness_28 ?_
    refine z_iload_n X dX6_likeness_31 2 rfl rfl ?_
    obtain ⟨t3, ht3, h⟩ := ob h
    refine z_iald X (hw.2.2.2.2.2.2.2.2.2.2.2.2.2.2.2.2.2.2.2.2.2.1 _).1 (rd_ok ht3) dX6_likeness_32 ?_
    obtain ⟨r4, hr4, h⟩ := ob h
    refine z_cVI (As := [.int t3]) (st := [.int r2]) X (tX0_withRightChild hw.1 M hr4) w_142 mvX0_withRightChild (by rw [eR]; exact ⟨Nat.le_of_ble_eq_true rfl, Nat.le_of_ble_eq_true rfl⟩) ⟨rfl, rfl⟩ rfl (Nat.le_of_ble_eq_true rfl) (hw.1.1 _) rfl rfl dX6_likeness_33 ?_
    refine z_ixor X dX6_likeness_36 ?_
    obtain ⟨r5, hr5, h⟩ := ob h
    refine z_cSI (As := [.int (r2 ^^^ r4)]) (st := []) X (tJ0_bitCount M hr5) w_138 msJ0_bitCount (by rw [eR]; exact ⟨Nat.le_of_ble_eq_true rfl, Nat.le_of_ble_eq_true rfl⟩) ⟨rfl, rfl⟩ rfl (Nat.le_of_ble_eq_true rfl) rfl dX6_likeness_37 ?_
    have hq := Option.some.inj h
    subst hq
    exact z_iret hs dX6_likeness_40 rfl
  · rw [if_neg c7] at h
    refine z_iload_n X dX6_likeness_10 0 rfl rfl ?_
    have hq := Option.some.inj h
    subst hq
    exact z_iret hs dX6_likeness_11 rfl
set_option maxHeartbeats 4000000 in
theorem tX6_keep {l : Launch} {D : va_G} {ct : Nat → ClassId} {tF : Nat} {wOf : Mm → va_W} {po ad : Nat → Nat} (hw : KC wOf po ad ct) (M : Mm) {v1 : Int32} {r : (Int32 × (Nat → Int32))} (h : fX6_keep (M.1 3) (M.1 27) (M.2.2 41) v1 = some r) : CtI l yX6_keep cX6_keep 2 .int { frames := 3, cells := 0, slots := 0, locals := 62 } D ct tF wOf [.ref (ad 0), .int v1] M r.1 (mk M [(27, r.2)] M.2.1 []) := by
  refine metI (by decide) (Nat.le_of_ble_eq_true rfl) fun κ X e1 eR e3 e4 hs => ?_
  subst e1; subst e3; subst e4
  unfold fX6_keep at h
  refine z_mem (mk_self M [27] []) ?_
  refine z_sub (lv' := [(0, .ref (ad 0)), (1, .int v1)]) [0, 1] rfl ?_
  show Zj κ 2 0 _ _ (mk M [(27, (M.1 27))] M.2.1 [])
  refine z_iload_n X dX6_keep_0 1 rfl rfl ?_
  obtain ⟨r1, hr1, h⟩ := ob h
  refine z_cSI (As := [.int v1]) (st := []) X (tX6_isShelf hw (mk M [(27, (M.1 27))] M.2.1 []) hr1) w_158 msX6_isShelf (by rw [eR]; exact ⟨Nat.le_of_ble_eq_true rfl, Nat.le_of_ble_eq_true rfl⟩) ⟨rfl, rfl⟩ rfl (Nat.le_of_ble_eq_true rfl) rfl dX6_keep_1 ?_
  refine z_if_ne (tgt := 9) X dX6_keep_4 (by decide) (fun c4 => ?_) (fun c4 => ?_)
  · rw [if_neg c4] at h
    refine z_aload_n X dX6_keep_9 0 rfl rfl ?_
    refine z_get (j := 6) (v := .ref (ad 27)) X inX6 rfl (by decide) w_161 (hw.2.2.2.2.2.2.1 _) rfl dX6_keep_10 ?_
    refine z_iload_n X dX6_keep_13 1 rfl rfl ?_
    refine z_aload_n X dX6_keep_14 0 rfl rfl ?_
    refine z_get (j := 9) (v := .int (M.2.2 41)) X inX6 rfl (by decide) w_8 (hw.2.2.2.2.2.2.1 _) rfl dX6_keep_15 ?_
    obtain ⟨u2, hu2, h⟩ := ob h
    refine z_iast (M' := (mk M [(27, u2)] M.2.1 [])) X (hw.2.2.2.2.2.2.2.2.2.2.2.2.2.2.2.2.2.2.2.2.2.1 _).1 (wr_ok hu2) (mk_set1 (l' := [(27, u2)]) (hw.2.2.2.2.2.2.2.2.2.2.2.2.2.2.2.2.2.2.2.2.2.1) rfl rfl) dX6_keep_18 ?_
    refine z_aload_n X dX6_keep_19 0 rfl rfl ?_
    refine z_get (j := 0) (v := .ref (ad 1)) X inX6 rfl (by decide) w_7 (hw.2.2.2.2.2.2.1 _) rfl dX6_keep_20 ?_
    refine z_aload_n X dX6_keep_23 0 rfl rfl ?_
    refine z_get (j := 9) (v := .int (M.2.2 41)) X inX6 rfl (by decide) w_8 (hw.2.2.2.2.2.2.1 _) rfl dX6_keep_24 ?_
    obtain ⟨r3, hr3, h⟩ := ob h
    refine z_cVI (As := [.int (M.2.2 41)]) (st := []) X (tX0_numberOf hw.1 (mk M [(27, u2)] M.2.1 []) hr3) w_58 mvX0_numberOf (by rw [eR]; exact ⟨Nat.le_of_ble_eq_true rfl, Nat.le_of_ble_eq_true rfl⟩) ⟨rfl, rfl⟩ rfl (Nat.le_of_ble_eq_true rfl) (hw.1.1 _) rfl rfl dX6_keep_27 ?_
    have hq := Option.some.inj h
    subst hq
    exact z_iret hs dX6_keep_30 rfl
  · rw [if_pos c4] at h
    refine z_iconst (v := (-1 : Int32)) X dX6_keep_7 (by decide) ?_
    have hq := Option.some.inj h
    subst hq
    exact z_iret hs dX6_keep_8 rfl
set_option maxHeartbeats 4000000 in
theorem tX6_lay {l : Launch} {D : va_G} {ct : Nat → ClassId} {tF : Nat} {wOf : Mm → va_W} {po ad : Nat → Nat} (hw : KC wOf po ad ct) (M : Mm) {v1 : Int32} {r : (Int32 × (Nat → Int32) × Int32 × Int32)} (h : fX6_lay (M.1 3) (M.1 15) (M.1 27) (M.2.2 41) (M.2.2 44) v1 = some r) : CtI l yX6_lay cX6_lay 3 .int { frames := 3, cells := 0, slots := 0, locals := 106 } D ct tF wOf [.ref (ad 0), .int v1] M r.1 (mk M [(15, r.2.1)] M.2.1 [(41, r.2.2.1), (44, r.2.2.2)]) := by
  refine metI (by decide) (Nat.le_of_ble_eq_true rfl) fun κ X e1 eR e3 e4 hs => ?_
  subst e1; subst e3; subst e4
  unfold fX6_lay at h
  refine z_mem (mk_self M [15] [41, 44]) ?_
  refine z_sub (lv' := [(0, .ref (ad 0)), (1, .int v1)]) [0, 1] rfl ?_
  show Zj κ 3 0 _ _ (mk M [(15, (M.1 15))] M.2.1 [(41, (M.2.2 41)), (44, (M.2.2 44))])
  refine z_aload_n X dX6_lay_0 0 rfl rfl ?_
  refine z_iload_n X dX6_lay_1 1 rfl rfl ?_
  obtain ⟨r1, hr1, h⟩ := ob h
  refine z_cVI (As := [.int v1]) (st := []) X (tX6_lack hw (mk M [(15, (M.1 15))] M.2.1 [(41, (M.2.2 41)), (44, (M.2.2 44))]) hr1) w_162 mvX6_lack (by rw [eR]; exact ⟨Nat.le_of_ble_eq_true rfl, Nat.le_of_ble_eq_true rfl⟩) ⟨rfl, rfl⟩ rfl (Nat.le_of_ble_eq_true rfl) (hw.2.2.2.2.2.2.1 _) rfl rfl dX6_lay_2 ?_
  refine z_istore_n (lv' := [(2, .int r1), (0, .ref (ad 0)), (1, .int v1)]) X dX6_lay_5 rfl (by decide) rfl ?_
  refine z_iload_n X dX6_lay_6 0 rfl rfl ?_
  refine z_if_eq (tgt := 12) X dX6_lay_7 (by decide) (fun c7 => ?_) (fun c7 => ?_)
  · rw [if_pos c7] at h
    refine z_aload_n X dX6_lay_12 1 rfl rfl ?_
    refine z_aload_n X dX6_lay_13 1 rfl rfl ?_
    refine z_get (j := 6) (v := .ref (ad 27)) X inX6 rfl (by decide) w_161 (hw.2.2.2.2.2.2.1 _) rfl dX6_lay_14 ?_
    refine z_iload_n X dX6_lay_17 2 rfl rfl ?_
    obtain ⟨t2, ht2, h⟩ := ob h
    refine z_iald X (hw.2.2.2.2.2.2.2.2.2.2.2.2.2.2.2.2.2.2.2.2.2.1 _).1 (rd_ok ht2) dX6_lay_18 ?_
    obtain ⟨r3, hr3, h⟩ := ob h
    refine z_cVV (As := [.int t2]) (st := []) X (tX6_become hw (mk M [(15, (M.1 15))] M.2.1 [(41, (M.2.2 41)), (44, (M.2.2 44))]) hr3) w_54 mvX6_become (by rw [eR]; exact ⟨Nat.le_of_ble_eq_true rfl, Nat.le_of_ble_eq_true rfl⟩) ⟨rfl, rfl⟩ rfl (Nat.le_of_ble_eq_true rfl) (hw.2.2.2.2.2.2.1 _) rfl rfl dX6_lay_19 ?_
    refine z_mem (mk_mk (l' := [(15, r3.1)]) (sl' := [(41, r3.2.1), (44, r3.2.2)]) rfl rfl rfl rfl) ?_
    refine z_aload_n X dX6_lay_22 1 rfl rfl ?_
    obtain ⟨r4, hr4, h⟩ := ob h
    refine z_cVI (As := []) (st := []) X (tX6_size hw (mk M [(15, r3.1)] M.2.1 [(41, r3.2.1), (44, r3.2.2)]) hr4) w_18 mvX6_size (by rw [eR]; exact ⟨Nat.le_of_ble_eq_true rfl, Nat.le_of_ble_eq_true rfl⟩) ⟨rfl, rfl⟩ rfl (Nat.le_of_ble_eq_true rfl) (hw.2.2.2.2.2.2.1 _) rfl rfl dX6_lay_23 ?_
    have hq := Option.some.inj h
    subst hq
    exact z_iret hs dX6_lay_26 rfl
  · rw [if_neg c7] at h
    refine z_iload_n X dX6_lay_10 0 rfl rfl ?_
    have hq := Option.some.inj h
    subst hq
    exact z_iret hs dX6_lay_11 rfl
set_option maxHeartbeats 4000000 in
theorem tX6_lose {l : Launch} {D : va_G} {ct : Nat → ClassId} {tF : Nat} {wOf : Mm → va_W} {po ad : Nat → Nat} (hw : KC wOf po ad ct) (M : Mm) {v1 : Int32} {r : (Int32 × (Nat → Int32))} (h : fX6_lose (M.1 3) (M.1 27) v1 = some r) : CtI l yX6_lose cX6_lose 4 .int { frames := 2, cells := 0, slots := 0, locals := 41 } D ct tF wOf [.ref (ad 0), .int v1] M r.1 (mk M [(27, r.2)] M.2.1 []) := by
  refine metI (by decide) (Nat.le_of_ble_eq_true rfl) fun κ X e1 eR e3 e4 hs => ?_
  subst e1; subst e3; subst e4
  unfold fX6_lose at h
  refine z_mem (mk_self M [27] []) ?_
  refine z_sub (lv' := [(0, .ref (ad 0)), (1, .int v1)]) [0, 1] rfl ?_
  show Zj κ 4 0 _ _ (mk M [(27, (M.1 27))] M.2.1 [])
  refine z_aload_n X dX6_lose_0 0 rfl rfl ?_
  refine z_iload_n X dX6_lose_1 1 rfl rfl ?_
  obtain ⟨r1, hr1, h⟩ := ob h
  refine z_cVI (As := [.int v1]) (st := []) X (tX6_lack hw (mk M [(27, (M.1 27))] M.2.1 []) hr1) w_162 mvX6_lack (by rw [eR]; exact ⟨Nat.le_of_ble_eq_true rfl, Nat.le_of_ble_eq_true rfl⟩) ⟨rfl, rfl⟩ rfl (Nat.le_of_ble_eq_true rfl) (hw.2.2.2.2.2.2.1 _) rfl rfl dX6_lose_2 ?_
  refine z_istore_n (lv' := [(2, .int r1), (0, .ref (ad 0)), (1, .int v1)]) X dX6_lose_5 rfl (by decide) rfl ?_
  refine z_iload_n X dX6_lose_6 0 rfl rfl ?_
  refine z_if_eq (tgt := 12) X dX6_lose_7 (by decide) (fun c7 => ?_) (fun c7 => ?_)
  · rw [if_pos c7] at h
    refine z_aload_n X dX6_lose_12 1 rfl rfl ?_
    refine z_get (j := 0) (v := .ref (ad 1)) X inX6 rfl (by decide) w_7 (hw.2.2.2.2.2.2.1 _) rfl dX6_lose_13 ?_
    refine z_aload_n X dX6_lose_16 1 rfl rfl ?_
    refine z_get (j := 6) (v := .ref (ad 27)) X inX6 rfl (by decide) w_161 (hw.2.2.2.2.2.2.1 _) rfl dX6_lose_17 ?_
    refine z_iload_n X dX6_lose_20 2 rfl rfl ?_
    obtain ⟨t2, ht2, h⟩ := ob h
    refine z_iald X (hw.2.2.2.2.2.2.2.2.2.2.2.2.2.2.2.2.2.2.2.2.2.1 _).1 (rd_ok ht2) dX6_lose_21 ?_
    obtain ⟨r3, hr3, h⟩ := ob h
    refine z_cVI (As := [.int t2]) (st := []) X (tX0_sizeOf hw.1 (mk M [(27, (M.1 27))] M.2.1 []) hr3) w_9 mvX0_sizeOf (by rw [eR]; exact ⟨Nat.le_of_ble_eq_true rfl, Nat.le_of_ble_eq_true rfl⟩) ⟨rfl, rfl⟩ rfl (Nat.le_of_ble_eq_true rfl) (hw.1.1 _) rfl rfl dX6_lose_22 ?_
    refine z_istore_n (lv' := [(3, .int r3), (2, .int r1), (0, .ref (ad 0)), (1, .int v1)]) X dX6_lose_25 rfl (by decide) rfl ?_
    refine z_aload_n X dX6_lose_26 2 rfl rfl ?_
    refine z_get (j := 6) (v := .ref (ad 27)) X inX6 rfl (by decide) w_161 (hw.2.2.2.2.2.2.1 _) rfl dX6_lose_27 ?_
    refine z_iload_n X dX6_lose_30 3 rfl rfl ?_
    refine z_iconst (v := (nI 0)) X dX6_lose_31 (by decide) ?_
    obtain ⟨u4, hu4, h⟩ := ob h
    refine z_iast (M' := (mk M [(27, u4)] M.2.1 [])) X (hw.2.2.2.2.2.2.2.2.2.2.2.2.2.2.2.2.2.2.2.2.2.1 _).1 (wr_ok hu4) (mk_set1 (l' := [(27, u4)]) (hw.2.2.2.2.2.2.2.2.2.2.2.2.2.2.2.2.2.2.2.2.2.1) rfl rfl) dX6_lose_32 ?_
    refine z_iload_n X dX6_lose_33 0 rfl rfl ?_
    have hq := Option.some.inj h
    subst hq
    exact z_iret hs dX6_lose_34 rfl
  · rw [if_neg c7] at h
    refine z_iload_n X dX6_lose_10 0 rfl rfl ?_
    have hq := Option.some.inj h
    subst hq
    exact z_iret hs dX6_lose_11 rfl
set_option maxHeartbeats 4000000 in
theorem tX6_lackOrTooMany {l : Launch} {D : va_G} {ct : Nat → ClassId} {tF : Nat} {wOf : Mm → va_W} {po ad : Nat → Nat} (hw : KC wOf po ad ct) (M : Mm) {v1 : Int32} {r : Int32} (h : fX6_lackOrTooMany (M.1 3) (M.1 27) (M.2.2 41) v1 = some r) : CtI l yX6_lackOrTooMany cX6_lackOrTooMany 3 .int { frames := 2, cells := 0, slots := 0, locals := 41 } D ct tF wOf [.ref (ad 0), .int v1] M r M := by
  refine metI (by decide) (Nat.le_of_ble_eq_true rfl) fun κ X e1 eR e3 e4 hs => ?_
  subst e1; subst e3; subst e4
  unfold fX6_lackOrTooMany at h
  refine z_sub (lv' := [(0, .ref (ad 0)), (1, .int v1)]) [0, 1] rfl ?_
  refine z_aload_n X dX6_lackOrTooMany_0 0 rfl rfl ?_
  refine z_iload_n X dX6_lackOrTooMany_1 1 rfl rfl ?_
  obtain ⟨r1, hr1, h⟩ := ob h
  refine z_cVI (As := [.int v1]) (st := []) X (tX6_lack hw M hr1) w_162 mvX6_lack (by rw [eR]; exact ⟨Nat.le_of_ble_eq_true rfl, Nat.le_of_ble_eq_true rfl⟩) ⟨rfl, rfl⟩ rfl (Nat.le_of_ble_eq_true rfl) (hw.2.2.2.2.2.2.1 _) rfl rfl dX6_lackOrTooMany_2 ?_
  refine z_istore_n (lv' := [(2, .int r1), (0, .ref (ad 0)), (1, .int v1)]) X dX6_lackOrTooMany_5 rfl (by decide) rfl ?_
  refine z_iload_n X dX6_lackOrTooMany_6 0 rfl rfl ?_
  refine z_if_eq (tgt := 12) X dX6_lackOrTooMany_7 (by decide) (fun c7 => ?_) (fun c7 => ?_)
  · rw [if_pos c7] at h
    refine z_aload_n X dX6_lackOrTooMany_12 1 rfl rfl ?_
    obtain ⟨r2, hr2, h⟩ := ob h
    refine z_cVI (As := []) (st := []) X (tX6_size hw M hr2) w_18 mvX6_size (by rw [eR]; exact ⟨Nat.le_of_ble_eq_true rfl, Nat.le_of_ble_eq_true rfl⟩) ⟨rfl, rfl⟩ rfl (Nat.le_of_ble_eq_true rfl) (hw.2.2.2.2.2.2.1 _) rfl rfl dX6_lackOrTooMany_13 ?_
    refine z_aload_n X dX6_lackOrTooMany_16 1 rfl rfl ?_
    refine z_get (j := 0) (v := .ref (ad 1)) X inX6 rfl (by decide) w_7 (hw.2.2.2.2.2.2.1 _) rfl dX6_lackOrTooMany_17 ?_
    refine z_aload_n X dX6_lackOrTooMany_20 1 rfl rfl ?_
    refine z_get (j := 6) (v := .ref (ad 27)) X inX6 rfl (by decide) w_161 (hw.2.2.2.2.2.2.1 _) rfl dX6_lackOrTooMany_21 ?_
    refine z_iload_n X dX6_lackOrTooMany_24 2 rfl rfl ?_
    obtain ⟨t3, ht3, h⟩ := ob h
    refine z_iald X (hw.2.2.2.2.2.2.2.2.2.2.2.2.2.2.2.2.2.2.2.2.2.1 _).1 (rd_ok ht3) dX6_lackOrTooMany_25 ?_
    obtain ⟨r4, hr4, h⟩ := ob h
    refine z_cVI (As := [.int t3]) (st := [.int r2]) X (tX0_sizeOf hw.1 M hr4) w_9 mvX0_sizeOf (by rw [eR]; exact ⟨Nat.le_of_ble_eq_true rfl, Nat.le_of_ble_eq_true rfl⟩) ⟨rfl, rfl⟩ rfl (Nat.le_of_ble_eq_true rfl) (hw.1.1 _) rfl rfl dX6_lackOrTooMany_26 ?_
    refine z_iadd X dX6_lackOrTooMany_29 ?_
    refine z_bipush (v := (nI 7)) X dX6_lackOrTooMany_30 (by decide) ?_
    refine z_icmp_le (tgt := 40) X dX6_lackOrTooMany_32 (by decide) (fun c32 => ?_) (fun c32 => ?_)
    · rw [if_pos c32] at h
      refine z_iconst (v := (nI 0)) X dX6_lackOrTooMany_40 (by decide) ?_
      have hq := Option.some.inj h
      subst hq
      exact z_iret hs dX6_lackOrTooMany_41 rfl
    · rw [if_neg c32] at h
      refine z_bipush (v := (-4 : Int32)) X dX6_lackOrTooMany_35 (by decide) ?_
      refine z_goto (tgt := 41) X dX6_lackOrTooMany_37 (by decide) ?_
      have hq := Option.some.inj h
      subst hq
      exact z_iret hs dX6_lackOrTooMany_41 rfl
  · rw [if_neg c7] at h
    refine z_iload_n X dX6_lackOrTooMany_10 0 rfl rfl ?_
    have hq := Option.some.inj h
    subst hq
    exact z_iret hs dX6_lackOrTooMany_11 rfl
set_option maxHeartbeats 4000000 in
theorem tX6_over {l : Launch} {D : va_G} {ct : Nat → ClassId} {tF : Nat} {wOf : Mm → va_W} {po ad : Nat → Nat} (hw : KC wOf po ad ct) (M : Mm) {v1 : Int32} {r : (Int32 × (Nat → Int32) × Int32 × Int32)} (h : fX6_over (M.1 2) (M.1 3) (M.1 15) (M.1 27) (M.2.2 41) (M.2.2 44) v1 = some r) : CtI l yX6_over cX6_over 3 .int { frames := 5, cells := 0, slots := 0, locals := 111 } D ct tF wOf [.ref (ad 0), .int v1] M r.1 (mk M [(15, r.2.1)] M.2.1 [(41, r.2.2.1), (44, r.2.2.2)]) := by
  refine metI (by decide) (Nat.le_of_ble_eq_true rfl) fun κ X e1 eR e3 e4 hs => ?_
  subst e1; subst e3; subst e4
  unfold fX6_over at h
  refine z_mem (mk_self M [15] [41, 44]) ?_
  refine z_sub (lv' := [(0, .ref (ad 0)), (1, .int v1)]) [0, 1] rfl ?_
  show Zj κ 3 0 _ _ (mk M [(15, (M.1 15))] M.2.1 [(41, (M.2.2 41)), (44, (M.2.2 44))])
  refine z_aload_n X dX6_over_0 0 rfl rfl ?_
  refine z_iload_n X dX6_over_1 1 rfl rfl ?_
  obtain ⟨r1, hr1, h⟩ := ob h
  refine z_cVI (As := [.int v1]) (st := []) X (tX6_lackOrTooMany hw (mk M [(15, (M.1 15))] M.2.1 [(41, (M.2.2 41)), (44, (M.2.2 44))]) hr1) w_318 mvX6_lackOrTooMany (by rw [eR]; exact ⟨Nat.le_of_ble_eq_true rfl, Nat.le_of_ble_eq_true rfl⟩) ⟨rfl, rfl⟩ rfl (Nat.le_of_ble_eq_true rfl) (hw.2.2.2.2.2.2.1 _) rfl rfl dX6_over_2 ?_
  refine z_istore_n (lv' := [(2, .int r1), (0, .ref (ad 0)), (1, .int v1)]) X dX6_over_5 rfl (by decide) rfl ?_
  refine z_iload_n X dX6_over_6 0 rfl rfl ?_
  refine z_if_eq (tgt := 12) X dX6_over_7 (by decide) (fun c7 => ?_) (fun c7 => ?_)
  · rw [if_pos c7] at h
    refine z_aload_n X dX6_over_12 1 rfl rfl ?_
    refine z_aload_n X dX6_over_13 1 rfl rfl ?_
    refine z_get (j := 0) (v := .ref (ad 1)) X inX6 rfl (by decide) w_7 (hw.2.2.2.2.2.2.1 _) rfl dX6_over_14 ?_
    refine z_aload_n X dX6_over_17 1 rfl rfl ?_
    refine z_get (j := 6) (v := .ref (ad 27)) X inX6 rfl (by decide) w_161 (hw.2.2.2.2.2.2.1 _) rfl dX6_over_18 ?_
    refine z_iload_n X dX6_over_21 2 rfl rfl ?_
    obtain ⟨t2, ht2, h⟩ := ob h
    refine z_iald X (hw.2.2.2.2.2.2.2.2.2.2.2.2.2.2.2.2.2.2.2.2.2.1 _).1 (rd_ok ht2) dX6_over_22 ?_
    refine z_aload_n X dX6_over_23 1 rfl rfl ?_
    refine z_get (j := 9) (v := .int (M.2.2 41)) X inX6 rfl (by decide) w_8 (hw.2.2.2.2.2.2.1 _) rfl dX6_over_24 ?_
    obtain ⟨r3, hr3, h⟩ := ob h
    refine z_cVI (As := [.int t2, .int (M.2.2 41)]) (st := [.ref (ad 0)]) X (tX0_setOver hw.1 (mk M [(15, (M.1 15))] M.2.1 [(41, (M.2.2 41)), (44, (M.2.2 44))]) hr3) w_322 mvX0_setOver (by rw [eR]; exact ⟨Nat.le_of_ble_eq_true rfl, Nat.le_of_ble_eq_true rfl⟩) ⟨rfl, rfl⟩ rfl (Nat.le_of_ble_eq_true rfl) (hw.1.1 _) rfl rfl dX6_over_27 ?_
    obtain ⟨r4, hr4, h⟩ := ob h
    refine z_cVV (As := [.int r3]) (st := []) X (tX6_become hw (mk M [(15, (M.1 15))] M.2.1 [(41, (M.2.2 41)), (44, (M.2.2 44))]) hr4) w_54 mvX6_become (by rw [eR]; exact ⟨Nat.le_of_ble_eq_true rfl, Nat.le_of_ble_eq_true rfl⟩) ⟨rfl, rfl⟩ rfl (Nat.le_of_ble_eq_true rfl) (hw.2.2.2.2.2.2.1 _) rfl rfl dX6_over_30 ?_
    refine z_mem (mk_mk (l' := [(15, r4.1)]) (sl' := [(41, r4.2.1), (44, r4.2.2)]) rfl rfl rfl rfl) ?_
    refine z_aload_n X dX6_over_33 1 rfl rfl ?_
    obtain ⟨r5, hr5, h⟩ := ob h
    refine z_cVI (As := []) (st := []) X (tX6_size hw (mk M [(15, r4.1)] M.2.1 [(41, r4.2.1), (44, r4.2.2)]) hr5) w_18 mvX6_size (by rw [eR]; exact ⟨Nat.le_of_ble_eq_true rfl, Nat.le_of_ble_eq_true rfl⟩) ⟨rfl, rfl⟩ rfl (Nat.le_of_ble_eq_true rfl) (hw.2.2.2.2.2.2.1 _) rfl rfl dX6_over_34 ?_
    have hq := Option.some.inj h
    subst hq
    exact z_iret hs dX6_over_37 rfl
  · rw [if_neg c7] at h
    refine z_iload_n X dX6_over_10 0 rfl rfl ?_
    have hq := Option.some.inj h
    subst hq
    exact z_iret hs dX6_over_11 rfl
set_option maxHeartbeats 4000000 in
theorem tX6_under {l : Launch} {D : va_G} {ct : Nat → ClassId} {tF : Nat} {wOf : Mm → va_W} {po ad : Nat → Nat} (hw : KC wOf po ad ct) (M : Mm) {v1 : Int32} {r : (Int32 × (Nat → Int32) × Int32 × Int32)} (h : fX6_under (M.1 2) (M.1 3) (M.1 15) (M.1 27) (M.2.2 41) (M.2.2 44) v1 = some r) : CtI l yX6_under cX6_under 3 .int { frames := 5, cells := 0, slots := 0, locals := 114 } D ct tF wOf [.ref (ad 0), .int v1] M r.1 (mk M [(15, r.2.1)] M.2.1 [(41, r.2.2.1), (44, r.2.2.2)]) := by
  refine metI (by decide) (Nat.le_of_ble_eq_true rfl) fun κ X e1 eR e3 e4 hs => ?_
  subst e1; subst e3; subst e4
  unfold fX6_under at h
  refine z_mem (mk_self M [15] [41, 44]) ?_
  refine z_sub (lv' := [(0, .ref (ad 0)), (1, .int v1)]) [0, 1] rfl ?_
  show Zj κ 3 0 _ _ (mk M [(15, (M.1 15))] M.2.1 [(41, (M.2.2 41)), (44, (M.2.2 44))])
  refine z_aload_n X dX6_under_0 0 rfl rfl ?_
  refine z_iload_n X dX6_under_1 1 rfl rfl ?_
  obtain ⟨r1, hr1, h⟩ := ob h
  refine z_cVI (As := [.int v1]) (st := []) X (tX6_lackOrTooMany hw (mk M [(15, (M.1 15))] M.2.1 [(41, (M.2.2 41)), (44, (M.2.2 44))]) hr1) w_318 mvX6_lackOrTooMany (by rw [eR]; exact ⟨Nat.le_of_ble_eq_true rfl, Nat.le_of_ble_eq_true rfl⟩) ⟨rfl, rfl⟩ rfl (Nat.le_of_ble_eq_true rfl) (hw.2.2.2.2.2.2.1 _) rfl rfl dX6_under_2 ?_
  refine z_istore_n (lv' := [(2, .int r1), (0, .ref (ad 0)), (1, .int v1)]) X dX6_under_5 rfl (by decide) rfl ?_
  refine z_iload_n X dX6_under_6 0 rfl rfl ?_
  refine z_if_eq (tgt := 12) X dX6_under_7 (by decide) (fun c7 => ?_) (fun c7 => ?_)
  · rw [if_pos c7] at h
    refine z_aload_n X dX6_under_12 1 rfl rfl ?_
    refine z_aload_n X dX6_under_13 1 rfl rfl ?_
    refine z_get (j := 0) (v := .ref (ad 1)) X inX6 rfl (by decide) w_7 (hw.2.2.2.2.2.2.1 _) rfl dX6_under_14 ?_
    refine z_aload_n X dX6_under_17 1 rfl rfl ?_
    refine z_get (j := 9) (v := .int (M.2.2 41)) X inX6 rfl (by decide) w_8 (hw.2.2.2.2.2.2.1 _) rfl dX6_under_18 ?_
    refine z_aload_n X dX6_under_21 1 rfl rfl ?_
    refine z_get (j := 6) (v := .ref (ad 27)) X inX6 rfl (by decide) w_161 (hw.2.2.2.2.2.2.1 _) rfl dX6_under_22 ?_
    refine z_iload_n X dX6_under_25 2 rfl rfl ?_
    obtain ⟨t2, ht2, h⟩ := ob h
    refine z_iald X (hw.2.2.2.2.2.2.2.2.2.2.2.2.2.2.2.2.2.2.2.2.2.1 _).1 (rd_ok ht2) dX6_under_26 ?_
    obtain ⟨r3, hr3, h⟩ := ob h
    refine z_cVI (As := [.int (M.2.2 41), .int t2]) (st := [.ref (ad 0)]) X (tX0_setUnder hw.1 (mk M [(15, (M.1 15))] M.2.1 [(41, (M.2.2 41)), (44, (M.2.2 44))]) hr3) w_326 mvX0_setUnder (by rw [eR]; exact ⟨Nat.le_of_ble_eq_true rfl, Nat.le_of_ble_eq_true rfl⟩) ⟨rfl, rfl⟩ rfl (Nat.le_of_ble_eq_true rfl) (hw.1.1 _) rfl rfl dX6_under_27 ?_
    obtain ⟨r4, hr4, h⟩ := ob h
    refine z_cVV (As := [.int r3]) (st := []) X (tX6_become hw (mk M [(15, (M.1 15))] M.2.1 [(41, (M.2.2 41)), (44, (M.2.2 44))]) hr4) w_54 mvX6_become (by rw [eR]; exact ⟨Nat.le_of_ble_eq_true rfl, Nat.le_of_ble_eq_true rfl⟩) ⟨rfl, rfl⟩ rfl (Nat.le_of_ble_eq_true rfl) (hw.2.2.2.2.2.2.1 _) rfl rfl dX6_under_30 ?_
    refine z_mem (mk_mk (l' := [(15, r4.1)]) (sl' := [(41, r4.2.1), (44, r4.2.2)]) rfl rfl rfl rfl) ?_
    refine z_aload_n X dX6_under_33 1 rfl rfl ?_
    obtain ⟨r5, hr5, h⟩ := ob h
    refine z_cVI (As := []) (st := []) X (tX6_size hw (mk M [(15, r4.1)] M.2.1 [(41, r4.2.1), (44, r4.2.2)]) hr5) w_18 mvX6_size (by rw [eR]; exact ⟨Nat.le_of_ble_eq_true rfl, Nat.le_of_ble_eq_true rfl⟩) ⟨rfl, rfl⟩ rfl (Nat.le_of_ble_eq_true rfl) (hw.2.2.2.2.2.2.1 _) rfl rfl dX6_under_34 ?_
    have hq := Option.some.inj h
    subst hq
    exact z_iret hs dX6_under_37 rfl
  · rw [if_neg c7] at h
    refine z_iload_n X dX6_under_10 0 rfl rfl ?_
    have hq := Option.some.inj h
    subst hq
    exact z_iret hs dX6_under_11 rfl
set_option maxHeartbeats 4000000 in
theorem tX6_shelf {l : Launch} {D : va_G} {ct : Nat → ClassId} {tF : Nat} {wOf : Mm → va_W} {po ad : Nat → Nat} (hw : KC wOf po ad ct) (M : Mm) {v1 : Int32} {v2 : Int32} {r : Int32} (h : fX6_shelf (M.1 2) (M.1 3) (M.1 27) v1 v2 = some r) : CtI l yX6_shelf cX6_shelf 4 .int { frames := 3, cells := 0, slots := 0, locals := 62 } D ct tF wOf [.ref (ad 0), .int v1, .int v2] M r M := by
  refine metI (by decide) (Nat.le_of_ble_eq_true rfl) fun κ X e1 eR e3 e4 hs => ?_
  subst e1; subst e3; subst e4
  unfold fX6_shelf at h
  refine z_sub (lv' := [(0, .ref (ad 0)), (1, .int v1), (2, .int v2)]) [0, 1, 2] rfl ?_
  refine z_iload_n X dX6_shelf_0 2 rfl rfl ?_
  refine z_if_lt (tgt := 9) X dX6_shelf_1 (by decide) (fun c1 => ?_) (fun c1 => ?_)
  · rw [if_pos c1] at h
    refine z_iconst (v := (-1 : Int32)) X dX6_shelf_9 (by decide) ?_
    have hq := Option.some.inj h
    subst hq
    exact z_iret hs dX6_shelf_10 rfl
  · rw [if_neg c1] at h
    refine z_iload_n X dX6_shelf_4 2 rfl rfl ?_
    refine z_iconst (v := (nI 2)) X dX6_shelf_5 (by decide) ?_
    refine z_icmp_le (tgt := 11) X dX6_shelf_6 (by decide) (fun c6 => ?_) (fun c6 => ?_)
    · rw [if_pos c6] at h
      refine z_aload_n X dX6_shelf_11 0 rfl rfl ?_
      refine z_iload_n X dX6_shelf_12 1 rfl rfl ?_
      obtain ⟨r1, hr1, h⟩ := ob h
      refine z_cVI (As := [.int v1]) (st := []) X (tX6_lack hw M hr1) w_162 mvX6_lack (by rw [eR]; exact ⟨Nat.le_of_ble_eq_true rfl, Nat.le_of_ble_eq_true rfl⟩) ⟨rfl, rfl⟩ rfl (Nat.le_of_ble_eq_true rfl) (hw.2.2.2.2.2.2.1 _) rfl rfl dX6_shelf_13 ?_
      refine z_istore_n (lv' := [(3, .int r1), (0, .ref (ad 0)), (1, .int v1), (2, .int v2)]) X dX6_shelf_16 rfl (by decide) rfl ?_
      refine z_iload_n X dX6_shelf_17 0 rfl rfl ?_
      refine z_if_eq (tgt := 23) X dX6_shelf_18 (by decide) (fun c18 => ?_) (fun c18 => ?_)
      · rw [if_pos c18] at h
        refine z_iload_n X dX6_shelf_23 3 rfl rfl ?_
        by_cases c24_0 : v2 = nI 0
        · rw [if_pos c24_0] at h
          refine z_look (off := 28) (tgt := 52) X dX6_shelf_24 (by decide) (by rw [c24_0]; decide) (by decide) ?_
          refine z_aload_n X dX6_shelf_52 1 rfl rfl ?_
          refine z_get (j := 0) (v := .ref (ad 1)) X inX6 rfl (by decide) w_7 (hw.2.2.2.2.2.2.1 _) rfl dX6_shelf_53 ?_
          refine z_aload_n X dX6_shelf_56 1 rfl rfl ?_
          refine z_get (j := 6) (v := .ref (ad 27)) X inX6 rfl (by decide) w_161 (hw.2.2.2.2.2.2.1 _) rfl dX6_shelf_57 ?_
          refine z_iload_n X dX6_shelf_60 2 rfl rfl ?_
          obtain ⟨t2, ht2, h⟩ := ob h
          refine z_iald X (hw.2.2.2.2.2.2.2.2.2.2.2.2.2.2.2.2.2.2.2.2.2.1 _).1 (rd_ok ht2) dX6_shelf_61 ?_
          obtain ⟨r3, hr3, h⟩ := ob h
          refine z_cVI (As := [.int t2]) (st := []) X (tX0_sizeOf hw.1 M hr3) w_9 mvX0_sizeOf (by rw [eR]; exact ⟨Nat.le_of_ble_eq_true rfl, Nat.le_of_ble_eq_true rfl⟩) ⟨rfl, rfl⟩ rfl (Nat.le_of_ble_eq_true rfl) (hw.1.1 _) rfl rfl dX6_shelf_62 ?_
          have hq := Option.some.inj h
          subst hq
          exact z_iret hs dX6_shelf_65 rfl
        · rw [if_neg c24_0] at h
          by_cases c24_1 : v2 = nI 1
          · rw [if_pos c24_1] at h
            refine z_look (off := 42) (tgt := 66) X dX6_shelf_24 (by decide) (by rw [c24_1]; decide) (by decide) ?_
            refine z_aload_n X dX6_shelf_66 1 rfl rfl ?_
            refine z_get (j := 0) (v := .ref (ad 1)) X inX6 rfl (by decide) w_7 (hw.2.2.2.2.2.2.1 _) rfl dX6_shelf_67 ?_
            refine z_aload_n X dX6_shelf_70 1 rfl rfl ?_
            refine z_get (j := 6) (v := .ref (ad 27)) X inX6 rfl (by decide) w_161 (hw.2.2.2.2.2.2.1 _) rfl dX6_shelf_71 ?_
            refine z_iload_n X dX6_shelf_74 2 rfl rfl ?_
            obtain ⟨t4, ht4, h⟩ := ob h
            refine z_iald X (hw.2.2.2.2.2.2.2.2.2.2.2.2.2.2.2.2.2.2.2.2.2.1 _).1 (rd_ok ht4) dX6_shelf_75 ?_
            obtain ⟨r5, hr5, h⟩ := ob h
            refine z_cVI (As := [.int t4]) (st := []) X (tX0_numberOf hw.1 M hr5) w_58 mvX0_numberOf (by rw [eR]; exact ⟨Nat.le_of_ble_eq_true rfl, Nat.le_of_ble_eq_true rfl⟩) ⟨rfl, rfl⟩ rfl (Nat.le_of_ble_eq_true rfl) (hw.1.1 _) rfl rfl dX6_shelf_76 ?_
            have hq := Option.some.inj h
            subst hq
            exact z_iret hs dX6_shelf_79 rfl
          · rw [if_neg c24_1] at h
            refine z_look (off := 56) (tgt := 80) X dX6_shelf_24 (by decide) (by show Op.lookupswitch.offset [(0, 28), (1, 42)] 56 _ = _; rw [lv_osw c24_0 (show (nI 0).toInt = 0 from rfl), lv_osw c24_1 (show (nI 1).toInt = 1 from rfl)]; rfl) (by decide) ?_
            refine z_aload_n X dX6_shelf_80 1 rfl rfl ?_
            refine z_get (j := 0) (v := .ref (ad 1)) X inX6 rfl (by decide) w_7 (hw.2.2.2.2.2.2.1 _) rfl dX6_shelf_81 ?_
            refine z_aload_n X dX6_shelf_84 1 rfl rfl ?_
            refine z_get (j := 6) (v := .ref (ad 27)) X inX6 rfl (by decide) w_161 (hw.2.2.2.2.2.2.1 _) rfl dX6_shelf_85 ?_
            refine z_iload_n X dX6_shelf_88 2 rfl rfl ?_
            obtain ⟨t6, ht6, h⟩ := ob h
            refine z_iald X (hw.2.2.2.2.2.2.2.2.2.2.2.2.2.2.2.2.2.2.2.2.2.1 _).1 (rd_ok ht6) dX6_shelf_89 ?_
            obtain ⟨r7, hr7, h⟩ := ob h
            refine z_cVI (As := [.int t6]) (st := []) X (tX0_asDigits hw.1 M hr7) w_112 mvX0_asDigits (by rw [eR]; exact ⟨Nat.le_of_ble_eq_true rfl, Nat.le_of_ble_eq_true rfl⟩) ⟨rfl, rfl⟩ rfl (Nat.le_of_ble_eq_true rfl) (hw.1.1 _) rfl rfl dX6_shelf_90 ?_
            have hq := Option.some.inj h
            subst hq
            exact z_iret hs dX6_shelf_93 rfl
      · rw [if_neg c18] at h
        refine z_iload_n X dX6_shelf_21 0 rfl rfl ?_
        have hq := Option.some.inj h
        subst hq
        exact z_iret hs dX6_shelf_22 rfl
    · rw [if_neg c6] at h
      refine z_iconst (v := (-1 : Int32)) X dX6_shelf_9 (by decide) ?_
      have hq := Option.some.inj h
      subst hq
      exact z_iret hs dX6_shelf_10 rfl
set_option maxHeartbeats 4000000 in
theorem tX6_list {l : Launch} {D : va_G} {ct : Nat → ClassId} {tF : Nat} {wOf : Mm → va_W} {po ad : Nat → Nat} (hw : KC wOf po ad ct) (M : Mm) {v1 : Int32} {v2 : Int32} {r : (Int32 × (Nat → Int32) × (Nat → Nat → Int64))} (h : fX6_list (M.1 21) M.2.1 v1 v2 = some r) : CtI l yX6_list cX6_list 3 .int { frames := 2, cells := 0, slots := 0, locals := 46 } D ct tF wOf [.ref (ad 0), .int v1, .int v2] M r.1 (mk M [(21, r.2.1)] r.2.2 []) := by
  refine metI (by decide) (Nat.le_of_ble_eq_true rfl) fun κ X e1 eR e3 e4 hs => ?_
  subst e1; subst e3; subst e4
  unfold fX6_list at h
  refine z_mem (mk_self M [21] []) ?_
  refine z_sub (lv' := [(0, .ref (ad 0)), (1, .int v1), (2, .int v2)]) [0, 1, 2] rfl ?_
  show Zj κ 3 0 _ _ (mk M [(21, (M.1 21))] M.2.1 [])
  refine z_iload_n X dX6_list_0 1 rfl rfl ?_
  obtain ⟨r1, hr1, h⟩ := ob h
  refine z_cSI (As := [.int v1]) (st := []) X (tX1_isList hw (mk M [(21, (M.1 21))] M.2.1 []) hr1) w_337 msX1_isList (by rw [eR]; exact ⟨Nat.le_of_ble_eq_true rfl, Nat.le_of_ble_eq_true rfl⟩) ⟨rfl, rfl⟩ rfl (Nat.le_of_ble_eq_true rfl) rfl dX6_list_1 ?_
  refine z_if_ne (tgt := 9) X dX6_list_4 (by decide) (fun c4 => ?_) (fun c4 => ?_)
  · rw [if_neg c4] at h
    refine z_iload_n X dX6_list_9 2 rfl rfl ?_
    refine z_bipush (v := (nI 20)) X dX6_list_10 (by decide) ?_
    refine z_icmp_le (tgt := 18) X dX6_list_12 (by decide) (fun c12 => ?_) (fun c12 => ?_)
    · rw [if_pos c12] at h
      refine z_iload_n X dX6_list_18 2 rfl rfl ?_
      refine z_iconst (v := (-1 : Int32)) X dX6_list_19 (by decide) ?_
      refine z_icmp_ge (tgt := 26) X dX6_list_20 (by decide) (fun c20 => ?_) (fun c20 => ?_)
      · rw [if_pos c20] at h
        refine z_aload_n X dX6_list_26 0 rfl rfl ?_
        refine z_get (j := 4) (v := .ref (ad 16)) X inX6 rfl (by decide) w_338 (hw.2.2.2.2.2.2.1 _) rfl dX6_list_27 ?_
        refine z_iload_n X dX6_list_30 1 rfl rfl ?_
        refine z_iload_n X dX6_list_31 2 rfl rfl ?_
        obtain ⟨r2, hr2, h⟩ := ob h
        refine z_cVV (As := [.int v1, .int v2]) (st := []) X (tX1_renew hw (mk M [(21, (M.1 21))] M.2.1 []) hr2) w_339 mvX1_renew (by rw [eR]; exact ⟨Nat.le_of_ble_eq_true rfl, Nat.le_of_ble_eq_true rfl⟩) ⟨rfl, rfl⟩ rfl (Nat.le_of_ble_eq_true rfl) (hw.2.2.2.2.1 _) rfl rfl dX6_list_32 ?_
        refine z_mem (mk_mk (l' := [(21, r2.1)]) (sl' := []) rfl rfl rfl rfl) ?_
        refine z_iconst (v := (nI 1)) X dX6_list_35 (by decide) ?_
        have hq := Option.some.inj h
        subst hq
        exact z_iret hs dX6_list_36 rfl
      · rw [if_neg c20] at h
        refine z_bipush (v := (-14 : Int32)) X dX6_list_23 (by decide) ?_
        have hq := Option.some.inj h
        subst hq
        exact z_iret hs dX6_list_25 rfl
    · rw [if_neg c12] at h
      refine z_bipush (v := (-2 : Int32)) X dX6_list_15 (by decide) ?_
      have hq := Option.some.inj h
      subst hq
      exact z_iret hs dX6_list_17 rfl
  · rw [if_pos c4] at h
    refine z_iconst (v := (-1 : Int32)) X dX6_list_7 (by decide) ?_
    have hq := Option.some.inj h
    subst hq
    exact z_iret hs dX6_list_8 rfl
set_option maxHeartbeats 4000000 in
theorem tX6_put {l : Launch} {D : va_G} {ct : Nat → ClassId} {tF : Nat} {wOf : Mm → va_W} {po ad : Nat → Nat} (hw : KC wOf po ad ct) (M : Mm) {v1 : Int32} {v2 : Int32} {v3 : Int64} {r : (Int32 × (Nat → Nat → Int64))} (h : fX6_put (M.1 21) M.2.1 v1 v2 v3 = some r) : CtI l yX6_put cX6_put 5 .int { frames := 4, cells := 0, slots := 0, locals := 87 } D ct tF wOf [.ref (ad 0), .int v1, .int v2, .long v3] M r.1 (mk M [] r.2 []) := by
  refine metI (by decide) (Nat.le_of_ble_eq_true rfl) fun κ X e1 eR e3 e4 hs => ?_
  subst e1; subst e3; subst e4
  unfold fX6_put at h
  refine z_mem (mk_self M [] []) ?_
  refine z_sub (lv' := [(0, .ref (ad 0)), (1, .int v1), (2, .int v2), (3, .long v3)]) [0, 1, 2, 3] rfl ?_
  show Zj κ 5 0 _ _ (mk M [] M.2.1 [])
  refine z_iload_n X dX6_put_0 1 rfl rfl ?_
  obtain ⟨r1, hr1, h⟩ := ob h
  refine z_cSI (As := [.int v1]) (st := []) X (tX1_isList hw (mk M [] M.2.1 []) hr1) w_337 msX1_isList (by rw [eR]; exact ⟨Nat.le_of_ble_eq_true rfl, Nat.le_of_ble_eq_true rfl⟩) ⟨rfl, rfl⟩ rfl (Nat.le_of_ble_eq_true rfl) rfl dX6_put_1 ?_
  refine z_if_ne (tgt := 9) X dX6_put_4 (by decide) (fun c4 => ?_) (fun c4 => ?_)
  · rw [if_neg c4] at h
    refine z_aload_n X dX6_put_9 0 rfl rfl ?_
    refine z_get (j := 4) (v := .ref (ad 16)) X inX6 rfl (by decide) w_338 (hw.2.2.2.2.2.2.1 _) rfl dX6_put_10 ?_
    refine z_iload_n X dX6_put_13 1 rfl rfl ?_
    obtain ⟨r2, hr2, h⟩ := ob h
    refine z_cVI (As := [.int v1]) (st := []) X (tX1_isThere hw (mk M [] M.2.1 []) hr2) w_351 mvX1_isThere (by rw [eR]; exact ⟨Nat.le_of_ble_eq_true rfl, Nat.le_of_ble_eq_true rfl⟩) ⟨rfl, rfl⟩ rfl (Nat.le_of_ble_eq_true rfl) (hw.2.2.2.2.1 _) rfl rfl dX6_put_14 ?_
    refine z_if_ne (tgt := 23) X dX6_put_17 (by decide) (fun c17 => ?_) (fun c17 => ?_)
    · rw [if_neg c17] at h
      refine z_aload_n X dX6_put_23 0 rfl rfl ?_
      refine z_get (j := 4) (v := .ref (ad 16)) X inX6 rfl (by decide) w_338 (hw.2.2.2.2.2.2.1 _) rfl dX6_put_24 ?_
      refine z_iload_n X dX6_put_27 1 rfl rfl ?_
      refine z_iload_n X dX6_put_28 2 rfl rfl ?_
      obtain ⟨r3, hr3, h⟩ := ob h
      refine z_cVI (As := [.int v1, .int v2]) (st := []) X (tX1_isPlace hw (mk M [] M.2.1 []) hr3) w_355 mvX1_isPlace (by rw [eR]; exact ⟨Nat.le_of_ble_eq_true rfl, Nat.le_of_ble_eq_true rfl⟩) ⟨rfl, rfl⟩ rfl (Nat.le_of_ble_eq_true rfl) (hw.2.2.2.2.1 _) rfl rfl dX6_put_29 ?_
      refine z_if_ne (tgt := 38) X dX6_put_32 (by decide) (fun c32 => ?_) (fun c32 => ?_)
      · rw [if_neg c32] at h
        refine z_aload_n X dX6_put_38 0 rfl rfl ?_
        refine z_get (j := 4) (v := .ref (ad 16)) X inX6 rfl (by decide) w_338 (hw.2.2.2.2.2.2.1 _) rfl dX6_put_39 ?_
        refine z_iload_n X dX6_put_42 1 rfl rfl ?_
        refine z_iload_n X dX6_put_43 2 rfl rfl ?_
        refine z_lload_n X dX6_put_44 3 rfl rfl ?_
        obtain ⟨r4, hr4, h⟩ := ob h
        refine z_cVV (As := [.int v1, .int v2, .long v3]) (st := []) X (tX1_store hw (mk M [] M.2.1 []) hr4) w_356 mvX1_store (by rw [eR]; exact ⟨Nat.le_of_ble_eq_true rfl, Nat.le_of_ble_eq_true rfl⟩) ⟨rfl, rfl⟩ rfl (Nat.le_of_ble_eq_true rfl) (hw.2.2.2.2.1 _) rfl rfl dX6_put_45 ?_
        refine z_mem (mk_mk (l' := []) (sl' := []) rfl rfl rfl rfl) ?_
        refine z_iconst (v := (nI 1)) X dX6_put_48 (by decide) ?_
        have hq := Option.some.inj h
        subst hq
        exact z_iret hs dX6_put_49 rfl
      · rw [if_pos c32] at h
        refine z_bipush (v := (-13 : Int32)) X dX6_put_35 (by decide) ?_
        have hq := Option.some.inj h
        subst hq
        exact z_iret hs dX6_put_37 rfl
    · rw [if_pos c17] at h
      refine z_bipush (v := (-11 : Int32)) X dX6_put_20 (by decide) ?_
      have hq := Option.some.inj h
      subst hq
      exact z_iret hs dX6_put_22 rfl
  · rw [if_pos c4] at h
    refine z_iconst (v := (-1 : Int32)) X dX6_put_7 (by decide) ?_
    have hq := Option.some.inj h
    subst hq
    exact z_iret hs dX6_put_8 rfl
set_option maxHeartbeats 4000000 in
theorem tX6_get {l : Launch} {D : va_G} {ct : Nat → ClassId} {tF : Nat} {wOf : Mm → va_W} {po ad : Nat → Nat} (hw : KC wOf po ad ct) (M : Mm) {v1 : Int32} {v2 : Int32} {r : Int64} (h : fX6_get (M.1 21) M.2.1 v1 v2 = some r) : CtL l yX6_get cX6_get 3 { frames := 4, cells := 0, slots := 0, locals := 85 } D ct tF wOf [.ref (ad 0), .int v1, .int v2] M r M := by
  refine metL (by decide) (Nat.le_of_ble_eq_true rfl) fun κ X e1 eR e3 e4 hs => ?_
  subst e1; subst e3; subst e4
  unfold fX6_get at h
  refine z_sub (lv' := [(0, .ref (ad 0)), (1, .int v1), (2, .int v2)]) [0, 1, 2] rfl ?_
  refine z_aload_n X dX6_get_0 0 rfl rfl ?_
  refine z_get (j := 4) (v := .ref (ad 16)) X inX6 rfl (by decide) w_338 (hw.2.2.2.2.2.2.1 _) rfl dX6_get_1 ?_
  refine z_iload_n X dX6_get_4 1 rfl rfl ?_
  refine z_iload_n X dX6_get_5 2 rfl rfl ?_
  obtain ⟨r1, hr1, h⟩ := ob h
  refine z_cVI (As := [.int v1, .int v2]) (st := []) X (tX1_isPlace hw M hr1) w_355 mvX1_isPlace (by rw [eR]; exact ⟨Nat.le_of_ble_eq_true rfl, Nat.le_of_ble_eq_true rfl⟩) ⟨rfl, rfl⟩ rfl (Nat.le_of_ble_eq_true rfl) (hw.2.2.2.2.1 _) rfl rfl dX6_get_6 ?_
  refine z_if_eq (tgt := 24) X dX6_get_9 (by decide) (fun c9 => ?_) (fun c9 => ?_)
  · rw [if_pos c9] at h
    refine z_ldc2 X w_361 dX6_get_24 ?_
    have hq := Option.some.inj h
    subst hq
    exact z_lret hs dX6_get_27
  · rw [if_neg c9] at h
    refine z_aload_n X dX6_get_12 0 rfl rfl ?_
    refine z_get (j := 4) (v := .ref (ad 16)) X inX6 rfl (by decide) w_338 (hw.2.2.2.2.2.2.1 _) rfl dX6_get_13 ?_
    refine z_iload_n X dX6_get_16 1 rfl rfl ?_
    refine z_iload_n X dX6_get_17 2 rfl rfl ?_
    obtain ⟨r2, hr2, h⟩ := ob h
    refine z_cVL (As := [.int v1, .int v2]) (st := []) X (tX1_valueAt hw M hr2) w_362 mvX1_valueAt (by rw [eR]; exact ⟨Nat.le_of_ble_eq_true rfl, Nat.le_of_ble_eq_true rfl⟩) ⟨rfl, rfl⟩ rfl (Nat.le_of_ble_eq_true rfl) (hw.2.2.2.2.1 _) rfl rfl dX6_get_18 ?_
    refine z_goto (tgt := 27) X dX6_get_21 (by decide) ?_
    have hq := Option.some.inj h
    subst hq
    exact z_lret hs dX6_get_27
set_option maxHeartbeats 4000000 in
theorem bX6_play_B34 {κ : Rx} {ct : Nat → ClassId} {tF : Nat} {po ad : Nat → Nat} (X : CX κ ct tF cX6_play 5 RX6) (eR : kR κ = { frames := 5, cells := 0, slots := 0, locals := 116 }) (hw : KC (kw κ) po ad ct) (M : Mm)  (v1 : Int32) (v2 : Int32) : ∀ (x : (Int32 × (Nat → Int32) × Int32 × Int32)) (s : (Int32 × (Nat → Int32) × Int32 × Int32) ⊕ (((Nat → Int32) × Int32 × Int32) ⊕ (Int32 × (Nat → Int32) × Int32 × Int32))), fX6_play_B34 (M.1 2) (M.1 3) (M.1 21) M.2.1 v1 v2 x = some s → Sum.elim (fun x => Zj κ 5 34 [(0, .ref (ad 0)), (1, .int v1), (2, .int v2), (3, .int x.1)] [] (mk M [(15, x.2.1)] M.2.1 [(41, x.2.2.1), (44, x.2.2.2)])) (Sum.elim (fun y => Zj κ 5 80 [(2, .int v2)] [] (mk M [(15, y.1)] M.2.1 [(41, y.2.1), (44, y.2.2)])) (fun r => ZI κ cX6_play .int r.1 (mk M [(15, r.2.1)] M.2.1 [(41, r.2.2.1), (44, r.2.2.2)]))) s → Zj κ 5 34 [(0, .ref (ad 0)), (1, .int v1), (2, .int v2), (3, .int x.1)] [] (mk M [(15, x.2.1)] M.2.1 [(41, x.2.2.1), (44, x.2.2.2)]) := by
  intro x s h hs
  unfold fX6_play_B34 at h
  refine z_iload_n X dX6_play_34 3 rfl rfl ?_
  refine z_iload_n X dX6_play_35 2 rfl rfl ?_
  refine z_icmp_ge (tgt := 80) X dX6_play_36 (by decide) (fun c36 => ?_) (fun c36 => ?_)
  · rw [if_pos c36] at h
    have hq := Option.some.inj h
    subst hq
    exact z_sub [2] rfl hs
  · rw [if_neg c36] at h
    refine z_aload_n X dX6_play_39 0 rfl rfl ?_
    refine z_get (j := 0) (v := .ref (ad 1)) X inX6 rfl (by decide) w_7 (hw.2.2.2.2.2.2.1 _) rfl dX6_play_40 ?_
    refine z_aload_n X dX6_play_43 0 rfl rfl ?_
    refine z_get (j := 9) (v := .int x.2.2.1) X inX6 rfl (by decide) w_8 (hw.2.2.2.2.2.2.1 _) rfl dX6_play_44 ?_
    refine z_aload_n X dX6_play_47 0 rfl rfl ?_
    refine z_get (j := 4) (v := .ref (ad 16)) X inX6 rfl (by decide) w_338 (hw.2.2.2.2.2.2.1 _) rfl dX6_play_48 ?_
    refine z_iload_n X dX6_play_51 1 rfl rfl ?_
    refine z_iload_n X dX6_play_52 3 rfl rfl ?_
    obtain ⟨r1, hr1, h⟩ := ob h
    refine z_cVL (As := [.int v1, .int x.1]) (st := [.int x.2.2.1, .ref (ad 1)]) X (tX1_valueAt hw (mk M [(15, x.2.1)] M.2.1 [(41, x.2.2.1), (44, x.2.2.2)]) hr1) w_362 mvX1_valueAt (by rw [eR]; exact ⟨Nat.le_of_ble_eq_true rfl, Nat.le_of_ble_eq_true rfl⟩) ⟨rfl, rfl⟩ rfl (Nat.le_of_ble_eq_true rfl) (hw.2.2.2.2.1 _) rfl rfl dX6_play_53 ?_
    obtain ⟨r2, hr2, h⟩ := ob h
    refine z_cVI (As := [.int x.2.2.1, .long r1]) (st := []) X (tX0_turnedAsTold hw.1 (mk M [(15, x.2.1)] M.2.1 [(41, x.2.2.1), (44, x.2.2.2)]) hr2) w_370 mvX0_turnedAsTold (by rw [eR]; exact ⟨Nat.le_of_ble_eq_true rfl, Nat.le_of_ble_eq_true rfl⟩) ⟨rfl, rfl⟩ rfl (Nat.le_of_ble_eq_true rfl) (hw.1.1 _) rfl rfl dX6_play_56 ?_
    refine z_istore (lv' := [(4, .int r2), (0, .ref (ad 0)), (1, .int v1), (2, .int v2), (3, .int x.1)]) X dX6_play_59 (by decide) rfl ?_
    refine z_iload X dX6_play_61 0 rfl ?_
    refine z_if_ne (tgt := 68) X dX6_play_63 (by decide) (fun c63 => ?_) (fun c63 => ?_)
    · rw [if_neg c63] at h
      refine z_aload_n X dX6_play_68 1 rfl rfl ?_
      refine z_iload X dX6_play_69 0 rfl ?_
      obtain ⟨r3, hr3, h⟩ := ob h
      refine z_cVV (As := [.int r2]) (st := []) X (tX6_become hw (mk M [(15, x.2.1)] M.2.1 [(41, x.2.2.1), (44, x.2.2.2)]) hr3) w_54 mvX6_become (by rw [eR]; exact ⟨Nat.le_of_ble_eq_true rfl, Nat.le_of_ble_eq_true rfl⟩) ⟨rfl, rfl⟩ rfl (Nat.le_of_ble_eq_true rfl) (hw.2.2.2.2.2.2.1 _) rfl rfl dX6_play_71 ?_
      refine z_mem (mk_mk (l' := [(15, r3.1)]) (sl' := [(41, r3.2.1), (44, r3.2.2)]) rfl rfl rfl rfl) ?_
      refine z_iinc (v := (x.1 + nI 1)) (lv' := [(3, .int (x.1 + nI 1)), (4, .int r2), (0, .ref (ad 0)), (1, .int v1), (2, .int v2)]) X dX6_play_74 4 rfl rfl (by decide) rfl ?_
      refine z_goto (tgt := 34) X dX6_play_77 (by decide) ?_
      have hq := Option.some.inj h
      subst hq
      exact z_sub [2, 3, 4, 0] rfl hs
    · rw [if_pos c63] at h
      refine z_iload_n X dX6_play_66 4 rfl rfl ?_
      have hq := Option.some.inj h
      subst hq
      exact z_iret hs dX6_play_67 rfl
set_option maxHeartbeats 4000000 in
theorem tX6_play {l : Launch} {D : va_G} {ct : Nat → ClassId} {tF : Nat} {wOf : Mm → va_W} {po ad : Nat → Nat} (hw : KC wOf po ad ct) (M : Mm) {v1 : Int32} {r : (Int32 × (Nat → Int32) × Int32 × Int32)} (h : fX6_play (M.1 2) (M.1 3) (M.1 15) (M.1 21) M.2.1 (M.2.2 41) (M.2.2 44) v1 = some r) : CtI l yX6_play cX6_play 5 .int { frames := 5, cells := 0, slots := 0, locals := 116 } D ct tF wOf [.ref (ad 0), .int v1] M r.1 (mk M [(15, r.2.1)] M.2.1 [(41, r.2.2.1), (44, r.2.2.2)]) := by
  refine metI (by decide) (Nat.le_of_ble_eq_true rfl) fun κ X e1 eR e3 e4 hs => ?_
  subst e1; subst e3; subst e4
  unfold fX6_play at h
  refine z_mem (mk_self M [15] [41, 44]) ?_
  refine z_sub (lv' := [(0, .ref (ad 0)), (1, .int v1)]) [0, 1] rfl ?_
  show Zj κ 5 0 _ _ (mk M [(15, (M.1 15))] M.2.1 [(41, (M.2.2 41)), (44, (M.2.2 44))])
  refine z_iload_n X dX6_play_0 1 rfl rfl ?_
  obtain ⟨r1, hr1, h⟩ := ob h
  refine z_cSI (As := [.int v1]) (st := []) X (tX1_isList hw (mk M [(15, (M.1 15))] M.2.1 [(41, (M.2.2 41)), (44, (M.2.2 44))]) hr1) w_337 msX1_isList (by rw [eR]; exact ⟨Nat.le_of_ble_eq_true rfl, Nat.le_of_ble_eq_true rfl⟩) ⟨rfl, rfl⟩ rfl (Nat.le_of_ble_eq_true rfl) rfl dX6_play_1 ?_
  refine z_if_ne (tgt := 9) X dX6_play_4 (by decide) (fun c4 => ?_) (fun c4 => ?_)
  · rw [if_neg c4] at h
    refine z_aload_n X dX6_play_9 0 rfl rfl ?_
    refine z_get (j := 4) (v := .ref (ad 16)) X inX6 rfl (by decide) w_338 (hw.2.2.2.2.2.2.1 _) rfl dX6_play_10 ?_
    refine z_iload_n X dX6_play_13 1 rfl rfl ?_
    obtain ⟨r2, hr2, h⟩ := ob h
    refine z_cVI (As := [.int v1]) (st := []) X (tX1_isThere hw (mk M [(15, (M.1 15))] M.2.1 [(41, (M.2.2 41)), (44, (M.2.2 44))]) hr2) w_351 mvX1_isThere (by rw [eR]; exact ⟨Nat.le_of_ble_eq_true rfl, Nat.le_of_ble_eq_true rfl⟩) ⟨rfl, rfl⟩ rfl (Nat.le_of_ble_eq_true rfl) (hw.2.2.2.2.1 _) rfl rfl dX6_play_14 ?_
    refine z_if_ne (tgt := 23) X dX6_play_17 (by decide) (fun c17 => ?_) (fun c17 => ?_)
    · rw [if_neg c17] at h
      refine z_aload_n X dX6_play_23 0 rfl rfl ?_
      refine z_get (j := 4) (v := .ref (ad 16)) X inX6 rfl (by decide) w_338 (hw.2.2.2.2.2.2.1 _) rfl dX6_play_24 ?_
      refine z_iload_n X dX6_play_27 1 rfl rfl ?_
      obtain ⟨r3, hr3, h⟩ := ob h
      refine z_cVI (As := [.int v1]) (st := []) X (tX1_lengthOf hw (mk M [(15, (M.1 15))] M.2.1 [(41, (M.2.2 41)), (44, (M.2.2 44))]) hr3) w_369 mvX1_lengthOf (by rw [eR]; exact ⟨Nat.le_of_ble_eq_true rfl, Nat.le_of_ble_eq_true rfl⟩) ⟨rfl, rfl⟩ rfl (Nat.le_of_ble_eq_true rfl) (hw.2.2.2.2.1 _) rfl rfl dX6_play_28 ?_
      refine z_istore_n (lv' := [(2, .int r3), (0, .ref (ad 0)), (1, .int v1)]) X dX6_play_31 rfl (by decide) rfl ?_
      refine z_iconst (v := (nI 0)) X dX6_play_32 (by decide) ?_
      refine z_istore_n (lv' := [(3, .int (nI 0)), (2, .int r3), (0, .ref (ad 0)), (1, .int v1)]) X dX6_play_33 rfl (by decide) rfl ?_
      refine z_sub [2, 3, 1, 0] rfl ?_
      obtain ⟨y4_, hy4, h⟩ := ob h
      cases y4_ with
      | inl y4 =>
        rw [Sum.elim_inl] at h
        refine (it_Z (bX6_play_B34 X eR hw M v1 r3) FU _ (.inl y4) hy4) ?_
        refine z_iload_n X dX6_play_80 0 rfl rfl ?_
        have hq := Option.some.inj h
        subst hq
        exact z_iret hs dX6_play_81 rfl
      | inr y4 =>
        rw [Sum.elim_inr] at h
        have hq := Option.some.inj h
        subst hq
        exact (it_Z (bX6_play_B34 X eR hw M v1 r3) FU _ (.inr _) hy4) hs
    · rw [if_pos c17] at h
      refine z_bipush (v := (-11 : Int32)) X dX6_play_20 (by decide) ?_
      have hq := Option.some.inj h
      subst hq
      exact z_iret hs dX6_play_22 rfl
  · rw [if_pos c4] at h
    refine z_iconst (v := (-1 : Int32)) X dX6_play_7 (by decide) ?_
    have hq := Option.some.inj h
    subst hq
    exact z_iret hs dX6_play_8 rfl
set_option maxHeartbeats 4000000 in
theorem bX6_film_B76 {κ : Rx} {ct : Nat → ClassId} {tF : Nat} {po ad : Nat → Nat} (X : CX κ ct tF cX6_film 8 RX6) (eR : kR κ = { frames := 6, cells := 0, slots := 0, locals := 141 }) (hw : KC (kw κ) po ad ct) (M : Mm) (a_ups : Nat → Int32) (a_backs : Nat → Int32) (a_learned : Nat → Int32) (a_turns : Nat → Int32) (a_queue : Nat → Int32) (a_lengths : Nat → Int32) (s_queued : Int32) (s_measured : Int32) (v1 : Int32) (v4 : Int32) : ∀ (x : (Int32 × Int32 × (Nat → Nat → Int64))) (s : (Int32 × Int32 × (Nat → Nat → Int64)) ⊕ (Nat → Nat → Int64)), fX6_film_B76 (M.1 2) (M.1 3) a_ups a_backs a_turns a_lengths v1 v4 x = some s → Sum.elim (fun x => Zj κ 8 76 [(0, .ref (ad 0)), (1, .int v1), (4, .int v4), (5, .int x.1), (6, .int x.2.1)] [] (mk M [(8, a_ups), (9, a_backs), (10, a_learned), (11, a_turns), (12, a_queue), (21, a_lengths)] x.2.2 [(42, s_queued), (43, s_measured)])) (fun y => Zj κ 8 127 [(4, .int v4)] [] (mk M [(8, a_ups), (9, a_backs), (10, a_learned), (11, a_turns), (12, a_queue), (21, a_lengths)] y [(42, s_queued), (43, s_measured)])) s → Zj κ 8 76 [(0, .ref (ad 0)), (1, .int v1), (4, .int v4), (5, .int x.1), (6, .int x.2.1)] [] (mk M [(8, a_ups), (9, a_backs), (10, a_learned), (11, a_turns), (12, a_queue), (21, a_lengths)] x.2.2 [(42, s_queued), (43, s_measured)]) := by
  intro x s h hs
  unfold fX6_film_B76 at h
  refine z_iload X dX6_film_76 4 rfl ?_
  refine z_iload X dX6_film_78 2 rfl ?_
  refine z_icmp_ge (tgt := 127) X dX6_film_80 (by decide) (fun c80 => ?_) (fun c80 => ?_)
  · rw [if_pos c80] at h
    have hq := Option.some.inj h
    subst hq
    exact z_sub [2] rfl hs
  · rw [if_neg c80] at h
    refine z_aload_n X dX6_film_83 0 rfl rfl ?_
    refine z_get (j := 2) (v := .ref (ad 7)) X inX6 rfl (by decide) w_252 (hw.2.2.2.2.2.2.1 _) rfl dX6_film_84 ?_
    refine z_iload X dX6_film_87 3 rfl ?_
    obtain ⟨r1, hr1, h⟩ := ob h
    refine z_cVI (As := [.int x.1]) (st := []) X (tX5_firstTurn hw (mk M [(8, a_ups), (9, a_backs), (10, a_learned), (11, a_turns), (12, a_queue), (21, a_lengths)] x.2.2 [(42, s_queued), (43, s_measured)]) hr1) w_258 mvX5_firstTurn (by rw [eR]; exact ⟨Nat.le_of_ble_eq_true rfl, Nat.le_of_ble_eq_true rfl⟩) ⟨rfl, rfl⟩ rfl (Nat.le_of_ble_eq_true rfl) (hw.2.2.1 _) rfl rfl dX6_film_89 ?_
    refine z_istore (lv' := [(7, .int r1), (0, .ref (ad 0)), (1, .int v1), (4, .int v4), (5, .int x.1), (6, .int x.2.1)]) X dX6_film_92 (by decide) rfl ?_
    refine z_aload_n X dX6_film_94 1 rfl rfl ?_
    refine z_get (j := 4) (v := .ref (ad 16)) X inX6 rfl (by decide) w_338 (hw.2.2.2.2.2.2.1 _) rfl dX6_film_95 ?_
    refine z_iload_n X dX6_film_98 2 rfl rfl ?_
    refine z_iload X dX6_film_99 5 rfl ?_
    refine z_iload X dX6_film_101 0 rfl ?_
    refine z_i2l X dX6_film_103 ?_
    obtain ⟨r2, hr2, h⟩ := ob h
    refine z_cVV (As := [.int v1, .int x.2.1, .long (r1.toInt64)]) (st := []) X (tX1_store hw (mk M [(8, a_ups), (9, a_backs), (10, a_learned), (11, a_turns), (12, a_queue), (21, a_lengths)] x.2.2 [(42, s_queued), (43, s_measured)]) hr2) w_356 mvX1_store (by rw [eR]; exact ⟨Nat.le_of_ble_eq_true rfl, Nat.le_of_ble_eq_true rfl⟩) ⟨rfl, rfl⟩ rfl (Nat.le_of_ble_eq_true rfl) (hw.2.2.2.2.1 _) rfl rfl dX6_film_104 ?_
    refine z_mem (mk_mk (l' := [(8, a_ups), (9, a_backs), (10, a_learned), (11, a_turns), (12, a_queue), (21, a_lengths)]) (sl' := [(42, s_queued), (43, s_measured)]) rfl rfl rfl rfl) ?_
    refine z_aload_n X dX6_film_107 1 rfl rfl ?_
    refine z_get (j := 0) (v := .ref (ad 1)) X inX6 rfl (by decide) w_7 (hw.2.2.2.2.2.2.1 _) rfl dX6_film_108 ?_
    refine z_iload X dX6_film_111 4 rfl ?_
    refine z_iload X dX6_film_113 0 rfl ?_
    refine z_i2l X dX6_film_115 ?_
    obtain ⟨r3, hr3, h⟩ := ob h
    refine z_cVI (As := [.int x.1, .long (r1.toInt64)]) (st := []) X (tX0_turnedAsTold hw.1 (mk M [(8, a_ups), (9, a_backs), (10, a_learned), (11, a_turns), (12, a_queue), (21, a_lengths)] r2 [(42, s_queued), (43, s_measured)]) hr3) w_370 mvX0_turnedAsTold (by rw [eR]; exact ⟨Nat.le_of_ble_eq_true rfl, Nat.le_of_ble_eq_true rfl⟩) ⟨rfl, rfl⟩ rfl (Nat.le_of_ble_eq_true rfl) (hw.1.1 _) rfl rfl dX6_film_116 ?_
    refine z_istore (lv' := [(5, .int r3), (7, .int r1), (0, .ref (ad 0)), (1, .int v1), (4, .int v4), (6, .int x.2.1)]) X dX6_film_119 (by decide) rfl ?_
    refine z_iinc (v := (x.2.1 + nI 1)) (lv' := [(6, .int (x.2.1 + nI 1)), (5, .int r3), (7, .int r1), (0, .ref (ad 0)), (1, .int v1), (4, .int v4)]) X dX6_film_121 5 rfl rfl (by decide) rfl ?_
    refine z_goto (tgt := 76) X dX6_film_124 (by decide) ?_
    have hq := Option.some.inj h
    subst hq
    exact z_sub [3, 4, 5, 1, 0] rfl hs
set_option maxHeartbeats 4000000 in
theorem tX6_film {l : Launch} {D : va_G} {ct : Nat → ClassId} {tF : Nat} {wOf : Mm → va_W} {po ad : Nat → Nat} (hw : KC wOf po ad ct) (M : Mm) {v1 : Int32} {v2 : Int32} {r : (Int32 × (Nat → Int32) × (Nat → Int32) × (Nat → Int32) × (Nat → Int32) × (Nat → Int32) × (Nat → Int32) × (Nat → Nat → Int64) × Int32 × Int32)} (h : fX6_film (M.1 2) (M.1 3) (M.1 8) (M.1 9) (M.1 10) (M.1 11) (M.1 12) (M.1 21) (M.1 27) M.2.1 (M.2.2 41) (M.2.2 42) (M.2.2 43) v1 v2 = some r) : CtI l yX6_film cX6_film 8 .int { frames := 6, cells := 0, slots := 0, locals := 141 } D ct tF wOf [.ref (ad 0), .int v1, .int v2] M r.1 (mk M [(8, r.2.1), (9, r.2.2.1), (10, r.2.2.2.1), (11, r.2.2.2.2.1), (12, r.2.2.2.2.2.1), (21, r.2.2.2.2.2.2.1)] r.2.2.2.2.2.2.2.1 [(42, r.2.2.2.2.2.2.2.2.1), (43, r.2.2.2.2.2.2.2.2.2)]) := by
  refine metI (by decide) (Nat.le_of_ble_eq_true rfl) fun κ X e1 eR e3 e4 hs => ?_
  subst e1; subst e3; subst e4
  unfold fX6_film at h
  refine z_mem (mk_self M [8, 9, 10, 11, 12, 21] [42, 43]) ?_
  refine z_sub (lv' := [(0, .ref (ad 0)), (1, .int v1), (2, .int v2)]) [0, 1, 2] rfl ?_
  show Zj κ 8 0 _ _ (mk M [(8, (M.1 8)), (9, (M.1 9)), (10, (M.1 10)), (11, (M.1 11)), (12, (M.1 12)), (21, (M.1 21))] M.2.1 [(42, (M.2.2 42)), (43, (M.2.2 43))])
  refine z_iload_n X dX6_film_0 1 rfl rfl ?_
  obtain ⟨r1, hr1, h⟩ := ob h
  refine z_cSI (As := [.int v1]) (st := []) X (tX1_isList hw (mk M [(8, (M.1 8)), (9, (M.1 9)), (10, (M.1 10)), (11, (M.1 11)), (12, (M.1 12)), (21, (M.1 21))] M.2.1 [(42, (M.2.2 42)), (43, (M.2.2 43))]) hr1) w_337 msX1_isList (by rw [eR]; exact ⟨Nat.le_of_ble_eq_true rfl, Nat.le_of_ble_eq_true rfl⟩) ⟨rfl, rfl⟩ rfl (Nat.le_of_ble_eq_true rfl) rfl dX6_film_1 ?_
  refine z_if_ne (tgt := 9) X dX6_film_4 (by decide) (fun c4 => ?_) (fun c4 => ?_)
  · rw [if_neg c4] at h
    refine z_aload_n X dX6_film_9 0 rfl rfl ?_
    refine z_iload_n X dX6_film_10 2 rfl rfl ?_
    obtain ⟨r2, hr2, h⟩ := ob h
    refine z_cVI (As := [.int v2]) (st := []) X (tX6_refusal hw (mk M [(8, (M.1 8)), (9, (M.1 9)), (10, (M.1 10)), (11, (M.1 11)), (12, (M.1 12)), (21, (M.1 21))] M.2.1 [(42, (M.2.2 42)), (43, (M.2.2 43))]) hr2) w_166 mvX6_refusal (by rw [eR]; exact ⟨Nat.le_of_ble_eq_true rfl, Nat.le_of_ble_eq_true rfl⟩) ⟨rfl, rfl⟩ rfl (Nat.le_of_ble_eq_true rfl) (hw.2.2.2.2.2.2.1 _) rfl rfl dX6_film_11 ?_
    refine z_istore_n (lv' := [(3, .int r2), (0, .ref (ad 0)), (1, .int v1), (2, .int v2)]) X dX6_film_14 rfl (by decide) rfl ?_
    refine z_iload_n X dX6_film_15 0 rfl rfl ?_
    refine z_if_eq (tgt := 21) X dX6_film_16 (by decide) (fun c16 => ?_) (fun c16 => ?_)
    · rw [if_pos c16] at h
      refine z_aload_n X dX6_film_21 1 rfl rfl ?_
      refine z_get (j := 2) (v := .ref (ad 7)) X inX6 rfl (by decide) w_252 (hw.2.2.2.2.2.2.1 _) rfl dX6_film_22 ?_
      refine z_aload_n X dX6_film_25 1 rfl rfl ?_
      refine z_get (j := 6) (v := .ref (ad 27)) X inX6 rfl (by decide) w_161 (hw.2.2.2.2.2.2.1 _) rfl dX6_film_26 ?_
      refine z_iload_n X dX6_film_29 3 rfl rfl ?_
      obtain ⟨t3, ht3, h⟩ := ob h
      refine z_iald X (hw.2.2.2.2.2.2.2.2.2.2.2.2.2.2.2.2.2.2.2.2.2.1 _).1 (rd_ok ht3) dX6_film_30 ?_
      obtain ⟨r4, hr4, h⟩ := ob h
      refine z_cVV (As := [.int t3]) (st := []) X (tX5_measure hw (mk M [(8, (M.1 8)), (9, (M.1 9)), (10, (M.1 10)), (11, (M.1 11)), (12, (M.1 12)), (21, (M.1 21))] M.2.1 [(42, (M.2.2 42)), (43, (M.2.2 43))]) hr4) w_253 mvX5_measure (by rw [eR]; exact ⟨Nat.le_of_ble_eq_true rfl, Nat.le_of_ble_eq_true rfl⟩) ⟨rfl, rfl⟩ rfl (Nat.le_of_ble_eq_true rfl) (hw.2.2.1 _) rfl rfl dX6_film_31 ?_
      refine z_mem (mk_mk (l' := [(8, r4.1), (9, r4.2.1), (10, r4.2.2.1), (11, r4.2.2.2.1), (12, r4.2.2.2.2.1), (21, (M.1 21))]) (sl' := [(42, r4.2.2.2.2.2.1), (43, r4.2.2.2.2.2.2)]) rfl rfl rfl rfl) ?_
      refine z_aload_n X dX6_film_34 1 rfl rfl ?_
      refine z_get (j := 2) (v := .ref (ad 7)) X inX6 rfl (by decide) w_252 (hw.2.2.2.2.2.2.1 _) rfl dX6_film_35 ?_
      refine z_aload_n X dX6_film_38 1 rfl rfl ?_
      refine z_get (j := 9) (v := .int (M.2.2 41)) X inX6 rfl (by decide) w_8 (hw.2.2.2.2.2.2.1 _) rfl dX6_film_39 ?_
      obtain ⟨r5, hr5, h⟩ := ob h
      refine z_cVI (As := [.int (M.2.2 41)]) (st := []) X (tX5_turnsFrom hw (mk M [(8, r4.1), (9, r4.2.1), (10, r4.2.2.1), (11, r4.2.2.2.1), (12, r4.2.2.2.2.1), (21, (M.1 21))] M.2.1 [(42, r4.2.2.2.2.2.1), (43, r4.2.2.2.2.2.2)]) hr5) w_257 mvX5_turnsFrom (by rw [eR]; exact ⟨Nat.le_of_ble_eq_true rfl, Nat.le_of_ble_eq_true rfl⟩) ⟨rfl, rfl⟩ rfl (Nat.le_of_ble_eq_true rfl) (hw.2.2.1 _) rfl rfl dX6_film_42 ?_
      refine z_istore (lv' := [(4, .int r5), (3, .int r2), (0, .ref (ad 0)), (1, .int v1), (2, .int v2)]) X dX6_film_45 (by decide) rfl ?_
      refine z_iload X dX6_film_47 0 rfl ?_
      refine z_bipush (v := (nI 20)) X dX6_film_49 (by decide) ?_
      refine z_icmp_le (tgt := 57) X dX6_film_51 (by decide) (fun c51 => ?_) (fun c51 => ?_)
      · rw [if_pos c51] at h
        refine z_aload_n X dX6_film_57 2 rfl rfl ?_
        refine z_get (j := 4) (v := .ref (ad 16)) X inX6 rfl (by decide) w_338 (hw.2.2.2.2.2.2.1 _) rfl dX6_film_58 ?_
        refine z_iload_n X dX6_film_61 3 rfl rfl ?_
        refine z_iload X dX6_film_62 0 rfl ?_
        obtain ⟨r6, hr6, h⟩ := ob h
        refine z_cVV (As := [.int v1, .int r5]) (st := []) X (tX1_renew hw (mk M [(8, r4.1), (9, r4.2.1), (10, r4.2.2.1), (11, r4.2.2.2.1), (12, r4.2.2.2.2.1), (21, (M.1 21))] M.2.1 [(42, r4.2.2.2.2.2.1), (43, r4.2.2.2.2.2.2)]) hr6) w_339 mvX1_renew (by rw [eR]; exact ⟨Nat.le_of_ble_eq_true rfl, Nat.le_of_ble_eq_true rfl⟩) ⟨rfl, rfl⟩ rfl (Nat.le_of_ble_eq_true rfl) (hw.2.2.2.2.1 _) rfl rfl dX6_film_64 ?_
        refine z_mem (mk_mk (l' := [(8, r4.1), (9, r4.2.1), (10, r4.2.2.1), (11, r4.2.2.2.1), (12, r4.2.2.2.2.1), (21, r6.1)]) (sl' := [(42, r4.2.2.2.2.2.1), (43, r4.2.2.2.2.2.2)]) rfl rfl rfl rfl) ?_
        refine z_aload_n X dX6_film_67 2 rfl rfl ?_
        refine z_get (j := 9) (v := .int (M.2.2 41)) X inX6 rfl (by decide) w_8 (hw.2.2.2.2.2.2.1 _) rfl dX6_film_68 ?_
        refine z_istore (lv' := [(5, .int (M.2.2 41)), (4, .int r5), (3, .int r2), (0, .ref (ad 0)), (1, .int v1), (2, .int v2)]) X dX6_film_71 (by decide) rfl ?_
        refine z_iconst (v := (nI 0)) X dX6_film_73 (by decide) ?_
        refine z_istore (lv' := [(6, .int (nI 0)), (5, .int (M.2.2 41)), (4, .int r5), (3, .int r2), (0, .ref (ad 0)), (1, .int v1), (2, .int v2)]) X dX6_film_74 (by decide) rfl ?_
        refine z_sub [4, 5, 2, 1, 0] rfl ?_
        obtain ⟨y7, hy7, h⟩ := ob h
        refine (it_Z (bX6_film_B76 X eR hw M r4.1 r4.2.1 r4.2.2.1 r4.2.2.2.1 r4.2.2.2.2.1 r6.1 r4.2.2.2.2.2.1 r4.2.2.2.2.2.2 v1 r5) FU _ y7 hy7) ?_
        refine z_iload X dX6_film_127 0 rfl ?_
        have hq := Option.some.inj h
        subst hq
        exact z_iret hs dX6_film_129 rfl
      · rw [if_neg c51] at h
        refine z_bipush (v := (-4 : Int32)) X dX6_film_54 (by decide) ?_
        have hq := Option.some.inj h
        subst hq
        exact z_iret hs dX6_film_56 rfl
    · rw [if_neg c16] at h
      refine z_iload_n X dX6_film_19 0 rfl rfl ?_
      have hq := Option.some.inj h
      subst hq
      exact z_iret hs dX6_film_20 rfl
  · rw [if_pos c4] at h
    refine z_iconst (v := (-1 : Int32)) X dX6_film_7 (by decide) ?_
    have hq := Option.some.inj h
    subst hq
    exact z_iret hs dX6_film_8 rfl
set_option maxHeartbeats 4000000 in
theorem tX6_feed {l : Launch} {D : va_G} {ct : Nat → ClassId} {tF : Nat} {wOf : Mm → va_W} {po ad : Nat → Nat} (hw : KC wOf po ad ct) (M : Mm) {v1 : Int32} {r : (Int32 × (Nat → Int32) × Int32)} (h : fX6_feed (M.1 23) (M.2.2 45) v1 = some r) : CtI l yX6_feed cX6_feed 2 .int { frames := 1, cells := 0, slots := 0, locals := 21 } D ct tF wOf [.ref (ad 0), .int v1] M r.1 (mk M [(23, r.2.1)] M.2.1 [(45, r.2.2)]) := by
  refine metI (by decide) (Nat.le_of_ble_eq_true rfl) fun κ X e1 eR e3 e4 hs => ?_
  subst e1; subst e3; subst e4
  unfold fX6_feed at h
  refine z_mem (mk_self M [23] [45]) ?_
  refine z_sub (lv' := [(0, .ref (ad 0)), (1, .int v1)]) [0, 1] rfl ?_
  show Zj κ 2 0 _ _ (mk M [(23, (M.1 23))] M.2.1 [(45, (M.2.2 45))])
  refine z_iload_n X dX6_feed_0 1 rfl rfl ?_
  refine z_bipush (v := (nI 32)) X dX6_feed_1 (by decide) ?_
  refine z_icmp_lt (tgt := 12) X dX6_feed_3 (by decide) (fun c3 => ?_) (fun c3 => ?_)
  · rw [if_pos c3] at h
    refine z_bipush (v := (-2 : Int32)) X dX6_feed_12 (by decide) ?_
    have hq := Option.some.inj h
    subst hq
    exact z_iret hs dX6_feed_14 rfl
  · rw [if_neg c3] at h
    refine z_iload_n X dX6_feed_6 1 rfl rfl ?_
    refine z_bipush (v := (nI 126)) X dX6_feed_7 (by decide) ?_
    refine z_icmp_le (tgt := 15) X dX6_feed_9 (by decide) (fun c9 => ?_) (fun c9 => ?_)
    · rw [if_pos c9] at h
      refine z_aload_n X dX6_feed_15 0 rfl rfl ?_
      refine z_get (j := 5) (v := .ref (ad 22)) X inX6 rfl (by decide) w_376 (hw.2.2.2.2.2.2.1 _) rfl dX6_feed_16 ?_
      refine z_iload_n X dX6_feed_19 1 rfl rfl ?_
      obtain ⟨r1, hr1, h⟩ := ob h
      refine z_cVI (As := [.int v1]) (st := []) X (tX4_append hw (mk M [(23, (M.1 23))] M.2.1 [(45, (M.2.2 45))]) hr1) w_377 mvX4_append (by rw [eR]; exact ⟨Nat.le_of_ble_eq_true rfl, Nat.le_of_ble_eq_true rfl⟩) ⟨rfl, rfl⟩ rfl (Nat.le_of_ble_eq_true rfl) (hw.2.2.2.2.2.1 _) rfl rfl dX6_feed_20 ?_
      refine z_mem (mk_mk (l' := [(23, r1.2.1)]) (sl' := [(45, r1.2.2)]) rfl rfl rfl rfl) ?_
      refine z_if_eq (tgt := 36) X dX6_feed_23 (by decide) (fun c23 => ?_) (fun c23 => ?_)
      · rw [if_pos c23] at h
        refine z_bipush (v := (-4 : Int32)) X dX6_feed_36 (by decide) ?_
        have hq := Option.some.inj h
        subst hq
        exact z_iret hs dX6_feed_38 rfl
      · rw [if_neg c23] at h
        refine z_aload_n X dX6_feed_26 0 rfl rfl ?_
        refine z_get (j := 5) (v := .ref (ad 22)) X inX6 rfl (by decide) w_376 (hw.2.2.2.2.2.2.1 _) rfl dX6_feed_27 ?_
        obtain ⟨r2, hr2, h⟩ := ob h
        refine z_cVI (As := []) (st := []) X (tX4_length hw (mk M [(23, r1.2.1)] M.2.1 [(45, r1.2.2)]) hr2) w_382 mvX4_length (by rw [eR]; exact ⟨Nat.le_of_ble_eq_true rfl, Nat.le_of_ble_eq_true rfl⟩) ⟨rfl, rfl⟩ rfl (Nat.le_of_ble_eq_true rfl) (hw.2.2.2.2.2.1 _) rfl rfl dX6_feed_30 ?_
        refine z_goto (tgt := 38) X dX6_feed_33 (by decide) ?_
        have hq := Option.some.inj h
        subst hq
        exact z_iret hs dX6_feed_38 rfl
    · rw [if_neg c9] at h
      refine z_bipush (v := (-2 : Int32)) X dX6_feed_12 (by decide) ?_
      have hq := Option.some.inj h
      subst hq
      exact z_iret hs dX6_feed_14 rfl
set_option maxHeartbeats 4000000 in
theorem tX6_wipe {l : Launch} {D : va_G} {ct : Nat → ClassId} {tF : Nat} {wOf : Mm → va_W} {po ad : Nat → Nat} (hw : KC wOf po ad ct) (M : Mm)  {r : (Int32 × Int32)} (h : fX6_wipe (M.2.2 45) = some r) : CtI l yX6_wipe cX6_wipe 2 .int { frames := 1, cells := 0, slots := 0, locals := 20 } D ct tF wOf [.ref (ad 0)] M r.1 (mk M [] M.2.1 [(45, r.2)]) := by
  refine metI (by decide) (Nat.le_of_ble_eq_true rfl) fun κ X e1 eR e3 e4 hs => ?_
  subst e1; subst e3; subst e4
  unfold fX6_wipe at h
  refine z_mem (mk_self M [] [45]) ?_
  refine z_sub (lv' := [(0, .ref (ad 0))]) [0] rfl ?_
  show Zj κ 2 0 _ _ (mk M [] M.2.1 [(45, (M.2.2 45))])
  refine z_aload_n X dX6_wipe_0 0 rfl rfl ?_
  refine z_get (j := 5) (v := .ref (ad 22)) X inX6 rfl (by decide) w_376 (hw.2.2.2.2.2.2.1 _) rfl dX6_wipe_1 ?_
  obtain ⟨r1, hr1, h⟩ := ob h
  refine z_cVI (As := []) (st := []) X (tX4_length hw (mk M [] M.2.1 [(45, (M.2.2 45))]) hr1) w_382 mvX4_length (by rw [eR]; exact ⟨Nat.le_of_ble_eq_true rfl, Nat.le_of_ble_eq_true rfl⟩) ⟨rfl, rfl⟩ rfl (Nat.le_of_ble_eq_true rfl) (hw.2.2.2.2.2.1 _) rfl rfl dX6_wipe_4 ?_
  refine z_istore_n (lv' := [(1, .int r1), (0, .ref (ad 0))]) X dX6_wipe_7 rfl (by decide) rfl ?_
  refine z_aload_n X dX6_wipe_8 1 rfl rfl ?_
  refine z_get (j := 5) (v := .ref (ad 22)) X inX6 rfl (by decide) w_376 (hw.2.2.2.2.2.2.1 _) rfl dX6_wipe_9 ?_
  obtain ⟨r2, hr2, h⟩ := ob h
  refine z_cVV (As := []) (st := []) X (tX4_clear hw (mk M [] M.2.1 [(45, (M.2.2 45))]) hr2) w_386 mvX4_clear (by rw [eR]; exact ⟨Nat.le_of_ble_eq_true rfl, Nat.le_of_ble_eq_true rfl⟩) ⟨rfl, rfl⟩ rfl (Nat.le_of_ble_eq_true rfl) (hw.2.2.2.2.2.1 _) rfl rfl dX6_wipe_12 ?_
  refine z_mem (mk_mk (l' := []) (sl' := [(45, r2)]) rfl rfl rfl rfl) ?_
  refine z_iload_n X dX6_wipe_15 0 rfl rfl ?_
  have hq := Option.some.inj h
  subst hq
  exact z_iret hs dX6_wipe_16 rfl
set_option maxHeartbeats 4000000 in
theorem tX6_read {l : Launch} {D : va_G} {ct : Nat → ClassId} {tF : Nat} {wOf : Mm → va_W} {po ad : Nat → Nat} (hw : KC wOf po ad ct) (M : Mm)  {r : (Int32 × (Nat → Int32) × (Nat → Int32) × (Nat → Int32) × Int32 × Int32 × Int32 × Int32 × Int32 × Int32)} (h : fX6_read (M.1 2) (M.1 3) (M.1 23) (M.1 24) (M.1 25) (M.1 26) (M.2.2 41) (M.2.2 44) (M.2.2 45) (M.2.2 46) (M.2.2 47) (M.2.2 48) = some r) : CtI l yX6_read cX6_read 2 .int { frames := 4, cells := 0, slots := 0, locals := 84 } D ct tF wOf [.ref (ad 0)] M r.1 (mk M [(24, r.2.1), (25, r.2.2.1), (26, r.2.2.2.1)] M.2.1 [(41, r.2.2.2.2.1), (44, r.2.2.2.2.2.1), (45, r.2.2.2.2.2.2.1), (46, r.2.2.2.2.2.2.2.1), (47, r.2.2.2.2.2.2.2.2.1), (48, r.2.2.2.2.2.2.2.2.2)]) := by
  refine metI (by decide) (Nat.le_of_ble_eq_true rfl) fun κ X e1 eR e3 e4 hs => ?_
  subst e1; subst e3; subst e4
  unfold fX6_read at h
  refine z_mem (mk_self M [24, 25, 26] [41, 44, 45, 46, 47, 48]) ?_
  refine z_sub (lv' := [(0, .ref (ad 0))]) [0] rfl ?_
  show Zj κ 2 0 _ _ (mk M [(24, (M.1 24)), (25, (M.1 25)), (26, (M.1 26))] M.2.1 [(41, (M.2.2 41)), (44, (M.2.2 44)), (45, (M.2.2 45)), (46, (M.2.2 46)), (47, (M.2.2 47)), (48, (M.2.2 48))])
  refine z_aload_n X dX6_read_0 0 rfl rfl ?_
  refine z_get (j := 5) (v := .ref (ad 22)) X inX6 rfl (by decide) w_376 (hw.2.2.2.2.2.2.1 _) rfl dX6_read_1 ?_
  obtain ⟨r1, hr1, h⟩ := ob h
  refine z_cVI (As := []) (st := []) X (tX4_parse hw (mk M [(24, (M.1 24)), (25, (M.1 25)), (26, (M.1 26))] M.2.1 [(41, (M.2.2 41)), (44, (M.2.2 44)), (45, (M.2.2 45)), (46, (M.2.2 46)), (47, (M.2.2 47)), (48, (M.2.2 48))]) hr1) w_425 mvX4_parse (by rw [eR]; exact ⟨Nat.le_of_ble_eq_true rfl, Nat.le_of_ble_eq_true rfl⟩) ⟨rfl, rfl⟩ rfl (Nat.le_of_ble_eq_true rfl) (hw.2.2.2.2.2.1 _) rfl rfl dX6_read_4 ?_
  refine z_mem (mk_mk (l' := [(24, r1.2.1), (25, r1.2.2.1), (26, r1.2.2.2.1)]) (sl' := [(41, (M.2.2 41)), (44, (M.2.2 44)), (45, (M.2.2 45)), (46, r1.2.2.2.2.1), (47, r1.2.2.2.2.2.1), (48, r1.2.2.2.2.2.2)]) rfl rfl rfl rfl) ?_
  refine z_istore_n (lv' := [(1, .int r1.1), (0, .ref (ad 0))]) X dX6_read_7 rfl (by decide) rfl ?_
  refine z_aload_n X dX6_read_8 1 rfl rfl ?_
  refine z_get (j := 5) (v := .ref (ad 22)) X inX6 rfl (by decide) w_376 (hw.2.2.2.2.2.2.1 _) rfl dX6_read_9 ?_
  obtain ⟨r2, hr2, h⟩ := ob h
  refine z_cVV (As := []) (st := []) X (tX4_clear hw (mk M [(24, r1.2.1), (25, r1.2.2.1), (26, r1.2.2.2.1)] M.2.1 [(41, (M.2.2 41)), (44, (M.2.2 44)), (45, (M.2.2 45)), (46, r1.2.2.2.2.1), (47, r1.2.2.2.2.2.1), (48, r1.2.2.2.2.2.2)]) hr2) w_386 mvX4_clear (by rw [eR]; exact ⟨Nat.le_of_ble_eq_true rfl, Nat.le_of_ble_eq_true rfl⟩) ⟨rfl, rfl⟩ rfl (Nat.le_of_ble_eq_true rfl) (hw.2.2.2.2.2.1 _) rfl rfl dX6_read_12 ?_
  refine z_mem (mk_mk (l' := [(24, r1.2.1), (25, r1.2.2.1), (26, r1.2.2.2.1)]) (sl' := [(41, (M.2.2 41)), (44, (M.2.2 44)), (45, r2), (46, r1.2.2.2.2.1), (47, r1.2.2.2.2.2.1), (48, r1.2.2.2.2.2.2)]) rfl rfl rfl rfl) ?_
  refine z_iload_n X dX6_read_15 0 rfl rfl ?_
  refine z_iconst (v := (-1 : Int32)) X dX6_read_16 (by decide) ?_
  refine z_icmp_eq (tgt := 25) X dX6_read_17 (by decide) (fun c17 => ?_) (fun c17 => ?_)
  · rw [if_pos c17] at h
    refine z_aload_n X dX6_read_25 1 rfl rfl ?_
    refine z_aload_n X dX6_read_26 1 rfl rfl ?_
    refine z_get (j := 0) (v := .ref (ad 1)) X inX6 rfl (by decide) w_7 (hw.2.2.2.2.2.2.1 _) rfl dX6_read_27 ?_
    refine z_aload_n X dX6_read_30 1 rfl rfl ?_
    refine z_get (j := 5) (v := .ref (ad 22)) X inX6 rfl (by decide) w_376 (hw.2.2.2.2.2.2.1 _) rfl dX6_read_31 ?_
    obtain ⟨r3, hr3, h⟩ := ob h
    refine z_cVI (As := []) (st := [.ref (ad 1), .ref (ad 0)]) X (tX4_parsedNodes hw (mk M [(24, r1.2.1), (25, r1.2.2.1), (26, r1.2.2.2.1)] M.2.1 [(41, (M.2.2 41)), (44, (M.2.2 44)), (45, r2), (46, r1.2.2.2.2.1), (47, r1.2.2.2.2.2.1), (48, r1.2.2.2.2.2.2)]) hr3) w_429 mvX4_parsedNodes (by rw [eR]; exact ⟨Nat.le_of_ble_eq_true rfl, Nat.le_of_ble_eq_true rfl⟩) ⟨rfl, rfl⟩ rfl (Nat.le_of_ble_eq_true rfl) (hw.2.2.2.2.2.1 _) rfl rfl dX6_read_34 ?_
    refine z_aload_n X dX6_read_37 1 rfl rfl ?_
    refine z_get (j := 5) (v := .ref (ad 22)) X inX6 rfl (by decide) w_376 (hw.2.2.2.2.2.2.1 _) rfl dX6_read_38 ?_
    obtain ⟨r4, hr4, h⟩ := ob h
    refine z_cVI (As := []) (st := [.int r3, .ref (ad 1), .ref (ad 0)]) X (tX4_parsedCode hw (mk M [(24, r1.2.1), (25, r1.2.2.1), (26, r1.2.2.2.1)] M.2.1 [(41, (M.2.2 41)), (44, (M.2.2 44)), (45, r2), (46, r1.2.2.2.2.1), (47, r1.2.2.2.2.2.1), (48, r1.2.2.2.2.2.2)]) hr4) w_433 mvX4_parsedCode (by rw [eR]; exact ⟨Nat.le_of_ble_eq_true rfl, Nat.le_of_ble_eq_true rfl⟩) ⟨rfl, rfl⟩ rfl (Nat.le_of_ble_eq_true rfl) (hw.2.2.2.2.2.1 _) rfl rfl dX6_read_41 ?_
    obtain ⟨r5, hr5, h⟩ := ob h
    refine z_cVI (As := [.int r3, .int r4]) (st := [.ref (ad 0)]) X (tX0_find hw.1 (mk M [(24, r1.2.1), (25, r1.2.2.1), (26, r1.2.2.2.1)] M.2.1 [(41, (M.2.2 41)), (44, (M.2.2 44)), (45, r2), (46, r1.2.2.2.2.1), (47, r1.2.2.2.2.2.1), (48, r1.2.2.2.2.2.2)]) hr5) w_437 mvX0_find (by rw [eR]; exact ⟨Nat.le_of_ble_eq_true rfl, Nat.le_of_ble_eq_true rfl⟩) ⟨rfl, rfl⟩ rfl (Nat.le_of_ble_eq_true rfl) (hw.1.1 _) rfl rfl dX6_read_44 ?_
    refine z_put (j := 9) (ty := .int) (M' := (mk M [(24, r1.2.1), (25, r1.2.2.1), (26, r1.2.2.2.1)] M.2.1 [(41, r5), (44, (M.2.2 44)), (45, r2), (46, r1.2.2.2.2.1), (47, r1.2.2.2.2.2.1), (48, r1.2.2.2.2.2.2)])) X inX6 tyX6 tyX6_ok nmX6 rfl (by decide) w_8 rfl (by decide +kernel) rfl rfl (hw.2.2.2.2.2.2.1 _) (Nat.le_of_ble_eq_true rfl) (mk_setS (sl' := [(41, r5), (44, (M.2.2 44)), (45, r2), (46, r1.2.2.2.2.1), (47, r1.2.2.2.2.2.1), (48, r1.2.2.2.2.2.2)]) (hw.2.2.2.2.2.2.2.2.2.2.2.2.2.2.2.2.2.2.2.2.2.2.2.2.2.2.2.2.2.2.2.2.2) rfl rfl) dX6_read_47 ?_
    refine z_aload_n X dX6_read_50 1 rfl rfl ?_
    refine z_get (j := 3) (v := .ref (ad 14)) X inX6 rfl (by decide) w_27 (hw.2.2.2.2.2.2.1 _) rfl dX6_read_51 ?_
    obtain ⟨r6, hr6, h⟩ := ob h
    refine z_cVV (As := []) (st := []) X (tX3_clear hw (mk M [(24, r1.2.1), (25, r1.2.2.1), (26, r1.2.2.2.1)] M.2.1 [(41, r5), (44, (M.2.2 44)), (45, r2), (46, r1.2.2.2.2.1), (47, r1.2.2.2.2.2.1), (48, r1.2.2.2.2.2.2)]) hr6) w_28 mvX3_clear (by rw [eR]; exact ⟨Nat.le_of_ble_eq_true rfl, Nat.le_of_ble_eq_true rfl⟩) ⟨rfl, rfl⟩ rfl (Nat.le_of_ble_eq_true rfl) (hw.2.2.2.1 _) rfl rfl dX6_read_54 ?_
    refine z_mem (mk_mk (l' := [(24, r1.2.1), (25, r1.2.2.1), (26, r1.2.2.2.1)]) (sl' := [(41, r5), (44, r6), (45, r2), (46, r1.2.2.2.2.1), (47, r1.2.2.2.2.2.1), (48, r1.2.2.2.2.2.2)]) rfl rfl rfl rfl) ?_
    refine z_aload_n X dX6_read_57 1 rfl rfl ?_
    obtain ⟨r7, hr7, h⟩ := ob h
    refine z_cVI (As := []) (st := []) X (tX6_size hw (mk M [(24, r1.2.1), (25, r1.2.2.1), (26, r1.2.2.2.1)] M.2.1 [(41, r5), (44, r6), (45, r2), (46, r1.2.2.2.2.1), (47, r1.2.2.2.2.2.1), (48, r1.2.2.2.2.2.2)]) hr7) w_18 mvX6_size (by rw [eR]; exact ⟨Nat.le_of_ble_eq_true rfl, Nat.le_of_ble_eq_true rfl⟩) ⟨rfl, rfl⟩ rfl (Nat.le_of_ble_eq_true rfl) (hw.2.2.2.2.2.2.1 _) rfl rfl dX6_read_58 ?_
    have hq := Option.some.inj h
    subst hq
    exact z_iret hs dX6_read_61 rfl
  · rw [if_neg c17] at h
    refine z_bipush (v := (-100 : Int32)) X dX6_read_20 (by decide) ?_
    refine z_iload_n X dX6_read_22 0 rfl rfl ?_
    refine z_isub X dX6_read_23 ?_
    have hq := Option.some.inj h
    subst hq
    exact z_iret hs dX6_read_24 rfl
set_option maxHeartbeats 4000000 in
theorem tX6_written {l : Launch} {D : va_G} {ct : Nat → ClassId} {tF : Nat} {wOf : Mm → va_W} {po ad : Nat → Nat} (hw : KC wOf po ad ct) (M : Mm) {v1 : Int32} {r : Int32} (h : fX6_written (M.1 2) (M.1 3) (M.2.2 41) v1 = some r) : CtI l yX6_written cX6_written 2 .int { frames := 5, cells := 0, slots := 0, locals := 116 } D ct tF wOf [.ref (ad 0), .int v1] M r M := by
  refine metI (by decide) (Nat.le_of_ble_eq_true rfl) fun κ X e1 eR e3 e4 hs => ?_
  subst e1; subst e3; subst e4
  unfold fX6_written at h
  refine z_sub (lv' := [(0, .ref (ad 0)), (1, .int v1)]) [0, 1] rfl ?_
  refine z_iload_n X dX6_written_0 1 rfl rfl ?_
  refine z_iconst (v := (-1 : Int32)) X dX6_written_1 (by decide) ?_
  refine z_icmp_ne (tgt := 19) X dX6_written_2 (by decide) (fun c2 => ?_) (fun c2 => ?_)
  · rw [if_neg c2] at h
    refine z_aload_n X dX6_written_19 0 rfl rfl ?_
    refine z_get (j := 0) (v := .ref (ad 1)) X inX6 rfl (by decide) w_7 (hw.2.2.2.2.2.2.1 _) rfl dX6_written_20 ?_
    refine z_aload_n X dX6_written_23 0 rfl rfl ?_
    refine z_get (j := 9) (v := .int (M.2.2 41)) X inX6 rfl (by decide) w_8 (hw.2.2.2.2.2.2.1 _) rfl dX6_written_24 ?_
    refine z_iload_n X dX6_written_27 1 rfl rfl ?_
    obtain ⟨r1, hr1, h⟩ := ob h
    refine z_cVI (As := [.int (M.2.2 41), .int v1]) (st := []) X (tX0_textByte hw.1 M hr1) w_446 mvX0_textByte (by rw [eR]; exact ⟨Nat.le_of_ble_eq_true rfl, Nat.le_of_ble_eq_true rfl⟩) ⟨rfl, rfl⟩ rfl (Nat.le_of_ble_eq_true rfl) (hw.1.1 _) rfl rfl dX6_written_28 ?_
    have hq := Option.some.inj h
    subst hq
    exact z_iret hs dX6_written_31 rfl
  · rw [if_pos c2] at h
    refine z_aload_n X dX6_written_5 0 rfl rfl ?_
    refine z_get (j := 0) (v := .ref (ad 1)) X inX6 rfl (by decide) w_7 (hw.2.2.2.2.2.2.1 _) rfl dX6_written_6 ?_
    refine z_aload_n X dX6_written_9 0 rfl rfl ?_
    refine z_get (j := 9) (v := .int (M.2.2 41)) X inX6 rfl (by decide) w_8 (hw.2.2.2.2.2.2.1 _) rfl dX6_written_10 ?_
    obtain ⟨r2, hr2, h⟩ := ob h
    refine z_cVI (As := [.int (M.2.2 41)]) (st := []) X (tX0_textLength hw.1 M hr2) w_450 mvX0_textLength (by rw [eR]; exact ⟨Nat.le_of_ble_eq_true rfl, Nat.le_of_ble_eq_true rfl⟩) ⟨rfl, rfl⟩ rfl (Nat.le_of_ble_eq_true rfl) (hw.1.1 _) rfl rfl dX6_written_13 ?_
    refine z_goto (tgt := 31) X dX6_written_16 (by decide) ?_
    have hq := Option.some.inj h
    subst hq
    exact z_iret hs dX6_written_31 rfl
set_option maxHeartbeats 4000000 in
theorem tX6_image {l : Launch} {D : va_G} {ct : Nat → ClassId} {tF : Nat} {wOf : Mm → va_W} {po ad : Nat → Nat} (hw : KC wOf po ad ct) (M : Mm)  {r : (Int32 × (Nat → Int32) × Int32)} (h : fX6_image (M.1 3) (M.1 27) (M.1 28) (M.2.2 40) (M.2.2 41) = some r) : CtI l yX6_image cX6_image 1 .int { frames := 2, cells := 0, slots := 0, locals := 64 } D ct tF wOf [.ref (ad 0)] M r.1 (mk M [(28, r.2.1)] M.2.1 [(40, r.2.2)]) := by
  refine metI (by decide) (Nat.le_of_ble_eq_true rfl) fun κ X e1 eR e3 e4 hs => ?_
  subst e1; subst e3; subst e4
  unfold fX6_image at h
  refine z_mem (mk_self M [28] [40]) ?_
  refine z_sub (lv' := [(0, .ref (ad 0))]) [0] rfl ?_
  show Zj κ 1 0 _ _ (mk M [(28, (M.1 28))] M.2.1 [(40, (M.2.2 40))])
  refine z_aload_n X dX6_image_0 0 rfl rfl ?_
  refine z_aload_n X dX6_image_1 0 rfl rfl ?_
  refine z_get (j := 9) (v := .int (M.2.2 41)) X inX6 rfl (by decide) w_8 (hw.2.2.2.2.2.2.1 _) rfl dX6_image_2 ?_
  refine z_put (j := 8) (ty := .int) (M' := (mk M [(28, (M.1 28))] M.2.1 [(40, (M.2.2 41))])) X inX6 tyX6 tyX6_ok nmX6 rfl (by decide) w_454 rfl (by decide +kernel) rfl rfl (hw.2.2.2.2.2.2.1 _) (Nat.le_of_ble_eq_true rfl) (mk_setS (sl' := [(40, (M.2.2 41))]) (hw.2.2.2.2.2.2.2.2.2.2.2.2.2.2.2.2.2.2.2.2.2.2.2.2.2.2.2.2.2.2.2.2.1) rfl rfl) dX6_image_5 ?_
  refine z_aload_n X dX6_image_8 0 rfl rfl ?_
  refine z_get (j := 6) (v := .ref (ad 27)) X inX6 rfl (by decide) w_161 (hw.2.2.2.2.2.2.1 _) rfl dX6_image_9 ?_
  refine z_iconst (v := (nI 0)) X dX6_image_12 (by decide) ?_
  refine z_aload_n X dX6_image_13 0 rfl rfl ?_
  refine z_get (j := 7) (v := .ref (ad 28)) X inX6 rfl (by decide) w_455 (hw.2.2.2.2.2.2.1 _) rfl dX6_image_14 ?_
  refine z_iconst (v := (nI 0)) X dX6_image_17 (by decide) ?_
  refine z_iconst (v := (nI 4)) X dX6_image_18 (by decide) ?_
  obtain ⟨u1, hu1, h⟩ := ob h
  refine z_copy (M' := (mk M [(28, u1)] M.2.1 [(40, (M.2.2 41))])) X w_456 w_copy (hw.2.2.2.2.2.2.2.2.2.2.2.2.2.2.2.2.2.2.2.2.2.1 _).1 (hw.2.2.2.2.2.2.2.2.2.2.2.2.2.2.2.2.2.2.2.2.2.2.1 _).1 (cpo_ok hu1) (mk_set1 (l' := [(28, u1)]) (hw.2.2.2.2.2.2.2.2.2.2.2.2.2.2.2.2.2.2.2.2.2.2.1) rfl rfl) (by rw [eR]; exact Nat.le_of_ble_eq_true rfl) (by rw [eR]; decide +kernel) dX6_image_19 ?_
  refine z_aload_n X dX6_image_22 0 rfl rfl ?_
  obtain ⟨r2, hr2, h⟩ := ob h
  refine z_cVI (As := []) (st := []) X (tX6_size hw (mk M [(28, u1)] M.2.1 [(40, (M.2.2 41))]) hr2) w_18 mvX6_size (by rw [eR]; exact ⟨Nat.le_of_ble_eq_true rfl, Nat.le_of_ble_eq_true rfl⟩) ⟨rfl, rfl⟩ rfl (Nat.le_of_ble_eq_true rfl) (hw.2.2.2.2.2.2.1 _) rfl rfl dX6_image_23 ?_
  have hq := Option.some.inj h
  subst hq
  exact z_iret hs dX6_image_26 rfl
set_option maxHeartbeats 4000000 in
theorem tX6_undo {l : Launch} {D : va_G} {ct : Nat → ClassId} {tF : Nat} {wOf : Mm → va_W} {po ad : Nat → Nat} (hw : KC wOf po ad ct) (M : Mm)  {r : (Int32 × (Nat → Int32) × Int32 × Int32)} (h : fX6_undo (M.1 3) (M.1 27) (M.1 28) (M.2.2 40) (M.2.2 41) (M.2.2 44) = some r) : CtI l yX6_undo cX6_undo 1 .int { frames := 2, cells := 0, slots := 0, locals := 64 } D ct tF wOf [.ref (ad 0)] M r.1 (mk M [(27, r.2.1)] M.2.1 [(41, r.2.2.1), (44, r.2.2.2)]) := by
  refine metI (by decide) (Nat.le_of_ble_eq_true rfl) fun κ X e1 eR e3 e4 hs => ?_
  subst e1; subst e3; subst e4
  unfold fX6_undo at h
  refine z_mem (mk_self M [27] [41, 44]) ?_
  refine z_sub (lv' := [(0, .ref (ad 0))]) [0] rfl ?_
  show Zj κ 1 0 _ _ (mk M [(27, (M.1 27))] M.2.1 [(41, (M.2.2 41)), (44, (M.2.2 44))])
  refine z_aload_n X dX6_undo_0 0 rfl rfl ?_
  refine z_get (j := 8) (v := .int (M.2.2 40)) X inX6 rfl (by decide) w_454 (hw.2.2.2.2.2.2.1 _) rfl dX6_undo_1 ?_
  refine z_if_ne (tgt := 10) X dX6_undo_4 (by decide) (fun c4 => ?_) (fun c4 => ?_)
  · rw [if_neg c4] at h
    refine z_aload_n X dX6_undo_10 0 rfl rfl ?_
    refine z_aload_n X dX6_undo_11 0 rfl rfl ?_
    refine z_get (j := 8) (v := .int (M.2.2 40)) X inX6 rfl (by decide) w_454 (hw.2.2.2.2.2.2.1 _) rfl dX6_undo_12 ?_
    refine z_put (j := 9) (ty := .int) (M' := (mk M [(27, (M.1 27))] M.2.1 [(41, (M.2.2 40)), (44, (M.2.2 44))])) X inX6 tyX6 tyX6_ok nmX6 rfl (by decide) w_8 rfl (by decide +kernel) rfl rfl (hw.2.2.2.2.2.2.1 _) (Nat.le_of_ble_eq_true rfl) (mk_setS (sl' := [(41, (M.2.2 40)), (44, (M.2.2 44))]) (hw.2.2.2.2.2.2.2.2.2.2.2.2.2.2.2.2.2.2.2.2.2.2.2.2.2.2.2.2.2.2.2.2.2) rfl rfl) dX6_undo_15 ?_
    refine z_aload_n X dX6_undo_18 0 rfl rfl ?_
    refine z_get (j := 7) (v := .ref (ad 28)) X inX6 rfl (by decide) w_455 (hw.2.2.2.2.2.2.1 _) rfl dX6_undo_19 ?_
    refine z_iconst (v := (nI 0)) X dX6_undo_22 (by decide) ?_
    refine z_aload_n X dX6_undo_23 0 rfl rfl ?_
    refine z_get (j := 6) (v := .ref (ad 27)) X inX6 rfl (by decide) w_161 (hw.2.2.2.2.2.2.1 _) rfl dX6_undo_24 ?_
    refine z_iconst (v := (nI 0)) X dX6_undo_27 (by decide) ?_
    refine z_iconst (v := (nI 4)) X dX6_undo_28 (by decide) ?_
    obtain ⟨u1, hu1, h⟩ := ob h
    refine z_copy (M' := (mk M [(27, u1)] M.2.1 [(41, (M.2.2 40)), (44, (M.2.2 44))])) X w_456 w_copy (hw.2.2.2.2.2.2.2.2.2.2.2.2.2.2.2.2.2.2.2.2.2.2.1 _).1 (hw.2.2.2.2.2.2.2.2.2.2.2.2.2.2.2.2.2.2.2.2.2.1 _).1 (cpo_ok hu1) (mk_set1 (l' := [(27, u1)]) (hw.2.2.2.2.2.2.2.2.2.2.2.2.2.2.2.2.2.2.2.2.2.1) rfl rfl) (by rw [eR]; exact Nat.le_of_ble_eq_true rfl) (by rw [eR]; decide +kernel) dX6_undo_29 ?_
    refine z_aload_n X dX6_undo_32 0 rfl rfl ?_
    refine z_get (j := 3) (v := .ref (ad 14)) X inX6 rfl (by decide) w_27 (hw.2.2.2.2.2.2.1 _) rfl dX6_undo_33 ?_
    obtain ⟨r2, hr2, h⟩ := ob h
    refine z_cVV (As := []) (st := []) X (tX3_clear hw (mk M [(27, u1)] M.2.1 [(41, (M.2.2 40)), (44, (M.2.2 44))]) hr2) w_28 mvX3_clear (by rw [eR]; exact ⟨Nat.le_of_ble_eq_true rfl, Nat.le_of_ble_eq_true rfl⟩) ⟨rfl, rfl⟩ rfl (Nat.le_of_ble_eq_true rfl) (hw.2.2.2.1 _) rfl rfl dX6_undo_36 ?_
    refine z_mem (mk_mk (l' := [(27, u1)]) (sl' := [(41, (M.2.2 40)), (44, r2)]) rfl rfl rfl rfl) ?_
    refine z_aload_n X dX6_undo_39 0 rfl rfl ?_
    obtain ⟨r3, hr3, h⟩ := ob h
    refine z_cVI (As := []) (st := []) X (tX6_size hw (mk M [(27, u1)] M.2.1 [(41, (M.2.2 40)), (44, r2)]) hr3) w_18 mvX6_size (by rw [eR]; exact ⟨Nat.le_of_ble_eq_true rfl, Nat.le_of_ble_eq_true rfl⟩) ⟨rfl, rfl⟩ rfl (Nat.le_of_ble_eq_true rfl) (hw.2.2.2.2.2.2.1 _) rfl rfl dX6_undo_40 ?_
    have hq := Option.some.inj h
    subst hq
    exact z_iret hs dX6_undo_43 rfl
  · rw [if_pos c4] at h
    refine z_bipush (v := (-3 : Int32)) X dX6_undo_7 (by decide) ?_
    have hq := Option.some.inj h
    subst hq
    exact z_iret hs dX6_undo_9 rfl
set_option maxHeartbeats 4000000 in
theorem jX6_shelvesInUse_J33 {κ : Rx} {ct : Nat → ClassId} {tF : Nat} {po ad : Nat → Nat} (X : CX κ ct tF cX6_shelvesInUse 6 RX6) (eR : kR κ = { frames := 0, cells := 0, slots := 0, locals := 0 }) (hw : KC (kw κ) po ad ct) (M : Mm)   (v1 : Int32) (v3 : Int32) (v4 : Int32)  (s : ((Int32 × Int32) ⊕ Int32)) (h : fX6_shelvesInUse_J33 (M.1 27) v1 v3 v4 = some s) (hs : (Sum.elim (fun x => Zj κ 6 13 [(1, .int x.1), (2, .ref (ad 27)), (3, .int v3), (4, .int x.2)] [] M) (fun y => Zj κ 6 39 [(1, .int y)] [] M) s)) : Zj κ 6 33 [(1, .int v1), (2, .ref (ad 27)), (3, .int v3), (4, .int v4)] [] M := by
  unfold fX6_shelvesInUse_J33 at h
  refine z_iinc (v := (v4 + nI 1)) (lv' := [(4, .int (v4 + nI 1)), (1, .int v1), (2, .ref (ad 27)), (3, .int v3)]) X dX6_shelvesInUse_33 3 rfl rfl (by decide) rfl ?_
  refine z_goto (tgt := 13) X dX6_shelvesInUse_36 (by decide) ?_
  have hq := Option.some.inj h
  subst hq
  exact z_sub [1, 2, 3, 0] rfl hs
set_option maxHeartbeats 4000000 in
theorem bX6_shelvesInUse_B13 {κ : Rx} {ct : Nat → ClassId} {tF : Nat} {po ad : Nat → Nat} (X : CX κ ct tF cX6_shelvesInUse 6 RX6) (eR : kR κ = { frames := 0, cells := 0, slots := 0, locals := 0 }) (hw : KC (kw κ) po ad ct) (M : Mm)  (v3 : Int32) : ∀ (x : (Int32 × Int32)) (s : (Int32 × Int32) ⊕ Int32), fX6_shelvesInUse_B13 (M.1 27) v3 x = some s → Sum.elim (fun x => Zj κ 6 13 [(1, .int x.1), (2, .ref (ad 27)), (3, .int v3), (4, .int x.2)] [] M) (fun y => Zj κ 6 39 [(1, .int y)] [] M) s → Zj κ 6 13 [(1, .int x.1), (2, .ref (ad 27)), (3, .int v3), (4, .int x.2)] [] M := by
  intro x s h hs
  unfold fX6_shelvesInUse_B13 at h
  refine z_iload X dX6_shelvesInUse_13 3 rfl ?_
  refine z_iload_n X dX6_shelvesInUse_15 2 rfl rfl ?_
  refine z_icmp_ge (tgt := 39) X dX6_shelvesInUse_16 (by decide) (fun c16 => ?_) (fun c16 => ?_)
  · rw [if_pos c16] at h
    have hq := Option.some.inj h
    subst hq
    exact z_sub [0] rfl hs
  · rw [if_neg c16] at h
    refine z_aload_n X dX6_shelvesInUse_19 1 rfl rfl ?_
    refine z_iload X dX6_shelvesInUse_20 3 rfl ?_
    obtain ⟨t1, ht1, h⟩ := ob h
    refine z_iald X (hw.2.2.2.2.2.2.2.2.2.2.2.2.2.2.2.2.2.2.2.2.2.1 _).1 (rd_ok ht1) dX6_shelvesInUse_22 ?_
    refine z_istore (lv' := [(5, .int t1), (1, .int x.1), (2, .ref (ad 27)), (3, .int v3), (4, .int x.2)]) X dX6_shelvesInUse_23 (by decide) rfl ?_
    refine z_iload X dX6_shelvesInUse_25 0 rfl ?_
    refine z_if_eq (tgt := 33) X dX6_shelvesInUse_27 (by decide) (fun c27 => ?_) (fun c27 => ?_)
    · rw [if_pos c27] at h
      exact z_sub [1, 2, 3, 4] rfl (jX6_shelvesInUse_J33 X eR hw M x.1 v3 x.2 _ h hs)
    · rw [if_neg c27] at h
      refine z_iinc (v := (x.1 + nI 1)) (lv' := [(1, .int (x.1 + nI 1)), (5, .int t1), (2, .ref (ad 27)), (3, .int v3), (4, .int x.2)]) X dX6_shelvesInUse_30 1 rfl rfl (by decide) rfl ?_
      exact z_sub [0, 2, 3, 4] rfl (jX6_shelvesInUse_J33 X eR hw M (x.1 + nI 1) v3 x.2 _ h hs)
set_option maxHeartbeats 4000000 in
theorem tX6_shelvesInUse {l : Launch} {D : va_G} {ct : Nat → ClassId} {tF : Nat} {wOf : Mm → va_W} {po ad : Nat → Nat} (hw : KC wOf po ad ct) (M : Mm)  {r : Int32} (h : fX6_shelvesInUse (M.1 27) = some r) : CtI l yX6_shelvesInUse cX6_shelvesInUse 6 .int { frames := 0, cells := 0, slots := 0, locals := 0 } D ct tF wOf [.ref (ad 0)] M r M := by
  refine metI (by decide) (Nat.le_of_ble_eq_true rfl) fun κ X e1 eR e3 e4 hs => ?_
  subst e1; subst e3; subst e4
  unfold fX6_shelvesInUse at h
  refine z_sub (lv' := [(0, .ref (ad 0))]) [0] rfl ?_
  refine z_iconst (v := (nI 0)) X dX6_shelvesInUse_0 (by decide) ?_
  refine z_istore_n (lv' := [(1, .int (nI 0)), (0, .ref (ad 0))]) X dX6_shelvesInUse_1 rfl (by decide) rfl ?_
  refine z_aload_n X dX6_shelvesInUse_2 1 rfl rfl ?_
  refine z_get (j := 6) (v := .ref (ad 27)) X inX6 rfl (by decide) w_161 (hw.2.2.2.2.2.2.1 _) rfl dX6_shelvesInUse_3 ?_
  refine z_astore_n (lv' := [(2, .ref (ad 27)), (1, .int (nI 0)), (0, .ref (ad 0))]) X dX6_shelvesInUse_6 rfl (by decide) rfl ?_
  refine z_aload_n X dX6_shelvesInUse_7 0 rfl rfl ?_
  refine z_alen (t0 := 0) (v := (nI 4)) X (hw.2.2.2.2.2.2.2.2.2.2.2.2.2.2.2.2.2.2.2.2.2.1 _).1 rfl rfl dX6_shelvesInUse_8 ?_
  refine z_istore_n (lv' := [(3, .int (nI 4)), (2, .ref (ad 27)), (1, .int (nI 0)), (0, .ref (ad 0))]) X dX6_shelvesInUse_9 rfl (by decide) rfl ?_
  refine z_iconst (v := (nI 0)) X dX6_shelvesInUse_10 (by decide) ?_
  refine z_istore (lv' := [(4, .int (nI 0)), (3, .int (nI 4)), (2, .ref (ad 27)), (1, .int (nI 0)), (0, .ref (ad 0))]) X dX6_shelvesInUse_11 (by decide) rfl ?_
  refine z_sub [3, 2, 1, 0] rfl ?_
  obtain ⟨y1, hy1, h⟩ := ob h
  refine (it_Z (bX6_shelvesInUse_B13 X eR hw M (nI 4)) FU _ y1 hy1) ?_
  refine z_iload_n X dX6_shelvesInUse_39 0 rfl rfl ?_
  have hq := Option.some.inj h
  subst hq
  exact z_iret hs dX6_shelvesInUse_40 rfl
set_option maxHeartbeats 4000000 in
theorem tX6_count {l : Launch} {D : va_G} {ct : Nat → ClassId} {tF : Nat} {wOf : Mm → va_W} {po ad : Nat → Nat} (hw : KC wOf po ad ct) (M : Mm) {v1 : Int32} {r : Int32} (h : fX6_count (M.1 3) (M.1 21) (M.1 27) (M.2.2 41) (M.2.2 44) (M.2.2 45) v1 = some r) : CtI l yX6_count cX6_count 2 .int { frames := 2, cells := 0, slots := 0, locals := 41 } D ct tF wOf [.ref (ad 0), .int v1] M r M := by
  refine metI (by decide) (Nat.le_of_ble_eq_true rfl) fun κ X e1 eR e3 e4 hs => ?_
  subst e1; subst e3; subst e4
  unfold fX6_count at h
  refine z_sub (lv' := [(0, .ref (ad 0)), (1, .int v1)]) [0, 1] rfl ?_
  refine z_iload_n X dX6_count_0 1 rfl rfl ?_
  by_cases c1_0 : v1 = nI 0
  · rw [if_pos c1_0] at h
    refine z_tabI (off := 35) (tgt := 36) X dX6_count_1 (by rw [c1_0]; decide) (by rw [c1_0]; decide) (by rw [c1_0]; decide) (by decide) ?_
    refine z_aload_n X dX6_count_36 0 rfl rfl ?_
    obtain ⟨r1, hr1, h⟩ := ob h
    refine z_cVI (As := []) (st := []) X (tX6_size hw M hr1) w_18 mvX6_size (by rw [eR]; exact ⟨Nat.le_of_ble_eq_true rfl, Nat.le_of_ble_eq_true rfl⟩) ⟨rfl, rfl⟩ rfl (Nat.le_of_ble_eq_true rfl) (hw.2.2.2.2.2.2.1 _) rfl rfl dX6_count_37 ?_
    have hq := Option.some.inj h
    subst hq
    exact z_iret hs dX6_count_40 rfl
  · rw [if_neg c1_0] at h
    by_cases c1_1 : v1 = nI 1
    · rw [if_pos c1_1] at h
      refine z_tabI (off := 40) (tgt := 41) X dX6_count_1 (by rw [c1_1]; decide) (by rw [c1_1]; decide) (by rw [c1_1]; decide) (by decide) ?_
      refine z_aload_n X dX6_count_41 0 rfl rfl ?_
      refine z_get (j := 3) (v := .ref (ad 14)) X inX6 rfl (by decide) w_27 (hw.2.2.2.2.2.2.1 _) rfl dX6_count_42 ?_
      obtain ⟨r2, hr2, h⟩ := ob h
      refine z_cVI (As := []) (st := []) X (tX3_held hw M hr2) w_154 mvX3_held (by rw [eR]; exact ⟨Nat.le_of_ble_eq_true rfl, Nat.le_of_ble_eq_true rfl⟩) ⟨rfl, rfl⟩ rfl (Nat.le_of_ble_eq_true rfl) (hw.2.2.2.1 _) rfl rfl dX6_count_45 ?_
      have hq := Option.some.inj h
      subst hq
      exact z_iret hs dX6_count_48 rfl
    · rw [if_neg c1_1] at h
      by_cases c1_2 : v1 = nI 2
      · rw [if_pos c1_2] at h
        refine z_tabI (off := 48) (tgt := 49) X dX6_count_1 (by rw [c1_2]; decide) (by rw [c1_2]; decide) (by rw [c1_2]; decide) (by decide) ?_
        refine z_aload_n X dX6_count_49 0 rfl rfl ?_
        refine z_get (j := 5) (v := .ref (ad 22)) X inX6 rfl (by decide) w_376 (hw.2.2.2.2.2.2.1 _) rfl dX6_count_50 ?_
        obtain ⟨r3, hr3, h⟩ := ob h
        refine z_cVI (As := []) (st := []) X (tX4_length hw M hr3) w_382 mvX4_length (by rw [eR]; exact ⟨Nat.le_of_ble_eq_true rfl, Nat.le_of_ble_eq_true rfl⟩) ⟨rfl, rfl⟩ rfl (Nat.le_of_ble_eq_true rfl) (hw.2.2.2.2.2.1 _) rfl rfl dX6_count_53 ?_
        have hq := Option.some.inj h
        subst hq
        exact z_iret hs dX6_count_56 rfl
      · rw [if_neg c1_2] at h
        by_cases c1_3 : v1 = nI 3
        · rw [if_pos c1_3] at h
          refine z_tabI (off := 56) (tgt := 57) X dX6_count_1 (by rw [c1_3]; decide) (by rw [c1_3]; decide) (by rw [c1_3]; decide) (by decide) ?_
          refine z_aload_n X dX6_count_57 0 rfl rfl ?_
          obtain ⟨r4, hr4, h⟩ := ob h
          refine z_cVI (As := []) (st := []) X (tX6_shelvesInUse hw M hr4) w_457 mvX6_shelvesInUse (by rw [eR]; exact ⟨Nat.le_of_ble_eq_true rfl, Nat.le_of_ble_eq_true rfl⟩) ⟨rfl, rfl⟩ rfl (Nat.le_of_ble_eq_true rfl) (hw.2.2.2.2.2.2.1 _) rfl rfl dX6_count_58 ?_
          have hq := Option.some.inj h
          subst hq
          exact z_iret hs dX6_count_61 rfl
        · rw [if_neg c1_3] at h
          by_cases c1_4 : v1 = nI 4
          · rw [if_pos c1_4] at h
            refine z_tabI (off := 61) (tgt := 62) X dX6_count_1 (by rw [c1_4]; decide) (by rw [c1_4]; decide) (by rw [c1_4]; decide) (by decide) ?_
            refine z_aload_n X dX6_count_62 0 rfl rfl ?_
            refine z_get (j := 4) (v := .ref (ad 16)) X inX6 rfl (by decide) w_338 (hw.2.2.2.2.2.2.1 _) rfl dX6_count_63 ?_
            obtain ⟨r5, hr5, h⟩ := ob h
            refine z_cVI (As := []) (st := []) X (tX1_howManyThere hw M hr5) w_461 mvX1_howManyThere (by rw [eR]; exact ⟨Nat.le_of_ble_eq_true rfl, Nat.le_of_ble_eq_true rfl⟩) ⟨rfl, rfl⟩ rfl (Nat.le_of_ble_eq_true rfl) (hw.2.2.2.2.1 _) rfl rfl dX6_count_66 ?_
            have hq := Option.some.inj h
            subst hq
            exact z_iret hs dX6_count_69 rfl
          · rw [if_neg c1_4] at h
            refine z_tabO (tgt := 70) X dX6_count_1 (by have q0 := lv_neT c1_0 (show (nI 0).toInt = 0 from rfl); have q1 := lv_neT c1_1 (show (nI 1).toInt = 1 from rfl); have q2 := lv_neT c1_2 (show (nI 2).toInt = 2 from rfl); have q3 := lv_neT c1_3 (show (nI 3).toInt = 3 from rfl); have q4 := lv_neT c1_4 (show (nI 4).toInt = 4 from rfl); omega) (by decide) ?_
            refine z_iconst (v := (-1 : Int32)) X dX6_count_70 (by decide) ?_
            have hq := Option.some.inj h
            subst hq
            exact z_iret hs dX6_count_71 rfl
