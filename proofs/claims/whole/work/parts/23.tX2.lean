set_option maxHeartbeats 4000000 in
theorem tX2_noMore {l : Launch} {D : va_G} {ct : Nat → ClassId} {tF : Nat} {wOf : Mm → va_W} {po ad : Nat → Nat} (hw : KC wOf po ad ct) (M : Mm) {v0 : Int32} {v1 : Int32} {r : Int32} (h : fX2_noMore v0 v1 = some r) : CtI l yX2_noMore cX2_noMore 2 .boolean { frames := 0, cells := 0, slots := 0, locals := 0 } D ct tF wOf [.int v0, .int v1] M r M := by
  refine metI (by decide) (Nat.le_of_ble_eq_true rfl) fun κ X e1 eR e3 e4 hs => ?_
  subst e1; subst e3; subst e4
  unfold fX2_noMore at h
  refine z_sub (lv' := [(0, .int v0), (1, .int v1)]) [0, 1] rfl ?_
  refine z_iload_n X dX2_noMore_0 1 rfl rfl ?_
  refine z_ldc X w_170 dX2_noMore_1 ?_
  refine z_ior X dX2_noMore_3 ?_
  refine z_iload_n X dX2_noMore_4 0 rfl rfl ?_
  refine z_isub X dX2_noMore_5 ?_
  refine z_ldc X w_170 dX2_noMore_6 ?_
  refine z_iand X dX2_noMore_8 ?_
  refine z_ldc X w_170 dX2_noMore_9 ?_
  refine z_icmp_ne (tgt := 18) X dX2_noMore_11 (by decide) (fun c11 => ?_) (fun c11 => ?_)
  · rw [if_neg c11] at h
    refine z_iconst (v := (nI 0)) X dX2_noMore_18 (by decide) ?_
    have hq := Option.some.inj h
    subst hq
    exact z_iret hs dX2_noMore_19 rfl
  · rw [if_pos c11] at h
    refine z_iconst (v := (nI 1)) X dX2_noMore_14 (by decide) ?_
    refine z_goto (tgt := 19) X dX2_noMore_15 (by decide) ?_
    have hq := Option.some.inj h
    subst hq
    exact z_iret hs dX2_noMore_19 rfl
set_option maxHeartbeats 4000000 in
theorem tX2_isBelow {l : Launch} {D : va_G} {ct : Nat → ClassId} {tF : Nat} {wOf : Mm → va_W} {po ad : Nat → Nat} (hw : KC wOf po ad ct) (M : Mm) {v1 : Int32} {v2 : Int32} {r : Int32} (h : fX2_isBelow (M.1 2) v1 v2 = some r) : CtI l yX2_isBelow cX2_isBelow 3 .boolean { frames := 1, cells := 0, slots := 0, locals := 21 } D ct tF wOf [.ref (ad 4), .int v1, .int v2] M r M := by
  refine metI (by decide) (Nat.le_of_ble_eq_true rfl) fun κ X e1 eR e3 e4 hs => ?_
  subst e1; subst e3; subst e4
  unfold fX2_isBelow at h
  refine z_sub (lv' := [(0, .ref (ad 4)), (1, .int v1), (2, .int v2)]) [0, 1, 2] rfl ?_
  refine z_aload_n X dX2_isBelow_0 0 rfl rfl ?_
  refine z_get (j := 0) (v := .ref (ad 1)) X inX2 rfl (by decide) w_171 (hw.2.1 _) rfl dX2_isBelow_1 ?_
  refine z_iload_n X dX2_isBelow_4 1 rfl rfl ?_
  obtain ⟨r1, hr1, h⟩ := ob h
  refine z_cVI (As := [.int v1]) (st := []) X (tX0_codeOf hw.1 M hr1) w_172 mvX0_codeOf (by rw [eR]; exact ⟨Nat.le_of_ble_eq_true rfl, Nat.le_of_ble_eq_true rfl⟩) ⟨rfl, rfl⟩ rfl (Nat.le_of_ble_eq_true rfl) (hw.1.1 _) rfl rfl dX2_isBelow_5 ?_
  refine z_aload_n X dX2_isBelow_8 0 rfl rfl ?_
  refine z_get (j := 0) (v := .ref (ad 1)) X inX2 rfl (by decide) w_171 (hw.2.1 _) rfl dX2_isBelow_9 ?_
  refine z_iload_n X dX2_isBelow_12 2 rfl rfl ?_
  obtain ⟨r2, hr2, h⟩ := ob h
  refine z_cVI (As := [.int v2]) (st := [.int r1]) X (tX0_codeOf hw.1 M hr2) w_172 mvX0_codeOf (by rw [eR]; exact ⟨Nat.le_of_ble_eq_true rfl, Nat.le_of_ble_eq_true rfl⟩) ⟨rfl, rfl⟩ rfl (Nat.le_of_ble_eq_true rfl) (hw.1.1 _) rfl rfl dX2_isBelow_13 ?_
  obtain ⟨r3, hr3, h⟩ := ob h
  refine z_cSI (As := [.int r1, .int r2]) (st := []) X (tX2_noMore hw M hr3) w_173 msX2_noMore (by rw [eR]; exact ⟨Nat.le_of_ble_eq_true rfl, Nat.le_of_ble_eq_true rfl⟩) ⟨rfl, rfl⟩ rfl (Nat.le_of_ble_eq_true rfl) rfl dX2_isBelow_16 ?_
  obtain ⟨z4, hz4, h⟩ := ob h
  obtain ⟨qz4, nz4⟩ := zro_ok hz4
  subst qz4
  have hq := Option.some.inj h
  subst hq
  exact z_iret hs dX2_isBelow_19 nz4
set_option maxHeartbeats 4000000 in
theorem bX2_joinOf_B53 {κ : Rx} {ct : Nat → ClassId} {tF : Nat} {po ad : Nat → Nat} (X : CX κ ct tF cX2_joinOf 8 RX2) (eR : kR κ = { frames := 3, cells := 0, slots := 0, locals := 66 }) (hw : KC (kw κ) po ad ct) (M : Mm)  (v1 : Int32) (v2 : Int32) (v3 : Int32) (v4 : Int32) (v5 : Int32) : ∀ (x : (Int32 × Int32)) (s : (Int32 × Int32) ⊕ Int32), fX2_joinOf_B53 v1 v2 v3 v4 v5 x = some s → Sum.elim (fun x => Zj κ 8 53 [(0, .ref (ad 4)), (1, .int v1), (2, .int v2), (3, .int v3), (4, .int v4), (5, .int v5), (6, .int x.1), (7, .int x.2)] [] M) (fun y => Zj κ 8 90 [(0, .ref (ad 4)), (1, .int v1), (2, .int v2), (3, .int v3), (4, .int v4), (5, .int v5), (6, .int y)] [] M) s → Zj κ 8 53 [(0, .ref (ad 4)), (1, .int v1), (2, .int v2), (3, .int v3), (4, .int v4), (5, .int v5), (6, .int x.1), (7, .int x.2)] [] M := by
  intro x s h hs
  unfold fX2_joinOf_B53 at h
  refine z_iload X dX2_joinOf_53 7 rfl ?_
  refine z_iload_n X dX2_joinOf_55 3 rfl rfl ?_
  refine z_icmp_ge (tgt := 90) X dX2_joinOf_56 (by decide) (fun c56 => ?_) (fun c56 => ?_)
  · rw [if_pos c56] at h
    have hq := Option.some.inj h
    subst hq
    exact z_sub [0, 1, 2, 3, 4, 5, 6] rfl hs
  · rw [if_neg c56] at h
    refine z_iload X dX2_joinOf_59 7 rfl ?_
    refine z_iload X dX2_joinOf_61 6 rfl ?_
    refine z_icmp_gt (tgt := 90) X dX2_joinOf_63 (by decide) (fun c63 => ?_) (fun c63 => ?_)
    · rw [if_pos c63] at h
      have hq := Option.some.inj h
      subst hq
      exact z_sub [0, 1, 2, 3, 4, 5, 6] rfl hs
    · rw [if_neg c63] at h
      refine z_iload X dX2_joinOf_66 6 rfl ?_
      refine z_iload X dX2_joinOf_68 7 rfl ?_
      refine z_iload X dX2_joinOf_70 4 rfl ?_
      refine z_iload_n X dX2_joinOf_72 3 rfl rfl ?_
      refine z_iload X dX2_joinOf_73 7 rfl ?_
      obtain ⟨r1, hr1, h⟩ := ob h
      refine z_cSI (As := [.int v4, .int v3, .int x.2]) (st := [.int x.2, .int x.1]) X (tX0_digitOf hw.1 M hr1) w_189 msX0_digitOf (by rw [eR]; exact ⟨Nat.le_of_ble_eq_true rfl, Nat.le_of_ble_eq_true rfl⟩) ⟨rfl, rfl⟩ rfl (Nat.le_of_ble_eq_true rfl) rfl dX2_joinOf_75 ?_
      refine z_iadd X dX2_joinOf_78 ?_
      refine z_max X w_188 w_max (by rw [eR]; exact Nat.le_of_ble_eq_true rfl) (by rw [eR]; exact Nat.le_of_ble_eq_true rfl) dX2_joinOf_79 ?_
      refine z_istore (lv' := [(6, .int (if x.1 < (x.2 + r1) then (x.2 + r1) else x.1)), (0, .ref (ad 4)), (1, .int v1), (2, .int v2), (3, .int v3), (4, .int v4), (5, .int v5), (7, .int x.2)]) X dX2_joinOf_82 (by decide) rfl ?_
      refine z_iinc (v := (x.2 + nI 1)) (lv' := [(7, .int (x.2 + nI 1)), (6, .int (if x.1 < (x.2 + r1) then (x.2 + r1) else x.1)), (0, .ref (ad 4)), (1, .int v1), (2, .int v2), (3, .int v3), (4, .int v4), (5, .int v5)]) X dX2_joinOf_84 7 rfl rfl (by decide) rfl ?_
      refine z_goto (tgt := 53) X dX2_joinOf_87 (by decide) ?_
      have hq := Option.some.inj h
      subst hq
      exact z_sub [2, 3, 4, 5, 6, 7, 1, 0] rfl hs
set_option maxHeartbeats 4000000 in
theorem bX2_joinOf_B17 {κ : Rx} {ct : Nat → ClassId} {tF : Nat} {po ad : Nat → Nat} (X : CX κ ct tF cX2_joinOf 8 RX2) (eR : kR κ = { frames := 3, cells := 0, slots := 0, locals := 66 }) (hw : KC (kw κ) po ad ct) (M : Mm)  (v1 : Int32) (v2 : Int32) (v3 : Int32) : ∀ (x : (Int32 × Int32)) (s : (Int32 × Int32) ⊕ Int32), fX2_joinOf_B17 (M.1 2) (M.1 3) v1 v2 v3 x = some s → Sum.elim (fun x => Zj κ 8 17 [(0, .ref (ad 4)), (1, .int v1), (2, .int v2), (3, .int v3), (4, .int x.1), (5, .int x.2)] [] M) (fun y => Zj κ 8 112 [(0, .ref (ad 4)), (3, .int v3), (4, .int y)] [] M) s → Zj κ 8 17 [(0, .ref (ad 4)), (1, .int v1), (2, .int v2), (3, .int v3), (4, .int x.1), (5, .int x.2)] [] M := by
  intro x s h hs
  unfold fX2_joinOf_B17 at h
  refine z_iload X dX2_joinOf_17 5 rfl ?_
  refine z_if_lt (tgt := 112) X dX2_joinOf_19 (by decide) (fun c19 => ?_) (fun c19 => ?_)
  · rw [if_pos c19] at h
    have hq := Option.some.inj h
    subst hq
    exact z_sub [0, 3, 4] rfl hs
  · rw [if_neg c19] at h
    refine z_aload_n X dX2_joinOf_22 0 rfl rfl ?_
    refine z_get (j := 0) (v := .ref (ad 1)) X inX2 rfl (by decide) w_171 (hw.2.1 _) rfl dX2_joinOf_23 ?_
    refine z_iload_n X dX2_joinOf_26 1 rfl rfl ?_
    refine z_iload X dX2_joinOf_27 5 rfl ?_
    obtain ⟨r1, hr1, h⟩ := ob h
    refine z_cVI (As := [.int v1, .int x.2]) (st := []) X (tX0_end hw.1 M hr1) w_187 mvX0_end (by rw [eR]; exact ⟨Nat.le_of_ble_eq_true rfl, Nat.le_of_ble_eq_true rfl⟩) ⟨rfl, rfl⟩ rfl (Nat.le_of_ble_eq_true rfl) (hw.1.1 _) rfl rfl dX2_joinOf_29 ?_
    refine z_aload_n X dX2_joinOf_32 0 rfl rfl ?_
    refine z_get (j := 0) (v := .ref (ad 1)) X inX2 rfl (by decide) w_171 (hw.2.1 _) rfl dX2_joinOf_33 ?_
    refine z_iload_n X dX2_joinOf_36 2 rfl rfl ?_
    refine z_iload X dX2_joinOf_37 5 rfl ?_
    obtain ⟨r2, hr2, h⟩ := ob h
    refine z_cVI (As := [.int v2, .int x.2]) (st := [.int r1]) X (tX0_end hw.1 M hr2) w_187 mvX0_end (by rw [eR]; exact ⟨Nat.le_of_ble_eq_true rfl, Nat.le_of_ble_eq_true rfl⟩) ⟨rfl, rfl⟩ rfl (Nat.le_of_ble_eq_true rfl) (hw.1.1 _) rfl rfl dX2_joinOf_39 ?_
    refine z_max X w_188 w_max (by rw [eR]; exact Nat.le_of_ble_eq_true rfl) (by rw [eR]; exact Nat.le_of_ble_eq_true rfl) dX2_joinOf_42 ?_
    refine z_istore (lv' := [(6, .int (if r1 < r2 then r2 else r1)), (0, .ref (ad 4)), (1, .int v1), (2, .int v2), (3, .int v3), (4, .int x.1), (5, .int x.2)]) X dX2_joinOf_45 (by decide) rfl ?_
    refine z_iload X dX2_joinOf_47 6 rfl ?_
    refine z_iconst (v := (nI 1)) X dX2_joinOf_49 (by decide) ?_
    refine z_iadd X dX2_joinOf_50 ?_
    refine z_istore (lv' := [(7, .int (x.2 + (nI 1))), (6, .int (if r1 < r2 then r2 else r1)), (0, .ref (ad 4)), (1, .int v1), (2, .int v2), (3, .int v3), (4, .int x.1), (5, .int x.2)]) X dX2_joinOf_51 (by decide) rfl ?_
    refine z_sub [2, 3, 4, 5, 6, 7, 1, 0] rfl ?_
    obtain ⟨y3, hy3, h⟩ := ob h
    refine (it_Z (bX2_joinOf_B53 X eR hw M v1 v2 v3 x.1 x.2) FU _ y3 hy3) ?_
    refine z_iload X dX2_joinOf_90 4 rfl ?_
    refine z_iload X dX2_joinOf_92 6 rfl ?_
    refine z_iload X dX2_joinOf_94 5 rfl ?_
    refine z_isub X dX2_joinOf_96 ?_
    refine z_iload_n X dX2_joinOf_97 3 rfl rfl ?_
    refine z_iload X dX2_joinOf_98 5 rfl ?_
    obtain ⟨r4, hr4, h⟩ := ob h
    refine z_cSI (As := [.int (y3 - x.2), .int v3, .int x.2]) (st := [.int x.1]) X (tX0_digitAt hw.1 M hr4) w_192 msX0_digitAt (by rw [eR]; exact ⟨Nat.le_of_ble_eq_true rfl, Nat.le_of_ble_eq_true rfl⟩) ⟨rfl, rfl⟩ rfl (Nat.le_of_ble_eq_true rfl) rfl dX2_joinOf_100 ?_
    refine z_ior X dX2_joinOf_103 ?_
    refine z_istore (lv' := [(4, .int (x.1 ||| r4)), (0, .ref (ad 4)), (1, .int v1), (2, .int v2), (3, .int v3), (5, .int x.2), (6, .int y3)]) X dX2_joinOf_104 (by decide) rfl ?_
    refine z_iinc (v := (x.2 + (-1))) (lv' := [(5, .int (x.2 + (-1))), (4, .int (x.1 ||| r4)), (0, .ref (ad 4)), (1, .int v1), (2, .int v2), (3, .int v3), (6, .int y3)]) X dX2_joinOf_106 5 rfl rfl (by decide) rfl ?_
    refine z_goto (tgt := 17) X dX2_joinOf_109 (by decide) ?_
    have hq := Option.some.inj h
    subst hq
    exact z_sub [2, 3, 4, 5, 1, 0] rfl hs
set_option maxHeartbeats 4000000 in
theorem tX2_joinOf {l : Launch} {D : va_G} {ct : Nat → ClassId} {tF : Nat} {wOf : Mm → va_W} {po ad : Nat → Nat} (hw : KC wOf po ad ct) (M : Mm) {v1 : Int32} {v2 : Int32} {r : Int32} (h : fX2_joinOf (M.1 2) (M.1 3) v1 v2 = some r) : CtI l yX2_joinOf cX2_joinOf 8 .int { frames := 3, cells := 0, slots := 0, locals := 66 } D ct tF wOf [.ref (ad 4), .int v1, .int v2] M r M := by
  refine metI (by decide) (Nat.le_of_ble_eq_true rfl) fun κ X e1 eR e3 e4 hs => ?_
  subst e1; subst e3; subst e4
  unfold fX2_joinOf at h
  refine z_sub (lv' := [(0, .ref (ad 4)), (1, .int v1), (2, .int v2)]) [0, 1, 2] rfl ?_
  refine z_aload_n X dX2_joinOf_0 0 rfl rfl ?_
  refine z_get (j := 0) (v := .ref (ad 1)) X inX2 rfl (by decide) w_171 (hw.2.1 _) rfl dX2_joinOf_1 ?_
  refine z_iload_n X dX2_joinOf_4 1 rfl rfl ?_
  obtain ⟨r1, hr1, h⟩ := ob h
  refine z_cVI (As := [.int v1]) (st := []) X (tX0_sizeOf hw.1 M hr1) w_186 mvX0_sizeOf (by rw [eR]; exact ⟨Nat.le_of_ble_eq_true rfl, Nat.le_of_ble_eq_true rfl⟩) ⟨rfl, rfl⟩ rfl (Nat.le_of_ble_eq_true rfl) (hw.1.1 _) rfl rfl dX2_joinOf_5 ?_
  refine z_istore_n (lv' := [(3, .int r1), (0, .ref (ad 4)), (1, .int v1), (2, .int v2)]) X dX2_joinOf_8 rfl (by decide) rfl ?_
  refine z_iconst (v := (nI 0)) X dX2_joinOf_9 (by decide) ?_
  refine z_istore (lv' := [(4, .int (nI 0)), (3, .int r1), (0, .ref (ad 4)), (1, .int v1), (2, .int v2)]) X dX2_joinOf_10 (by decide) rfl ?_
  refine z_iload_n X dX2_joinOf_12 1 rfl rfl ?_
  refine z_iconst (v := (nI 1)) X dX2_joinOf_13 (by decide) ?_
  refine z_isub X dX2_joinOf_14 ?_
  refine z_istore (lv' := [(5, .int (r1 - (nI 1))), (4, .int (nI 0)), (3, .int r1), (0, .ref (ad 4)), (1, .int v1), (2, .int v2)]) X dX2_joinOf_15 (by decide) rfl ?_
  refine z_sub [3, 4, 5, 2, 1, 0] rfl ?_
  obtain ⟨y2, hy2, h⟩ := ob h
  refine (it_Z (bX2_joinOf_B17 X eR hw M v1 v2 r1) FU _ y2 hy2) ?_
  refine z_aload_n X dX2_joinOf_112 0 rfl rfl ?_
  refine z_get (j := 0) (v := .ref (ad 1)) X inX2 rfl (by decide) w_171 (hw.2.1 _) rfl dX2_joinOf_113 ?_
  refine z_iload_n X dX2_joinOf_116 1 rfl rfl ?_
  refine z_iload X dX2_joinOf_117 2 rfl ?_
  obtain ⟨r3, hr3, h⟩ := ob h
  refine z_cVI (As := [.int r1, .int y2]) (st := []) X (tX0_find hw.1 M hr3) w_193 mvX0_find (by rw [eR]; exact ⟨Nat.le_of_ble_eq_true rfl, Nat.le_of_ble_eq_true rfl⟩) ⟨rfl, rfl⟩ rfl (Nat.le_of_ble_eq_true rfl) (hw.1.1 _) rfl rfl dX2_joinOf_119 ?_
  have hq := Option.some.inj h
  subst hq
  exact z_iret hs dX2_joinOf_122 rfl
set_option maxHeartbeats 4000000 in
theorem bX2_meetOf_B15 {κ : Rx} {ct : Nat → ClassId} {tF : Nat} {po ad : Nat → Nat} (X : CX κ ct tF cX2_meetOf 7 RX2) (eR : kR κ = { frames := 3, cells := 0, slots := 0, locals := 66 }) (hw : KC (kw κ) po ad ct) (M : Mm)  (v1 : Int32) (v2 : Int32) (v3 : Int32) : ∀ (x : (Int32 × Int32)) (s : (Int32 × Int32) ⊕ Int32), fX2_meetOf_B15 (M.1 2) (M.1 3) v1 v2 v3 x = some s → Sum.elim (fun x => Zj κ 7 15 [(0, .ref (ad 4)), (1, .int v1), (2, .int v2), (3, .int v3), (4, .int x.1), (5, .int x.2)] [] M) (fun y => Zj κ 7 65 [(0, .ref (ad 4)), (3, .int v3), (4, .int y)] [] M) s → Zj κ 7 15 [(0, .ref (ad 4)), (1, .int v1), (2, .int v2), (3, .int v3), (4, .int x.1), (5, .int x.2)] [] M := by
  intro x s h hs
  unfold fX2_meetOf_B15 at h
  refine z_iload X dX2_meetOf_15 5 rfl ?_
  refine z_iload_n X dX2_meetOf_17 3 rfl rfl ?_
  refine z_icmp_ge (tgt := 65) X dX2_meetOf_18 (by decide) (fun c18 => ?_) (fun c18 => ?_)
  · rw [if_pos c18] at h
    have hq := Option.some.inj h
    subst hq
    exact z_sub [0, 3, 4] rfl hs
  · rw [if_neg c18] at h
    refine z_aload_n X dX2_meetOf_21 0 rfl rfl ?_
    refine z_get (j := 0) (v := .ref (ad 1)) X inX2 rfl (by decide) w_171 (hw.2.1 _) rfl dX2_meetOf_22 ?_
    refine z_iload_n X dX2_meetOf_25 1 rfl rfl ?_
    refine z_iload X dX2_meetOf_26 5 rfl ?_
    obtain ⟨r1, hr1, h⟩ := ob h
    refine z_cVI (As := [.int v1, .int x.2]) (st := []) X (tX0_rightSize hw.1 M hr1) w_194 mvX0_rightSize (by rw [eR]; exact ⟨Nat.le_of_ble_eq_true rfl, Nat.le_of_ble_eq_true rfl⟩) ⟨rfl, rfl⟩ rfl (Nat.le_of_ble_eq_true rfl) (hw.1.1 _) rfl rfl dX2_meetOf_28 ?_
    refine z_aload_n X dX2_meetOf_31 0 rfl rfl ?_
    refine z_get (j := 0) (v := .ref (ad 1)) X inX2 rfl (by decide) w_171 (hw.2.1 _) rfl dX2_meetOf_32 ?_
    refine z_iload_n X dX2_meetOf_35 2 rfl rfl ?_
    refine z_iload X dX2_meetOf_36 5 rfl ?_
    obtain ⟨r2, hr2, h⟩ := ob h
    refine z_cVI (As := [.int v2, .int x.2]) (st := [.int r1]) X (tX0_rightSize hw.1 M hr2) w_194 mvX0_rightSize (by rw [eR]; exact ⟨Nat.le_of_ble_eq_true rfl, Nat.le_of_ble_eq_true rfl⟩) ⟨rfl, rfl⟩ rfl (Nat.le_of_ble_eq_true rfl) (hw.1.1 _) rfl rfl dX2_meetOf_38 ?_
    refine z_min X w_195 w_min (by rw [eR]; exact Nat.le_of_ble_eq_true rfl) (by rw [eR]; exact Nat.le_of_ble_eq_true rfl) dX2_meetOf_41 ?_
    refine z_istore (lv' := [(6, .int (if r2 < r1 then r2 else r1)), (0, .ref (ad 4)), (1, .int v1), (2, .int v2), (3, .int v3), (4, .int x.1), (5, .int x.2)]) X dX2_meetOf_44 (by decide) rfl ?_
    refine z_iload X dX2_meetOf_46 5 rfl ?_
    refine z_iload X dX2_meetOf_48 0 rfl ?_
    refine z_iload_n X dX2_meetOf_50 4 rfl rfl ?_
    refine z_iload X dX2_meetOf_51 6 rfl ?_
    obtain ⟨r3, hr3, h⟩ := ob h
    refine z_cSI (As := [.int (if r2 < r1 then r2 else r1), .int v3, .int x.2]) (st := [.int x.1]) X (tX0_digitAt hw.1 M hr3) w_192 msX0_digitAt (by rw [eR]; exact ⟨Nat.le_of_ble_eq_true rfl, Nat.le_of_ble_eq_true rfl⟩) ⟨rfl, rfl⟩ rfl (Nat.le_of_ble_eq_true rfl) rfl dX2_meetOf_53 ?_
    refine z_ior X dX2_meetOf_56 ?_
    refine z_istore (lv' := [(4, .int (x.1 ||| r3)), (6, .int (if r2 < r1 then r2 else r1)), (0, .ref (ad 4)), (1, .int v1), (2, .int v2), (3, .int v3), (5, .int x.2)]) X dX2_meetOf_57 (by decide) rfl ?_
    refine z_iinc (v := (x.2 + nI 1)) (lv' := [(5, .int (x.2 + nI 1)), (4, .int (x.1 ||| r3)), (6, .int (if r2 < r1 then r2 else r1)), (0, .ref (ad 4)), (1, .int v1), (2, .int v2), (3, .int v3)]) X dX2_meetOf_59 6 rfl rfl (by decide) rfl ?_
    refine z_goto (tgt := 15) X dX2_meetOf_62 (by decide) ?_
    have hq := Option.some.inj h
    subst hq
    exact z_sub [3, 4, 5, 6, 1, 0] rfl hs
set_option maxHeartbeats 4000000 in
theorem tX2_meetOf {l : Launch} {D : va_G} {ct : Nat → ClassId} {tF : Nat} {wOf : Mm → va_W} {po ad : Nat → Nat} (hw : KC wOf po ad ct) (M : Mm) {v1 : Int32} {v2 : Int32} {r : Int32} (h : fX2_meetOf (M.1 2) (M.1 3) v1 v2 = some r) : CtI l yX2_meetOf cX2_meetOf 7 .int { frames := 3, cells := 0, slots := 0, locals := 66 } D ct tF wOf [.ref (ad 4), .int v1, .int v2] M r M := by
  refine metI (by decide) (Nat.le_of_ble_eq_true rfl) fun κ X e1 eR e3 e4 hs => ?_
  subst e1; subst e3; subst e4
  unfold fX2_meetOf at h
  refine z_sub (lv' := [(0, .ref (ad 4)), (1, .int v1), (2, .int v2)]) [0, 1, 2] rfl ?_
  refine z_aload_n X dX2_meetOf_0 0 rfl rfl ?_
  refine z_get (j := 0) (v := .ref (ad 1)) X inX2 rfl (by decide) w_171 (hw.2.1 _) rfl dX2_meetOf_1 ?_
  refine z_iload_n X dX2_meetOf_4 1 rfl rfl ?_
  obtain ⟨r1, hr1, h⟩ := ob h
  refine z_cVI (As := [.int v1]) (st := []) X (tX0_sizeOf hw.1 M hr1) w_186 mvX0_sizeOf (by rw [eR]; exact ⟨Nat.le_of_ble_eq_true rfl, Nat.le_of_ble_eq_true rfl⟩) ⟨rfl, rfl⟩ rfl (Nat.le_of_ble_eq_true rfl) (hw.1.1 _) rfl rfl dX2_meetOf_5 ?_
  refine z_istore_n (lv' := [(3, .int r1), (0, .ref (ad 4)), (1, .int v1), (2, .int v2)]) X dX2_meetOf_8 rfl (by decide) rfl ?_
  refine z_iconst (v := (nI 0)) X dX2_meetOf_9 (by decide) ?_
  refine z_istore (lv' := [(4, .int (nI 0)), (3, .int r1), (0, .ref (ad 4)), (1, .int v1), (2, .int v2)]) X dX2_meetOf_10 (by decide) rfl ?_
  refine z_iconst (v := (nI 0)) X dX2_meetOf_12 (by decide) ?_
  refine z_istore (lv' := [(5, .int (nI 0)), (4, .int (nI 0)), (3, .int r1), (0, .ref (ad 4)), (1, .int v1), (2, .int v2)]) X dX2_meetOf_13 (by decide) rfl ?_
  refine z_sub [3, 4, 5, 2, 1, 0] rfl ?_
  obtain ⟨y2, hy2, h⟩ := ob h
  refine (it_Z (bX2_meetOf_B15 X eR hw M v1 v2 r1) FU _ y2 hy2) ?_
  refine z_aload_n X dX2_meetOf_65 0 rfl rfl ?_
  refine z_get (j := 0) (v := .ref (ad 1)) X inX2 rfl (by decide) w_171 (hw.2.1 _) rfl dX2_meetOf_66 ?_
  refine z_iload_n X dX2_meetOf_69 1 rfl rfl ?_
  refine z_iload X dX2_meetOf_70 2 rfl ?_
  obtain ⟨r3, hr3, h⟩ := ob h
  refine z_cVI (As := [.int r1, .int y2]) (st := []) X (tX0_find hw.1 M hr3) w_193 mvX0_find (by rw [eR]; exact ⟨Nat.le_of_ble_eq_true rfl, Nat.le_of_ble_eq_true rfl⟩) ⟨rfl, rfl⟩ rfl (Nat.le_of_ble_eq_true rfl) (hw.1.1 _) rfl rfl dX2_meetOf_72 ?_
  have hq := Option.some.inj h
  subst hq
  exact z_iret hs dX2_meetOf_75 rfl
set_option maxHeartbeats 4000000 in
theorem tX2_meetOrJoin {l : Launch} {D : va_G} {ct : Nat → ClassId} {tF : Nat} {wOf : Mm → va_W} {po ad : Nat → Nat} (hw : KC wOf po ad ct) (M : Mm) {v1 : Int32} {v2 : Int32} {v3 : Int32} {r : Int32} (h : fX2_meetOrJoin (M.1 2) (M.1 3) v1 v2 v3 = some r) : CtI l yX2_meetOrJoin cX2_meetOrJoin 4 .int { frames := 4, cells := 0, slots := 0, locals := 93 } D ct tF wOf [.ref (ad 4), .int v1, .int v2, .int v3] M r M := by
  refine metI (by decide) (Nat.le_of_ble_eq_true rfl) fun κ X e1 eR e3 e4 hs => ?_
  subst e1; subst e3; subst e4
  unfold fX2_meetOrJoin at h
  refine z_sub (lv' := [(0, .ref (ad 4)), (1, .int v1), (2, .int v2), (3, .int v3)]) [0, 1, 2, 3] rfl ?_
  refine z_iload_n X dX2_meetOrJoin_0 3 rfl rfl ?_
  refine z_if_eq (tgt := 13) X dX2_meetOrJoin_1 (by decide) (fun c1 => ?_) (fun c1 => ?_)
  · rw [if_pos c1] at h
    refine z_aload_n X dX2_meetOrJoin_13 0 rfl rfl ?_
    refine z_iload_n X dX2_meetOrJoin_14 1 rfl rfl ?_
    refine z_iload_n X dX2_meetOrJoin_15 2 rfl rfl ?_
    obtain ⟨r1, hr1, h⟩ := ob h
    refine z_cVI (As := [.int v1, .int v2]) (st := []) X (tX2_meetOf hw M hr1) w_196 mvX2_meetOf (by rw [eR]; exact ⟨Nat.le_of_ble_eq_true rfl, Nat.le_of_ble_eq_true rfl⟩) ⟨rfl, rfl⟩ rfl (Nat.le_of_ble_eq_true rfl) (hw.2.1 _) rfl rfl dX2_meetOrJoin_16 ?_
    have hq := Option.some.inj h
    subst hq
    exact z_iret hs dX2_meetOrJoin_19 rfl
  · rw [if_neg c1] at h
    refine z_aload_n X dX2_meetOrJoin_4 0 rfl rfl ?_
    refine z_iload_n X dX2_meetOrJoin_5 1 rfl rfl ?_
    refine z_iload_n X dX2_meetOrJoin_6 2 rfl rfl ?_
    obtain ⟨r2, hr2, h⟩ := ob h
    refine z_cVI (As := [.int v1, .int v2]) (st := []) X (tX2_joinOf hw M hr2) w_200 mvX2_joinOf (by rw [eR]; exact ⟨Nat.le_of_ble_eq_true rfl, Nat.le_of_ble_eq_true rfl⟩) ⟨rfl, rfl⟩ rfl (Nat.le_of_ble_eq_true rfl) (hw.2.1 _) rfl rfl dX2_meetOrJoin_7 ?_
    refine z_goto (tgt := 19) X dX2_meetOrJoin_10 (by decide) ?_
    have hq := Option.some.inj h
    subst hq
    exact z_iret hs dX2_meetOrJoin_19 rfl
set_option maxHeartbeats 4000000 in
theorem tX2_isWithin {l : Launch} {D : va_G} {ct : Nat → ClassId} {tF : Nat} {wOf : Mm → va_W} {po ad : Nat → Nat} (hw : KC wOf po ad ct) (M : Mm) {v0 : Int32} {v1 : Int32} {v2 : Int32} {r : Int32} (h : fX2_isWithin v0 v1 v2 = some r) : CtI l yX2_isWithin cX2_isWithin 3 .boolean { frames := 1, cells := 0, slots := 0, locals := 21 } D ct tF wOf [.int v0, .int v1, .int v2] M r M := by
  refine metI (by decide) (Nat.le_of_ble_eq_true rfl) fun κ X e1 eR e3 e4 hs => ?_
  subst e1; subst e3; subst e4
  unfold fX2_isWithin at h
  refine z_sub (lv' := [(0, .int v0), (1, .int v1), (2, .int v2)]) [0, 1, 2] rfl ?_
  refine z_iload_n X dX2_isWithin_0 0 rfl rfl ?_
  refine z_iload_n X dX2_isWithin_1 1 rfl rfl ?_
  obtain ⟨r1, hr1, h⟩ := ob h
  refine z_cSI (As := [.int v0, .int v1]) (st := []) X (tX2_noMore hw M hr1) w_173 msX2_noMore (by rw [eR]; exact ⟨Nat.le_of_ble_eq_true rfl, Nat.le_of_ble_eq_true rfl⟩) ⟨rfl, rfl⟩ rfl (Nat.le_of_ble_eq_true rfl) rfl dX2_isWithin_2 ?_
  refine z_if_eq (tgt := 20) X dX2_isWithin_5 (by decide) (fun c5 => ?_) (fun c5 => ?_)
  · rw [if_pos c5] at h
    refine z_iconst (v := (nI 0)) X dX2_isWithin_20 (by decide) ?_
    have hq := Option.some.inj h
    subst hq
    exact z_iret hs dX2_isWithin_21 rfl
  · rw [if_neg c5] at h
    refine z_iload_n X dX2_isWithin_8 1 rfl rfl ?_
    refine z_iload_n X dX2_isWithin_9 2 rfl rfl ?_
    obtain ⟨r2, hr2, h⟩ := ob h
    refine z_cSI (As := [.int v1, .int v2]) (st := []) X (tX2_noMore hw M hr2) w_173 msX2_noMore (by rw [eR]; exact ⟨Nat.le_of_ble_eq_true rfl, Nat.le_of_ble_eq_true rfl⟩) ⟨rfl, rfl⟩ rfl (Nat.le_of_ble_eq_true rfl) rfl dX2_isWithin_10 ?_
    refine z_if_eq (tgt := 20) X dX2_isWithin_13 (by decide) (fun c13 => ?_) (fun c13 => ?_)
    · rw [if_pos c13] at h
      refine z_iconst (v := (nI 0)) X dX2_isWithin_20 (by decide) ?_
      have hq := Option.some.inj h
      subst hq
      exact z_iret hs dX2_isWithin_21 rfl
    · rw [if_neg c13] at h
      refine z_iconst (v := (nI 1)) X dX2_isWithin_16 (by decide) ?_
      refine z_goto (tgt := 21) X dX2_isWithin_17 (by decide) ?_
      have hq := Option.some.inj h
      subst hq
      exact z_iret hs dX2_isWithin_21 rfl
set_option maxHeartbeats 4000000 in
theorem jX2_howManyBetween_J52 {κ : Rx} {ct : Nat → ClassId} {tF : Nat} {po ad : Nat → Nat} (X : CX κ ct tF cX2_howManyBetween 7 RX2) (eR : kR κ = { frames := 2, cells := 0, slots := 0, locals := 43 }) (hw : KC (kw κ) po ad ct) (M : Mm)   (v2 : Int32) (v3 : Int32) (v4 : Int32) (v5 : Int32) (v6 : Int32)  (s : ((Int32 × Int32) ⊕ Int32)) (h : fX2_howManyBetween_J52 (M.1 2) v2 v3 v4 v5 v6 = some s) (hs : (Sum.elim (fun x => Zj κ 7 25 [(0, .ref (ad 4)), (2, .int v2), (3, .int v3), (4, .int v4), (5, .int x.1), (6, .int x.2)] [] M) (fun y => Zj κ 7 58 [(5, .int y)] [] M) s)) : Zj κ 7 52 [(0, .ref (ad 4)), (2, .int v2), (3, .int v3), (4, .int v4), (5, .int v5), (6, .int v6)] [] M := by
  unfold fX2_howManyBetween_J52 at h
  refine z_iinc (v := (v6 + nI 1)) (lv' := [(6, .int (v6 + nI 1)), (0, .ref (ad 4)), (2, .int v2), (3, .int v3), (4, .int v4), (5, .int v5)]) X dX2_howManyBetween_52 5 rfl rfl (by decide) rfl ?_
  refine z_goto (tgt := 25) X dX2_howManyBetween_55 (by decide) ?_
  have hq := Option.some.inj h
  subst hq
  exact z_sub [1, 2, 3, 4, 5, 0] rfl hs
set_option maxHeartbeats 4000000 in
theorem bX2_howManyBetween_B25 {κ : Rx} {ct : Nat → ClassId} {tF : Nat} {po ad : Nat → Nat} (X : CX κ ct tF cX2_howManyBetween 7 RX2) (eR : kR κ = { frames := 2, cells := 0, slots := 0, locals := 43 }) (hw : KC (kw κ) po ad ct) (M : Mm)  (v2 : Int32) (v3 : Int32) (v4 : Int32) : ∀ (x : (Int32 × Int32)) (s : (Int32 × Int32) ⊕ Int32), fX2_howManyBetween_B25 (M.1 2) v2 v3 v4 x = some s → Sum.elim (fun x => Zj κ 7 25 [(0, .ref (ad 4)), (2, .int v2), (3, .int v3), (4, .int v4), (5, .int x.1), (6, .int x.2)] [] M) (fun y => Zj κ 7 58 [(5, .int y)] [] M) s → Zj κ 7 25 [(0, .ref (ad 4)), (2, .int v2), (3, .int v3), (4, .int v4), (5, .int x.1), (6, .int x.2)] [] M := by
  intro x s h hs
  unfold fX2_howManyBetween_B25 at h
  refine z_iload X dX2_howManyBetween_25 5 rfl ?_
  refine z_iload_n X dX2_howManyBetween_27 1 rfl rfl ?_
  refine z_icmp_gt (tgt := 58) X dX2_howManyBetween_28 (by decide) (fun c28 => ?_) (fun c28 => ?_)
  · rw [if_pos c28] at h
    have hq := Option.some.inj h
    subst hq
    exact z_sub [4] rfl hs
  · rw [if_neg c28] at h
    refine z_iload_n X dX2_howManyBetween_31 2 rfl rfl ?_
    refine z_aload_n X dX2_howManyBetween_32 0 rfl rfl ?_
    refine z_get (j := 0) (v := .ref (ad 1)) X inX2 rfl (by decide) w_171 (hw.2.1 _) rfl dX2_howManyBetween_33 ?_
    refine z_iload X dX2_howManyBetween_36 5 rfl ?_
    obtain ⟨r1, hr1, h⟩ := ob h
    refine z_cVI (As := [.int x.2]) (st := [.int v3]) X (tX0_codeOf hw.1 M hr1) w_172 mvX0_codeOf (by rw [eR]; exact ⟨Nat.le_of_ble_eq_true rfl, Nat.le_of_ble_eq_true rfl⟩) ⟨rfl, rfl⟩ rfl (Nat.le_of_ble_eq_true rfl) (hw.1.1 _) rfl rfl dX2_howManyBetween_38 ?_
    refine z_iload X dX2_howManyBetween_41 3 rfl ?_
    obtain ⟨r2, hr2, h⟩ := ob h
    refine z_cSI (As := [.int v3, .int r1, .int v4]) (st := []) X (tX2_isWithin hw M hr2) w_208 msX2_isWithin (by rw [eR]; exact ⟨Nat.le_of_ble_eq_true rfl, Nat.le_of_ble_eq_true rfl⟩) ⟨rfl, rfl⟩ rfl (Nat.le_of_ble_eq_true rfl) rfl dX2_howManyBetween_43 ?_
    refine z_if_eq (tgt := 52) X dX2_howManyBetween_46 (by decide) (fun c46 => ?_) (fun c46 => ?_)
    · rw [if_pos c46] at h
      exact (jX2_howManyBetween_J52 X eR hw M v2 v3 v4 x.1 x.2 _ h hs)
    · rw [if_neg c46] at h
      refine z_iinc (v := (x.1 + nI 1)) (lv' := [(5, .int (x.1 + nI 1)), (0, .ref (ad 4)), (2, .int v2), (3, .int v3), (4, .int v4), (6, .int x.2)]) X dX2_howManyBetween_49 4 rfl rfl (by decide) rfl ?_
      exact z_sub [1, 2, 3, 4, 0, 5] rfl (jX2_howManyBetween_J52 X eR hw M v2 v3 v4 (x.1 + nI 1) x.2 _ h hs)
set_option maxHeartbeats 4000000 in
theorem tX2_howManyBetween {l : Launch} {D : va_G} {ct : Nat → ClassId} {tF : Nat} {wOf : Mm → va_W} {po ad : Nat → Nat} (hw : KC wOf po ad ct) (M : Mm) {v1 : Int32} {v2 : Int32} {r : Int32} (h : fX2_howManyBetween (M.1 2) v1 v2 = some r) : CtI l yX2_howManyBetween cX2_howManyBetween 7 .int { frames := 2, cells := 0, slots := 0, locals := 43 } D ct tF wOf [.ref (ad 4), .int v1, .int v2] M r M := by
  refine metI (by decide) (Nat.le_of_ble_eq_true rfl) fun κ X e1 eR e3 e4 hs => ?_
  subst e1; subst e3; subst e4
  unfold fX2_howManyBetween at h
  refine z_sub (lv' := [(0, .ref (ad 4)), (1, .int v1), (2, .int v2)]) [0, 1, 2] rfl ?_
  refine z_aload_n X dX2_howManyBetween_0 0 rfl rfl ?_
  refine z_get (j := 0) (v := .ref (ad 1)) X inX2 rfl (by decide) w_171 (hw.2.1 _) rfl dX2_howManyBetween_1 ?_
  refine z_iload_n X dX2_howManyBetween_4 1 rfl rfl ?_
  obtain ⟨r1, hr1, h⟩ := ob h
  refine z_cVI (As := [.int v1]) (st := []) X (tX0_codeOf hw.1 M hr1) w_172 mvX0_codeOf (by rw [eR]; exact ⟨Nat.le_of_ble_eq_true rfl, Nat.le_of_ble_eq_true rfl⟩) ⟨rfl, rfl⟩ rfl (Nat.le_of_ble_eq_true rfl) (hw.1.1 _) rfl rfl dX2_howManyBetween_5 ?_
  refine z_istore_n (lv' := [(3, .int r1), (0, .ref (ad 4)), (1, .int v1), (2, .int v2)]) X dX2_howManyBetween_8 rfl (by decide) rfl ?_
  refine z_aload_n X dX2_howManyBetween_9 1 rfl rfl ?_
  refine z_get (j := 0) (v := .ref (ad 1)) X inX2 rfl (by decide) w_171 (hw.2.1 _) rfl dX2_howManyBetween_10 ?_
  refine z_iload_n X dX2_howManyBetween_13 3 rfl rfl ?_
  obtain ⟨r2, hr2, h⟩ := ob h
  refine z_cVI (As := [.int v2]) (st := []) X (tX0_codeOf hw.1 M hr2) w_172 mvX0_codeOf (by rw [eR]; exact ⟨Nat.le_of_ble_eq_true rfl, Nat.le_of_ble_eq_true rfl⟩) ⟨rfl, rfl⟩ rfl (Nat.le_of_ble_eq_true rfl) (hw.1.1 _) rfl rfl dX2_howManyBetween_14 ?_
  refine z_istore (lv' := [(4, .int r2), (3, .int r1), (0, .ref (ad 4)), (1, .int v1), (2, .int v2)]) X dX2_howManyBetween_17 (by decide) rfl ?_
  refine z_iconst (v := (nI 0)) X dX2_howManyBetween_19 (by decide) ?_
  refine z_istore (lv' := [(5, .int (nI 0)), (4, .int r2), (3, .int r1), (0, .ref (ad 4)), (1, .int v1), (2, .int v2)]) X dX2_howManyBetween_20 (by decide) rfl ?_
  refine z_iload_n X dX2_howManyBetween_22 4 rfl rfl ?_
  refine z_istore (lv' := [(6, .int v1), (5, .int (nI 0)), (4, .int r2), (3, .int r1), (0, .ref (ad 4)), (1, .int v1), (2, .int v2)]) X dX2_howManyBetween_23 (by decide) rfl ?_
  refine z_sub [4, 6, 3, 2, 1, 0] rfl ?_
  obtain ⟨y3, hy3, h⟩ := ob h
  refine (it_Z (bX2_howManyBetween_B25 X eR hw M v2 r1 r2) FU _ y3 hy3) ?_
  refine z_iload X dX2_howManyBetween_58 0 rfl ?_
  have hq := Option.some.inj h
  subst hq
  exact z_iret hs dX2_howManyBetween_60 rfl
set_option maxHeartbeats 4000000 in
theorem jX2_nthBetween_J63 {κ : Rx} {ct : Nat → ClassId} {tF : Nat} {po ad : Nat → Nat} (X : CX κ ct tF cX2_nthBetween 8 RX2) (eR : kR κ = { frames := 2, cells := 0, slots := 0, locals := 43 }) (hw : KC (kw κ) po ad ct) (M : Mm)   (v2 : Int32) (v3 : Int32) (v4 : Int32) (v5 : Int32) (v6 : Int32) (v7 : Int32)  (s : ((Int32 × Int32) ⊕ (Unit ⊕ Int32))) (h : fX2_nthBetween_J63 (M.1 2) v2 v3 v4 v5 v6 v7 = some s) (hs : (Sum.elim (fun x => Zj κ 8 26 [(0, .ref (ad 4)), (2, .int v2), (3, .int v3), (4, .int v4), (5, .int v5), (6, .int x.1), (7, .int x.2)] [] M) (Sum.elim (fun y => Zj κ 8 69 [] [] M) (fun r => ZI κ cX2_nthBetween .int r M)) s)) : Zj κ 8 63 [(0, .ref (ad 4)), (2, .int v2), (3, .int v3), (4, .int v4), (5, .int v5), (6, .int v6), (7, .int v7)] [] M := by
  unfold fX2_nthBetween_J63 at h
  refine z_iinc (v := (v7 + nI 1)) (lv' := [(7, .int (v7 + nI 1)), (0, .ref (ad 4)), (2, .int v2), (3, .int v3), (4, .int v4), (5, .int v5), (6, .int v6)]) X dX2_nthBetween_63 6 rfl rfl (by decide) rfl ?_
  refine z_goto (tgt := 26) X dX2_nthBetween_66 (by decide) ?_
  have hq := Option.some.inj h
  subst hq
  exact z_sub [1, 2, 3, 4, 5, 6, 0] rfl hs
set_option maxHeartbeats 4000000 in
theorem bX2_nthBetween_B26 {κ : Rx} {ct : Nat → ClassId} {tF : Nat} {po ad : Nat → Nat} (X : CX κ ct tF cX2_nthBetween 8 RX2) (eR : kR κ = { frames := 2, cells := 0, slots := 0, locals := 43 }) (hw : KC (kw κ) po ad ct) (M : Mm)  (v2 : Int32) (v3 : Int32) (v4 : Int32) (v5 : Int32) : ∀ (x : (Int32 × Int32)) (s : (Int32 × Int32) ⊕ (Unit ⊕ Int32)), fX2_nthBetween_B26 (M.1 2) v2 v3 v4 v5 x = some s → Sum.elim (fun x => Zj κ 8 26 [(0, .ref (ad 4)), (2, .int v2), (3, .int v3), (4, .int v4), (5, .int v5), (6, .int x.1), (7, .int x.2)] [] M) (Sum.elim (fun y => Zj κ 8 69 [] [] M) (fun r => ZI κ cX2_nthBetween .int r M)) s → Zj κ 8 26 [(0, .ref (ad 4)), (2, .int v2), (3, .int v3), (4, .int v4), (5, .int v5), (6, .int x.1), (7, .int x.2)] [] M := by
  intro x s h hs
  unfold fX2_nthBetween_B26 at h
  refine z_iload X dX2_nthBetween_26 6 rfl ?_
  refine z_iload_n X dX2_nthBetween_28 1 rfl rfl ?_
  refine z_icmp_gt (tgt := 69) X dX2_nthBetween_29 (by decide) (fun c29 => ?_) (fun c29 => ?_)
  · rw [if_pos c29] at h
    have hq := Option.some.inj h
    subst hq
    exact z_sub [] rfl hs
  · rw [if_neg c29] at h
    refine z_iload X dX2_nthBetween_32 3 rfl ?_
    refine z_aload_n X dX2_nthBetween_34 0 rfl rfl ?_
    refine z_get (j := 0) (v := .ref (ad 1)) X inX2 rfl (by decide) w_171 (hw.2.1 _) rfl dX2_nthBetween_35 ?_
    refine z_iload X dX2_nthBetween_38 6 rfl ?_
    obtain ⟨r1, hr1, h⟩ := ob h
    refine z_cVI (As := [.int x.2]) (st := [.int v4]) X (tX0_codeOf hw.1 M hr1) w_172 mvX0_codeOf (by rw [eR]; exact ⟨Nat.le_of_ble_eq_true rfl, Nat.le_of_ble_eq_true rfl⟩) ⟨rfl, rfl⟩ rfl (Nat.le_of_ble_eq_true rfl) (hw.1.1 _) rfl rfl dX2_nthBetween_40 ?_
    refine z_iload X dX2_nthBetween_43 4 rfl ?_
    obtain ⟨r2, hr2, h⟩ := ob h
    refine z_cSI (As := [.int v4, .int r1, .int v5]) (st := []) X (tX2_isWithin hw M hr2) w_208 msX2_isWithin (by rw [eR]; exact ⟨Nat.le_of_ble_eq_true rfl, Nat.le_of_ble_eq_true rfl⟩) ⟨rfl, rfl⟩ rfl (Nat.le_of_ble_eq_true rfl) rfl dX2_nthBetween_45 ?_
    refine z_if_eq (tgt := 63) X dX2_nthBetween_48 (by decide) (fun c48 => ?_) (fun c48 => ?_)
    · rw [if_pos c48] at h
      exact (jX2_nthBetween_J63 X eR hw M v2 v3 v4 v5 x.1 x.2 _ h hs)
    · rw [if_neg c48] at h
      refine z_iload X dX2_nthBetween_51 5 rfl ?_
      refine z_iload_n X dX2_nthBetween_53 2 rfl rfl ?_
      refine z_icmp_ne (tgt := 60) X dX2_nthBetween_54 (by decide) (fun c54 => ?_) (fun c54 => ?_)
      · rw [if_neg c54] at h
        refine z_iinc (v := (x.1 + nI 1)) (lv' := [(6, .int (x.1 + nI 1)), (0, .ref (ad 4)), (2, .int v2), (3, .int v3), (4, .int v4), (5, .int v5), (7, .int x.2)]) X dX2_nthBetween_60 5 rfl rfl (by decide) rfl ?_
        exact z_sub [1, 2, 3, 4, 5, 0, 6] rfl (jX2_nthBetween_J63 X eR hw M v2 v3 v4 v5 (x.1 + nI 1) x.2 _ h hs)
      · rw [if_pos c54] at h
        refine z_iload X dX2_nthBetween_57 6 rfl ?_
        have hq := Option.some.inj h
        subst hq
        exact z_iret hs dX2_nthBetween_59 rfl
set_option maxHeartbeats 4000000 in
theorem tX2_nthBetween {l : Launch} {D : va_G} {ct : Nat → ClassId} {tF : Nat} {wOf : Mm → va_W} {po ad : Nat → Nat} (hw : KC wOf po ad ct) (M : Mm) {v1 : Int32} {v2 : Int32} {v3 : Int32} {r : Int32} (h : fX2_nthBetween (M.1 2) v1 v2 v3 = some r) : CtI l yX2_nthBetween cX2_nthBetween 8 .int { frames := 2, cells := 0, slots := 0, locals := 43 } D ct tF wOf [.ref (ad 4), .int v1, .int v2, .int v3] M r M := by
  refine metI (by decide) (Nat.le_of_ble_eq_true rfl) fun κ X e1 eR e3 e4 hs => ?_
  subst e1; subst e3; subst e4
  unfold fX2_nthBetween at h
  refine z_sub (lv' := [(0, .ref (ad 4)), (1, .int v1), (2, .int v2), (3, .int v3)]) [0, 1, 2, 3] rfl ?_
  refine z_aload_n X dX2_nthBetween_0 0 rfl rfl ?_
  refine z_get (j := 0) (v := .ref (ad 1)) X inX2 rfl (by decide) w_171 (hw.2.1 _) rfl dX2_nthBetween_1 ?_
  refine z_iload_n X dX2_nthBetween_4 1 rfl rfl ?_
  obtain ⟨r1, hr1, h⟩ := ob h
  refine z_cVI (As := [.int v1]) (st := []) X (tX0_codeOf hw.1 M hr1) w_172 mvX0_codeOf (by rw [eR]; exact ⟨Nat.le_of_ble_eq_true rfl, Nat.le_of_ble_eq_true rfl⟩) ⟨rfl, rfl⟩ rfl (Nat.le_of_ble_eq_true rfl) (hw.1.1 _) rfl rfl dX2_nthBetween_5 ?_
  refine z_istore (lv' := [(4, .int r1), (0, .ref (ad 4)), (1, .int v1), (2, .int v2), (3, .int v3)]) X dX2_nthBetween_8 (by decide) rfl ?_
  refine z_aload_n X dX2_nthBetween_10 1 rfl rfl ?_
  refine z_get (j := 0) (v := .ref (ad 1)) X inX2 rfl (by decide) w_171 (hw.2.1 _) rfl dX2_nthBetween_11 ?_
  refine z_iload_n X dX2_nthBetween_14 3 rfl rfl ?_
  obtain ⟨r2, hr2, h⟩ := ob h
  refine z_cVI (As := [.int v2]) (st := []) X (tX0_codeOf hw.1 M hr2) w_172 mvX0_codeOf (by rw [eR]; exact ⟨Nat.le_of_ble_eq_true rfl, Nat.le_of_ble_eq_true rfl⟩) ⟨rfl, rfl⟩ rfl (Nat.le_of_ble_eq_true rfl) (hw.1.1 _) rfl rfl dX2_nthBetween_15 ?_
  refine z_istore (lv' := [(5, .int r2), (4, .int r1), (0, .ref (ad 4)), (1, .int v1), (2, .int v2), (3, .int v3)]) X dX2_nthBetween_18 (by decide) rfl ?_
  refine z_iconst (v := (nI 0)) X dX2_nthBetween_20 (by decide) ?_
  refine z_istore (lv' := [(6, .int (nI 0)), (5, .int r2), (4, .int r1), (0, .ref (ad 4)), (1, .int v1), (2, .int v2), (3, .int v3)]) X dX2_nthBetween_21 (by decide) rfl ?_
  refine z_iload_n X dX2_nthBetween_23 4 rfl rfl ?_
  refine z_istore (lv' := [(7, .int v1), (6, .int (nI 0)), (5, .int r2), (4, .int r1), (0, .ref (ad 4)), (1, .int v1), (2, .int v2), (3, .int v3)]) X dX2_nthBetween_24 (by decide) rfl ?_
  refine z_sub [4, 6, 7, 3, 2, 1, 0] rfl ?_
  obtain ⟨y3_, hy3, h⟩ := ob h
  cases y3_ with
  | inl y3 =>
    rw [Sum.elim_inl] at h
    refine (it_Z (bX2_nthBetween_B26 X eR hw M v2 v3 r1 r2) FU _ (.inl y3) hy3) ?_
    refine z_iconst (v := (nI 0)) X dX2_nthBetween_69 (by decide) ?_
    have hq := Option.some.inj h
    subst hq
    exact z_iret hs dX2_nthBetween_70 rfl
  | inr y3 =>
    rw [Sum.elim_inr] at h
    have hq := Option.some.inj h
    subst hq
    exact (it_Z (bX2_nthBetween_B26 X eR hw M v2 v3 r1 r2) FU _ (.inr _) hy3) hs
set_option maxHeartbeats 4000000 in
theorem jX2_sumBelow_J43 {κ : Rx} {ct : Nat → ClassId} {tF : Nat} {po ad : Nat → Nat} (X : CX κ ct tF cX2_sumBelow 5 RX2) (eR : kR κ = { frames := 1, cells := 0, slots := 0, locals := 21 }) (hw : KC (kw κ) po ad ct) (M : Mm)   (v1 : Int32) (v2 : Int32) (v3 : Int32) (v4 : Int32)  (s : ((Int32 × Int32) ⊕ Int32)) (h : fX2_sumBelow_J43 (M.1 5) (M.1 6) v1 v2 v3 v4 = some s) (hs : (Sum.elim (fun x => Zj κ 5 5 [(0, .ref (ad 4)), (1, .int v1), (2, .int v2), (3, .int x.1), (4, .int x.2)] [] M) (fun y => Zj κ 5 49 [(3, .int y)] [] M) s)) : Zj κ 5 43 [(0, .ref (ad 4)), (1, .int v1), (2, .int v2), (3, .int v3), (4, .int v4)] [] M := by
  unfold fX2_sumBelow_J43 at h
  refine z_iinc (v := (v4 + nI 1)) (lv' := [(4, .int (v4 + nI 1)), (0, .ref (ad 4)), (1, .int v1), (2, .int v2), (3, .int v3)]) X dX2_sumBelow_43 4 rfl rfl (by decide) rfl ?_
  refine z_goto (tgt := 5) X dX2_sumBelow_46 (by decide) ?_
  have hq := Option.some.inj h
  subst hq
  exact z_sub [1, 2, 3, 4, 0] rfl hs
set_option maxHeartbeats 4000000 in
theorem bX2_sumBelow_B5 {κ : Rx} {ct : Nat → ClassId} {tF : Nat} {po ad : Nat → Nat} (X : CX κ ct tF cX2_sumBelow 5 RX2) (eR : kR κ = { frames := 1, cells := 0, slots := 0, locals := 21 }) (hw : KC (kw κ) po ad ct) (M : Mm)  (v1 : Int32) (v2 : Int32) : ∀ (x : (Int32 × Int32)) (s : (Int32 × Int32) ⊕ Int32), fX2_sumBelow_B5 (M.1 5) (M.1 6) v1 v2 x = some s → Sum.elim (fun x => Zj κ 5 5 [(0, .ref (ad 4)), (1, .int v1), (2, .int v2), (3, .int x.1), (4, .int x.2)] [] M) (fun y => Zj κ 5 49 [(3, .int y)] [] M) s → Zj κ 5 5 [(0, .ref (ad 4)), (1, .int v1), (2, .int v2), (3, .int x.1), (4, .int x.2)] [] M := by
  intro x s h hs
  unfold fX2_sumBelow_B5 at h
  refine z_iload X dX2_sumBelow_5 4 rfl ?_
  refine z_iload_n X dX2_sumBelow_7 2 rfl rfl ?_
  refine z_icmp_ge (tgt := 49) X dX2_sumBelow_8 (by decide) (fun c8 => ?_) (fun c8 => ?_)
  · rw [if_pos c8] at h
    have hq := Option.some.inj h
    subst hq
    exact z_sub [3] rfl hs
  · rw [if_neg c8] at h
    refine z_iload X dX2_sumBelow_11 4 rfl ?_
    refine z_sipush (v := (nI 429)) X dX2_sumBelow_13 (by decide) ?_
    refine z_icmp_ge (tgt := 49) X dX2_sumBelow_16 (by decide) (fun c16 => ?_) (fun c16 => ?_)
    · rw [if_pos c16] at h
      have hq := Option.some.inj h
      subst hq
      exact z_sub [3] rfl hs
    · rw [if_neg c16] at h
      refine z_aload_n X dX2_sumBelow_19 0 rfl rfl ?_
      refine z_get (j := 1) (v := .ref (ad 5)) X inX2 rfl (by decide) w_271 (hw.2.1 _) rfl dX2_sumBelow_20 ?_
      refine z_iload X dX2_sumBelow_23 4 rfl ?_
      obtain ⟨t1, ht1, h⟩ := ob h
      refine z_iald X (hw.2.2.2.2.2.2.2.1 _).1 (rd_ok ht1) dX2_sumBelow_25 ?_
      refine z_iload_n X dX2_sumBelow_26 1 rfl rfl ?_
      obtain ⟨r2, hr2, h⟩ := ob h
      refine z_cSI (As := [.int t1, .int v1]) (st := []) X (tX2_noMore hw M hr2) w_173 msX2_noMore (by rw [eR]; exact ⟨Nat.le_of_ble_eq_true rfl, Nat.le_of_ble_eq_true rfl⟩) ⟨rfl, rfl⟩ rfl (Nat.le_of_ble_eq_true rfl) rfl dX2_sumBelow_27 ?_
      refine z_if_eq (tgt := 43) X dX2_sumBelow_30 (by decide) (fun c30 => ?_) (fun c30 => ?_)
      · rw [if_pos c30] at h
        exact (jX2_sumBelow_J43 X eR hw M v1 v2 x.1 x.2 _ h hs)
      · rw [if_neg c30] at h
        refine z_iload_n X dX2_sumBelow_33 3 rfl rfl ?_
        refine z_aload_n X dX2_sumBelow_34 0 rfl rfl ?_
        refine z_get (j := 2) (v := .ref (ad 6)) X inX2 rfl (by decide) w_272 (hw.2.1 _) rfl dX2_sumBelow_35 ?_
        refine z_iload X dX2_sumBelow_38 4 rfl ?_
        obtain ⟨t3, ht3, h⟩ := ob h
        refine z_iald X (hw.2.2.2.2.2.2.2.2.1 _).1 (rd_ok ht3) dX2_sumBelow_40 ?_
        refine z_iadd X dX2_sumBelow_41 ?_
        refine z_istore_n (lv' := [(3, .int (x.1 + t3)), (0, .ref (ad 4)), (1, .int v1), (2, .int v2), (4, .int x.2)]) X dX2_sumBelow_42 rfl (by decide) rfl ?_
        exact z_sub [1, 2, 3, 0, 4] rfl (jX2_sumBelow_J43 X eR hw M v1 v2 (x.1 + t3) x.2 _ h hs)
set_option maxHeartbeats 4000000 in
theorem tX2_sumBelow {l : Launch} {D : va_G} {ct : Nat → ClassId} {tF : Nat} {wOf : Mm → va_W} {po ad : Nat → Nat} (hw : KC wOf po ad ct) (M : Mm) {v1 : Int32} {v2 : Int32} {r : Int32} (h : fX2_sumBelow (M.1 5) (M.1 6) v1 v2 = some r) : CtI l yX2_sumBelow cX2_sumBelow 5 .int { frames := 1, cells := 0, slots := 0, locals := 21 } D ct tF wOf [.ref (ad 4), .int v1, .int v2] M r M := by
  refine metI (by decide) (Nat.le_of_ble_eq_true rfl) fun κ X e1 eR e3 e4 hs => ?_
  subst e1; subst e3; subst e4
  unfold fX2_sumBelow at h
  refine z_sub (lv' := [(0, .ref (ad 4)), (1, .int v1), (2, .int v2)]) [0, 1, 2] rfl ?_
  refine z_iconst (v := (nI 0)) X dX2_sumBelow_0 (by decide) ?_
  refine z_istore_n (lv' := [(3, .int (nI 0)), (0, .ref (ad 4)), (1, .int v1), (2, .int v2)]) X dX2_sumBelow_1 rfl (by decide) rfl ?_
  refine z_iconst (v := (nI 0)) X dX2_sumBelow_2 (by decide) ?_
  refine z_istore (lv' := [(4, .int (nI 0)), (3, .int (nI 0)), (0, .ref (ad 4)), (1, .int v1), (2, .int v2)]) X dX2_sumBelow_3 (by decide) rfl ?_
  refine z_sub [2, 3, 4, 1, 0] rfl ?_
  obtain ⟨y1, hy1, h⟩ := ob h
  refine (it_Z (bX2_sumBelow_B5 X eR hw M v1 v2) FU _ y1 hy1) ?_
  refine z_iload_n X dX2_sumBelow_49 0 rfl rfl ?_
  have hq := Option.some.inj h
  subst hq
  exact z_iret hs dX2_sumBelow_50 rfl
set_option maxHeartbeats 4000000 in
theorem jX2_markOf_J114 {κ : Rx} {ct : Nat → ClassId} {tF : Nat} {po ad : Nat → Nat} (X : CX κ ct tF cX2_markOf 9 RX2) (eR : kR κ = { frames := 2, cells := 0, slots := 0, locals := 45 }) (hw : KC (kw κ) po ad ct) (M : Mm) (a_markedCodes : Nat → Int32) (a_marks : Nat → Int32)  (v1 : Int32) (v2 : Int32) (v3 : Int32) (v4 : Int32) (v5 : Int32) (v6 : Int32) (v7 : Int32)  (s : ((Int32 × Int32 × Int32 × (Nat → Int32) × (Nat → Int32)) ⊕ (Int32 × (Nat → Int32) × (Nat → Int32)))) (h : fX2_markOf_J114 (M.1 2) a_markedCodes a_marks v1 v2 v3 v4 v5 v6 v7 = some s) (hs : (Sum.elim (fun x => Zj κ 9 28 [(0, .ref (ad 4)), (1, .int v1), (2, .int v2), (3, .int v3), (4, .int v4), (5, .int x.1), (6, .int x.2.1), (7, .int x.2.2.1)] [] (mk M [(5, x.2.2.2.1), (6, x.2.2.2.2)] M.2.1 [])) (fun y => Zj κ 9 120 [(6, .int y.1)] [] (mk M [(5, y.2.1), (6, y.2.2)] M.2.1 [])) s)) : Zj κ 9 114 [(0, .ref (ad 4)), (1, .int v1), (2, .int v2), (3, .int v3), (4, .int v4), (5, .int v5), (6, .int v6), (7, .int v7)] [] (mk M [(5, a_markedCodes), (6, a_marks)] M.2.1 []) := by
  unfold fX2_markOf_J114 at h
  refine z_iinc (v := (v7 + nI 1)) (lv' := [(7, .int (v7 + nI 1)), (0, .ref (ad 4)), (1, .int v1), (2, .int v2), (3, .int v3), (4, .int v4), (5, .int v5), (6, .int v6)]) X dX2_markOf_114 7 rfl rfl (by decide) rfl ?_
  refine z_goto (tgt := 28) X dX2_markOf_117 (by decide) ?_
  have hq := Option.some.inj h
  subst hq
  exact z_sub [1, 2, 3, 4, 5, 6, 7, 0] rfl hs
set_option maxHeartbeats 4000000 in
theorem jX2_markOf_J78 {κ : Rx} {ct : Nat → ClassId} {tF : Nat} {po ad : Nat → Nat} (X : CX κ ct tF cX2_markOf 9 RX2) (eR : kR κ = { frames := 2, cells := 0, slots := 0, locals := 45 }) (hw : KC (kw κ) po ad ct) (M : Mm) (a_markedCodes : Nat → Int32) (a_marks : Nat → Int32)  (v1 : Int32) (v2 : Int32) (v3 : Int32) (v4 : Int32) (v5 : Int32) (v7 : Int32) (v8 : Int32) (k0 : Int32) (s : ((Int32 × Int32 × Int32 × (Nat → Int32) × (Nat → Int32)) ⊕ (Int32 × (Nat → Int32) × (Nat → Int32)))) (h : fX2_markOf_J78 (M.1 2) a_markedCodes a_marks v1 v2 v3 v4 v5 v7 v8 k0 = some s) (hs : (Sum.elim (fun x => Zj κ 9 28 [(0, .ref (ad 4)), (1, .int v1), (2, .int v2), (3, .int v3), (4, .int v4), (5, .int x.1), (6, .int x.2.1), (7, .int x.2.2.1)] [] (mk M [(5, x.2.2.2.1), (6, x.2.2.2.2)] M.2.1 [])) (fun y => Zj κ 9 120 [(6, .int y.1)] [] (mk M [(5, y.2.1), (6, y.2.2)] M.2.1 [])) s)) : Zj κ 9 78 [(0, .ref (ad 4)), (1, .int v1), (2, .int v2), (3, .int v3), (4, .int v4), (5, .int v5), (7, .int v7), (8, .int v8)] [.int k0] (mk M [(5, a_markedCodes), (6, a_marks)] M.2.1 []) := by
  unfold fX2_markOf_J78 at h
  refine z_istore (lv' := [(6, .int k0), (0, .ref (ad 4)), (1, .int v1), (2, .int v2), (3, .int v3), (4, .int v4), (5, .int v5), (7, .int v7), (8, .int v8)]) X dX2_markOf_78 (by decide) rfl ?_
  refine z_iload X dX2_markOf_80 0 rfl ?_
  refine z_if_eq (tgt := 114) X dX2_markOf_82 (by decide) (fun c82 => ?_) (fun c82 => ?_)
  · rw [if_pos c82] at h
    exact z_sub [1, 2, 3, 4, 5, 6, 0, 7] rfl (jX2_markOf_J114 X eR hw M a_markedCodes a_marks v1 v2 v3 v4 v5 k0 v7 _ h hs)
  · rw [if_neg c82] at h
    refine z_iload X dX2_markOf_85 6 rfl ?_
    refine z_sipush (v := (nI 429)) X dX2_markOf_87 (by decide) ?_
    refine z_icmp_ge (tgt := 114) X dX2_markOf_90 (by decide) (fun c90 => ?_) (fun c90 => ?_)
    · rw [if_pos c90] at h
      exact z_sub [1, 2, 3, 4, 5, 6, 0, 7] rfl (jX2_markOf_J114 X eR hw M a_markedCodes a_marks v1 v2 v3 v4 v5 k0 v7 _ h hs)
    · rw [if_neg c90] at h
      refine z_aload_n X dX2_markOf_93 1 rfl rfl ?_
      refine z_get (j := 1) (v := .ref (ad 5)) X inX2 rfl (by decide) w_271 (hw.2.1 _) rfl dX2_markOf_94 ?_
      refine z_iload X dX2_markOf_97 6 rfl ?_
      refine z_iload X dX2_markOf_99 8 rfl ?_
      obtain ⟨u1, hu1, h⟩ := ob h
      refine z_iast (M' := (mk M [(5, u1), (6, a_marks)] M.2.1 [])) X (hw.2.2.2.2.2.2.2.1 _).1 (wr_ok hu1) (mk_set1 (l' := [(5, u1), (6, a_marks)]) (hw.2.2.2.2.2.2.2.1) rfl rfl) dX2_markOf_101 ?_
      refine z_aload_n X dX2_markOf_102 1 rfl rfl ?_
      refine z_get (j := 2) (v := .ref (ad 6)) X inX2 rfl (by decide) w_272 (hw.2.1 _) rfl dX2_markOf_103 ?_
      refine z_iload X dX2_markOf_106 6 rfl ?_
      refine z_iload X dX2_markOf_108 0 rfl ?_
      obtain ⟨u2, hu2, h⟩ := ob h
      refine z_iast (M' := (mk M [(5, u1), (6, u2)] M.2.1 [])) X (hw.2.2.2.2.2.2.2.2.1 _).1 (wr_ok hu2) (mk_set1 (l' := [(5, u1), (6, u2)]) (hw.2.2.2.2.2.2.2.2.1) rfl rfl) dX2_markOf_110 ?_
      refine z_iinc (v := (v5 + nI 1)) (lv' := [(5, .int (v5 + nI 1)), (6, .int k0), (0, .ref (ad 4)), (1, .int v1), (2, .int v2), (3, .int v3), (4, .int v4), (7, .int v7), (8, .int v8)]) X dX2_markOf_111 6 rfl rfl (by decide) rfl ?_
      exact z_sub [2, 3, 4, 5, 6, 0, 1, 7] rfl (jX2_markOf_J114 X eR hw M u1 u2 v1 v2 v3 v4 (v5 + nI 1) k0 v7 _ h hs)
set_option maxHeartbeats 4000000 in
theorem bX2_markOf_B28 {κ : Rx} {ct : Nat → ClassId} {tF : Nat} {po ad : Nat → Nat} (X : CX κ ct tF cX2_markOf 9 RX2) (eR : kR κ = { frames := 2, cells := 0, slots := 0, locals := 45 }) (hw : KC (kw κ) po ad ct) (M : Mm)  (v1 : Int32) (v2 : Int32) (v3 : Int32) (v4 : Int32) : ∀ (x : (Int32 × Int32 × Int32 × (Nat → Int32) × (Nat → Int32))) (s : (Int32 × Int32 × Int32 × (Nat → Int32) × (Nat → Int32)) ⊕ (Int32 × (Nat → Int32) × (Nat → Int32))), fX2_markOf_B28 (M.1 2) v1 v2 v3 v4 x = some s → Sum.elim (fun x => Zj κ 9 28 [(0, .ref (ad 4)), (1, .int v1), (2, .int v2), (3, .int v3), (4, .int v4), (5, .int x.1), (6, .int x.2.1), (7, .int x.2.2.1)] [] (mk M [(5, x.2.2.2.1), (6, x.2.2.2.2)] M.2.1 [])) (fun y => Zj κ 9 120 [(6, .int y.1)] [] (mk M [(5, y.2.1), (6, y.2.2)] M.2.1 [])) s → Zj κ 9 28 [(0, .ref (ad 4)), (1, .int v1), (2, .int v2), (3, .int v3), (4, .int v4), (5, .int x.1), (6, .int x.2.1), (7, .int x.2.2.1)] [] (mk M [(5, x.2.2.2.1), (6, x.2.2.2.2)] M.2.1 []) := by
  intro x s h hs
  unfold fX2_markOf_B28 at h
  refine z_iload X dX2_markOf_28 7 rfl ?_
  refine z_iload_n X dX2_markOf_30 2 rfl rfl ?_
  refine z_icmp_gt (tgt := 120) X dX2_markOf_31 (by decide) (fun c31 => ?_) (fun c31 => ?_)
  · rw [if_pos c31] at h
    have hq := Option.some.inj h
    subst hq
    exact z_sub [6] rfl hs
  · rw [if_neg c31] at h
    refine z_aload_n X dX2_markOf_34 0 rfl rfl ?_
    refine z_get (j := 0) (v := .ref (ad 1)) X inX2 rfl (by decide) w_171 (hw.2.1 _) rfl dX2_markOf_35 ?_
    refine z_iload X dX2_markOf_38 7 rfl ?_
    obtain ⟨r1, hr1, h⟩ := ob h
    refine z_cVI (As := [.int x.2.2.1]) (st := []) X (tX0_codeOf hw.1 (mk M [(5, x.2.2.2.1), (6, x.2.2.2.2)] M.2.1 []) hr1) w_172 mvX0_codeOf (by rw [eR]; exact ⟨Nat.le_of_ble_eq_true rfl, Nat.le_of_ble_eq_true rfl⟩) ⟨rfl, rfl⟩ rfl (Nat.le_of_ble_eq_true rfl) (hw.1.1 _) rfl rfl dX2_markOf_40 ?_
    refine z_istore (lv' := [(8, .int r1), (0, .ref (ad 4)), (1, .int v1), (2, .int v2), (3, .int v3), (4, .int v4), (5, .int x.1), (6, .int x.2.1), (7, .int x.2.2.1)]) X dX2_markOf_43 (by decide) rfl ?_
    refine z_iload_n X dX2_markOf_45 4 rfl rfl ?_
    refine z_iload X dX2_markOf_46 0 rfl ?_
    refine z_iload X dX2_markOf_48 5 rfl ?_
    obtain ⟨r2, hr2, h⟩ := ob h
    refine z_cSI (As := [.int v3, .int r1, .int v4]) (st := []) X (tX2_isWithin hw (mk M [(5, x.2.2.2.1), (6, x.2.2.2.2)] M.2.1 []) hr2) w_208 msX2_isWithin (by rw [eR]; exact ⟨Nat.le_of_ble_eq_true rfl, Nat.le_of_ble_eq_true rfl⟩) ⟨rfl, rfl⟩ rfl (Nat.le_of_ble_eq_true rfl) rfl dX2_markOf_50 ?_
    refine z_if_ne (tgt := 59) X dX2_markOf_53 (by decide) (fun c53 => ?_) (fun c53 => ?_)
    · rw [if_neg c53] at h
      refine z_iload X dX2_markOf_59 8 rfl ?_
      refine z_iload_n X dX2_markOf_61 2 rfl rfl ?_
      refine z_icmp_ne (tgt := 69) X dX2_markOf_62 (by decide) (fun c62 => ?_) (fun c62 => ?_)
      · rw [if_neg c62] at h
        refine z_aload_n X dX2_markOf_69 1 rfl rfl ?_
        refine z_iload X dX2_markOf_70 0 rfl ?_
        refine z_iload X dX2_markOf_72 6 rfl ?_
        obtain ⟨r3, hr3, h⟩ := ob h
        refine z_cVI (As := [.int r1, .int x.1]) (st := []) X (tX2_sumBelow hw (mk M [(5, x.2.2.2.1), (6, x.2.2.2.2)] M.2.1 []) hr3) w_273 mvX2_sumBelow (by rw [eR]; exact ⟨Nat.le_of_ble_eq_true rfl, Nat.le_of_ble_eq_true rfl⟩) ⟨rfl, rfl⟩ rfl (Nat.le_of_ble_eq_true rfl) (hw.2.1 _) rfl rfl dX2_markOf_74 ?_
        refine z_ineg X dX2_markOf_77 ?_
        exact z_sub [1, 2, 3, 4, 5, 6, 8, 0] rfl (jX2_markOf_J78 X eR hw M x.2.2.2.1 x.2.2.2.2 v1 v2 v3 v4 x.1 x.2.2.1 r1 (0 - r3) _ h hs)
      · rw [if_pos c62] at h
        refine z_iconst (v := (nI 1)) X dX2_markOf_65 (by decide) ?_
        refine z_goto (tgt := 78) X dX2_markOf_66 (by decide) ?_
        exact z_sub [1, 2, 3, 4, 5, 6, 8, 0] rfl (jX2_markOf_J78 X eR hw M x.2.2.2.1 x.2.2.2.2 v1 v2 v3 v4 x.1 x.2.2.1 r1 (nI 1) _ h hs)
    · rw [if_pos c53] at h
      refine z_goto (tgt := 114) X dX2_markOf_56 (by decide) ?_
      exact z_sub [1, 2, 3, 4, 5, 6, 7, 8] rfl (jX2_markOf_J114 X eR hw M x.2.2.2.1 x.2.2.2.2 v1 v2 v3 v4 x.1 x.2.1 x.2.2.1 _ h hs)
set_option maxHeartbeats 4000000 in
theorem tX2_markOf {l : Launch} {D : va_G} {ct : Nat → ClassId} {tF : Nat} {wOf : Mm → va_W} {po ad : Nat → Nat} (hw : KC wOf po ad ct) (M : Mm) {v1 : Int32} {v2 : Int32} {r : (Int32 × (Nat → Int32) × (Nat → Int32))} (h : fX2_markOf (M.1 2) (M.1 5) (M.1 6) v1 v2 = some r) : CtI l yX2_markOf cX2_markOf 9 .int { frames := 2, cells := 0, slots := 0, locals := 45 } D ct tF wOf [.ref (ad 4), .int v1, .int v2] M r.1 (mk M [(5, r.2.1), (6, r.2.2)] M.2.1 []) := by
  refine metI (by decide) (Nat.le_of_ble_eq_true rfl) fun κ X e1 eR e3 e4 hs => ?_
  subst e1; subst e3; subst e4
  unfold fX2_markOf at h
  refine z_mem (mk_self M [5, 6] []) ?_
  refine z_sub (lv' := [(0, .ref (ad 4)), (1, .int v1), (2, .int v2)]) [0, 1, 2] rfl ?_
  show Zj κ 9 0 _ _ (mk M [(5, (M.1 5)), (6, (M.1 6))] M.2.1 [])
  refine z_aload_n X dX2_markOf_0 0 rfl rfl ?_
  refine z_get (j := 0) (v := .ref (ad 1)) X inX2 rfl (by decide) w_171 (hw.2.1 _) rfl dX2_markOf_1 ?_
  refine z_iload_n X dX2_markOf_4 1 rfl rfl ?_
  obtain ⟨r1, hr1, h⟩ := ob h
  refine z_cVI (As := [.int v1]) (st := []) X (tX0_codeOf hw.1 (mk M [(5, (M.1 5)), (6, (M.1 6))] M.2.1 []) hr1) w_172 mvX0_codeOf (by rw [eR]; exact ⟨Nat.le_of_ble_eq_true rfl, Nat.le_of_ble_eq_true rfl⟩) ⟨rfl, rfl⟩ rfl (Nat.le_of_ble_eq_true rfl) (hw.1.1 _) rfl rfl dX2_markOf_5 ?_
  refine z_istore_n (lv' := [(3, .int r1), (0, .ref (ad 4)), (1, .int v1), (2, .int v2)]) X dX2_markOf_8 rfl (by decide) rfl ?_
  refine z_aload_n X dX2_markOf_9 1 rfl rfl ?_
  refine z_get (j := 0) (v := .ref (ad 1)) X inX2 rfl (by decide) w_171 (hw.2.1 _) rfl dX2_markOf_10 ?_
  refine z_iload_n X dX2_markOf_13 3 rfl rfl ?_
  obtain ⟨r2, hr2, h⟩ := ob h
  refine z_cVI (As := [.int v2]) (st := []) X (tX0_codeOf hw.1 (mk M [(5, (M.1 5)), (6, (M.1 6))] M.2.1 []) hr2) w_172 mvX0_codeOf (by rw [eR]; exact ⟨Nat.le_of_ble_eq_true rfl, Nat.le_of_ble_eq_true rfl⟩) ⟨rfl, rfl⟩ rfl (Nat.le_of_ble_eq_true rfl) (hw.1.1 _) rfl rfl dX2_markOf_14 ?_
  refine z_istore (lv' := [(4, .int r2), (3, .int r1), (0, .ref (ad 4)), (1, .int v1), (2, .int v2)]) X dX2_markOf_17 (by decide) rfl ?_
  refine z_iconst (v := (nI 0)) X dX2_markOf_19 (by decide) ?_
  refine z_istore (lv' := [(5, .int (nI 0)), (4, .int r2), (3, .int r1), (0, .ref (ad 4)), (1, .int v1), (2, .int v2)]) X dX2_markOf_20 (by decide) rfl ?_
  refine z_iconst (v := (nI 0)) X dX2_markOf_22 (by decide) ?_
  refine z_istore (lv' := [(6, .int (nI 0)), (5, .int (nI 0)), (4, .int r2), (3, .int r1), (0, .ref (ad 4)), (1, .int v1), (2, .int v2)]) X dX2_markOf_23 (by decide) rfl ?_
  refine z_iload_n X dX2_markOf_25 5 rfl rfl ?_
  refine z_istore (lv' := [(7, .int v1), (6, .int (nI 0)), (5, .int (nI 0)), (4, .int r2), (3, .int r1), (0, .ref (ad 4)), (1, .int v1), (2, .int v2)]) X dX2_markOf_26 (by decide) rfl ?_
  refine z_sub [5, 6, 7, 4, 3, 2, 1, 0] rfl ?_
  obtain ⟨y3, hy3, h⟩ := ob h
  refine (it_Z (bX2_markOf_B28 X eR hw M v1 v2 r1 r2) FU _ y3 hy3) ?_
  refine z_iload X dX2_markOf_120 0 rfl ?_
  have hq := Option.some.inj h
  subst hq
  exact z_iret hs dX2_markOf_122 rfl
set_option maxHeartbeats 4000000 in
theorem jX2_howManyPairs_J68 {κ : Rx} {ct : Nat → ClassId} {tF : Nat} {po ad : Nat → Nat} (X : CX κ ct tF cX2_howManyPairs 7 RX2) (eR : kR κ = { frames := 2, cells := 0, slots := 0, locals := 41 }) (hw : KC (kw κ) po ad ct) (M : Mm)   (v2 : Int32) (v3 : Int32) (v4 : Int32) (v5 : Int32) (v6 : Int32)  (s : ((Int32 × Int32) ⊕ Int32)) (h : fX2_howManyPairs_J68 (M.1 2) v2 v3 v4 v5 v6 = some s) (hs : (Sum.elim (fun x => Zj κ 7 42 [(0, .ref (ad 4)), (2, .int v2), (3, .int x.1), (4, .int v4), (5, .int v5), (6, .int x.2)] [] M) (fun y => Zj κ 7 74 [(0, .ref (ad 4)), (2, .int v2), (3, .int y), (4, .int v4)] [] M) s)) : Zj κ 7 68 [(0, .ref (ad 4)), (2, .int v2), (3, .int v3), (4, .int v4), (5, .int v5), (6, .int v6)] [] M := by
  unfold fX2_howManyPairs_J68 at h
  refine z_iinc (v := (v6 + nI 1)) (lv' := [(6, .int (v6 + nI 1)), (0, .ref (ad 4)), (2, .int v2), (3, .int v3), (4, .int v4), (5, .int v5)]) X dX2_howManyPairs_68 5 rfl rfl (by decide) rfl ?_
  refine z_goto (tgt := 42) X dX2_howManyPairs_71 (by decide) ?_
  have hq := Option.some.inj h
  subst hq
  exact z_sub [1, 2, 3, 4, 5, 0] rfl hs
set_option maxHeartbeats 4000000 in
theorem bX2_howManyPairs_B42 {κ : Rx} {ct : Nat → ClassId} {tF : Nat} {po ad : Nat → Nat} (X : CX κ ct tF cX2_howManyPairs 7 RX2) (eR : kR κ = { frames := 2, cells := 0, slots := 0, locals := 41 }) (hw : KC (kw κ) po ad ct) (M : Mm)  (v2 : Int32) (v4 : Int32) (v5 : Int32) : ∀ (x : (Int32 × Int32)) (s : (Int32 × Int32) ⊕ Int32), fX2_howManyPairs_B42 (M.1 2) v2 v4 v5 x = some s → Sum.elim (fun x => Zj κ 7 42 [(0, .ref (ad 4)), (2, .int v2), (3, .int x.1), (4, .int v4), (5, .int v5), (6, .int x.2)] [] M) (fun y => Zj κ 7 74 [(0, .ref (ad 4)), (2, .int v2), (3, .int y), (4, .int v4)] [] M) s → Zj κ 7 42 [(0, .ref (ad 4)), (2, .int v2), (3, .int x.1), (4, .int v4), (5, .int v5), (6, .int x.2)] [] M := by
  intro x s h hs
  unfold fX2_howManyPairs_B42 at h
  refine z_iload X dX2_howManyPairs_42 5 rfl ?_
  refine z_iload_n X dX2_howManyPairs_44 1 rfl rfl ?_
  refine z_icmp_gt (tgt := 74) X dX2_howManyPairs_45 (by decide) (fun c45 => ?_) (fun c45 => ?_)
  · rw [if_pos c45] at h
    have hq := Option.some.inj h
    subst hq
    exact z_sub [0, 1, 2, 3] rfl hs
  · rw [if_neg c45] at h
    refine z_iload X dX2_howManyPairs_48 4 rfl ?_
    refine z_aload_n X dX2_howManyPairs_50 0 rfl rfl ?_
    refine z_get (j := 0) (v := .ref (ad 1)) X inX2 rfl (by decide) w_171 (hw.2.1 _) rfl dX2_howManyPairs_51 ?_
    refine z_iload X dX2_howManyPairs_54 5 rfl ?_
    obtain ⟨r1, hr1, h⟩ := ob h
    refine z_cVI (As := [.int x.2]) (st := [.int v5]) X (tX0_codeOf hw.1 M hr1) w_172 mvX0_codeOf (by rw [eR]; exact ⟨Nat.le_of_ble_eq_true rfl, Nat.le_of_ble_eq_true rfl⟩) ⟨rfl, rfl⟩ rfl (Nat.le_of_ble_eq_true rfl) (hw.1.1 _) rfl rfl dX2_howManyPairs_56 ?_
    obtain ⟨r2, hr2, h⟩ := ob h
    refine z_cSI (As := [.int v5, .int r1]) (st := []) X (tX2_noMore hw M hr2) w_173 msX2_noMore (by rw [eR]; exact ⟨Nat.le_of_ble_eq_true rfl, Nat.le_of_ble_eq_true rfl⟩) ⟨rfl, rfl⟩ rfl (Nat.le_of_ble_eq_true rfl) rfl dX2_howManyPairs_59 ?_
    refine z_if_eq (tgt := 68) X dX2_howManyPairs_62 (by decide) (fun c62 => ?_) (fun c62 => ?_)
    · rw [if_pos c62] at h
      exact (jX2_howManyPairs_J68 X eR hw M v2 x.1 v4 v5 x.2 _ h hs)
    · rw [if_neg c62] at h
      refine z_iinc (v := (x.1 + nI 1)) (lv' := [(3, .int (x.1 + nI 1)), (0, .ref (ad 4)), (2, .int v2), (4, .int v4), (5, .int v5), (6, .int x.2)]) X dX2_howManyPairs_65 2 rfl rfl (by decide) rfl ?_
      exact z_sub [1, 2, 0, 3, 4, 5] rfl (jX2_howManyPairs_J68 X eR hw M v2 (x.1 + nI 1) v4 v5 x.2 _ h hs)
set_option maxHeartbeats 4000000 in
theorem bX2_howManyPairs_B21 {κ : Rx} {ct : Nat → ClassId} {tF : Nat} {po ad : Nat → Nat} (X : CX κ ct tF cX2_howManyPairs 7 RX2) (eR : kR κ = { frames := 2, cells := 0, slots := 0, locals := 41 }) (hw : KC (kw κ) po ad ct) (M : Mm)  (v2 : Int32) : ∀ (x : (Int32 × Int32)) (s : (Int32 × Int32) ⊕ Int32), fX2_howManyPairs_B21 (M.1 2) v2 x = some s → Sum.elim (fun x => Zj κ 7 21 [(0, .ref (ad 4)), (2, .int v2), (3, .int x.1), (4, .int x.2)] [] M) (fun y => Zj κ 7 80 [(3, .int y)] [] M) s → Zj κ 7 21 [(0, .ref (ad 4)), (2, .int v2), (3, .int x.1), (4, .int x.2)] [] M := by
  intro x s h hs
  unfold fX2_howManyPairs_B21 at h
  refine z_iload X dX2_howManyPairs_21 3 rfl ?_
  refine z_iload_n X dX2_howManyPairs_23 1 rfl rfl ?_
  refine z_icmp_gt (tgt := 80) X dX2_howManyPairs_24 (by decide) (fun c24 => ?_) (fun c24 => ?_)
  · rw [if_pos c24] at h
    have hq := Option.some.inj h
    subst hq
    exact z_sub [2] rfl hs
  · rw [if_neg c24] at h
    refine z_aload_n X dX2_howManyPairs_27 0 rfl rfl ?_
    refine z_get (j := 0) (v := .ref (ad 1)) X inX2 rfl (by decide) w_171 (hw.2.1 _) rfl dX2_howManyPairs_28 ?_
    refine z_iload X dX2_howManyPairs_31 3 rfl ?_
    obtain ⟨r1, hr1, h⟩ := ob h
    refine z_cVI (As := [.int x.2]) (st := []) X (tX0_codeOf hw.1 M hr1) w_172 mvX0_codeOf (by rw [eR]; exact ⟨Nat.le_of_ble_eq_true rfl, Nat.le_of_ble_eq_true rfl⟩) ⟨rfl, rfl⟩ rfl (Nat.le_of_ble_eq_true rfl) (hw.1.1 _) rfl rfl dX2_howManyPairs_33 ?_
    refine z_istore (lv' := [(5, .int r1), (0, .ref (ad 4)), (2, .int v2), (3, .int x.1), (4, .int x.2)]) X dX2_howManyPairs_36 (by decide) rfl ?_
    refine z_iload X dX2_howManyPairs_38 4 rfl ?_
    refine z_istore (lv' := [(6, .int x.2), (5, .int r1), (0, .ref (ad 4)), (2, .int v2), (3, .int x.1), (4, .int x.2)]) X dX2_howManyPairs_40 (by decide) rfl ?_
    refine z_sub [2, 3, 4, 5, 1, 0] rfl ?_
    obtain ⟨y2, hy2, h⟩ := ob h
    refine (it_Z (bX2_howManyPairs_B42 X eR hw M v2 x.2 r1) FU _ y2 hy2) ?_
    refine z_iinc (v := (x.2 + nI 1)) (lv' := [(4, .int (x.2 + nI 1)), (0, .ref (ad 4)), (2, .int v2), (3, .int y2)]) X dX2_howManyPairs_74 3 rfl rfl (by decide) rfl ?_
    refine z_goto (tgt := 21) X dX2_howManyPairs_77 (by decide) ?_
    have hq := Option.some.inj h
    subst hq
    exact z_sub [1, 2, 3, 0] rfl hs
set_option maxHeartbeats 4000000 in
theorem tX2_howManyPairs {l : Launch} {D : va_G} {ct : Nat → ClassId} {tF : Nat} {wOf : Mm → va_W} {po ad : Nat → Nat} (hw : KC wOf po ad ct) (M : Mm) {v1 : Int32} {r : Int32} (h : fX2_howManyPairs (M.1 2) v1 = some r) : CtI l yX2_howManyPairs cX2_howManyPairs 7 .int { frames := 2, cells := 0, slots := 0, locals := 41 } D ct tF wOf [.ref (ad 4), .int v1] M r M := by
  refine metI (by decide) (Nat.le_of_ble_eq_true rfl) fun κ X e1 eR e3 e4 hs => ?_
  subst e1; subst e3; subst e4
  unfold fX2_howManyPairs at h
  refine z_sub (lv' := [(0, .ref (ad 4)), (1, .int v1)]) [0, 1] rfl ?_
  refine z_aload_n X dX2_howManyPairs_0 0 rfl rfl ?_
  refine z_get (j := 0) (v := .ref (ad 1)) X inX2 rfl (by decide) w_171 (hw.2.1 _) rfl dX2_howManyPairs_1 ?_
  refine z_iload_n X dX2_howManyPairs_4 1 rfl rfl ?_
  obtain ⟨r1, hr1, h⟩ := ob h
  refine z_cVI (As := [.int v1]) (st := []) X (tX0_lastOf hw.1 M hr1) w_281 mvX0_lastOf (by rw [eR]; exact ⟨Nat.le_of_ble_eq_true rfl, Nat.le_of_ble_eq_true rfl⟩) ⟨rfl, rfl⟩ rfl (Nat.le_of_ble_eq_true rfl) (hw.1.1 _) rfl rfl dX2_howManyPairs_5 ?_
  refine z_istore_n (lv' := [(2, .int r1), (0, .ref (ad 4)), (1, .int v1)]) X dX2_howManyPairs_8 rfl (by decide) rfl ?_
  refine z_iconst (v := (nI 0)) X dX2_howManyPairs_9 (by decide) ?_
  refine z_istore_n (lv' := [(3, .int (nI 0)), (2, .int r1), (0, .ref (ad 4)), (1, .int v1)]) X dX2_howManyPairs_10 rfl (by decide) rfl ?_
  refine z_aload_n X dX2_howManyPairs_11 2 rfl rfl ?_
  refine z_get (j := 0) (v := .ref (ad 1)) X inX2 rfl (by decide) w_171 (hw.2.1 _) rfl dX2_howManyPairs_12 ?_
  refine z_iload_n X dX2_howManyPairs_15 3 rfl rfl ?_
  obtain ⟨r2, hr2, h⟩ := ob h
  refine z_cVI (As := [.int v1]) (st := []) X (tX0_firstOf hw.1 M hr2) w_282 mvX0_firstOf (by rw [eR]; exact ⟨Nat.le_of_ble_eq_true rfl, Nat.le_of_ble_eq_true rfl⟩) ⟨rfl, rfl⟩ rfl (Nat.le_of_ble_eq_true rfl) (hw.1.1 _) rfl rfl dX2_howManyPairs_16 ?_
  refine z_istore (lv' := [(4, .int r2), (3, .int (nI 0)), (2, .int r1), (0, .ref (ad 4)), (1, .int v1)]) X dX2_howManyPairs_19 (by decide) rfl ?_
  refine z_sub [3, 2, 1, 0] rfl ?_
  obtain ⟨y3, hy3, h⟩ := ob h
  refine (it_Z (bX2_howManyPairs_B21 X eR hw M r1) FU _ y3 hy3) ?_
  refine z_iload_n X dX2_howManyPairs_80 0 rfl rfl ?_
  have hq := Option.some.inj h
  subst hq
  exact z_iret hs dX2_howManyPairs_81 rfl
