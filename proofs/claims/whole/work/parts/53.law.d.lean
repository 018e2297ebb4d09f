set_option maxHeartbeats 4000000 in
set_option maxRecDepth 100000 in
theorem law_loop {κ : Rx} {ct : Nat → ClassId} {tF : Nat} {ad am : Nat → Nat} {REL : Mm → Mm → Prop} {b L : Nat} {xs : Nat → Int32} (X : ∀ w : Mm → va_W, CX (kset κ w) ct tF cL_law 4 RL) (eR : kR κ = room_1) (hX : ∀ w : Mm → va_W, SX (kset κ w) b L xs) (hL : L ≤ 2560) (hal : AlAll REL) (hend : ∀ j Mc Mr, Zl κ ad am ct 1259 [(0, .ref b), (1, .ref (ad 0)), (2, .ref (am 0)), (3, .int (nI j))] [] Mc Mr) : ∀ (n j : Nat), L < 5 * n + j → j ≤ L → ∀ Mc Mr, REL Mc Mr → Zl κ ad am ct 18 [(0, .ref b), (1, .ref (ad 0)), (2, .ref (am 0)), (3, .int (nI j))] [] Mc Mr := by
  intro n
  induction n with
  | zero => intro j h1 h2; exact absurd h1 (by omega)
  | succ n ih =>
    intro j h1 h2 Mc Mr hR
    have lt : (nI L - nI 5).toInt = (L : Int) - 5 := pk_sub_toInt (by omega) (by omega)
    have jt : (nI j).toInt = (j : Int) := nI_toInt (by omega)
    unfold Zl
    refine z_iload_n (X _) dL_law_18 3 rfl rfl ?_
    refine z_aload_n (X _) dL_law_19 0 rfl rfl ?_
    refine z_slen (X _) (hX _) dL_law_20 ?_
    refine z_iconst (v := nI 5) (X _) dL_law_21 (by decide) ?_
    refine z_isub (X _) dL_law_22 ?_
    refine z_icmp_gt (tgt := 1259) (X _) dL_law_23 (by decide) (fun _ => hend j Mc Mr) (fun c => ?_)
    have hj : j + 5 ≤ L := by
      have c1 : ¬ (nI L - nI 5) < nI j := c
      rw [Int32.lt_iff_toInt_lt, lt, jt] at c1
      omega
    have hk : ∀ Mc Mr, REL Mc Mr → Zl κ ad am ct 1253 [(0, .ref b), (1, .ref (ad 0)), (2, .ref (am 0)), (3, .int (nI j))] [] Mc Mr := by
      intro Mc Mr hR
      unfold Zl
      refine z_iinc (v := nI (j + 5)) (lv' := [(3, .int (nI (j + 5))), (0, .ref b), (1, .ref (ad 0)), (2, .ref (am 0))]) (X _) dL_law_1253 3 rfl (nI_add j 5) (by decide) rfl ?_
      refine z_goto (tgt := 18) (X _) dL_law_1256 (by decide) ?_
      refine z_sub [1, 2, 3, 0] rfl ?_
      exact ih (j + 5) (by omega) (by omega) Mc Mr hR
    refine z_aload_n (X _) dL_law_26 0 rfl rfl ?_
    refine z_iload_n (X _) dL_law_27 3 rfl rfl ?_
    refine z_sld (v := xs j) (X _) (hX _) (sx_at0 xs (by omega) hL) dL_law_28 ?_
    refine z_bipush (v := (63 : Int32)) (X _) dL_law_29 (by decide) ?_
    refine z_iand (X _) dL_law_31 ?_
    generalize xs j &&& 63 = z
    by_cases c0 : z = 0
    · refine z_tabI (off := 184) (tgt := 216) (X _) dL_law_32 (by rw [c0]; decide) (by rw [c0]; decide) (by rw [c0]; decide) (by decide) ?_
      exact lc_nodes X eR hX hL hj hR hal.1 hk
    by_cases c1 : z = 1
    · refine z_tabI (off := 207) (tgt := 239) (X _) dL_law_32 (by rw [c1]; decide) (by rw [c1]; decide) (by rw [c1]; decide) (by decide) ?_
      exact lc_row X eR hX hL hj hR hal.2.1 hk
    by_cases c2 : z = 2
    · refine z_tabI (off := 230) (tgt := 262) (X _) dL_law_32 (by rw [c2]; decide) (by rw [c2]; decide) (by rw [c2]; decide) (by decide) ?_
      exact lc_of X eR hX hL hj hR hal.2.2.1 hk
    by_cases c3 : z = 3
    · refine z_tabI (off := 263) (tgt := 295) (X _) dL_law_32 (by rw [c3]; decide) (by rw [c3]; decide) (by rw [c3]; decide) (by decide) ?_
      exact lc_number X eR hX hL hj hR hal.2.2.2.1 hk
    by_cases c4 : z = 4
    · refine z_tabI (off := 286) (tgt := 318) (X _) dL_law_32 (by rw [c4]; decide) (by rw [c4]; decide) (by rw [c4]; decide) (by decide) ?_
      exact lc_which X eR hX hL hj hR hal.2.2.2.2.1 hk
    by_cases c5 : z = 5
    · refine z_tabI (off := 299) (tgt := 331) (X _) dL_law_32 (by rw [c5]; decide) (by rw [c5]; decide) (by rw [c5]; decide) (by decide) ?_
      exact lc_many X eR hX hL hj hR hal.2.2.2.2.2.1 hk
    by_cases c6 : z = 6
    · refine z_tabI (off := 322) (tgt := 354) (X _) dL_law_32 (by rw [c6]; decide) (by rw [c6]; decide) (by rw [c6]; decide) (by decide) ?_
      exact lc_digits X eR hX hL hj hR hal.2.2.2.2.2.2.1 hk
    by_cases c7 : z = 7
    · refine z_tabI (off := 335) (tgt := 367) (X _) dL_law_32 (by rw [c7]; decide) (by rw [c7]; decide) (by rw [c7]; decide) (by decide) ?_
      exact lc_turn X eR hX hL hj hR hal.2.2.2.2.2.2.2.1 hk
    by_cases c8 : z = 8
    · refine z_tabI (off := 358) (tgt := 390) (X _) dL_law_32 (by rw [c8]; decide) (by rw [c8]; decide) (by rw [c8]; decide) (by decide) ?_
      exact lc_back X eR hX hL hj hR hal.2.2.2.2.2.2.2.2.1 hk
    by_cases c9 : z = 9
    · refine z_tabI (off := 381) (tgt := 413) (X _) dL_law_32 (by rw [c9]; decide) (by rw [c9]; decide) (by rw [c9]; decide) (by decide) ?_
      exact lc_mayTurn X eR hX hL hj hR hal.2.2.2.2.2.2.2.2.2.1 hk
    by_cases c10 : z = 10
    · refine z_tabI (off := 404) (tgt := 436) (X _) dL_law_32 (by rw [c10]; decide) (by rw [c10]; decide) (by rw [c10]; decide) (by decide) ?_
      exact lc_mirror X eR hX hL hj hR hal.2.2.2.2.2.2.2.2.2.2.1 hk
    by_cases c11 : z = 11
    · refine z_tabI (off := 417) (tgt := 449) (X _) dL_law_32 (by rw [c11]; decide) (by rw [c11]; decide) (by rw [c11]; decide) (by decide) ?_
      exact lc_off X eR hX hL hj hR hal.2.2.2.2.2.2.2.2.2.2.2.1 hk
    by_cases c12 : z = 12
    · refine z_tabI (off := 430) (tgt := 462) (X _) dL_law_32 (by rw [c12]; decide) (by rw [c12]; decide) (by rw [c12]; decide) (by decide) ?_
      exact lc_below X eR hX hL hj hR hal.2.2.2.2.2.2.2.2.2.2.2.2.1 hk
    by_cases c13 : z = 13
    · refine z_tabI (off := 463) (tgt := 495) (X _) dL_law_32 (by rw [c13]; decide) (by rw [c13]; decide) (by rw [c13]; decide) (by decide) ?_
      exact lc_meet X eR hX hL hj hR hal.2.2.2.2.2.2.2.2.2.2.2.2.2.1 hk
    by_cases c14 : z = 14
    · refine z_tabI (off := 496) (tgt := 528) (X _) dL_law_32 (by rw [c14]; decide) (by rw [c14]; decide) (by rw [c14]; decide) (by decide) ?_
      exact lc_meetAll X eR hX hL hj hR hal.2.2.2.2.2.2.2.2.2.2.2.2.2.2.1 hk
    by_cases c15 : z = 15
    · refine z_tabI (off := 519) (tgt := 551) (X _) dL_law_32 (by rw [c15]; decide) (by rw [c15]; decide) (by rw [c15]; decide) (by decide) ?_
      exact lc_between X eR hX hL hj hR hal.2.2.2.2.2.2.2.2.2.2.2.2.2.2.2.1 hk
    by_cases c16 : z = 16
    · refine z_tabI (off := 552) (tgt := 584) (X _) dL_law_32 (by rw [c16]; decide) (by rw [c16]; decide) (by rw [c16]; decide) (by decide) ?_
      exact lc_way X eR hX hL hj hR hal.2.2.2.2.2.2.2.2.2.2.2.2.2.2.2.2.1 hk
    by_cases c17 : z = 17
    · refine z_tabI (off := 585) (tgt := 617) (X _) dL_law_32 (by rw [c17]; decide) (by rw [c17]; decide) (by rw [c17]; decide) (by decide) ?_
      exact lc_chain X eR hX hL hj hR hal.2.2.2.2.2.2.2.2.2.2.2.2.2.2.2.2.2.1 hk
    by_cases c18 : z = 18
    · refine z_tabI (off := 618) (tgt := 650) (X _) dL_law_32 (by rw [c18]; decide) (by rw [c18]; decide) (by rw [c18]; decide) (by decide) ?_
      exact lc_mark X eR hX hL hj hR hal.2.2.2.2.2.2.2.2.2.2.2.2.2.2.2.2.2.2.1 hk
    by_cases c19 : z = 19
    · refine z_tabI (off := 641) (tgt := 673) (X _) dL_law_32 (by rw [c19]; decide) (by rw [c19]; decide) (by rw [c19]; decide) (by decide) ?_
      exact lc_pairs X eR hX hL hj hR hal.2.2.2.2.2.2.2.2.2.2.2.2.2.2.2.2.2.2.2.1 hk
    by_cases c20 : z = 20
    · refine z_tabI (off := 664) (tgt := 696) (X _) dL_law_32 (by rw [c20]; decide) (by rw [c20]; decide) (by rw [c20]; decide) (by decide) ?_
      exact lc_far X eR hX hL hj hR hal.2.2.2.2.2.2.2.2.2.2.2.2.2.2.2.2.2.2.2.2.1 hk
    by_cases c21 : z = 21
    · refine z_tabI (off := 687) (tgt := 719) (X _) dL_law_32 (by rw [c21]; decide) (by rw [c21]; decide) (by rw [c21]; decide) (by decide) ?_
      exact lc_canopy X eR hX hL hj hR hal.2.2.2.2.2.2.2.2.2.2.2.2.2.2.2.2.2.2.2.2.2.1 hk
    by_cases c22 : z = 22
    · refine z_tabI (off := 700) (tgt := 732) (X _) dL_law_32 (by rw [c22]; decide) (by rw [c22]; decide) (by rw [c22]; decide) (by decide) ?_
      exact lc_inClass X eR hX hL hj hR hal.2.2.2.2.2.2.2.2.2.2.2.2.2.2.2.2.2.2.2.2.2.2.1 hk
    by_cases c23 : z = 23
    · refine z_tabI (off := 733) (tgt := 765) (X _) dL_law_32 (by rw [c23]; decide) (by rw [c23]; decide) (by rw [c23]; decide) (by decide) ?_
      exact lc_likeness X eR hX hL hj hR hal.2.2.2.2.2.2.2.2.2.2.2.2.2.2.2.2.2.2.2.2.2.2.2.1 hk
    by_cases c24 : z = 24
    · refine z_tabI (off := 756) (tgt := 788) (X _) dL_law_32 (by rw [c24]; decide) (by rw [c24]; decide) (by rw [c24]; decide) (by decide) ?_
      exact lc_keep X eR hX hL hj hR hal.2.2.2.2.2.2.2.2.2.2.2.2.2.2.2.2.2.2.2.2.2.2.2.2.1 hk
    by_cases c25 : z = 25
    · refine z_tabI (off := 779) (tgt := 811) (X _) dL_law_32 (by rw [c25]; decide) (by rw [c25]; decide) (by rw [c25]; decide) (by decide) ?_
      exact lc_lay X eR hX hL hj hR hal.2.2.2.2.2.2.2.2.2.2.2.2.2.2.2.2.2.2.2.2.2.2.2.2.2.1 hk
    by_cases c26 : z = 26
    · refine z_tabI (off := 802) (tgt := 834) (X _) dL_law_32 (by rw [c26]; decide) (by rw [c26]; decide) (by rw [c26]; decide) (by decide) ?_
      exact lc_lose X eR hX hL hj hR hal.2.2.2.2.2.2.2.2.2.2.2.2.2.2.2.2.2.2.2.2.2.2.2.2.2.2.1 hk
    by_cases c27 : z = 27
    · refine z_tabI (off := 825) (tgt := 857) (X _) dL_law_32 (by rw [c27]; decide) (by rw [c27]; decide) (by rw [c27]; decide) (by decide) ?_
      exact lc_over X eR hX hL hj hR hal.2.2.2.2.2.2.2.2.2.2.2.2.2.2.2.2.2.2.2.2.2.2.2.2.2.2.2.1 hk
    by_cases c28 : z = 28
    · refine z_tabI (off := 848) (tgt := 880) (X _) dL_law_32 (by rw [c28]; decide) (by rw [c28]; decide) (by rw [c28]; decide) (by decide) ?_
      exact lc_under X eR hX hL hj hR hal.2.2.2.2.2.2.2.2.2.2.2.2.2.2.2.2.2.2.2.2.2.2.2.2.2.2.2.2.1 hk
    by_cases c29 : z = 29
    · refine z_tabI (off := 871) (tgt := 903) (X _) dL_law_32 (by rw [c29]; decide) (by rw [c29]; decide) (by rw [c29]; decide) (by decide) ?_
      exact lc_shelf X eR hX hL hj hR hal.2.2.2.2.2.2.2.2.2.2.2.2.2.2.2.2.2.2.2.2.2.2.2.2.2.2.2.2.2.1 hk
    by_cases c30 : z = 30
    · refine z_tabI (off := 904) (tgt := 936) (X _) dL_law_32 (by rw [c30]; decide) (by rw [c30]; decide) (by rw [c30]; decide) (by decide) ?_
      exact lc_list X eR hX hL hj hR hal.2.2.2.2.2.2.2.2.2.2.2.2.2.2.2.2.2.2.2.2.2.2.2.2.2.2.2.2.2.2.1 hk
    by_cases c31 : z = 31
    · refine z_tabI (off := 937) (tgt := 969) (X _) dL_law_32 (by rw [c31]; decide) (by rw [c31]; decide) (by rw [c31]; decide) (by decide) ?_
      exact lc_put X eR hX hL hj hR hal.2.2.2.2.2.2.2.2.2.2.2.2.2.2.2.2.2.2.2.2.2.2.2.2.2.2.2.2.2.2.2.1 hk
    by_cases c32 : z = 32
    · refine z_tabI (off := 1010) (tgt := 1042) (X _) dL_law_32 (by rw [c32]; decide) (by rw [c32]; decide) (by rw [c32]; decide) (by decide) ?_
      exact lc_get X eR hX hL hj hR hal.2.2.2.2.2.2.2.2.2.2.2.2.2.2.2.2.2.2.2.2.2.2.2.2.2.2.2.2.2.2.2.2.1 hk
    by_cases c33 : z = 33
    · refine z_tabI (off := 1044) (tgt := 1076) (X _) dL_law_32 (by rw [c33]; decide) (by rw [c33]; decide) (by rw [c33]; decide) (by decide) ?_
      exact lc_play X eR hX hL hj hR hal.2.2.2.2.2.2.2.2.2.2.2.2.2.2.2.2.2.2.2.2.2.2.2.2.2.2.2.2.2.2.2.2.2.1 hk
    by_cases c34 : z = 34
    · refine z_tabI (off := 1067) (tgt := 1099) (X _) dL_law_32 (by rw [c34]; decide) (by rw [c34]; decide) (by rw [c34]; decide) (by decide) ?_
      exact lc_film X eR hX hL hj hR hal.2.2.2.2.2.2.2.2.2.2.2.2.2.2.2.2.2.2.2.2.2.2.2.2.2.2.2.2.2.2.2.2.2.2.1 hk
    by_cases c35 : z = 35
    · refine z_tabI (off := 1100) (tgt := 1132) (X _) dL_law_32 (by rw [c35]; decide) (by rw [c35]; decide) (by rw [c35]; decide) (by decide) ?_
      exact lc_feed X eR hX hL hj hR hal.2.2.2.2.2.2.2.2.2.2.2.2.2.2.2.2.2.2.2.2.2.2.2.2.2.2.2.2.2.2.2.2.2.2.2.1 hk
    by_cases c36 : z = 36
    · refine z_tabI (off := 1123) (tgt := 1155) (X _) dL_law_32 (by rw [c36]; decide) (by rw [c36]; decide) (by rw [c36]; decide) (by decide) ?_
      exact lc_wipe X eR hX hL hj hR hal.2.2.2.2.2.2.2.2.2.2.2.2.2.2.2.2.2.2.2.2.2.2.2.2.2.2.2.2.2.2.2.2.2.2.2.2.1 hk
    by_cases c37 : z = 37
    · refine z_tabI (off := 1136) (tgt := 1168) (X _) dL_law_32 (by rw [c37]; decide) (by rw [c37]; decide) (by rw [c37]; decide) (by decide) ?_
      exact lc_read X eR hX hL hj hR hal.2.2.2.2.2.2.2.2.2.2.2.2.2.2.2.2.2.2.2.2.2.2.2.2.2.2.2.2.2.2.2.2.2.2.2.2.2.1 hk
    by_cases c38 : z = 38
    · refine z_tabI (off := 1149) (tgt := 1181) (X _) dL_law_32 (by rw [c38]; decide) (by rw [c38]; decide) (by rw [c38]; decide) (by decide) ?_
      exact lc_written X eR hX hL hj hR hal.2.2.2.2.2.2.2.2.2.2.2.2.2.2.2.2.2.2.2.2.2.2.2.2.2.2.2.2.2.2.2.2.2.2.2.2.2.2.1 hk
    by_cases c39 : z = 39
    · refine z_tabI (off := 1172) (tgt := 1204) (X _) dL_law_32 (by rw [c39]; decide) (by rw [c39]; decide) (by rw [c39]; decide) (by decide) ?_
      exact lc_image X eR hX hL hj hR hal.2.2.2.2.2.2.2.2.2.2.2.2.2.2.2.2.2.2.2.2.2.2.2.2.2.2.2.2.2.2.2.2.2.2.2.2.2.2.2.1 hk
    by_cases c40 : z = 40
    · refine z_tabI (off := 1185) (tgt := 1217) (X _) dL_law_32 (by rw [c40]; decide) (by rw [c40]; decide) (by rw [c40]; decide) (by decide) ?_
      exact lc_undo X eR hX hL hj hR hal.2.2.2.2.2.2.2.2.2.2.2.2.2.2.2.2.2.2.2.2.2.2.2.2.2.2.2.2.2.2.2.2.2.2.2.2.2.2.2.2.1 hk
    by_cases c41 : z = 41
    · refine z_tabI (off := 1198) (tgt := 1230) (X _) dL_law_32 (by rw [c41]; decide) (by rw [c41]; decide) (by rw [c41]; decide) (by decide) ?_
      exact lc_count X eR hX hL hj hR hal.2.2.2.2.2.2.2.2.2.2.2.2.2.2.2.2.2.2.2.2.2.2.2.2.2.2.2.2.2.2.2.2.2.2.2.2.2.2.2.2.2 hk
    refine z_tabO (tgt := 1253) (X _) dL_law_32 (by have q0 := lv_neT c0 (show (0 : Int32).toInt = 0 from rfl); have q1 := lv_neT c1 (show (1 : Int32).toInt = 1 from rfl); have q2 := lv_neT c2 (show (2 : Int32).toInt = 2 from rfl); have q3 := lv_neT c3 (show (3 : Int32).toInt = 3 from rfl); have q4 := lv_neT c4 (show (4 : Int32).toInt = 4 from rfl); have q5 := lv_neT c5 (show (5 : Int32).toInt = 5 from rfl); have q6 := lv_neT c6 (show (6 : Int32).toInt = 6 from rfl); have q7 := lv_neT c7 (show (7 : Int32).toInt = 7 from rfl); have q8 := lv_neT c8 (show (8 : Int32).toInt = 8 from rfl); have q9 := lv_neT c9 (show (9 : Int32).toInt = 9 from rfl); have q10 := lv_neT c10 (show (10 : Int32).toInt = 10 from rfl); have q11 := lv_neT c11 (show (11 : Int32).toInt = 11 from rfl); have q12 := lv_neT c12 (show (12 : Int32).toInt = 12 from rfl); have q13 := lv_neT c13 (show (13 : Int32).toInt = 13 from rfl); have q14 := lv_neT c14 (show (14 : Int32).toInt = 14 from rfl); have q15 := lv_neT c15 (show (15 : Int32).toInt = 15 from rfl); have q16 := lv_neT c16 (show (16 : Int32).toInt = 16 from rfl); have q17 := lv_neT c17 (show (17 : Int32).toInt = 17 from rfl); have q18 := lv_neT c18 (show (18 : Int32).toInt = 18 from rfl); have q19 := lv_neT c19 (show (19 : Int32).toInt = 19 from rfl); have q20 := lv_neT c20 (show (20 : Int32).toInt = 20 from rfl); have q21 := lv_neT c21 (show (21 : Int32).toInt = 21 from rfl); have q22 := lv_neT c22 (show (22 : Int32).toInt = 22 from rfl); have q23 := lv_neT c23 (show (23 : Int32).toInt = 23 from rfl); have q24 := lv_neT c24 (show (24 : Int32).toInt = 24 from rfl); have q25 := lv_neT c25 (show (25 : Int32).toInt = 25 from rfl); have q26 := lv_neT c26 (show (26 : Int32).toInt = 26 from rfl); have q27 := lv_neT c27 (show (27 : Int32).toInt = 27 from rfl); have q28 := lv_neT c28 (show (28 : Int32).toInt = 28 from rfl); have q29 := lv_neT c29 (show (29 : Int32).toInt = 29 from rfl); have q30 := lv_neT c30 (show (30 : Int32).toInt = 30 from rfl); have q31 := lv_neT c31 (show (31 : Int32).toInt = 31 from rfl); have q32 := lv_neT c32 (show (32 : Int32).toInt = 32 from rfl); have q33 := lv_neT c33 (show (33 : Int32).toInt = 33 from rfl); have q34 := lv_neT c34 (show (34 : Int32).toInt = 34 from rfl); have q35 := lv_neT c35 (show (35 : Int32).toInt = 35 from rfl); have q36 := lv_neT c36 (show (36 : Int32).toInt = 36 from rfl); have q37 := lv_neT c37 (show (37 : Int32).toInt = 37 from rfl); have q38 := lv_neT c38 (show (38 : Int32).toInt = 38 from rfl); have q39 := lv_neT c39 (show (39 : Int32).toInt = 39 from rfl); have q40 := lv_neT c40 (show (40 : Int32).toInt = 40 from rfl); have q41 := lv_neT c41 (show (41 : Int32).toInt = 41 from rfl); omega) (by decide) ?_
    exact hk Mc Mr hR
