set_option maxHeartbeats 4000000 in
set_option maxRecDepth 100000 in
theorem nX1_init {l : Launch} {D : va_G} {ct : Nat → ClassId} {tF : Nat}  (h0 : Nat) : CtN l yX1_init cX1_init 1 { frames := 4, cells := 5, slots := 66, locals := 400 } D ct tF [.ref h0] [(h0, .inr (1, [.null, .null]))] (fun ad => [(h0, .inr (1, [.ref (ad 0), .ref (ad 4)])), ((ad 0), .inl (ct 3, 3, .inr (.inr (.inr (.inr (fun i => if i < 3 then some ([(ad 1), (ad 2), (ad 3)].getD i 0) else none)))))), ((ad 1), .inl ((ct 1), 20, .inr (.inl (fun _ => 0)))), ((ad 2), .inl ((ct 1), 20, .inr (.inl (fun _ => 0)))), ((ad 3), .inl ((ct 1), 20, .inr (.inl (fun _ => 0)))), ((ad 4), .inl ((ct 0), 3, .inl (fillF 3 (-1 : Int32) (fun _ => nI 0))))]) 5 66 := by
  refine metN (by decide) rfl (Nat.le_of_ble_eq_true rfl) fun κ X e1 eR e3 hA hin hO hz => ?_
  subst e1; subst e3
  show Zn κ 1 0 [(0, .ref h0)] [] [(h0, .inr (1, [.null, .null]))] 0 0
  have X0_0 := xq X (n := 0) (o := 0) ⟨(by rw [eR]; exact Nat.le_of_ble_eq_true rfl), (by rw [eR]; exact Nat.le_of_ble_eq_true rfl)⟩
  refine z_aload_n (X0_0 _) dX1_init_0 0 rfl rfl ?_
  refine zn_obj X wi_22 wi_obj (by rw [eR]; exact Nat.le_of_ble_eq_true rfl) (by rw [eR]; exact Nat.le_of_ble_eq_true rfl) dX1_init_1 ?_
  refine z_aload_n (X0_0 _) dX1_init_4 0 rfl rfl ?_
  refine z_iconst (v := (nI 3)) (X0_0 _) dX1_init_5 (by decide) ?_
  refine z_bipush (v := (nI 20)) (X0_0 _) dX1_init_6 (by decide) ?_
  refine zn_mna X hA hO wi_23 wi_24 (by rw [eR]; exact Nat.le_of_ble_eq_true rfl) (by rw [eR]; exact Nat.le_of_ble_eq_true rfl) dX1_init_8 (fun q1 r0 r1 r2 => ?_)
  show Zn κ 1 _ _ _ [(h0, .inr (1, [.null, .null])), (q1, .inl (ct 3, 3, .inr (.inr (.inr (.inr (fun i => if i < 3 then some ([r0, r1, r2].getD i 0) else none)))))), (r0, .inl ((ct 1), 20, .inr (.inl (fun _ => 0)))), (r1, .inl ((ct 1), 20, .inr (.inl (fun _ => 0)))), (r2, .inl ((ct 1), 20, .inr (.inl (fun _ => 0))))] 4 63
  have X4_63 := xq X (n := 4) (o := 63) ⟨(by rw [eR]; exact Nat.le_of_ble_eq_true rfl), (by rw [eR]; exact Nat.le_of_ble_eq_true rfl)⟩
  refine zn_putF (j := 0) (v := .ref q1) (ty := .array (.array .long)) (q := 0) (w' := [(h0, .inr (1, [.ref q1, .null])), (q1, .inl (ct 3, 3, .inr (.inr (.inr (.inr (fun i => if i < 3 then some ([r0, r1, r2].getD i 0) else none)))))), (r0, .inl ((ct 1), 20, .inr (.inl (fun _ => 0)))), (r1, .inl ((ct 1), 20, .inr (.inl (fun _ => 0)))), (r2, .inl ((ct 1), 20, .inr (.inl (fun _ => 0))))]) X hin inX1 tyX1 tyX1_ok nmX1 rfl (by decide) wi_25 rfl rfl (by decide +kernel) rfl rfl rfl (Nat.le_of_ble_eq_true rfl) rfl dX1_init_12 ?_
  refine z_aload_n (X4_63 _) dX1_init_15 0 rfl rfl ?_
  refine z_iconst (v := (nI 3)) (X4_63 _) dX1_init_16 (by decide) ?_
  refine zn_newa (N' := 3) (t0 := 0) (a0 := (3, .inl (fun _ => nI 0))) (atype := .int) X hA rfl rfl wi_2 (fun cA => rfl) (by decide) (by decide) (Nat.le_of_ble_eq_true rfl) (by rw [eR]; exact Nat.le_of_ble_eq_true rfl) (by rw [eR]; exact Nat.le_of_ble_eq_true rfl) dX1_init_17 (fun q2 => ?_)
  show Zn κ 1 _ _ _ [(h0, .inr (1, [.ref q1, .null])), (q1, .inl (ct 3, 3, .inr (.inr (.inr (.inr (fun i => if i < 3 then some ([r0, r1, r2].getD i 0) else none)))))), (r0, .inl ((ct 1), 20, .inr (.inl (fun _ => 0)))), (r1, .inl ((ct 1), 20, .inr (.inl (fun _ => 0)))), (r2, .inl ((ct 1), 20, .inr (.inl (fun _ => 0)))), (q2, .inl ((ct 0), 3, .inl (fun _ => nI 0)))] 5 66
  have X5_66 := xq X (n := 5) (o := 66) ⟨(by rw [eR]; exact Nat.le_of_ble_eq_true rfl), (by rw [eR]; exact Nat.le_of_ble_eq_true rfl)⟩
  refine zn_putF (j := 1) (v := .ref q2) (ty := .array .int) (q := 0) (w' := [(h0, .inr (1, [.ref q1, .ref q2])), (q1, .inl (ct 3, 3, .inr (.inr (.inr (.inr (fun i => if i < 3 then some ([r0, r1, r2].getD i 0) else none)))))), (r0, .inl ((ct 1), 20, .inr (.inl (fun _ => 0)))), (r1, .inl ((ct 1), 20, .inr (.inl (fun _ => 0)))), (r2, .inl ((ct 1), 20, .inr (.inl (fun _ => 0)))), (q2, .inl ((ct 0), 3, .inl (fun _ => nI 0)))]) X hin inX1 tyX1 tyX1_ok nmX1 rfl (by decide) wi_26 rfl rfl (by decide +kernel) rfl rfl rfl (Nat.le_of_ble_eq_true rfl) rfl dX1_init_19 ?_
  refine z_aload_n (X5_66 _) dX1_init_22 0 rfl rfl ?_
  refine z_get (j := 1) (v := .ref q2) (q := 0) (X5_66 _) inX1 rfl (by decide) wi_26 rfl rfl dX1_init_23 ?_
  refine z_iconst (v := (-1 : Int32)) (X5_66 _) dX1_init_26 (by decide) ?_
  refine zn_fill (i := 5) (N := 3) (w' := [(h0, .inr (1, [.ref q1, .ref q2])), (q1, .inl (ct 3, 3, .inr (.inr (.inr (.inr (fun i => if i < 3 then some ([r0, r1, r2].getD i 0) else none)))))), (r0, .inl ((ct 1), 20, .inr (.inl (fun _ => 0)))), (r1, .inl ((ct 1), 20, .inr (.inl (fun _ => 0)))), (r2, .inl ((ct 1), 20, .inr (.inl (fun _ => 0)))), (q2, .inl ((ct 0), 3, .inl (fillF 3 (-1 : Int32) (fun _ => nI 0))))]) X ⟨(by rw [eR]; exact Nat.le_of_ble_eq_true rfl), (by rw [eR]; exact Nat.le_of_ble_eq_true rfl)⟩ (by decide) rfl rfl wi_27 (by rw [eR]; exact ⟨Nat.le_of_ble_eq_true rfl, Nat.le_of_ble_eq_true rfl⟩) dX1_init_27 ?_
  exact zn_end hz dX1_init_30 (fun i => [q1, r0, r1, r2, q2].getD i 0) [0, 1, 2, 3, 4, 5] (by decide) rfl

