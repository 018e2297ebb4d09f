set_option maxHeartbeats 4000000 in
theorem tJ0_bitCount {l : Launch} {D : va_G} {ct : Nat → ClassId} {tF : Nat} {wOf : Mm → va_W} (M : Mm) {v0 : Int32} {r : Int32} (h : fJ0_bitCount v0 = some r) : CtI l yJ0_bitCount prog_10_method_49_code 1 .int { frames := 0, cells := 0, slots := 0, locals := 0 } D ct tF wOf [.int v0] M r M := by
  refine metI (by decide) (Nat.le_of_ble_eq_true rfl) fun κ X e1 eR e3 e4 hs => ?_
  subst e1; subst e3; subst e4
  unfold fJ0_bitCount at h
  refine z_sub (lv' := [(0, .int v0)]) [0] rfl ?_
  refine z_iload_n X dJ0_bitCount_0 0 rfl rfl ?_
  refine z_iload_n X dJ0_bitCount_1 0 rfl rfl ?_
  refine z_iconst (v := (nI 1)) X dJ0_bitCount_2 (by decide) ?_
  refine z_iushr X dJ0_bitCount_3 ?_
  refine z_ldcw X w_131 dJ0_bitCount_4 ?_
  refine z_iand X dJ0_bitCount_7 ?_
  refine z_isub X dJ0_bitCount_8 ?_
  refine z_istore_n (lv' := [(0, .int (v0 - ((((v0).toUInt32 >>> (((nI 1)).toUInt32 &&& Int32.toUInt32 31)).toInt32) &&& (1431655765 : Int32))))]) X dJ0_bitCount_9 rfl (by decide) rfl ?_
  refine z_iload_n X dJ0_bitCount_10 0 rfl rfl ?_
  refine z_ldcw X w_132 dJ0_bitCount_11 ?_
  refine z_iand X dJ0_bitCount_14 ?_
  refine z_iload_n X dJ0_bitCount_15 0 rfl rfl ?_
  refine z_iconst (v := (nI 2)) X dJ0_bitCount_16 (by decide) ?_
  refine z_iushr X dJ0_bitCount_17 ?_
  refine z_ldcw X w_132 dJ0_bitCount_18 ?_
  refine z_iand X dJ0_bitCount_21 ?_
  refine z_iadd X dJ0_bitCount_22 ?_
  refine z_istore_n (lv' := [(0, .int (((v0 - ((((v0).toUInt32 >>> (((nI 1)).toUInt32 &&& Int32.toUInt32 31)).toInt32) &&& (1431655765 : Int32))) &&& (858993459 : Int32)) + (((((v0 - ((((v0).toUInt32 >>> (((nI 1)).toUInt32 &&& Int32.toUInt32 31)).toInt32) &&& (1431655765 : Int32)))).toUInt32 >>> (((nI 2)).toUInt32 &&& Int32.toUInt32 31)).toInt32) &&& (858993459 : Int32))))]) X dJ0_bitCount_23 rfl (by decide) rfl ?_
  refine z_iload_n X dJ0_bitCount_24 0 rfl rfl ?_
  refine z_iload_n X dJ0_bitCount_25 0 rfl rfl ?_
  refine z_iconst (v := (nI 4)) X dJ0_bitCount_26 (by decide) ?_
  refine z_iushr X dJ0_bitCount_27 ?_
  refine z_iadd X dJ0_bitCount_28 ?_
  refine z_ldcw X w_133 dJ0_bitCount_29 ?_
  refine z_iand X dJ0_bitCount_32 ?_
  refine z_istore_n (lv' := [(0, .int (((((v0 - ((((v0).toUInt32 >>> (((nI 1)).toUInt32 &&& Int32.toUInt32 31)).toInt32) &&& (1431655765 : Int32))) &&& (858993459 : Int32)) + (((((v0 - ((((v0).toUInt32 >>> (((nI 1)).toUInt32 &&& Int32.toUInt32 31)).toInt32) &&& (1431655765 : Int32)))).toUInt32 >>> (((nI 2)).toUInt32 &&& Int32.toUInt32 31)).toInt32) &&& (858993459 : Int32))) + ((((((v0 - ((((v0).toUInt32 >>> (((nI 1)).toUInt32 &&& Int32.toUInt32 31)).toInt32) &&& (1431655765 : Int32))) &&& (858993459 : Int32)) + (((((v0 - ((((v0).toUInt32 >>> (((nI 1)).toUInt32 &&& Int32.toUInt32 31)).toInt32) &&& (1431655765 : Int32)))).toUInt32 >>> (((nI 2)).toUInt32 &&& Int32.toUInt32 31)).toInt32) &&& (858993459 : Int32)))).toUInt32 >>> (((nI 4)).toUInt32 &&& Int32.toUInt32 31)).toInt32)) &&& (252645135 : Int32)))]) X dJ0_bitCount_33 rfl (by decide) rfl ?_
  refine z_iload_n X dJ0_bitCount_34 0 rfl rfl ?_
  refine z_iload_n X dJ0_bitCount_35 0 rfl rfl ?_
  refine z_bipush (v := (nI 8)) X dJ0_bitCount_36 (by decide) ?_
  refine z_iushr X dJ0_bitCount_38 ?_
  refine z_iadd X dJ0_bitCount_39 ?_
  refine z_istore_n (lv' := [(0, .int ((((((v0 - ((((v0).toUInt32 >>> (((nI 1)).toUInt32 &&& Int32.toUInt32 31)).toInt32) &&& (1431655765 : Int32))) &&& (858993459 : Int32)) + (((((v0 - ((((v0).toUInt32 >>> (((nI 1)).toUInt32 &&& Int32.toUInt32 31)).toInt32) &&& (1431655765 : Int32)))).toUInt32 >>> (((nI 2)).toUInt32 &&& Int32.toUInt32 31)).toInt32) &&& (858993459 : Int32))) + ((((((v0 - ((((v0).toUInt32 >>> (((nI 1)).toUInt32 &&& Int32.toUInt32 31)).toInt32) &&& (1431655765 : Int32))) &&& (858993459 : Int32)) + (((((v0 - ((((v0).toUInt32 >>> (((nI 1)).toUInt32 &&& Int32.toUInt32 31)).toInt32) &&& (1431655765 : Int32)))).toUInt32 >>> (((nI 2)).toUInt32 &&& Int32.toUInt32 31)).toInt32) &&& (858993459 : Int32)))).toUInt32 >>> (((nI 4)).toUInt32 &&& Int32.toUInt32 31)).toInt32)) &&& (252645135 : Int32)) + ((((((((v0 - ((((v0).toUInt32 >>> (((nI 1)).toUInt32 &&& Int32.toUInt32 31)).toInt32) &&& (1431655765 : Int32))) &&& (858993459 : Int32)) + (((((v0 - ((((v0).toUInt32 >>> (((nI 1)).toUInt32 &&& Int32.toUInt32 31)).toInt32) &&& (1431655765 : Int32)))).toUInt32 >>> (((nI 2)).toUInt32 &&& Int32.toUInt32 31)).toInt32) &&& (858993459 : Int32))) + ((((((v0 - ((((v0).toUInt32 >>> (((nI 1)).toUInt32 &&& Int32.toUInt32 31)).toInt32) &&& (1431655765 : Int32))) &&& (858993459 : Int32)) + (((((v0 - ((((v0).toUInt32 >>> (((nI 1)).toUInt32 &&& Int32.toUInt32 31)).toInt32) &&& (1431655765 : Int32)))).toUInt32 >>> (((nI 2)).toUInt32 &&& Int32.toUInt32 31)).toInt32) &&& (858993459 : Int32)))).toUInt32 >>> (((nI 4)).toUInt32 &&& Int32.toUInt32 31)).toInt32)) &&& (252645135 : Int32))).toUInt32 >>> (((nI 8)).toUInt32 &&& Int32.toUInt32 31)).toInt32)))]) X dJ0_bitCount_40 rfl (by decide) rfl ?_
  refine z_iload_n X dJ0_bitCount_41 0 rfl rfl ?_
  refine z_iload_n X dJ0_bitCount_42 0 rfl rfl ?_
  refine z_bipush (v := (nI 16)) X dJ0_bitCount_43 (by decide) ?_
  refine z_iushr X dJ0_bitCount_45 ?_
  refine z_iadd X dJ0_bitCount_46 ?_
  refine z_istore_n (lv' := [(0, .int (((((((v0 - ((((v0).toUInt32 >>> (((nI 1)).toUInt32 &&& Int32.toUInt32 31)).toInt32) &&& (1431655765 : Int32))) &&& (858993459 : Int32)) + (((((v0 - ((((v0).toUInt32 >>> (((nI 1)).toUInt32 &&& Int32.toUInt32 31)).toInt32) &&& (1431655765 : Int32)))).toUInt32 >>> (((nI 2)).toUInt32 &&& Int32.toUInt32 31)).toInt32) &&& (858993459 : Int32))) + ((((((v0 - ((((v0).toUInt32 >>> (((nI 1)).toUInt32 &&& Int32.toUInt32 31)).toInt32) &&& (1431655765 : Int32))) &&& (858993459 : Int32)) + (((((v0 - ((((v0).toUInt32 >>> (((nI 1)).toUInt32 &&& Int32.toUInt32 31)).toInt32) &&& (1431655765 : Int32)))).toUInt32 >>> (((nI 2)).toUInt32 &&& Int32.toUInt32 31)).toInt32) &&& (858993459 : Int32)))).toUInt32 >>> (((nI 4)).toUInt32 &&& Int32.toUInt32 31)).toInt32)) &&& (252645135 : Int32)) + ((((((((v0 - ((((v0).toUInt32 >>> (((nI 1)).toUInt32 &&& Int32.toUInt32 31)).toInt32) &&& (1431655765 : Int32))) &&& (858993459 : Int32)) + (((((v0 - ((((v0).toUInt32 >>> (((nI 1)).toUInt32 &&& Int32.toUInt32 31)).toInt32) &&& (1431655765 : Int32)))).toUInt32 >>> (((nI 2)).toUInt32 &&& Int32.toUInt32 31)).toInt32) &&& (858993459 : Int32))) + ((((((v0 - ((((v0).toUInt32 >>> (((nI 1)).toUInt32 &&& Int32.toUInt32 31)).toInt32) &&& (1431655765 : Int32))) &&& (858993459 : Int32)) + (((((v0 - ((((v0).toUInt32 >>> (((nI 1)).toUInt32 &&& Int32.toUInt32 31)).toInt32) &&& (1431655765 : Int32)))).toUInt32 >>> (((nI 2)).toUInt32 &&& Int32.toUInt32 31)).toInt32) &&& (858993459 : Int32)))).toUInt32 >>> (((nI 4)).toUInt32 &&& Int32.toUInt32 31)).toInt32)) &&& (252645135 : Int32))).toUInt32 >>> (((nI 8)).toUInt32 &&& Int32.toUInt32 31)).toInt32)) + (((((((((v0 - ((((v0).toUInt32 >>> (((nI 1)).toUInt32 &&& Int32.toUInt32 31)).toInt32) &&& (1431655765 : Int32))) &&& (858993459 : Int32)) + (((((v0 - ((((v0).toUInt32 >>> (((nI 1)).toUInt32 &&& Int32.toUInt32 31)).toInt32) &&& (1431655765 : Int32)))).toUInt32 >>> (((nI 2)).toUInt32 &&& Int32.toUInt32 31)).toInt32) &&& (858993459 : Int32))) + ((((((v0 - ((((v0).toUInt32 >>> (((nI 1)).toUInt32 &&& Int32.toUInt32 31)).toInt32) &&& (1431655765 : Int32))) &&& (858993459 : Int32)) + (((((v0 - ((((v0).toUInt32 >>> (((nI 1)).toUInt32 &&& Int32.toUInt32 31)).toInt32) &&& (1431655765 : Int32)))).toUInt32 >>> (((nI 2)).toUInt32 &&& Int32.toUInt32 31)).toInt32) &&& (858993459 : Int32)))).toUInt32 >>> (((nI 4)).toUInt32 &&& Int32.toUInt32 31)).toInt32)) &&& (252645135 : Int32)) + ((((((((v0 - ((((v0).toUInt32 >>> (((nI 1)).toUInt32 &&& Int32.toUInt32 31)).toInt32) &&& (1431655765 : Int32))) &&& (858993459 : Int32)) + (((((v0 - ((((v0).toUInt32 >>> (((nI 1)).toUInt32 &&& Int32.toUInt32 31)).toInt32) &&& (1431655765 : Int32)))).toUInt32 >>> (((nI 2)).toUInt32 &&& Int32.toUInt32 31)).toInt32) &&& (858993459 : Int32))) + ((((((v0 - ((((v0).toUInt32 >>> (((nI 1)).toUInt32 &&& Int32.toUInt32 31)).toInt32) &&& (1431655765 : Int32))) &&& (858993459 : Int32)) + (((((v0 - ((((v0).toUInt32 >>> (((nI 1)).toUInt32 &&& Int32.toUInt32 31)).toInt32) &&& (1431655765 : Int32)))).toUInt32 >>> (((nI 2)).toUInt32 &&& Int32.toUInt32 31)).toInt32) &&& (858993459 : Int32)))).toUInt32 >>> (((nI 4)).toUInt32 &&& Int32.toUInt32 31)).toInt32)) &&& (252645135 : Int32))).toUInt32 >>> (((nI 8)).toUInt32 &&& Int32.toUInt32 31)).toInt32))).toUInt32 >>> (((nI 16)).toUInt32 &&& Int32.toUInt32 31)).toInt32)))]) X dJ0_bitCount_47 rfl (by decide) rfl ?_
  refine z_iload_n X dJ0_bitCount_48 0 rfl rfl ?_
  refine z_bipush (v := (nI 63)) X dJ0_bitCount_49 (by decide) ?_
  refine z_iand X dJ0_bitCount_51 ?_
  have hq := Option.some.inj h
  subst hq
  exact z_iret hs dJ0_bitCount_52 rfl
