def jF_JInteger_bitCount (a0 : Int32) (H : zH) : Option Int32 :=
  some ((((((((a0 - (((a0.toUInt32 >>> ((1 : Int32).toUInt32 &&& Int32.toUInt32 31)).toInt32) &&& (1431655765 : Int32))) &&& (858993459 : Int32)) + ((((a0 - (((a0.toUInt32 >>> ((1 : Int32).toUInt32 &&& Int32.toUInt32 31)).toInt32) &&& (1431655765 : Int32))).toUInt32 >>> ((2 : Int32).toUInt32 &&& Int32.toUInt32 31)).toInt32) &&& (858993459 : Int32))) + (((((a0 - (((a0.toUInt32 >>> ((1 : Int32).toUInt32 &&& Int32.toUInt32 31)).toInt32) &&& (1431655765 : Int32))) &&& (858993459 : Int32)) + ((((a0 - (((a0.toUInt32 >>> ((1 : Int32).toUInt32 &&& Int32.toUInt32 31)).toInt32) &&& (1431655765 : Int32))).toUInt32 >>> ((2 : Int32).toUInt32 &&& Int32.toUInt32 31)).toInt32) &&& (858993459 : Int32))).toUInt32 >>> ((4 : Int32).toUInt32 &&& Int32.toUInt32 31)).toInt32)) &&& (252645135 : Int32)) + (((((((a0 - (((a0.toUInt32 >>> ((1 : Int32).toUInt32 &&& Int32.toUInt32 31)).toInt32) &&& (1431655765 : Int32))) &&& (858993459 : Int32)) + ((((a0 - (((a0.toUInt32 >>> ((1 : Int32).toUInt32 &&& Int32.toUInt32 31)).toInt32) &&& (1431655765 : Int32))).toUInt32 >>> ((2 : Int32).toUInt32 &&& Int32.toUInt32 31)).toInt32) &&& (858993459 : Int32))) + (((((a0 - (((a0.toUInt32 >>> ((1 : Int32).toUInt32 &&& Int32.toUInt32 31)).toInt32) &&& (1431655765 : Int32))) &&& (858993459 : Int32)) + ((((a0 - (((a0.toUInt32 >>> ((1 : Int32).toUInt32 &&& Int32.toUInt32 31)).toInt32) &&& (1431655765 : Int32))).toUInt32 >>> ((2 : Int32).toUInt32 &&& Int32.toUInt32 31)).toInt32) &&& (858993459 : Int32))).toUInt32 >>> ((4 : Int32).toUInt32 &&& Int32.toUInt32 31)).toInt32)) &&& (252645135 : Int32)).toUInt32 >>> ((8 : Int32).toUInt32 &&& Int32.toUInt32 31)).toInt32)) + ((((((((a0 - (((a0.toUInt32 >>> ((1 : Int32).toUInt32 &&& Int32.toUInt32 31)).toInt32) &&& (1431655765 : Int32))) &&& (858993459 : Int32)) + ((((a0 - (((a0.toUInt32 >>> ((1 : Int32).toUInt32 &&& Int32.toUInt32 31)).toInt32) &&& (1431655765 : Int32))).toUInt32 >>> ((2 : Int32).toUInt32 &&& Int32.toUInt32 31)).toInt32) &&& (858993459 : Int32))) + (((((a0 - (((a0.toUInt32 >>> ((1 : Int32).toUInt32 &&& Int32.toUInt32 31)).toInt32) &&& (1431655765 : Int32))) &&& (858993459 : Int32)) + ((((a0 - (((a0.toUInt32 >>> ((1 : Int32).toUInt32 &&& Int32.toUInt32 31)).toInt32) &&& (1431655765 : Int32))).toUInt32 >>> ((2 : Int32).toUInt32 &&& Int32.toUInt32 31)).toInt32) &&& (858993459 : Int32))).toUInt32 >>> ((4 : Int32).toUInt32 &&& Int32.toUInt32 31)).toInt32)) &&& (252645135 : Int32)) + (((((((a0 - (((a0.toUInt32 >>> ((1 : Int32).toUInt32 &&& Int32.toUInt32 31)).toInt32) &&& (1431655765 : Int32))) &&& (858993459 : Int32)) + ((((a0 - (((a0.toUInt32 >>> ((1 : Int32).toUInt32 &&& Int32.toUInt32 31)).toInt32) &&& (1431655765 : Int32))).toUInt32 >>> ((2 : Int32).toUInt32 &&& Int32.toUInt32 31)).toInt32) &&& (858993459 : Int32))) + (((((a0 - (((a0.toUInt32 >>> ((1 : Int32).toUInt32 &&& Int32.toUInt32 31)).toInt32) &&& (1431655765 : Int32))) &&& (858993459 : Int32)) + ((((a0 - (((a0.toUInt32 >>> ((1 : Int32).toUInt32 &&& Int32.toUInt32 31)).toInt32) &&& (1431655765 : Int32))).toUInt32 >>> ((2 : Int32).toUInt32 &&& Int32.toUInt32 31)).toInt32) &&& (858993459 : Int32))).toUInt32 >>> ((4 : Int32).toUInt32 &&& Int32.toUInt32 31)).toInt32)) &&& (252645135 : Int32)).toUInt32 >>> ((8 : Int32).toUInt32 &&& Int32.toUInt32 31)).toInt32)).toUInt32 >>> ((16 : Int32).toUInt32 &&& Int32.toUInt32 31)).toInt32)) &&& (63 : Int32))
theorem jm_JInteger_bitCount {E : zE} {d : Nat} (hd : 0 ≤ d) (a0 : Int32) (H : zH) : z_MS E jM_JInteger_bitCount d 0 0 (zrI H) [zI a0] H (jF_JInteger_bitCount a0 H) := by
  refine zs_of (lv0 := [(0, zI a0)]) pn_JInteger (Nat.le_of_ble_eq_true rfl) rfl ?_
  unfold jF_JInteger_bitCount
  refine zs_iload_n (pc := 0) (x := a0) d_JInteger_bitCount_0 rfl ?_
  refine zs_iload_n (pc := 1) (x := a0) d_JInteger_bitCount_1 rfl ?_
  refine zs_iconst (pc := 2) (v := (1 : Int32)) d_JInteger_bitCount_2 (by decide) ?_
  refine zs_iushr (pc := 3) d_JInteger_bitCount_3 ?_
  refine zs_ldcw (pc := 4) (v := (1431655765 : Int32)) d_JInteger_bitCount_4 kC_JInteger_265 ?_
  refine zs_iand (pc := 7) d_JInteger_bitCount_7 ?_
  refine zs_isub (pc := 8) d_JInteger_bitCount_8 ?_
  refine zs_istore_n (pc := 9) (lv' := [(0, zI (a0 - (((a0.toUInt32 >>> ((1 : Int32).toUInt32 &&& Int32.toUInt32 31)).toInt32) &&& (1431655765 : Int32))))]) d_JInteger_bitCount_9 (Nat.le_of_ble_eq_true rfl) rfl ?_
  refine zs_iload_n (pc := 10) (x := (a0 - (((a0.toUInt32 >>> ((1 : Int32).toUInt32 &&& Int32.toUInt32 31)).toInt32) &&& (1431655765 : Int32)))) d_JInteger_bitCount_10 rfl ?_
  refine zs_ldcw (pc := 11) (v := (858993459 : Int32)) d_JInteger_bitCount_11 kC_JInteger_266 ?_
  refine zs_iand (pc := 14) d_JInteger_bitCount_14 ?_
  refine zs_iload_n (pc := 15) (x := (a0 - (((a0.toUInt32 >>> ((1 : Int32).toUInt32 &&& Int32.toUInt32 31)).toInt32) &&& (1431655765 : Int32)))) d_JInteger_bitCount_15 rfl ?_
  refine zs_iconst (pc := 16) (v := (2 : Int32)) d_JInteger_bitCount_16 (by decide) ?_
  refine zs_iushr (pc := 17) d_JInteger_bitCount_17 ?_
  refine zs_ldcw (pc := 18) (v := (858993459 : Int32)) d_JInteger_bitCount_18 kC_JInteger_266 ?_
  refine zs_iand (pc := 21) d_JInteger_bitCount_21 ?_
  refine zs_iadd (pc := 22) d_JInteger_bitCount_22 ?_
  refine zs_istore_n (pc := 23) (lv' := [(0, zI (((a0 - (((a0.toUInt32 >>> ((1 : Int32).toUInt32 &&& Int32.toUInt32 31)).toInt32) &&& (1431655765 : Int32))) &&& (858993459 : Int32)) + ((((a0 - (((a0.toUInt32 >>> ((1 : Int32).toUInt32 &&& Int32.toUInt32 31)).toInt32) &&& (1431655765 : Int32))).toUInt32 >>> ((2 : Int32).toUInt32 &&& Int32.toUInt32 31)).toInt32) &&& (858993459 : Int32))))]) d_JInteger_bitCount_23 (Nat.le_of_ble_eq_true rfl) rfl ?_
  refine zs_iload_n (pc := 24) (x := (((a0 - (((a0.toUInt32 >>> ((1 : Int32).toUInt32 &&& Int32.toUInt32 31)).toInt32) &&& (1431655765 : Int32))) &&& (858993459 : Int32)) + ((((a0 - (((a0.toUInt32 >>> ((1 : Int32).toUInt32 &&& Int32.toUInt32 31)).toInt32) &&& (1431655765 : Int32))).toUInt32 >>> ((2 : Int32).toUInt32 &&& Int32.toUInt32 31)).toInt32) &&& (858993459 : Int32)))) d_JInteger_bitCount_24 rfl ?_
  refine zs_iload_n (pc := 25) (x := (((a0 - (((a0.toUInt32 >>> ((1 : Int32).toUInt32 &&& Int32.toUInt32 31)).toInt32) &&& (1431655765 : Int32))) &&& (858993459 : Int32)) + ((((a0 - (((a0.toUInt32 >>> ((1 : Int32).toUInt32 &&& Int32.toUInt32 31)).toInt32) &&& (1431655765 : Int32))).toUInt32 >>> ((2 : Int32).toUInt32 &&& Int32.toUInt32 31)).toInt32) &&& (858993459 : Int32)))) d_JInteger_bitCount_25 rfl ?_
  refine zs_iconst (pc := 26) (v := (4 : Int32)) d_JInteger_bitCount_26 (by decide) ?_
  refine zs_iushr (pc := 27) d_JInteger_bitCount_27 ?_
  refine zs_iadd (pc := 28) d_JInteger_bitCount_28 ?_
  refine zs_ldcw (pc := 29) (v := (252645135 : Int32)) d_JInteger_bitCount_29 kC_JInteger_267 ?_
  refine zs_iand (pc := 32) d_JInteger_bitCount_32 ?_
  refine zs_istore_n (pc := 33) (lv' := [(0, zI (((((a0 - (((a0.toUInt32 >>> ((1 : Int32).toUInt32 &&& Int32.toUInt32 31)).toInt32) &&& (1431655765 : Int32))) &&& (858993459 : Int32)) + ((((a0 - (((a0.toUInt32 >>> ((1 : Int32).toUInt32 &&& Int32.toUInt32 31)).toInt32) &&& (1431655765 : Int32))).toUInt32 >>> ((2 : Int32).toUInt32 &&& Int32.toUInt32 31)).toInt32) &&& (858993459 : Int32))) + (((((a0 - (((a0.toUInt32 >>> ((1 : Int32).toUInt32 &&& Int32.toUInt32 31)).toInt32) &&& (1431655765 : Int32))) &&& (858993459 : Int32)) + ((((a0 - (((a0.toUInt32 >>> ((1 : Int32).toUInt32 &&& Int32.toUInt32 31)).toInt32) &&& (1431655765 : Int32))).toUInt32 >>> ((2 : Int32).toUInt32 &&& Int32.toUInt32 31)).toInt32) &&& (858993459 : Int32))).toUInt32 >>> ((4 : Int32).toUInt32 &&& Int32.toUInt32 31)).toInt32)) &&& (252645135 : Int32)))]) d_JInteger_bitCount_33 (Nat.le_of_ble_eq_true rfl) rfl ?_
  refine zs_iload_n (pc := 34) (x := (((((a0 - (((a0.toUInt32 >>> ((1 : Int32).toUInt32 &&& Int32.toUInt32 31)).toInt32) &&& (1431655765 : Int32))) &&& (858993459 : Int32)) + ((((a0 - (((a0.toUInt32 >>> ((1 : Int32).toUInt32 &&& Int32.toUInt32 31)).toInt32) &&& (1431655765 : Int32))).toUInt32 >>> ((2 : Int32).toUInt32 &&& Int32.toUInt32 31)).toInt32) &&& (858993459 : Int32))) + (((((a0 - (((a0.toUInt32 >>> ((1 : Int32).toUInt32 &&& Int32.toUInt32 31)).toInt32) &&& (1431655765 : Int32))) &&& (858993459 : Int32)) + ((((a0 - (((a0.toUInt32 >>> ((1 : Int32).toUInt32 &&& Int32.toUInt32 31)).toInt32) &&& (1431655765 : Int32))).toUInt32 >>> ((2 : Int32).toUInt32 &&& Int32.toUInt32 31)).toInt32) &&& (858993459 : Int32))).toUInt32 >>> ((4 : Int32).toUInt32 &&& Int32.toUInt32 31)).toInt32)) &&& (252645135 : Int32))) d_JInteger_bitCount_34 rfl ?_
  refine zs_iload_n (pc := 35) (x := (((((a0 - (((a0.toUInt32 >>> ((1 : Int32).toUInt32 &&& Int32.toUInt32 31)).toInt32) &&& (1431655765 : Int32))) &&& (858993459 : Int32)) + ((((a0 - (((a0.toUInt32 >>> ((1 : Int32).toUInt32 &&& Int32.toUInt32 31)).toInt32) &&& (1431655765 : Int32))).toUInt32 >>> ((2 : Int32).toUInt32 &&& Int32.toUInt32 31)).toInt32) &&& (858993459 : Int32))) + (((((a0 - (((a0.toUInt32 >>> ((1 : Int32).toUInt32 &&& Int32.toUInt32 31)).toInt32) &&& (1431655765 : Int32))) &&& (858993459 : Int32)) + ((((a0 - (((a0.toUInt32 >>> ((1 : Int32).toUInt32 &&& Int32.toUInt32 31)).toInt32) &&& (1431655765 : Int32))).toUInt32 >>> ((2 : Int32).toUInt32 &&& Int32.toUInt32 31)).toInt32) &&& (858993459 : Int32))).toUInt32 >>> ((4 : Int32).toUInt32 &&& Int32.toUInt32 31)).toInt32)) &&& (252645135 : Int32))) d_JInteger_bitCount_35 rfl ?_
  refine zs_bipush (pc := 36) (v := (8 : Int32)) d_JInteger_bitCount_36 (by decide) ?_
  refine zs_iushr (pc := 38) d_JInteger_bitCount_38 ?_
  refine zs_iadd (pc := 39) d_JInteger_bitCount_39 ?_
  refine zs_istore_n (pc := 40) (lv' := [(0, zI ((((((a0 - (((a0.toUInt32 >>> ((1 : Int32).toUInt32 &&& Int32.toUInt32 31)).toInt32) &&& (1431655765 : Int32))) &&& (858993459 : Int32)) + ((((a0 - (((a0.toUInt32 >>> ((1 : Int32).toUInt32 &&& Int32.toUInt32 31)).toInt32) &&& (1431655765 : Int32))).toUInt32 >>> ((2 : Int32).toUInt32 &&& Int32.toUInt32 31)).toInt32) &&& (858993459 : Int32))) + (((((a0 - (((a0.toUInt32 >>> ((1 : Int32).toUInt32 &&& Int32.toUInt32 31)).toInt32) &&& (1431655765 : Int32))) &&& (858993459 : Int32)) + ((((a0 - (((a0.toUInt32 >>> ((1 : Int32).toUInt32 &&& Int32.toUInt32 31)).toInt32) &&& (1431655765 : Int32))).toUInt32 >>> ((2 : Int32).toUInt32 &&& Int32.toUInt32 31)).toInt32) &&& (858993459 : Int32))).toUInt32 >>> ((4 : Int32).toUInt32 &&& Int32.toUInt32 31)).toInt32)) &&& (252645135 : Int32)) + (((((((a0 - (((a0.toUInt32 >>> ((1 : Int32).toUInt32 &&& Int32.toUInt32 31)).toInt32) &&& (1431655765 : Int32))) &&& (858993459 : Int32)) + ((((a0 - (((a0.toUInt32 >>> ((1 : Int32).toUInt32 &&& Int32.toUInt32 31)).toInt32) &&& (1431655765 : Int32))).toUInt32 >>> ((2 : Int32).toUInt32 &&& Int32.toUInt32 31)).toInt32) &&& (858993459 : Int32))) + (((((a0 - (((a0.toUInt32 >>> ((1 : Int32).toUInt32 &&& Int32.toUInt32 31)).toInt32) &&& (1431655765 : Int32))) &&& (858993459 : Int32)) + ((((a0 - (((a0.toUInt32 >>> ((1 : Int32).toUInt32 &&& Int32.toUInt32 31)).toInt32) &&& (1431655765 : Int32))).toUInt32 >>> ((2 : Int32).toUInt32 &&& Int32.toUInt32 31)).toInt32) &&& (858993459 : Int32))).toUInt32 >>> ((4 : Int32).toUInt32 &&& Int32.toUInt32 31)).toInt32)) &&& (252645135 : Int32)).toUInt32 >>> ((8 : Int32).toUInt32 &&& Int32.toUInt32 31)).toInt32)))]) d_JInteger_bitCount_40 (Nat.le_of_ble_eq_true rfl) rfl ?_
  refine zs_iload_n (pc := 41) (x := ((((((a0 - (((a0.toUInt32 >>> ((1 : Int32).toUInt32 &&& Int32.toUInt32 31)).toInt32) &&& (1431655765 : Int32))) &&& (858993459 : Int32)) + ((((a0 - (((a0.toUInt32 >>> ((1 : Int32).toUInt32 &&& Int32.toUInt32 31)).toInt32) &&& (1431655765 : Int32))).toUInt32 >>> ((2 : Int32).toUInt32 &&& Int32.toUInt32 31)).toInt32) &&& (858993459 : Int32))) + (((((a0 - (((a0.toUInt32 >>> ((1 : Int32).toUInt32 &&& Int32.toUInt32 31)).toInt32) &&& (1431655765 : Int32))) &&& (858993459 : Int32)) + ((((a0 - (((a0.toUInt32 >>> ((1 : Int32).toUInt32 &&& Int32.toUInt32 31)).toInt32) &&& (1431655765 : Int32))).toUInt32 >>> ((2 : Int32).toUInt32 &&& Int32.toUInt32 31)).toInt32) &&& (858993459 : Int32))).toUInt32 >>> ((4 : Int32).toUInt32 &&& Int32.toUInt32 31)).toInt32)) &&& (252645135 : Int32)) + (((((((a0 - (((a0.toUInt32 >>> ((1 : Int32).toUInt32 &&& Int32.toUInt32 31)).toInt32) &&& (1431655765 : Int32))) &&& (858993459 : Int32)) + ((((a0 - (((a0.toUInt32 >>> ((1 : Int32).toUInt32 &&& Int32.toUInt32 31)).toInt32) &&& (1431655765 : Int32))).toUInt32 >>> ((2 : Int32).toUInt32 &&& Int32.toUInt32 31)).toInt32) &&& (858993459 : Int32))) + (((((a0 - (((a0.toUInt32 >>> ((1 : Int32).toUInt32 &&& Int32.toUInt32 31)).toInt32) &&& (1431655765 : Int32))) &&& (858993459 : Int32)) + ((((a0 - (((a0.toUInt32 >>> ((1 : Int32).toUInt32 &&& Int32.toUInt32 31)).toInt32) &&& (1431655765 : Int32))).toUInt32 >>> ((2 : Int32).toUInt32 &&& Int32.toUInt32 31)).toInt32) &&& (858993459 : Int32))).toUInt32 >>> ((4 : Int32).toUInt32 &&& Int32.toUInt32 31)).toInt32)) &&& (252645135 : Int32)).toUInt32 >>> ((8 : Int32).toUInt32 &&& Int32.toUInt32 31)).toInt32))) d_JInteger_bitCount_41 rfl ?_
  refine zs_iload_n (pc := 42) (x := ((((((a0 - (((a0.toUInt32 >>> ((1 : Int32).toUInt32 &&& Int32.toUInt32 31)).toInt32) &&& (1431655765 : Int32))) &&& (858993459 : Int32)) + ((((a0 - (((a0.toUInt32 >>> ((1 : Int32).toUInt32 &&& Int32.toUInt32 31)).toInt32) &&& (1431655765 : Int32))).toUInt32 >>> ((2 : Int32).toUInt32 &&& Int32.toUInt32 31)).toInt32) &&& (858993459 : Int32))) + (((((a0 - (((a0.toUInt32 >>> ((1 : Int32).toUInt32 &&& Int32.toUInt32 31)).toInt32) &&& (1431655765 : Int32))) &&& (858993459 : Int32)) + ((((a0 - (((a0.toUInt32 >>> ((1 : Int32).toUInt32 &&& Int32.toUInt32 31)).toInt32) &&& (1431655765 : Int32))).toUInt32 >>> ((2 : Int32).toUInt32 &&& Int32.toUInt32 31)).toInt32) &&& (858993459 : Int32))).toUInt32 >>> ((4 : Int32).toUInt32 &&& Int32.toUInt32 31)).toInt32)) &&& (252645135 : Int32)) + (((((((a0 - (((a0.toUInt32 >>> ((1 : Int32).toUInt32 &&& Int32.toUInt32 31)).toInt32) &&& (1431655765 : Int32))) &&& (858993459 : Int32)) + ((((a0 - (((a0.toUInt32 >>> ((1 : Int32).toUInt32 &&& Int32.toUInt32 31)).toInt32) &&& (1431655765 : Int32))).toUInt32 >>> ((2 : Int32).toUInt32 &&& Int32.toUInt32 31)).toInt32) &&& (858993459 : Int32))) + (((((a0 - (((a0.toUInt32 >>> ((1 : Int32).toUInt32 &&& Int32.toUInt32 31)).toInt32) &&& (1431655765 : Int32))) &&& (858993459 : Int32)) + ((((a0 - (((a0.toUInt32 >>> ((1 : Int32).toUInt32 &&& Int32.toUInt32 31)).toInt32) &&& (1431655765 : Int32))).toUInt32 >>> ((2 : Int32).toUInt32 &&& Int32.toUInt32 31)).toInt32) &&& (858993459 : Int32))).toUInt32 >>> ((4 : Int32).toUInt32 &&& Int32.toUInt32 31)).toInt32)) &&& (252645135 : Int32)).toUInt32 >>> ((8 : Int32).toUInt32 &&& Int32.toUInt32 31)).toInt32))) d_JInteger_bitCount_42 rfl ?_
  refine zs_bipush (pc := 43) (v := (16 : Int32)) d_JInteger_bitCount_43 (by decide) ?_
  refine zs_iushr (pc := 45) d_JInteger_bitCount_45 ?_
  refine zs_iadd (pc := 46) d_JInteger_bitCount_46 ?_
  refine zs_istore_n (pc := 47) (lv' := [(0, zI (((((((a0 - (((a0.toUInt32 >>> ((1 : Int32).toUInt32 &&& Int32.toUInt32 31)).toInt32) &&& (1431655765 : Int32))) &&& (858993459 : Int32)) + ((((a0 - (((a0.toUInt32 >>> ((1 : Int32).toUInt32 &&& Int32.toUInt32 31)).toInt32) &&& (1431655765 : Int32))).toUInt32 >>> ((2 : Int32).toUInt32 &&& Int32.toUInt32 31)).toInt32) &&& (858993459 : Int32))) + (((((a0 - (((a0.toUInt32 >>> ((1 : Int32).toUInt32 &&& Int32.toUInt32 31)).toInt32) &&& (1431655765 : Int32))) &&& (858993459 : Int32)) + ((((a0 - (((a0.toUInt32 >>> ((1 : Int32).toUInt32 &&& Int32.toUInt32 31)).toInt32) &&& (1431655765 : Int32))).toUInt32 >>> ((2 : Int32).toUInt32 &&& Int32.toUInt32 31)).toInt32) &&& (858993459 : Int32))).toUInt32 >>> ((4 : Int32).toUInt32 &&& Int32.toUInt32 31)).toInt32)) &&& (252645135 : Int32)) + (((((((a0 - (((a0.toUInt32 >>> ((1 : Int32).toUInt32 &&& Int32.toUInt32 31)).toInt32) &&& (1431655765 : Int32))) &&& (858993459 : Int32)) + ((((a0 - (((a0.toUInt32 >>> ((1 : Int32).toUInt32 &&& Int32.toUInt32 31)).toInt32) &&& (1431655765 : Int32))).toUInt32 >>> ((2 : Int32).toUInt32 &&& Int32.toUInt32 31)).toInt32) &&& (858993459 : Int32))) + (((((a0 - (((a0.toUInt32 >>> ((1 : Int32).toUInt32 &&& Int32.toUInt32 31)).toInt32) &&& (1431655765 : Int32))) &&& (858993459 : Int32)) + ((((a0 - (((a0.toUInt32 >>> ((1 : Int32).toUInt32 &&& Int32.toUInt32 31)).toInt32) &&& (1431655765 : Int32))).toUInt32 >>> ((2 : Int32).toUInt32 &&& Int32.toUInt32 31)).toInt32) &&& (858993459 : Int32))).toUInt32 >>> ((4 : Int32).toUInt32 &&& Int32.toUInt32 31)).toInt32)) &&& (252645135 : Int32)).toUInt32 >>> ((8 : Int32).toUInt32 &&& Int32.toUInt32 31)).toInt32)) + ((((((((a0 - (((a0.toUInt32 >>> ((1 : Int32).toUInt32 &&& Int32.toUInt32 31)).toInt32) &&& (1431655765 : Int32))) &&& (858993459 : Int32)) + ((((a0 - (((a0.toUInt32 >>> ((1 : Int32).toUInt32 &&& Int32.toUInt32 31)).toInt32) &&& (1431655765 : Int32))).toUInt32 >>> ((2 : Int32).toUInt32 &&& Int32.toUInt32 31)).toInt32) &&& (858993459 : Int32))) + (((((a0 - (((a0.toUInt32 >>> ((1 : Int32).toUInt32 &&& Int32.toUInt32 31)).toInt32) &&& (1431655765 : Int32))) &&& (858993459 : Int32)) + ((((a0 - (((a0.toUInt32 >>> ((1 : Int32).toUInt32 &&& Int32.toUInt32 31)).toInt32) &&& (1431655765 : Int32))).toUInt32 >>> ((2 : Int32).toUInt32 &&& Int32.toUInt32 31)).toInt32) &&& (858993459 : Int32))).toUInt32 >>> ((4 : Int32).toUInt32 &&& Int32.toUInt32 31)).toInt32)) &&& (252645135 : Int32)) + (((((((a0 - (((a0.toUInt32 >>> ((1 : Int32).toUInt32 &&& Int32.toUInt32 31)).toInt32) &&& (1431655765 : Int32))) &&& (858993459 : Int32)) + ((((a0 - (((a0.toUInt32 >>> ((1 : Int32).toUInt32 &&& Int32.toUInt32 31)).toInt32) &&& (1431655765 : Int32))).toUInt32 >>> ((2 : Int32).toUInt32 &&& Int32.toUInt32 31)).toInt32) &&& (858993459 : Int32))) + (((((a0 - (((a0.toUInt32 >>> ((1 : Int32).toUInt32 &&& Int32.toUInt32 31)).toInt32) &&& (1431655765 : Int32))) &&& (858993459 : Int32)) + ((((a0 - (((a0.toUInt32 >>> ((1 : Int32).toUInt32 &&& Int32.toUInt32 31)).toInt32) &&& (1431655765 : Int32))).toUInt32 >>> ((2 : Int32).toUInt32 &&& Int32.toUInt32 31)).toInt32) &&& (858993459 : Int32))).toUInt32 >>> ((4 : Int32).toUInt32 &&& Int32.toUInt32 31)).toInt32)) &&& (252645135 : Int32)).toUInt32 >>> ((8 : Int32).toUInt32 &&& Int32.toUInt32 31)).toInt32)).toUInt32 >>> ((16 : Int32).toUInt32 &&& Int32.toUInt32 31)).toInt32)))]) d_JInteger_bitCount_47 (Nat.le_of_ble_eq_true rfl) rfl ?_
  refine zs_iload_n (pc := 48) (x := (((((((a0 - (((a0.toUInt32 >>> ((1 : Int32).toUInt32 &&& Int32.toUInt32 31)).toInt32) &&& (1431655765 : Int32))) &&& (858993459 : Int32)) + ((((a0 - (((a0.toUInt32 >>> ((1 : Int32).toUInt32 &&& Int32.toUInt32 31)).toInt32) &&& (1431655765 : Int32))).toUInt32 >>> ((2 : Int32).toUInt32 &&& Int32.toUInt32 31)).toInt32) &&& (858993459 : Int32))) + (((((a0 - (((a0.toUInt32 >>> ((1 : Int32).toUInt32 &&& Int32.toUInt32 31)).toInt32) &&& (1431655765 : Int32))) &&& (858993459 : Int32)) + ((((a0 - (((a0.toUInt32 >>> ((1 : Int32).toUInt32 &&& Int32.toUInt32 31)).toInt32) &&& (1431655765 : Int32))).toUInt32 >>> ((2 : Int32).toUInt32 &&& Int32.toUInt32 31)).toInt32) &&& (858993459 : Int32))).toUInt32 >>> ((4 : Int32).toUInt32 &&& Int32.toUInt32 31)).toInt32)) &&& (252645135 : Int32)) + (((((((a0 - (((a0.toUInt32 >>> ((1 : Int32).toUInt32 &&& Int32.toUInt32 31)).toInt32) &&& (1431655765 : Int32))) &&& (858993459 : Int32)) + ((((a0 - (((a0.toUInt32 >>> ((1 : Int32).toUInt32 &&& Int32.toUInt32 31)).toInt32) &&& (1431655765 : Int32))).toUInt32 >>> ((2 : Int32).toUInt32 &&& Int32.toUInt32 31)).toInt32) &&& (858993459 : Int32))) + (((((a0 - (((a0.toUInt32 >>> ((1 : Int32).toUInt32 &&& Int32.toUInt32 31)).toInt32) &&& (1431655765 : Int32))) &&& (858993459 : Int32)) + ((((a0 - (((a0.toUInt32 >>> ((1 : Int32).toUInt32 &&& Int32.toUInt32 31)).toInt32) &&& (1431655765 : Int32))).toUInt32 >>> ((2 : Int32).toUInt32 &&& Int32.toUInt32 31)).toInt32) &&& (858993459 : Int32))).toUInt32 >>> ((4 : Int32).toUInt32 &&& Int32.toUInt32 31)).toInt32)) &&& (252645135 : Int32)).toUInt32 >>> ((8 : Int32).toUInt32 &&& Int32.toUInt32 31)).toInt32)) + ((((((((a0 - (((a0.toUInt32 >>> ((1 : Int32).toUInt32 &&& Int32.toUInt32 31)).toInt32) &&& (1431655765 : Int32))) &&& (858993459 : Int32)) + ((((a0 - (((a0.toUInt32 >>> ((1 : Int32).toUInt32 &&& Int32.toUInt32 31)).toInt32) &&& (1431655765 : Int32))).toUInt32 >>> ((2 : Int32).toUInt32 &&& Int32.toUInt32 31)).toInt32) &&& (858993459 : Int32))) + (((((a0 - (((a0.toUInt32 >>> ((1 : Int32).toUInt32 &&& Int32.toUInt32 31)).toInt32) &&& (1431655765 : Int32))) &&& (858993459 : Int32)) + ((((a0 - (((a0.toUInt32 >>> ((1 : Int32).toUInt32 &&& Int32.toUInt32 31)).toInt32) &&& (1431655765 : Int32))).toUInt32 >>> ((2 : Int32).toUInt32 &&& Int32.toUInt32 31)).toInt32) &&& (858993459 : Int32))).toUInt32 >>> ((4 : Int32).toUInt32 &&& Int32.toUInt32 31)).toInt32)) &&& (252645135 : Int32)) + (((((((a0 - (((a0.toUInt32 >>> ((1 : Int32).toUInt32 &&& Int32.toUInt32 31)).toInt32) &&& (1431655765 : Int32))) &&& (858993459 : Int32)) + ((((a0 - (((a0.toUInt32 >>> ((1 : Int32).toUInt32 &&& Int32.toUInt32 31)).toInt32) &&& (1431655765 : Int32))).toUInt32 >>> ((2 : Int32).toUInt32 &&& Int32.toUInt32 31)).toInt32) &&& (858993459 : Int32))) + (((((a0 - (((a0.toUInt32 >>> ((1 : Int32).toUInt32 &&& Int32.toUInt32 31)).toInt32) &&& (1431655765 : Int32))) &&& (858993459 : Int32)) + ((((a0 - (((a0.toUInt32 >>> ((1 : Int32).toUInt32 &&& Int32.toUInt32 31)).toInt32) &&& (1431655765 : Int32))).toUInt32 >>> ((2 : Int32).toUInt32 &&& Int32.toUInt32 31)).toInt32) &&& (858993459 : Int32))).toUInt32 >>> ((4 : Int32).toUInt32 &&& Int32.toUInt32 31)).toInt32)) &&& (252645135 : Int32)).toUInt32 >>> ((8 : Int32).toUInt32 &&& Int32.toUInt32 31)).toInt32)).toUInt32 >>> ((16 : Int32).toUInt32 &&& Int32.toUInt32 31)).toInt32))) d_JInteger_bitCount_48 rfl ?_
  refine zs_bipush (pc := 49) (v := (63 : Int32)) d_JInteger_bitCount_49 (by decide) ?_
  refine zs_iand (pc := 51) d_JInteger_bitCount_51 ?_
  exact zs_iret (pc := 52) d_JInteger_bitCount_52 rfl (Nat.le_of_ble_eq_true rfl) (Nat.le_of_ble_eq_true rfl) rfl
def jF_Schema_rankOf (a0 : Option Nat) (a1 : Int32) (H : zH) : Option Int32 :=
  (zok H a0 8).bind fun _ =>
  (zgI H a0 8 2).bind fun v1 =>
  (jF_JInteger_bitCount (v1 &&& (((1 : Int32) <<< (a1 &&& 31)) - (1 : Int32))) H).bind fun y10 =>
  some y10
theorem jm_Schema_rankOf {E : zE} {d : Nat} (hd : 1 ≤ d) (a0 : Option Nat) (a1 : Int32) (H : zH) : z_MS E jM_Schema_rankOf d 0 0 (zrI H) [zR a0, zI a1] H (jF_Schema_rankOf a0 a1 H) := by
  refine zs_of (lv0 := [(0, zR a0), (1, zI a1)]) pn_Schema (Nat.le_of_ble_eq_true rfl) rfl ?_
  unfold jF_Schema_rankOf
  refine zs_bind fun _ _ => ?_
  refine zs_aload_n (pc := 0) (x := a0) d_Schema_rankOf_0 rfl ?_
  refine zs_getI (pc := 1) d_Schema_rankOf_1 kF_Schema_18 fun v1 => ?_
  refine zs_iconst (pc := 4) (v := (1 : Int32)) d_Schema_rankOf_4 (by decide) ?_
  refine zs_iload_n (pc := 5) (x := a1) d_Schema_rankOf_5 rfl ?_
  refine zs_ishl (pc := 6) d_Schema_rankOf_6 ?_
  refine zs_iconst (pc := 7) (v := (1 : Int32)) d_Schema_rankOf_7 (by decide) ?_
  refine zs_isub (pc := 8) d_Schema_rankOf_8 ?_
  refine zs_iand (pc := 9) d_Schema_rankOf_9 ?_
  refine zs_calls_rI (pc := 10) (av := [zI (v1 &&& (((1 : Int32) <<< (a1 &&& 31)) - (1 : Int32)))]) (st := []) (d' := 0) (C' := 0) (S' := 0) d_Schema_rankOf_10 kS_Schema_62 (jm_JInteger_bitCount (d := 0) (Nat.le_refl _) (v1 &&& (((1 : Int32) <<< (a1 &&& 31)) - (1 : Int32))) H) (by omega) (Nat.le_of_ble_eq_true rfl) (Nat.le_of_ble_eq_true rfl) rfl rfl (Nat.le_of_ble_eq_true rfl) fun y10 => ?_
  exact zs_iret (pc := 13) d_Schema_rankOf_13 rfl (Nat.le_of_ble_eq_true rfl) (Nat.le_of_ble_eq_true rfl) rfl
def jF_Coder_encodeNumber (fu : Nat) (a0 : Option Nat) (a1 : Int64) (a3 : Option Nat) (H : zH) : Option zH :=
  (zgI H a0 8 0).bind fun v1 =>
  if v1 = (1 : Int32) then (
    (jF_Bytes_append a3 a1.toInt32 H).bind fun y35 =>
    some y35)
  else (
    if v1 = (4 : Int32) then (
      (jF_Schema_rankOf a0 a1.toInt32 H).bind fun y45 =>
      (jF_Bytes_appendVarint fu a3 y45.toInt64 H).bind fun y49 =>
      some y49)
    else (
      (jF_Bytes_appendVarint fu a3 a1 H).bind fun y57 =>
      some y57))
theorem jm_Coder_encodeNumber {E : zE} {d : Nat} (hd : 2 ≤ d) (fu : Nat) (a0 : Option Nat) (a1 : Int64) (a3 : Option Nat) (H : zH) : z_MS E jM_Coder_encodeNumber d 0 0 zwV [zR a0, zL a1, zR a3] H (jF_Coder_encodeNumber fu a0 a1 a3 H) := by
  refine zs_of (lv0 := [(0, zR a0), (1, zL a1), (3, zR a3)]) pn_Coder (Nat.le_of_ble_eq_true rfl) rfl ?_
  unfold jF_Coder_encodeNumber
  refine zs_aload_n (pc := 0) (x := a0) d_Coder_encodeNumber_0 rfl ?_
  refine zs_getI (pc := 1) d_Coder_encodeNumber_1 kF_Coder_9 fun v1 => ?_
  refine zs_ite (fun q => ?_) (fun q4_0 => ?_)
  · refine zs_lookup2 (pc := 4) (tgt := 32) d_Coder_encodeNumber_4 rfl (by rcases q with q <;> (rw [q]; decide)) ?_
    refine zs_aload_n (pc := 32) (x := a3) d_Coder_encodeNumber_32 rfl ?_
    refine zs_lload_n (pc := 33) (x := a1) d_Coder_encodeNumber_33 rfl ?_
    refine zs_l2i (pc := 34) d_Coder_encodeNumber_34 ?_
    refine zs_callv_wV (pc := 35) (av := [zI a1.toInt32]) (st := []) (d' := 0) (C' := 0) (S' := 0) d_Coder_encodeNumber_35 kV_Coder_58 z_okb (jm_Bytes_append (d := 0) (Nat.le_refl _) a3 a1.toInt32 H) (by omega) (Nat.le_of_ble_eq_true rfl) (Nat.le_of_ble_eq_true rfl) rfl rfl (Nat.le_of_ble_eq_true rfl) fun y35 => ?_
    refine zs_goto (pc := 38) (tgt := 60) d_Coder_encodeNumber_38 rfl ?_
    exact zs_vret (pc := 60) d_Coder_encodeNumber_60 rfl (Nat.le_of_ble_eq_true rfl) (Nat.le_of_ble_eq_true rfl) rfl
  refine zs_ite (fun q => ?_) (fun q4_1 => ?_)
  · refine zs_lookup2 (pc := 4) (tgt := 41) d_Coder_encodeNumber_4 rfl (by rcases q with q <;> (rw [q]; decide)) ?_
    refine zs_aload_n (pc := 41) (x := a3) d_Coder_encodeNumber_41 rfl ?_
    refine zs_aload_n (pc := 42) (x := a0) d_Coder_encodeNumber_42 rfl ?_
    refine zs_lload_n (pc := 43) (x := a1) d_Coder_encodeNumber_43 rfl ?_
    refine zs_l2i (pc := 44) d_Coder_encodeNumber_44 ?_
    refine zs_callv_rI (pc := 45) (av := [zI a1.toInt32]) (st := [zR a3]) (d' := 1) (C' := 0) (S' := 0) d_Coder_encodeNumber_45 kV_Coder_62 z_okb (jm_Schema_rankOf (d := 1) (Nat.le_refl _) a0 a1.toInt32 H) (by omega) (Nat.le_of_ble_eq_true rfl) (Nat.le_of_ble_eq_true rfl) rfl rfl (Nat.le_of_ble_eq_true rfl) fun y45 => ?_
    refine zs_i2l (pc := 48) d_Coder_encodeNumber_48 ?_
    refine zs_callv_wV (pc := 49) (av := [zL y45.toInt64]) (st := []) (d' := 1) (C' := 0) (S' := 0) d_Coder_encodeNumber_49 kV_Coder_37 z_okb (jm_Bytes_appendVarint (d := 1) (Nat.le_refl _) fu a3 y45.toInt64 H) (by omega) (Nat.le_of_ble_eq_true rfl) (Nat.le_of_ble_eq_true rfl) rfl rfl (Nat.le_of_ble_eq_true rfl) fun y49 => ?_
    refine zs_goto (pc := 52) (tgt := 60) d_Coder_encodeNumber_52 rfl ?_
    exact zs_vret (pc := 60) d_Coder_encodeNumber_60 rfl (Nat.le_of_ble_eq_true rfl) (Nat.le_of_ble_eq_true rfl) rfl
  have h4_1 := zs_tne (k := 1) q4_0 (by decide)
  have h4_4 := zs_tne (k := 4) q4_1 (by decide)
  refine zs_lookup2 (pc := 4) (tgt := 55) d_Coder_encodeNumber_4 rfl ?_ ?_
  · unfold z_lsw
    simp only [Op.lookupswitch.offset, if_neg (Ne.symm h4_1), if_neg (Ne.symm h4_4)]
    first | done | decide | rfl
  · refine zs_aload_n (pc := 55) (x := a3) d_Coder_encodeNumber_55 rfl ?_
    refine zs_lload_n (pc := 56) (x := a1) d_Coder_encodeNumber_56 rfl ?_
    refine zs_callv_wV (pc := 57) (av := [zL a1]) (st := []) (d' := 1) (C' := 0) (S' := 0) d_Coder_encodeNumber_57 kV_Coder_37 z_okb (jm_Bytes_appendVarint (d := 1) (Nat.le_refl _) fu a3 a1 H) (by omega) (Nat.le_of_ble_eq_true rfl) (Nat.le_of_ble_eq_true rfl) rfl rfl (Nat.le_of_ble_eq_true rfl) fun y57 => ?_
    exact zs_vret (pc := 60) d_Coder_encodeNumber_60 rfl (Nat.le_of_ble_eq_true rfl) (Nat.le_of_ble_eq_true rfl) rfl
def jF_Row_at (a0 : Option Nat) (a1 : Int32) (H : zH) : Option Int64 :=
  (zok H a0 7).bind fun _ =>
  if a1 < 0 then (
    some (0 : Int64))
  else (
    (zgI H a0 7 1).bind fun v6 =>
    if v6 ≤ a1 then (
      some (0 : Int64))
    else (
      (zgR H a0 7 0).bind fun v14 =>
      (zle H v14 2).bind fun v17 =>
      if v17 ≤ a1 then (
        some (0 : Int64))
      else (
        (zgR H a0 7 0).bind fun v22 =>
        (zaL H v22 2 a1).bind fun v26 =>
        some v26)))
theorem jm_Row_at {E : zE} {d : Nat} (hd : 0 ≤ d) (a0 : Option Nat) (a1 : Int32) (H : zH) : z_MS E jM_Row_at d 0 0 (zrL H) [zR a0, zI a1] H (jF_Row_at a0 a1 H) := by
  refine zs_of (lv0 := [(0, zR a0), (1, zI a1)]) pn_Row (Nat.le_of_ble_eq_true rfl) rfl ?_
  unfold jF_Row_at
  refine zs_bind fun _ _ => ?_
  refine zs_iload_n (pc := 0) (x := a1) d_Row_at_0 rfl ?_
  refine zs_if_lt (pc := 1) (tgt := 30) d_Row_at_1 rfl (fun q1 => ?_) (fun q1 => ?_)
  · refine zs_lconst (pc := 30) (v := (0 : Int64)) d_Row_at_30 (by decide) ?_
    exact zs_lret (pc := 31) d_Row_at_31 rfl (Nat.le_of_ble_eq_true rfl) (Nat.le_of_ble_eq_true rfl) rfl
  · refine zs_iload_n (pc := 4) (x := a1) d_Row_at_4 rfl ?_
    refine zs_aload_n (pc := 5) (x := a0) d_Row_at_5 rfl ?_
    refine zs_getI (pc := 6) d_Row_at_6 kF_Row_13 fun v6 => ?_
    refine zs_icmp_ge (pc := 9) (tgt := 30) d_Row_at_9 rfl (fun q9 => ?_) (fun q9 => ?_)
    · refine zs_lconst (pc := 30) (v := (0 : Int64)) d_Row_at_30 (by decide) ?_
      exact zs_lret (pc := 31) d_Row_at_31 rfl (Nat.le_of_ble_eq_true rfl) (Nat.le_of_ble_eq_true rfl) rfl
    · refine zs_iload_n (pc := 12) (x := a1) d_Row_at_12 rfl ?_
      refine zs_aload_n (pc := 13) (x := a0) d_Row_at_13 rfl ?_
      refine zs_getR (pc := 14) d_Row_at_14 kF_Row_7 fun v14 => ?_
      refine zs_alen (t := 2) (pc := 17) d_Row_at_17 rfl fun v17 => ?_
      refine zs_icmp_ge (pc := 18) (tgt := 30) d_Row_at_18 rfl (fun q18 => ?_) (fun q18 => ?_)
      · refine zs_lconst (pc := 30) (v := (0 : Int64)) d_Row_at_30 (by decide) ?_
        exact zs_lret (pc := 31) d_Row_at_31 rfl (Nat.le_of_ble_eq_true rfl) (Nat.le_of_ble_eq_true rfl) rfl
      · refine zs_aload_n (pc := 21) (x := a0) d_Row_at_21 rfl ?_
        refine zs_getR (pc := 22) d_Row_at_22 kF_Row_7 fun v22 => ?_
        refine zs_iload_n (pc := 25) (x := a1) d_Row_at_25 rfl ?_
        refine zs_lald (t := 2) (pc := 26) d_Row_at_26 rfl fun v26 => ?_
        refine zs_goto (pc := 27) (tgt := 31) d_Row_at_27 rfl ?_
        exact zs_lret (pc := 31) d_Row_at_31 rfl (Nat.le_of_ble_eq_true rfl) (Nat.le_of_ble_eq_true rfl) rfl
def jL_Coder_encodeFields_6 (fu : Nat) (rc : Option Nat → Option Nat → Int32 → Option Nat → zH → Option (Int32 × zH)) : Nat → Option Nat → Option Nat → Option Nat → Int32 → Int32 → zH → Option (Int32 × zH)
  | 0, _, _, _, _, _, _ => none
  | g + 1, a0, a1, a3, a4, a5, H =>
    (zgR H a0 8 6).bind fun v9 =>
    (zle H v9 4).bind fun v12 =>
    if v12 ≤ a5 then (
      some (a4, H))
    else (
      if a4 = (-1 : Int32) then (
        some (a4, H))
      else (
        (zgR H a0 8 6).bind fun v23 =>
        (zaR H v23 4 a5).bind fun v28 =>
        (zgR H v28 4 1).bind fun v29 =>
        (rc v29 a1 a4 a3 H).bind fun y36 =>
        jL_Coder_encodeFields_6 fu rc g a0 a1 a3 y36.1 (a5 + (1 : Int32)) y36.2))
def jF_Coder_encodeFields (fu : Nat) (rc : Option Nat → Option Nat → Int32 → Option Nat → zH → Option (Int32 × zH)) (a0 : Option Nat) (a1 : Option Nat) (a2 : Int32) (a3 : Option Nat) (H : zH) : Option (Int32 × zH) :=
  jL_Coder_encodeFields_6 fu rc fu a0 a1 a3 a2 (0 : Int32) H
theorem jl_Coder_encodeFields_6 {E : zE} {d dr : Nat} (hd : dr + 1 ≤ d) (fu : Nat) (rc : Option Nat → Option Nat → Int32 → Option Nat → zH → Option (Int32 × zH)) (hrc : ∀ (x0 : Option Nat) (x1 : Option Nat) (x2 : Int32) (x3 : Option Nat) (H : zH), z_MS E jM_Coder_encode dr 0 0 zwI [zR x0, zR x1, zI x2, zR x3] H (rc x0 x1 x2 x3 H)) : ∀ (g : Nat), ∀ (a0 : Option Nat) (a1 : Option Nat) (a3 : Option Nat) (a4 : Int32) (a5 : Int32) (H : zH), z_S E jM_Coder_encodeFields d 0 0 zwI 6 [(0, zR a0), (1, zR a1), (3, zR a3), (4, zI a4), (5, zI a5)] [] H 0 0 (jL_Coder_encodeFields_6 fu rc g a0 a1 a3 a4 a5 H) := by
  intro g
  induction g with
  | zero => intros; exact zs_none
  | succ g ih =>
    intro a0 a1 a3 a4 a5 H
    rw [jL_Coder_encodeFields_6]
    refine zs_iload (pc := 6) (x := a5) d_Coder_encodeFields_6 rfl ?_
    refine zs_aload_n (pc := 8) (x := a0) d_Coder_encodeFields_8 rfl ?_
    refine zs_getR (pc := 9) d_Coder_encodeFields_9 kF_Coder_68 fun v9 => ?_
    refine zs_alen (t := 4) (pc := 12) d_Coder_encodeFields_12 rfl fun v12 => ?_
    refine zs_icmp_ge (pc := 13) (tgt := 47) d_Coder_encodeFields_13 rfl (fun q13 => ?_) (fun q13 => ?_)
    · refine zs_iload (pc := 47) (x := a4) d_Coder_encodeFields_47 rfl ?_
      exact zs_iret (pc := 49) d_Coder_encodeFields_49 rfl (Nat.le_of_ble_eq_true rfl) (Nat.le_of_ble_eq_true rfl) rfl
    · refine zs_iload (pc := 16) (x := a4) d_Coder_encodeFields_16 rfl ?_
      refine zs_iconst (pc := 18) (v := (-1 : Int32)) d_Coder_encodeFields_18 (by decide) ?_
      refine zs_icmp_eq (pc := 19) (tgt := 47) d_Coder_encodeFields_19 rfl (fun q19 => ?_) (fun q19 => ?_)
      · refine zs_iload (pc := 47) (x := a4) d_Coder_encodeFields_47 rfl ?_
        exact zs_iret (pc := 49) d_Coder_encodeFields_49 rfl (Nat.le_of_ble_eq_true rfl) (Nat.le_of_ble_eq_true rfl) rfl
      · refine zs_aload_n (pc := 22) (x := a0) d_Coder_encodeFields_22 rfl ?_
        refine zs_getR (pc := 23) d_Coder_encodeFields_23 kF_Coder_68 fun v23 => ?_
        refine zs_iload (pc := 26) (x := a5) d_Coder_encodeFields_26 rfl ?_
        refine zs_aald (t := 4) (pc := 28) d_Coder_encodeFields_28 rfl fun v28 => ?_
        refine zs_getR (pc := 29) d_Coder_encodeFields_29 kF_Coder_72 fun v29 => ?_
        refine zs_aload_n (pc := 32) (x := a1) d_Coder_encodeFields_32 rfl ?_
        refine zs_iload (pc := 33) (x := a4) d_Coder_encodeFields_33 rfl ?_
        refine zs_aload_n (pc := 35) (x := a3) d_Coder_encodeFields_35 rfl ?_
        refine zs_calls_wI (pc := 36) (av := [zR v29, zR a1, zI a4, zR a3]) (st := []) (d' := dr) (C' := 0) (S' := 0) d_Coder_encodeFields_36 kS_Coder_47 (hrc v29 a1 a4 a3 H) (by omega) (Nat.le_of_ble_eq_true rfl) (Nat.le_of_ble_eq_true rfl) rfl rfl (Nat.le_of_ble_eq_true rfl) fun y36 => ?_
        refine zs_istore (pc := 39) (lv' := [(4, zI y36.1), (0, zR a0), (1, zR a1), (3, zR a3), (5, zI a5)]) d_Coder_encodeFields_39 (Nat.le_of_ble_eq_true rfl) rfl ?_
        refine zs_iinc (pc := 41) (x := a5) (v := (a5 + (1 : Int32))) (lv' := [(5, zI (a5 + (1 : Int32))), (4, zI y36.1), (0, zR a0), (1, zR a1), (3, zR a3)]) d_Coder_encodeFields_41 rfl rfl (Nat.le_of_ble_eq_true rfl) rfl ?_
        refine zs_goto (pc := 44) (tgt := 6) d_Coder_encodeFields_44 rfl ?_
        refine zs_sub (lv' := [(0, zR a0), (1, zR a1), (3, zR a3), (4, zI y36.1), (5, zI (a5 + (1 : Int32)))]) [2, 3, 4, 1, 0] rfl ?_
        exact ih a0 a1 a3 y36.1 (a5 + (1 : Int32)) y36.2
theorem jm_Coder_encodeFields {E : zE} {d dr : Nat} (hd : dr + 1 ≤ d) (fu : Nat) (rc : Option Nat → Option Nat → Int32 → Option Nat → zH → Option (Int32 × zH)) (hrc : ∀ (x0 : Option Nat) (x1 : Option Nat) (x2 : Int32) (x3 : Option Nat) (H : zH), z_MS E jM_Coder_encode dr 0 0 zwI [zR x0, zR x1, zI x2, zR x3] H (rc x0 x1 x2 x3 H)) (a0 : Option Nat) (a1 : Option Nat) (a2 : Int32) (a3 : Option Nat) (H : zH) : z_MS E jM_Coder_encodeFields d 0 0 zwI [zR a0, zR a1, zI a2, zR a3] H (jF_Coder_encodeFields fu rc a0 a1 a2 a3 H) := by
  refine zs_of (lv0 := [(0, zR a0), (1, zR a1), (2, zI a2), (3, zR a3)]) pn_Coder (Nat.le_of_ble_eq_true rfl) rfl ?_
  unfold jF_Coder_encodeFields
  refine zs_iload_n (pc := 0) (x := a2) d_Coder_encodeFields_0 rfl ?_
  refine zs_istore (pc := 1) (lv' := [(4, zI a2), (0, zR a0), (1, zR a1), (2, zI a2), (3, zR a3)]) d_Coder_encodeFields_1 (Nat.le_of_ble_eq_true rfl) rfl ?_
  refine zs_iconst (pc := 3) (v := (0 : Int32)) d_Coder_encodeFields_3 (by decide) ?_
  refine zs_istore (pc := 4) (lv' := [(5, zI (0 : Int32)), (4, zI a2), (0, zR a0), (1, zR a1), (2, zI a2), (3, zR a3)]) d_Coder_encodeFields_4 (Nat.le_of_ble_eq_true rfl) rfl ?_
  refine zs_sub (lv' := [(0, zR a0), (1, zR a1), (3, zR a3), (4, zI a2), (5, zI (0 : Int32))]) [2, 3, 5, 1, 0] rfl ?_
  exact jl_Coder_encodeFields_6 hd fu rc hrc fu a0 a1 a3 a2 (0 : Int32) H
def jJ_Coder_encodeItems_77 (fu : Nat) (rc : Option Nat → Option Nat → Int32 → Option Nat → zH → Option (Int32 × zH)) (a3 : Option Nat) (a6 : Int32) (H : zH) : Option (Int32 × zH) :=
  (jF_Bytes_append a3 (0 : Int32) H).bind fun y79 =>
  some (a6, y79)
def jL_Coder_encodeItems_46 (fu : Nat) (rc : Option Nat → Option Nat → Int32 → Option Nat → zH → Option (Int32 × zH)) : Nat → Option Nat → Option Nat → Option Nat → Int64 → Int32 → Int32 → zH → Option (Int32 × zH)
  | 0, _, _, _, _, _, _, _ => none
  | g + 1, a0, a1, a3, a4, a6, a7, H =>
    if a4 ≤ a7.toInt64 then (
      jJ_Coder_encodeItems_77 fu rc a3 a6 H)
    else (
      if a6 = (-1 : Int32) then (
        jJ_Coder_encodeItems_77 fu rc a3 a6 H)
      else (
        (rc a0 a1 a6 a3 H).bind fun y66 =>
        jL_Coder_encodeItems_46 fu rc g a0 a1 a3 a4 y66.1 (a7 + (1 : Int32)) y66.2))
def jJ_Coder_encodeItems_38 (fu : Nat) (rc : Option Nat → Option Nat → Int32 → Option Nat → zH → Option (Int32 × zH)) (a0 : Option Nat) (a1 : Option Nat) (a2 : Int32) (a3 : Option Nat) (a4 : Int64) (H : zH) : Option (Int32 × zH) :=
  jL_Coder_encodeItems_46 fu rc fu a0 a1 a3 a4 (a2 + (1 : Int32)) (0 : Int32) H
def jF_Coder_encodeItems (fu : Nat) (rc : Option Nat → Option Nat → Int32 → Option Nat → zH → Option (Int32 × zH)) (a0 : Option Nat) (a1 : Option Nat) (a2 : Int32) (a3 : Option Nat) (H : zH) : Option (Int32 × zH) :=
  (jF_Row_at a1 a2 H).bind fun y2 =>
  if y2 < (0 : Int64) then (
    some ((-1 : Int32), H))
  else (
    if y2 ≤ (3 : Int64) then (
      if y2 ≤ (0 : Int64) then (
        jJ_Coder_encodeItems_38 fu rc a0 a1 a2 a3 y2 H)
      else (
        (jF_Bytes_appendVarint fu a3 y2 H).bind fun y35 =>
        jJ_Coder_encodeItems_38 fu rc a0 a1 a2 a3 y2 y35))
    else (
      some ((-1 : Int32), H)))
theorem jj_Coder_encodeItems_77 {E : zE} {d dr : Nat} (hd : dr + 2 ≤ d) (fu : Nat) (rc : Option Nat → Option Nat → Int32 → Option Nat → zH → Option (Int32 × zH)) (hrc : ∀ (x0 : Option Nat) (x1 : Option Nat) (x2 : Int32) (x3 : Option Nat) (H : zH), z_MS E jM_Coder_encode dr 0 0 zwI [zR x0, zR x1, zI x2, zR x3] H (rc x0 x1 x2 x3 H)) : ∀ (a3 : Option Nat) (a6 : Int32) (H : zH), z_S E jM_Coder_encodeItems d 0 0 zwI 77 [(3, zR a3), (6, zI a6)] [] H 0 0 (jJ_Coder_encodeItems_77 fu rc a3 a6 H) := by
  intro a3 a6 H
  unfold jJ_Coder_encodeItems_77
  refine zs_aload_n (pc := 77) (x := a3) d_Coder_encodeItems_77 rfl ?_
  refine zs_iconst (pc := 78) (v := (0 : Int32)) d_Coder_encodeItems_78 (by decide) ?_
  refine zs_callv_wV (pc := 79) (av := [zI (0 : Int32)]) (st := []) (d' := 0) (C' := 0) (S' := 0) d_Coder_encodeItems_79 kV_Coder_58 z_okb (jm_Bytes_append (d := 0) (Nat.le_refl _) a3 (0 : Int32) H) (by omega) (Nat.le_of_ble_eq_true rfl) (Nat.le_of_ble_eq_true rfl) rfl rfl (Nat.le_of_ble_eq_true rfl) fun y79 => ?_
  refine zs_iload (pc := 82) (x := a6) d_Coder_encodeItems_82 rfl ?_
  exact zs_iret (pc := 84) d_Coder_encodeItems_84 rfl (Nat.le_of_ble_eq_true rfl) (Nat.le_of_ble_eq_true rfl) rfl
theorem jl_Coder_encodeItems_46 {E : zE} {d dr : Nat} (hd : dr + 2 ≤ d) (fu : Nat) (rc : Option Nat → Option Nat → Int32 → Option Nat → zH → Option (Int32 × zH)) (hrc : ∀ (x0 : Option Nat) (x1 : Option Nat) (x2 : Int32) (x3 : Option Nat) (H : zH), z_MS E jM_Coder_encode dr 0 0 zwI [zR x0, zR x1, zI x2, zR x3] H (rc x0 x1 x2 x3 H)) : ∀ (g : Nat), ∀ (a0 : Option Nat) (a1 : Option Nat) (a3 : Option Nat) (a4 : Int64) (a6 : Int32) (a7 : Int32) (H : zH), z_S E jM_Coder_encodeItems d 0 0 zwI 46 [(0, zR a0), (1, zR a1), (3, zR a3), (4, zL a4), (6, zI a6), (7, zI a7)] [] H 0 0 (jL_Coder_encodeItems_46 fu rc g a0 a1 a3 a4 a6 a7 H) := by
  intro g
  induction g with
  | zero => intros; exact zs_none
  | succ g ih =>
    intro a0 a1 a3 a4 a6 a7 H
    rw [jL_Coder_encodeItems_46]
    refine zs_iload (pc := 46) (x := a7) d_Coder_encodeItems_46 rfl ?_
    refine zs_i2l (pc := 48) d_Coder_encodeItems_48 ?_
    refine zs_lload (pc := 49) (x := a4) d_Coder_encodeItems_49 rfl ?_
    refine zs_lcmp_ge (pc := 51) (tgt := 77) d_Coder_encodeItems_51 d_Coder_encodeItems_52 rfl (fun q51 => ?_) (fun q51 => ?_)
    · refine zs_sub (lv' := [(3, zR a3), (6, zI a6)]) [2, 4] rfl ?_
      exact jj_Coder_encodeItems_77 hd fu rc hrc a3 a6 H
    · refine zs_iload (pc := 55) (x := a6) d_Coder_encodeItems_55 rfl ?_
      refine zs_iconst (pc := 57) (v := (-1 : Int32)) d_Coder_encodeItems_57 (by decide) ?_
      refine zs_icmp_eq (pc := 58) (tgt := 77) d_Coder_encodeItems_58 rfl (fun q58 => ?_) (fun q58 => ?_)
      · refine zs_sub (lv' := [(3, zR a3), (6, zI a6)]) [2, 4] rfl ?_
        exact jj_Coder_encodeItems_77 hd fu rc hrc a3 a6 H
      · refine zs_aload_n (pc := 61) (x := a0) d_Coder_encodeItems_61 rfl ?_
        refine zs_aload_n (pc := 62) (x := a1) d_Coder_encodeItems_62 rfl ?_
        refine zs_iload (pc := 63) (x := a6) d_Coder_encodeItems_63 rfl ?_
        refine zs_aload_n (pc := 65) (x := a3) d_Coder_encodeItems_65 rfl ?_
        refine zs_calls_wI (pc := 66) (av := [zR a0, zR a1, zI a6, zR a3]) (st := []) (d' := dr) (C' := 0) (S' := 0) d_Coder_encodeItems_66 kS_Coder_47 (hrc a0 a1 a6 a3 H) (by omega) (Nat.le_of_ble_eq_true rfl) (Nat.le_of_ble_eq_true rfl) rfl rfl (Nat.le_of_ble_eq_true rfl) fun y66 => ?_
        refine zs_istore (pc := 69) (lv' := [(6, zI y66.1), (0, zR a0), (1, zR a1), (3, zR a3), (4, zL a4), (7, zI a7)]) d_Coder_encodeItems_69 (Nat.le_of_ble_eq_true rfl) rfl ?_
        refine zs_iinc (pc := 71) (x := a7) (v := (a7 + (1 : Int32))) (lv' := [(7, zI (a7 + (1 : Int32))), (6, zI y66.1), (0, zR a0), (1, zR a1), (3, zR a3), (4, zL a4)]) d_Coder_encodeItems_71 rfl rfl (Nat.le_of_ble_eq_true rfl) rfl ?_
        refine zs_goto (pc := 74) (tgt := 46) d_Coder_encodeItems_74 rfl ?_
        refine zs_sub (lv' := [(0, zR a0), (1, zR a1), (3, zR a3), (4, zL a4), (6, zI y66.1), (7, zI (a7 + (1 : Int32)))]) [2, 3, 4, 5, 1, 0] rfl ?_
        exact ih a0 a1 a3 a4 y66.1 (a7 + (1 : Int32)) y66.2
theorem jj_Coder_encodeItems_38 {E : zE} {d dr : Nat} (hd : dr + 2 ≤ d) (fu : Nat) (rc : Option Nat → Option Nat → Int32 → Option Nat → zH → Option (Int32 × zH)) (hrc : ∀ (x0 : Option Nat) (x1 : Option Nat) (x2 : Int32) (x3 : Option Nat) (H : zH), z_MS E jM_Coder_encode dr 0 0 zwI [zR x0, zR x1, zI x2, zR x3] H (rc x0 x1 x2 x3 H)) : ∀ (a0 : Option Nat) (a1 : Option Nat) (a2 : Int32) (a3 : Option Nat) (a4 : Int64) (H : zH), z_S E jM_Coder_encodeItems d 0 0 zwI 38 [(0, zR a0), (1, zR a1), (2, zI a2), (3, zR a3), (4, zL a4)] [] H 0 0 (jJ_Coder_encodeItems_38 fu rc a0 a1 a2 a3 a4 H) := by
  intro a0 a1 a2 a3 a4 H
  unfold jJ_Coder_encodeItems_38
  refine zs_iload_n (pc := 38) (x := a2) d_Coder_encodeItems_38 rfl ?_
  refine zs_iconst (pc := 39) (v := (1 : Int32)) d_Coder_encodeItems_39 (by decide) ?_
  refine zs_iadd (pc := 40) d_Coder_encodeItems_40 ?_
  refine zs_istore (pc := 41) (lv' := [(6, zI (a2 + (1 : Int32))), (0, zR a0), (1, zR a1), (2, zI a2), (3, zR a3), (4, zL a4)]) d_Coder_encodeItems_41 (Nat.le_of_ble_eq_true rfl) rfl ?_
  refine zs_iconst (pc := 43) (v := (0 : Int32)) d_Coder_encodeItems_43 (by decide) ?_
  refine zs_istore (pc := 44) (lv' := [(7, zI (0 : Int32)), (6, zI (a2 + (1 : Int32))), (0, zR a0), (1, zR a1), (2, zI a2), (3, zR a3), (4, zL a4)]) d_Coder_encodeItems_44 (Nat.le_of_ble_eq_true rfl) rfl ?_
  refine zs_sub (lv' := [(0, zR a0), (1, zR a1), (3, zR a3), (4, zL a4), (6, zI (a2 + (1 : Int32))), (7, zI (0 : Int32))]) [2, 3, 5, 6, 1, 0] rfl ?_
  exact jl_Coder_encodeItems_46 hd fu rc hrc fu a0 a1 a3 a4 (a2 + (1 : Int32)) (0 : Int32) H
theorem jm_Coder_encodeItems {E : zE} {d dr : Nat} (hd : dr + 2 ≤ d) (fu : Nat) (rc : Option Nat → Option Nat → Int32 → Option Nat → zH → Option (Int32 × zH)) (hrc : ∀ (x0 : Option Nat) (x1 : Option Nat) (x2 : Int32) (x3 : Option Nat) (H : zH), z_MS E jM_Coder_encode dr 0 0 zwI [zR x0, zR x1, zI x2, zR x3] H (rc x0 x1 x2 x3 H)) (a0 : Option Nat) (a1 : Option Nat) (a2 : Int32) (a3 : Option Nat) (H : zH) : z_MS E jM_Coder_encodeItems d 0 0 zwI [zR a0, zR a1, zI a2, zR a3] H (jF_Coder_encodeItems fu rc a0 a1 a2 a3 H) := by
  refine zs_of (lv0 := [(0, zR a0), (1, zR a1), (2, zI a2), (3, zR a3)]) pn_Coder (Nat.le_of_ble_eq_true rfl) rfl ?_
  unfold jF_Coder_encodeItems
  refine zs_aload_n (pc := 0) (x := a1) d_Coder_encodeItems_0 rfl ?_
  refine zs_iload_n (pc := 1) (x := a2) d_Coder_encodeItems_1 rfl ?_
  refine zs_callv_rL (pc := 2) (av := [zI a2]) (st := []) (d' := 0) (C' := 0) (S' := 0) d_Coder_encodeItems_2 kV_Coder_26 z_okb (jm_Row_at (d := 0) (Nat.le_refl _) a1 a2 H) (by omega) (Nat.le_of_ble_eq_true rfl) (Nat.le_of_ble_eq_true rfl) rfl rfl (Nat.le_of_ble_eq_true rfl) fun y2 => ?_
  refine zs_lstore (pc := 5) (lv' := [(4, zL y2), (0, zR a0), (1, zR a1), (2, zI a2), (3, zR a3)]) d_Coder_encodeItems_5 (Nat.le_of_ble_eq_true rfl) rfl ?_
  refine zs_lload (pc := 7) (x := y2) d_Coder_encodeItems_7 rfl ?_
  refine zs_lconst (pc := 9) (v := (0 : Int64)) d_Coder_encodeItems_9 (by decide) ?_
  refine zs_lcmp_lt (pc := 10) (tgt := 23) d_Coder_encodeItems_10 d_Coder_encodeItems_11 rfl (fun q10 => ?_) (fun q10 => ?_)
  · refine zs_iconst (pc := 23) (v := (-1 : Int32)) d_Coder_encodeItems_23 (by decide) ?_
    exact zs_iret (pc := 24) d_Coder_encodeItems_24 rfl (Nat.le_of_ble_eq_true rfl) (Nat.le_of_ble_eq_true rfl) rfl
  · refine zs_lload (pc := 14) (x := y2) d_Coder_encodeItems_14 rfl ?_
    refine zs_ldc2 (pc := 16) (v := (3 : Int64)) d_Coder_encodeItems_16 kC_Coder_66 ?_
    refine zs_lcmp_le (pc := 19) (tgt := 25) d_Coder_encodeItems_19 d_Coder_encodeItems_20 rfl (fun q19 => ?_) (fun q19 => ?_)
    · refine zs_lload (pc := 25) (x := y2) d_Coder_encodeItems_25 rfl ?_
      refine zs_lconst (pc := 27) (v := (0 : Int64)) d_Coder_encodeItems_27 (by decide) ?_
      refine zs_lcmp_le (pc := 28) (tgt := 38) d_Coder_encodeItems_28 d_Coder_encodeItems_29 rfl (fun q28 => ?_) (fun q28 => ?_)
      · refine zs_sub (lv' := [(0, zR a0), (1, zR a1), (2, zI a2), (3, zR a3), (4, zL y2)]) [1, 2, 3, 4, 0] rfl ?_
        exact jj_Coder_encodeItems_38 hd fu rc hrc a0 a1 a2 a3 y2 H
      · refine zs_aload_n (pc := 32) (x := a3) d_Coder_encodeItems_32 rfl ?_
        refine zs_lload (pc := 33) (x := y2) d_Coder_encodeItems_33 rfl ?_
        refine zs_callv_wV (pc := 35) (av := [zL y2]) (st := []) (d' := 1) (C' := 0) (S' := 0) d_Coder_encodeItems_35 kV_Coder_37 z_okb (jm_Bytes_appendVarint (d := 1) (Nat.le_refl _) fu a3 y2 H) (by omega) (Nat.le_of_ble_eq_true rfl) (Nat.le_of_ble_eq_true rfl) rfl rfl (Nat.le_of_ble_eq_true rfl) fun y35 => ?_
        refine zs_sub (lv' := [(0, zR a0), (1, zR a1), (2, zI a2), (3, zR a3), (4, zL y2)]) [1, 2, 3, 4, 0] rfl ?_
        exact jj_Coder_encodeItems_38 hd fu rc hrc a0 a1 a2 a3 y2 y35
    · refine zs_iconst (pc := 23) (v := (-1 : Int32)) d_Coder_encodeItems_23 (by decide) ?_
      exact zs_iret (pc := 24) d_Coder_encodeItems_24 rfl (Nat.le_of_ble_eq_true rfl) (Nat.le_of_ble_eq_true rfl) rfl
def jJ_Coder_encode_87 (fu : Nat) (rc : Option Nat → Option Nat → Int32 → Option Nat → zH → Option (Int32 × zH)) (a0 : Option Nat) (a1 : Option Nat) (a2 : Int32) (a3 : Option Nat) (a4 : Int64) (H : zH) : Option (Int32 × zH) :=
  (jF_Bytes_appendVarint fu a3 a4 H).bind fun y90 =>
  (jF_Schema_branch a0 a4 y90).bind fun y96 =>
  (rc y96 a1 (a2 + (1 : Int32)) a3 y90).bind fun y104 =>
  some (y104.1, y104.2)
def jF_Coder_encode (fu : Nat) : Nat → Option Nat → Option Nat → Int32 → Option Nat → zH → Option (Int32 × zH)
  | 0, _, _, _, _, _ => none
  | rr + 1, a0, a1, a2, a3, H =>
    (zgI H a0 8 0).bind fun v1 =>
    if v1 = 0 then (
      some (a2, H))
    else (
      (zgI H a0 8 0).bind fun v10 =>
      if v10 = (7 : Int32) then (
        (jF_Coder_encodeFields fu (fun x0 x1 x2 x3 x4 => jF_Coder_encode fu rr x0 x1 x2 x3 x4) a0 a1 a2 a3 H).bind fun y22 =>
        some (y22.1, y22.2))
      else (
        (zgI H a1 7 1).bind fun v28 =>
        if a2 < v28 then (
          (jF_Row_at a1 a2 H).bind fun y38 =>
          (zgI H a0 8 0).bind fun v44 =>
          if v44 = (5 : Int32) then (
            (zgR H a0 8 4).bind fun v52 =>
            (jF_Coder_encodeItems fu (fun x0 x1 x2 x3 x4 => jF_Coder_encode fu rr x0 x1 x2 x3 x4) v52 a1 a2 a3 H).bind fun y58 =>
            some (y58.1, y58.2))
          else (
            (zgI H a0 8 0).bind fun v63 =>
            if v63 = (6 : Int32) then (
              if y38 = (0 : Int64) then (
                jJ_Coder_encode_87 fu (fun x0 x1 x2 x3 x4 => jF_Coder_encode fu rr x0 x1 x2 x3 x4) a0 a1 a2 a3 y38 H)
              else (
                if y38 = (1 : Int64) then (
                  jJ_Coder_encode_87 fu (fun x0 x1 x2 x3 x4 => jF_Coder_encode fu rr x0 x1 x2 x3 x4) a0 a1 a2 a3 y38 H)
                else (
                  some ((-1 : Int32), H))))
            else (
              (jF_Schema_isValue a0 y38 H).bind fun y111 =>
              if y111 = 0 then (
                some ((-1 : Int32), H))
              else (
                (jF_Coder_encodeNumber fu a0 y38 a3 H).bind fun y123 =>
                some ((a2 + (1 : Int32)), y123)))))
        else (
          some ((-1 : Int32), H))))
theorem jj_Coder_encode_87 {E : zE} {d dr : Nat} (hd : dr + 3 ≤ d) (fu : Nat) (rc : Option Nat → Option Nat → Int32 → Option Nat → zH → Option (Int32 × zH)) (hrc : ∀ (x0 : Option Nat) (x1 : Option Nat) (x2 : Int32) (x3 : Option Nat) (H : zH), z_MS E jM_Coder_encode dr 0 0 zwI [zR x0, zR x1, zI x2, zR x3] H (rc x0 x1 x2 x3 H)) : ∀ (a0 : Option Nat) (a1 : Option Nat) (a2 : Int32) (a3 : Option Nat) (a4 : Int64) (H : zH), z_S E jM_Coder_encode d 0 0 zwI 87 [(0, zR a0), (1, zR a1), (2, zI a2), (3, zR a3), (4, zL a4)] [] H 0 0 (jJ_Coder_encode_87 fu rc a0 a1 a2 a3 a4 H) := by
  intro a0 a1 a2 a3 a4 H
  unfold jJ_Coder_encode_87
  refine zs_aload_n (pc := 87) (x := a3) d_Coder_encode_87 rfl ?_
  refine zs_lload (pc := 88) (x := a4) d_Coder_encode_88 rfl ?_
  refine zs_callv_wV (pc := 90) (av := [zL a4]) (st := []) (d' := 1) (C' := 0) (S' := 0) d_Coder_encode_90 kV_Coder_37 z_okb (jm_Bytes_appendVarint (d := 1) (Nat.le_refl _) fu a3 a4 H) (by omega) (Nat.le_of_ble_eq_true rfl) (Nat.le_of_ble_eq_true rfl) rfl rfl (Nat.le_of_ble_eq_true rfl) fun y90 => ?_
  refine zs_aload_n (pc := 93) (x := a0) d_Coder_encode_93 rfl ?_
  refine zs_lload (pc := 94) (x := a4) d_Coder_encode_94 rfl ?_
  refine zs_callv_rR (pc := 96) (av := [zL a4]) (st := []) (d' := 0) (C' := 0) (S' := 0) d_Coder_encode_96 kV_Coder_43 z_okb (jm_Schema_branch (d := 0) (Nat.le_refl _) a0 a4 y90) (by omega) (Nat.le_of_ble_eq_true rfl) (Nat.le_of_ble_eq_true rfl) rfl rfl (Nat.le_of_ble_eq_true rfl) fun y96 => ?_
  refine zs_aload_n (pc := 99) (x := a1) d_Coder_encode_99 rfl ?_
  refine zs_iload_n (pc := 100) (x := a2) d_Coder_encode_100 rfl ?_
  refine zs_iconst (pc := 101) (v := (1 : Int32)) d_Coder_encode_101 (by decide) ?_
  refine zs_iadd (pc := 102) d_Coder_encode_102 ?_
  refine zs_aload_n (pc := 103) (x := a3) d_Coder_encode_103 rfl ?_
  refine zs_calls_wI (pc := 104) (av := [zR y96, zR a1, zI (a2 + (1 : Int32)), zR a3]) (st := []) (d' := dr) (C' := 0) (S' := 0) d_Coder_encode_104 kS_Coder_47 (hrc y96 a1 (a2 + (1 : Int32)) a3 y90) (by omega) (Nat.le_of_ble_eq_true rfl) (Nat.le_of_ble_eq_true rfl) rfl rfl (Nat.le_of_ble_eq_true rfl) fun y104 => ?_
  exact zs_iret (pc := 107) d_Coder_encode_107 rfl (Nat.le_of_ble_eq_true rfl) (Nat.le_of_ble_eq_true rfl) rfl
theorem jm_Coder_encode {E : zE} (fu : Nat) : ∀ (rr : Nat) {d : Nat} (hd : 3 * rr ≤ d) (a0 : Option Nat) (a1 : Option Nat) (a2 : Int32) (a3 : Option Nat) (H : zH), z_MS E jM_Coder_encode d 0 0 zwI [zR a0, zR a1, zI a2, zR a3] H (jF_Coder_encode fu rr a0 a1 a2 a3 H) := by
  intro rr
  induction rr with
  | zero => intro d hd a0 a1 a2 a3 H y hy; rw [jF_Coder_encode] at hy; cases hy
  | succ rr ih =>
    intro d hd a0 a1 a2 a3 H
    have hrc : ∀ (x0 : Option Nat) (x1 : Option Nat) (x2 : Int32) (x3 : Option Nat) (H : zH), z_MS E jM_Coder_encode (3 * rr) 0 0 zwI [zR x0, zR x1, zI x2, zR x3] H ((fun x0 x1 x2 x3 x4 => jF_Coder_encode fu rr x0 x1 x2 x3 x4) x0 x1 x2 x3 H) := fun x0 x1 x2 x3 x4 => ih (Nat.le_refl _) x0 x1 x2 x3 x4
    have hd : 3 * rr + 3 ≤ d := by omega
    refine zs_of (lv0 := [(0, zR a0), (1, zR a1), (2, zI a2), (3, zR a3)]) pn_Coder (Nat.le_of_ble_eq_true rfl) rfl ?_
    rw [jF_Coder_encode]
    refine zs_aload_n (pc := 0) (x := a0) d_Coder_encode_0 rfl ?_
    refine zs_getI (pc := 1) d_Coder_encode_1 kF_Coder_9 fun v1 => ?_
    refine zs_if_ne (pc := 4) (tgt := 9) d_Coder_encode_4 rfl (fun q4 => ?_) (fun q4 => ?_)
    · refine zs_aload_n (pc := 9) (x := a0) d_Coder_encode_9 rfl ?_
      refine zs_getI (pc := 10) d_Coder_encode_10 kF_Coder_9 fun v10 => ?_
      refine zs_bipush (pc := 13) (v := (7 : Int32)) d_Coder_encode_13 (by decide) ?_
      refine zs_icmp_ne (pc := 15) (tgt := 26) d_Coder_encode_15 rfl (fun q15 => ?_) (fun q15 => ?_)
      · refine zs_iload_n (pc := 26) (x := a2) d_Coder_encode_26 rfl ?_
        refine zs_aload_n (pc := 27) (x := a1) d_Coder_encode_27 rfl ?_
        refine zs_getI (pc := 28) d_Coder_encode_28 kF_Coder_21 fun v28 => ?_
        refine zs_icmp_lt (pc := 31) (tgt := 36) d_Coder_encode_31 rfl (fun q31 => ?_) (fun q31 => ?_)
        · refine zs_aload_n (pc := 36) (x := a1) d_Coder_encode_36 rfl ?_
          refine zs_iload_n (pc := 37) (x := a2) d_Coder_encode_37 rfl ?_
          refine zs_callv_rL (pc := 38) (av := [zI a2]) (st := []) (d' := 0) (C' := 0) (S' := 0) d_Coder_encode_38 kV_Coder_26 z_okb (jm_Row_at (d := 0) (Nat.le_refl _) a1 a2 H) (by omega) (Nat.le_of_ble_eq_true rfl) (Nat.le_of_ble_eq_true rfl) rfl rfl (Nat.le_of_ble_eq_true rfl) fun y38 => ?_
          refine zs_lstore (pc := 41) (lv' := [(4, zL y38), (0, zR a0), (1, zR a1), (2, zI a2), (3, zR a3)]) d_Coder_encode_41 (Nat.le_of_ble_eq_true rfl) rfl ?_
          refine zs_aload_n (pc := 43) (x := a0) d_Coder_encode_43 rfl ?_
          refine zs_getI (pc := 44) d_Coder_encode_44 kF_Coder_9 fun v44 => ?_
          refine zs_iconst (pc := 47) (v := (5 : Int32)) d_Coder_encode_47 (by decide) ?_
          refine zs_icmp_ne (pc := 48) (tgt := 62) d_Coder_encode_48 rfl (fun q48 => ?_) (fun q48 => ?_)
          · refine zs_aload_n (pc := 62) (x := a0) d_Coder_encode_62 rfl ?_
            refine zs_getI (pc := 63) d_Coder_encode_63 kF_Coder_9 fun v63 => ?_
            refine zs_bipush (pc := 66) (v := (6 : Int32)) d_Coder_encode_66 (by decide) ?_
            refine zs_icmp_ne (pc := 68) (tgt := 108) d_Coder_encode_68 rfl (fun q68 => ?_) (fun q68 => ?_)
            · refine zs_aload_n (pc := 108) (x := a0) d_Coder_encode_108 rfl ?_
              refine zs_lload (pc := 109) (x := y38) d_Coder_encode_109 rfl ?_
              refine zs_callv_rI (pc := 111) (av := [zL y38]) (st := []) (d' := 2) (C' := 0) (S' := 0) d_Coder_encode_111 kV_Coder_50 z_okb (jm_Schema_isValue (d := 2) (Nat.le_refl _) a0 y38 H) (by omega) (Nat.le_of_ble_eq_true rfl) (Nat.le_of_ble_eq_true rfl) rfl rfl (Nat.le_of_ble_eq_true rfl) fun y111 => ?_
              refine zs_if_ne (pc := 114) (tgt := 119) d_Coder_encode_114 rfl (fun q114 => ?_) (fun q114 => ?_)
              · refine zs_aload_n (pc := 119) (x := a0) d_Coder_encode_119 rfl ?_
                refine zs_lload (pc := 120) (x := y38) d_Coder_encode_120 rfl ?_
                refine zs_aload_n (pc := 122) (x := a3) d_Coder_encode_122 rfl ?_
                refine zs_calls_wV (pc := 123) (av := [zR a0, zL y38, zR a3]) (st := []) (d' := 2) (C' := 0) (S' := 0) d_Coder_encode_123 kS_Coder_54 (jm_Coder_encodeNumber (d := 2) (Nat.le_refl _) fu a0 y38 a3 H) (by omega) (Nat.le_of_ble_eq_true rfl) (Nat.le_of_ble_eq_true rfl) rfl rfl (Nat.le_of_ble_eq_true rfl) fun y123 => ?_
                refine zs_iload_n (pc := 126) (x := a2) d_Coder_encode_126 rfl ?_
                refine zs_iconst (pc := 127) (v := (1 : Int32)) d_Coder_encode_127 (by decide) ?_
                refine zs_iadd (pc := 128) d_Coder_encode_128 ?_
                exact zs_iret (pc := 129) d_Coder_encode_129 rfl (Nat.le_of_ble_eq_true rfl) (Nat.le_of_ble_eq_true rfl) rfl
              · refine zs_iconst (pc := 117) (v := (-1 : Int32)) d_Coder_encode_117 (by decide) ?_
                exact zs_iret (pc := 118) d_Coder_encode_118 rfl (Nat.le_of_ble_eq_true rfl) (Nat.le_of_ble_eq_true rfl) rfl
            · refine zs_lload (pc := 71) (x := y38) d_Coder_encode_71 rfl ?_
              refine zs_lconst (pc := 73) (v := (0 : Int64)) d_Coder_encode_73 (by decide) ?_
              refine zs_lcmp_eq (pc := 74) (tgt := 87) d_Coder_encode_74 d_Coder_encode_75 rfl (fun q74 => ?_) (fun q74 => ?_)
              · refine zs_sub (lv' := [(0, zR a0), (1, zR a1), (2, zI a2), (3, zR a3), (4, zL y38)]) [1, 2, 3, 4, 0] rfl ?_
                exact jj_Coder_encode_87 hd fu (fun x0 x1 x2 x3 x4 => jF_Coder_encode fu rr x0 x1 x2 x3 x4) hrc a0 a1 a2 a3 y38 H
              · refine zs_lload (pc := 78) (x := y38) d_Coder_encode_78 rfl ?_
                refine zs_lconst (pc := 80) (v := (1 : Int64)) d_Coder_encode_80 (by decide) ?_
                refine zs_lcmp_eq (pc := 81) (tgt := 87) d_Coder_encode_81 d_Coder_encode_82 rfl (fun q81 => ?_) (fun q81 => ?_)
                · refine zs_sub (lv' := [(0, zR a0), (1, zR a1), (2, zI a2), (3, zR a3), (4, zL y38)]) [1, 2, 3, 4, 0] rfl ?_
                  exact jj_Coder_encode_87 hd fu (fun x0 x1 x2 x3 x4 => jF_Coder_encode fu rr x0 x1 x2 x3 x4) hrc a0 a1 a2 a3 y38 H
                · refine zs_iconst (pc := 85) (v := (-1 : Int32)) d_Coder_encode_85 (by decide) ?_
                  exact zs_iret (pc := 86) d_Coder_encode_86 rfl (Nat.le_of_ble_eq_true rfl) (Nat.le_of_ble_eq_true rfl) rfl
          · refine zs_aload_n (pc := 51) (x := a0) d_Coder_encode_51 rfl ?_
            refine zs_getR (pc := 52) d_Coder_encode_52 kF_Coder_30 fun v52 => ?_
            refine zs_aload_n (pc := 55) (x := a1) d_Coder_encode_55 rfl ?_
            refine zs_iload_n (pc := 56) (x := a2) d_Coder_encode_56 rfl ?_
            refine zs_aload_n (pc := 57) (x := a3) d_Coder_encode_57 rfl ?_
            refine zs_calls_wI (pc := 58) (av := [zR v52, zR a1, zI a2, zR a3]) (st := []) (d' := ((3 * rr) + 2)) (C' := 0) (S' := 0) d_Coder_encode_58 kS_Coder_34 (jm_Coder_encodeItems (d := (3 * rr) + 2) (dr := (3 * rr)) (Nat.le_refl _) fu (fun x0 x1 x2 x3 x4 => jF_Coder_encode fu rr x0 x1 x2 x3 x4) hrc v52 a1 a2 a3 H) (by omega) (Nat.le_of_ble_eq_true rfl) (Nat.le_of_ble_eq_true rfl) rfl rfl (Nat.le_of_ble_eq_true rfl) fun y58 => ?_
            exact zs_iret (pc := 61) d_Coder_encode_61 rfl (Nat.le_of_ble_eq_true rfl) (Nat.le_of_ble_eq_true rfl) rfl
        · refine zs_iconst (pc := 34) (v := (-1 : Int32)) d_Coder_encode_34 (by decide) ?_
          exact zs_iret (pc := 35) d_Coder_encode_35 rfl (Nat.le_of_ble_eq_true rfl) (Nat.le_of_ble_eq_true rfl) rfl
      · refine zs_aload_n (pc := 18) (x := a0) d_Coder_encode_18 rfl ?_
        refine zs_aload_n (pc := 19) (x := a1) d_Coder_encode_19 rfl ?_
        refine zs_iload_n (pc := 20) (x := a2) d_Coder_encode_20 rfl ?_
        refine zs_aload_n (pc := 21) (x := a3) d_Coder_encode_21 rfl ?_
        refine zs_calls_wI (pc := 22) (av := [zR a0, zR a1, zI a2, zR a3]) (st := []) (d' := ((3 * rr) + 1)) (C' := 0) (S' := 0) d_Coder_encode_22 kS_Coder_15 (jm_Coder_encodeFields (d := (3 * rr) + 1) (dr := (3 * rr)) (Nat.le_refl _) fu (fun x0 x1 x2 x3 x4 => jF_Coder_encode fu rr x0 x1 x2 x3 x4) hrc a0 a1 a2 a3 H) (by omega) (Nat.le_of_ble_eq_true rfl) (Nat.le_of_ble_eq_true rfl) rfl rfl (Nat.le_of_ble_eq_true rfl) fun y22 => ?_
        exact zs_iret (pc := 25) d_Coder_encode_25 rfl (Nat.le_of_ble_eq_true rfl) (Nat.le_of_ble_eq_true rfl) rfl
    · refine zs_iload_n (pc := 7) (x := a2) d_Coder_encode_7 rfl ?_
      exact zs_iret (pc := 8) d_Coder_encode_8 rfl (Nat.le_of_ble_eq_true rfl) (Nat.le_of_ble_eq_true rfl) rfl
def jJ_Staging_add_59 (fu : Nat) (a0 : Option Nat) (a4 : Int32) (H : zH) : Option (Int32 × zH) :=
  (zgR H a0 10 0).bind fun v60 =>
  (jF_Bytes_cutTo v60 a4 H).bind fun y65 =>
  some ((-3 : Int32), y65)
def jF_Staging_add (fu : Nat) (a0 : Option Nat) (a1 : Int32) (a2 : Option Nat) (a3 : Option Nat) (H : zH) : Option (Int32 × zH) :=
  (zok H a0 10).bind fun _ =>
  (zgR H a0 10 0).bind fun v1 =>
  (zgI H v1 2 1).bind fun v4 =>
  (zgR H a0 10 0).bind fun v13 =>
  (jF_Coder_encode fu 7 a2 a3 (0 : Int32) v13 H).bind fun y16 =>
  (zgI y16.2 a3 7 1).bind fun v20 =>
  if y16.1 = v20 then (
    (zgI y16.2 a0 10 2).bind fun v38 =>
    if v38 = (10 : Int32) then (
      jJ_Staging_add_59 fu a0 v4 y16.2)
    else (
      (zgR y16.2 a0 10 0).bind fun v47 =>
      (zgI y16.2 v47 2 1).bind fun v50 =>
      if v50 ≤ (150 : Int32) then (
        (zpV y16.2 a0 10 1 (zI a1)).bind fun H73 =>
        (zgI H73 a0 10 2).bind fun v78 =>
        (zpV H73 a0 10 2 (zI (v78 + (1 : Int32)))).bind fun H83 =>
        (zgR H83 a0 10 0).bind fun v87 =>
        (zgI H83 v87 2 1).bind fun v90 =>
        some ((v90 - v4), H83))
      else (
        jJ_Staging_add_59 fu a0 v4 y16.2)))
  else (
    (zgR y16.2 a0 10 0).bind fun v27 =>
    (jF_Bytes_cutTo v27 v4 y16.2).bind fun y32 =>
    some ((-1 : Int32), y32))
theorem jj_Staging_add_59 {E : zE} {d : Nat} (hd : 22 ≤ d) (fu : Nat) : ∀ (a0 : Option Nat) (a4 : Int32) (H : zH), z_S E jM_Staging_add d 0 0 zwI 59 [(0, zR a0), (4, zI a4)] [] H 0 0 (jJ_Staging_add_59 fu a0 a4 H) := by
  intro a0 a4 H
  unfold jJ_Staging_add_59
  refine zs_aload_n (pc := 59) (x := a0) d_Staging_add_59 rfl ?_
  refine zs_getR (pc := 60) d_Staging_add_60 kF_Staging_16 fun v60 => ?_
  refine zs_iload (pc := 63) (x := a4) d_Staging_add_63 rfl ?_
  refine zs_callv_wV (pc := 65) (av := [zI a4]) (st := []) (d' := 0) (C' := 0) (S' := 0) d_Staging_add_65 kV_Staging_39 z_okb (jm_Bytes_cutTo (d := 0) (Nat.le_refl _) v60 a4 H) (by omega) (Nat.le_of_ble_eq_true rfl) (Nat.le_of_ble_eq_true rfl) rfl rfl (Nat.le_of_ble_eq_true rfl) fun y65 => ?_
  refine zs_bipush (pc := 68) (v := (-3 : Int32)) d_Staging_add_68 (by decide) ?_
  exact zs_iret (pc := 70) d_Staging_add_70 rfl (Nat.le_of_ble_eq_true rfl) (Nat.le_of_ble_eq_true rfl) rfl
theorem jm_Staging_add {E : zE} {d : Nat} (hd : 22 ≤ d) (fu : Nat) (a0 : Option Nat) (a1 : Int32) (a2 : Option Nat) (a3 : Option Nat) (H : zH) : z_MS E jM_Staging_add d 0 0 zwI [zR a0, zI a1, zR a2, zR a3] H (jF_Staging_add fu a0 a1 a2 a3 H) := by
  refine zs_of (lv0 := [(0, zR a0), (1, zI a1), (2, zR a2), (3, zR a3)]) pn_Staging (Nat.le_of_ble_eq_true rfl) rfl ?_
  unfold jF_Staging_add
  refine zs_bind fun _ _ => ?_
  refine zs_aload_n (pc := 0) (x := a0) d_Staging_add_0 rfl ?_
  refine zs_getR (pc := 1) d_Staging_add_1 kF_Staging_16 fun v1 => ?_
  refine zs_getI (pc := 4) d_Staging_add_4 kF_Staging_27 fun v4 => ?_
  refine zs_istore (pc := 7) (lv' := [(4, zI v4), (0, zR a0), (1, zI a1), (2, zR a2), (3, zR a3)]) d_Staging_add_7 (Nat.le_of_ble_eq_true rfl) rfl ?_
  refine zs_aload_n (pc := 9) (x := a2) d_Staging_add_9 rfl ?_
  refine zs_aload_n (pc := 10) (x := a3) d_Staging_add_10 rfl ?_
  refine zs_iconst (pc := 11) (v := (0 : Int32)) d_Staging_add_11 (by decide) ?_
  refine zs_aload_n (pc := 12) (x := a0) d_Staging_add_12 rfl ?_
  refine zs_getR (pc := 13) d_Staging_add_13 kF_Staging_16 fun v13 => ?_
  refine zs_calls_wI (pc := 16) (av := [zR a2, zR a3, zI (0 : Int32), zR v13]) (st := []) (d' := 21) (C' := 0) (S' := 0) d_Staging_add_16 kS_Staging_30 (jm_Coder_encode fu 7 (d := 21) (by decide) a2 a3 (0 : Int32) v13 H) (by omega) (Nat.le_of_ble_eq_true rfl) (Nat.le_of_ble_eq_true rfl) rfl rfl (Nat.le_of_ble_eq_true rfl) fun y16 => ?_
  refine zs_aload_n (pc := 19) (x := a3) d_Staging_add_19 rfl ?_
  refine zs_getI (pc := 20) d_Staging_add_20 kF_Staging_36 fun v20 => ?_
  refine zs_icmp_eq (pc := 23) (tgt := 37) d_Staging_add_23 rfl (fun q23 => ?_) (fun q23 => ?_)
  · refine zs_aload_n (pc := 37) (x := a0) d_Staging_add_37 rfl ?_
    refine zs_getI (pc := 38) d_Staging_add_38 kF_Staging_24 fun v38 => ?_
    refine zs_bipush (pc := 41) (v := (10 : Int32)) d_Staging_add_41 (by decide) ?_
    refine zs_icmp_eq (pc := 43) (tgt := 59) d_Staging_add_43 rfl (fun q43 => ?_) (fun q43 => ?_)
    · refine zs_sub (lv' := [(0, zR a0), (4, zI v4)]) [1, 0] rfl ?_
      exact jj_Staging_add_59 hd fu a0 v4 y16.2
    · refine zs_aload_n (pc := 46) (x := a0) d_Staging_add_46 rfl ?_
      refine zs_getR (pc := 47) d_Staging_add_47 kF_Staging_16 fun v47 => ?_
      refine zs_getI (pc := 50) d_Staging_add_50 kF_Staging_27 fun v50 => ?_
      refine zs_sipush (pc := 53) (v := (150 : Int32)) d_Staging_add_53 (by decide) ?_
      refine zs_icmp_le (pc := 56) (tgt := 71) d_Staging_add_56 rfl (fun q56 => ?_) (fun q56 => ?_)
      · refine zs_aload_n (pc := 71) (x := a0) d_Staging_add_71 rfl ?_
        refine zs_iload_n (pc := 72) (x := a1) d_Staging_add_72 rfl ?_
        refine zs_put (pc := 73) d_Staging_add_73 kP_Staging_20 z_fitI fun H73 => ?_
        refine zs_aload_n (pc := 76) (x := a0) d_Staging_add_76 rfl ?_
        refine zs_dup (pc := 77) d_Staging_add_77 rfl ?_
        refine zs_getI (pc := 78) d_Staging_add_78 kF_Staging_24 fun v78 => ?_
        refine zs_iconst (pc := 81) (v := (1 : Int32)) d_Staging_add_81 (by decide) ?_
        refine zs_iadd (pc := 82) d_Staging_add_82 ?_
        refine zs_put (pc := 83) d_Staging_add_83 kP_Staging_24 z_fitI fun H83 => ?_
        refine zs_aload_n (pc := 86) (x := a0) d_Staging_add_86 rfl ?_
        refine zs_getR (pc := 87) d_Staging_add_87 kF_Staging_16 fun v87 => ?_
        refine zs_getI (pc := 90) d_Staging_add_90 kF_Staging_27 fun v90 => ?_
        refine zs_iload (pc := 93) (x := v4) d_Staging_add_93 rfl ?_
        refine zs_isub (pc := 95) d_Staging_add_95 ?_
        exact zs_iret (pc := 96) d_Staging_add_96 rfl (Nat.le_of_ble_eq_true rfl) (Nat.le_of_ble_eq_true rfl) rfl
      · refine zs_sub (lv' := [(0, zR a0), (4, zI v4)]) [1, 0] rfl ?_
        exact jj_Staging_add_59 hd fu a0 v4 y16.2
  · refine zs_aload_n (pc := 26) (x := a0) d_Staging_add_26 rfl ?_
    refine zs_getR (pc := 27) d_Staging_add_27 kF_Staging_16 fun v27 => ?_
    refine zs_iload (pc := 30) (x := v4) d_Staging_add_30 rfl ?_
    refine zs_callv_wV (pc := 32) (av := [zI v4]) (st := []) (d' := 0) (C' := 0) (S' := 0) d_Staging_add_32 kV_Staging_39 z_okb (jm_Bytes_cutTo (d := 0) (Nat.le_refl _) v27 v4 y16.2) (by omega) (Nat.le_of_ble_eq_true rfl) (Nat.le_of_ble_eq_true rfl) rfl rfl (Nat.le_of_ble_eq_true rfl) fun y32 => ?_
    refine zs_iconst (pc := 35) (v := (-1 : Int32)) d_Staging_add_35 (by decide) ?_
    exact zs_iret (pc := 36) d_Staging_add_36 rfl (Nat.le_of_ble_eq_true rfl) (Nat.le_of_ble_eq_true rfl) rfl
def jF_Staging_hasOtherThan (a0 : Option Nat) (a1 : Int32) (H : zH) : Option Int32 :=
  (zok H a0 10).bind fun _ =>
  (zgI H a0 10 2).bind fun v1 =>
  if v1 ≤ 0 then (
    some (0 : Int32))
  else (
    (zgI H a0 10 1).bind fun v8 =>
    if v8 = a1 then (
      some (0 : Int32))
    else (
      some (1 : Int32)))
theorem jm_Staging_hasOtherThan {E : zE} {d : Nat} (hd : 0 ≤ d) (a0 : Option Nat) (a1 : Int32) (H : zH) : z_MS E jM_Staging_hasOtherThan d 0 0 (zrI H) [zR a0, zI a1] H (jF_Staging_hasOtherThan a0 a1 H) := by
  refine zs_of (lv0 := [(0, zR a0), (1, zI a1)]) pn_Staging (Nat.le_of_ble_eq_true rfl) rfl ?_
  unfold jF_Staging_hasOtherThan
  refine zs_bind fun _ _ => ?_
  refine zs_aload_n (pc := 0) (x := a0) d_Staging_hasOtherThan_0 rfl ?_
  refine zs_getI (pc := 1) d_Staging_hasOtherThan_1 kF_Staging_24 fun v1 => ?_
  refine zs_if_le (pc := 4) (tgt := 19) d_Staging_hasOtherThan_4 rfl (fun q4 => ?_) (fun q4 => ?_)
  · refine zs_iconst (pc := 19) (v := (0 : Int32)) d_Staging_hasOtherThan_19 (by decide) ?_
    exact zs_zretc (pc := 20) d_Staging_hasOtherThan_20 rfl (by decide) (Nat.le_of_ble_eq_true rfl) (Nat.le_of_ble_eq_true rfl) rfl
  · refine zs_aload_n (pc := 7) (x := a0) d_Staging_hasOtherThan_7 rfl ?_
    refine zs_getI (pc := 8) d_Staging_hasOtherThan_8 kF_Staging_20 fun v8 => ?_
    refine zs_iload_n (pc := 11) (x := a1) d_Staging_hasOtherThan_11 rfl ?_
    refine zs_icmp_eq (pc := 12) (tgt := 19) d_Staging_hasOtherThan_12 rfl (fun q12 => ?_) (fun q12 => ?_)
    · refine zs_iconst (pc := 19) (v := (0 : Int32)) d_Staging_hasOtherThan_19 (by decide) ?_
      exact zs_zretc (pc := 20) d_Staging_hasOtherThan_20 rfl (by decide) (Nat.le_of_ble_eq_true rfl) (Nat.le_of_ble_eq_true rfl) rfl
    · refine zs_iconst (pc := 15) (v := (1 : Int32)) d_Staging_hasOtherThan_15 (by decide) ?_
      refine zs_goto (pc := 16) (tgt := 20) d_Staging_hasOtherThan_16 rfl ?_
      exact zs_zretc (pc := 20) d_Staging_hasOtherThan_20 rfl (by decide) (Nat.le_of_ble_eq_true rfl) (Nat.le_of_ble_eq_true rfl) rfl
def jF_ST_stage (fu : Nat) (a0 : Option Nat) (a1 : Int32) (H : zH) : Option (Int32 × zH) :=
  (zok H a0 0).bind fun _ =>
  (zgR H a0 0 1).bind fun v1 =>
  (zgI H v1 3 1).bind fun v4 =>
  if v4 = 0 then (
    some ((-4 : Int32), H))
  else (
    (zgR H a0 0 0).bind fun v14 =>
    (jF_Schemas_find v14 a1 H).bind fun y18 =>
    if y18 = none then (
      some ((-1 : Int32), H))
    else (
      (zgR H a0 0 4).bind fun v27 =>
      (jF_Staging_hasOtherThan v27 a1 H).bind fun y31 =>
      if y31 = 0 then (
        (zgR H a0 0 4).bind fun v40 =>
        (zgR H a0 0 5).bind fun v46 =>
        (jF_Staging_add fu v40 a1 y18 v46 H).bind fun y49 =>
        if y49.1 < 0 then (
          some (y49.1, y49.2))
        else (
          (zgR y49.2 a0 0 5).bind fun v58 =>
          (jF_Row_clear v58 y49.2).bind fun y61 =>
          some (y49.1, y61)))
      else (
        some ((-1 : Int32), H))))
theorem jm_ST_stage {E : zE} {d : Nat} (hd : 23 ≤ d) (fu : Nat) (a0 : Option Nat) (a1 : Int32) (H : zH) : z_MS E jM_ST_stage d 0 0 zwI [zR a0, zI a1] H (jF_ST_stage fu a0 a1 H) := by
  refine zs_of (lv0 := [(0, zR a0), (1, zI a1)]) pn_ST (Nat.le_of_ble_eq_true rfl) rfl ?_
  unfold jF_ST_stage
  refine zs_bind fun _ _ => ?_
  refine zs_aload_n (pc := 0) (x := a0) d_ST_stage_0 rfl ?_
  refine zs_getR (pc := 1) d_ST_stage_1 kF_ST_19 fun v1 => ?_
  refine zs_getI (pc := 4) d_ST_stage_4 kF_ST_79 fun v4 => ?_
  refine zs_if_ne (pc := 7) (tgt := 13) d_ST_stage_7 rfl (fun q7 => ?_) (fun q7 => ?_)
  · refine zs_aload_n (pc := 13) (x := a0) d_ST_stage_13 rfl ?_
    refine zs_getR (pc := 14) d_ST_stage_14 kF_ST_13 fun v14 => ?_
    refine zs_iload_n (pc := 17) (x := a1) d_ST_stage_17 rfl ?_
    refine zs_callv_rR (pc := 18) (av := [zI a1]) (st := []) (d' := 0) (C' := 0) (S' := 0) d_ST_stage_18 kV_ST_61 z_okb (jm_Schemas_find (d := 0) (Nat.le_refl _) v14 a1 H) (by omega) (Nat.le_of_ble_eq_true rfl) (Nat.le_of_ble_eq_true rfl) rfl rfl (Nat.le_of_ble_eq_true rfl) fun y18 => ?_
    refine zs_astore_n (pc := 21) (lv' := [(2, zR y18), (0, zR a0), (1, zI a1)]) d_ST_stage_21 (Nat.le_of_ble_eq_true rfl) rfl ?_
    refine zs_aload_n (pc := 22) (x := y18) d_ST_stage_22 rfl ?_
    refine zs_ifnull (pc := 23) (tgt := 37) d_ST_stage_23 rfl (fun q23 => ?_) (fun q23 => ?_)
    · refine zs_iconst (pc := 37) (v := (-1 : Int32)) d_ST_stage_37 (by decide) ?_
      exact zs_iret (pc := 38) d_ST_stage_38 rfl (Nat.le_of_ble_eq_true rfl) (Nat.le_of_ble_eq_true rfl) rfl
    · refine zs_aload_n (pc := 26) (x := a0) d_ST_stage_26 rfl ?_
      refine zs_getR (pc := 27) d_ST_stage_27 kF_ST_42 fun v27 => ?_
      refine zs_iload_n (pc := 30) (x := a1) d_ST_stage_30 rfl ?_
      refine zs_callv_rI (pc := 31) (av := [zI a1]) (st := []) (d' := 0) (C' := 0) (S' := 0) d_ST_stage_31 kV_ST_121 z_okb (jm_Staging_hasOtherThan (d := 0) (Nat.le_refl _) v27 a1 H) (by omega) (Nat.le_of_ble_eq_true rfl) (Nat.le_of_ble_eq_true rfl) rfl rfl (Nat.le_of_ble_eq_true rfl) fun y31 => ?_
      refine zs_if_eq (pc := 34) (tgt := 39) d_ST_stage_34 rfl (fun q34 => ?_) (fun q34 => ?_)
      · refine zs_aload_n (pc := 39) (x := a0) d_ST_stage_39 rfl ?_
        refine zs_getR (pc := 40) d_ST_stage_40 kF_ST_42 fun v40 => ?_
        refine zs_iload_n (pc := 43) (x := a1) d_ST_stage_43 rfl ?_
        refine zs_aload_n (pc := 44) (x := y18) d_ST_stage_44 rfl ?_
        refine zs_aload_n (pc := 45) (x := a0) d_ST_stage_45 rfl ?_
        refine zs_getR (pc := 46) d_ST_stage_46 kF_ST_51 fun v46 => ?_
        refine zs_callv_wI (pc := 49) (av := [zI a1, zR y18, zR v46]) (st := []) (d' := 22) (C' := 0) (S' := 0) d_ST_stage_49 kV_ST_124 z_okb (jm_Staging_add (d := 22) (Nat.le_refl _) fu v40 a1 y18 v46 H) (by omega) (Nat.le_of_ble_eq_true rfl) (Nat.le_of_ble_eq_true rfl) rfl rfl (Nat.le_of_ble_eq_true rfl) fun y49 => ?_
        refine zs_istore_n (pc := 52) (lv' := [(3, zI y49.1), (2, zR y18), (0, zR a0), (1, zI a1)]) d_ST_stage_52 (Nat.le_of_ble_eq_true rfl) rfl ?_
        refine zs_iload_n (pc := 53) (x := y49.1) d_ST_stage_53 rfl ?_
        refine zs_if_lt (pc := 54) (tgt := 64) d_ST_stage_54 rfl (fun q54 => ?_) (fun q54 => ?_)
        · refine zs_iload_n (pc := 64) (x := y49.1) d_ST_stage_64 rfl ?_
          exact zs_iret (pc := 65) d_ST_stage_65 rfl (Nat.le_of_ble_eq_true rfl) (Nat.le_of_ble_eq_true rfl) rfl
        · refine zs_aload_n (pc := 57) (x := a0) d_ST_stage_57 rfl ?_
          refine zs_getR (pc := 58) d_ST_stage_58 kF_ST_51 fun v58 => ?_
          refine zs_callv_wV (pc := 61) (av := []) (st := []) (d' := 0) (C' := 0) (S' := 0) d_ST_stage_61 kV_ST_128 z_okb (jm_Row_clear (d := 0) (Nat.le_refl _) v58 y49.2) (by omega) (Nat.le_of_ble_eq_true rfl) (Nat.le_of_ble_eq_true rfl) rfl rfl (Nat.le_of_ble_eq_true rfl) fun y61 => ?_
          refine zs_iload_n (pc := 64) (x := y49.1) d_ST_stage_64 rfl ?_
          exact zs_iret (pc := 65) d_ST_stage_65 rfl (Nat.le_of_ble_eq_true rfl) (Nat.le_of_ble_eq_true rfl) rfl
      · refine zs_iconst (pc := 37) (v := (-1 : Int32)) d_ST_stage_37 (by decide) ?_
        exact zs_iret (pc := 38) d_ST_stage_38 rfl (Nat.le_of_ble_eq_true rfl) (Nat.le_of_ble_eq_true rfl) rfl
  · refine zs_bipush (pc := 10) (v := (-4 : Int32)) d_ST_stage_10 (by decide) ?_
    exact zs_iret (pc := 12) d_ST_stage_12 rfl (Nat.le_of_ble_eq_true rfl) (Nat.le_of_ble_eq_true rfl) rfl
def jF_ST_drop (a0 : Option Nat) (H : zH) : Option (Int32 × zH) :=
  (zok H a0 0).bind fun _ =>
  (zgR H a0 0 1).bind fun v1 =>
  (zgI H v1 3 1).bind fun v4 =>
  if v4 = 0 then (
    some ((-4 : Int32), H))
  else (
    (zgR H a0 0 5).bind fun v14 =>
    (jF_Row_clear v14 H).bind fun y17 =>
    (zgR y17 a0 0 4).bind fun v21 =>
    (jF_Staging_clear v21 y17).bind fun y24 =>
    some ((0 : Int32), y24))
theorem jm_ST_drop {E : zE} {d : Nat} (hd : 2 ≤ d) (a0 : Option Nat) (H : zH) : z_MS E jM_ST_drop d 0 0 zwI [zR a0] H (jF_ST_drop a0 H) := by
  refine zs_of (lv0 := [(0, zR a0)]) pn_ST (Nat.le_of_ble_eq_true rfl) rfl ?_
  unfold jF_ST_drop
  refine zs_bind fun _ _ => ?_
  refine zs_aload_n (pc := 0) (x := a0) d_ST_drop_0 rfl ?_
  refine zs_getR (pc := 1) d_ST_drop_1 kF_ST_19 fun v1 => ?_
  refine zs_getI (pc := 4) d_ST_drop_4 kF_ST_79 fun v4 => ?_
  refine zs_if_ne (pc := 7) (tgt := 13) d_ST_drop_7 rfl (fun q7 => ?_) (fun q7 => ?_)
  · refine zs_aload_n (pc := 13) (x := a0) d_ST_drop_13 rfl ?_
    refine zs_getR (pc := 14) d_ST_drop_14 kF_ST_51 fun v14 => ?_
    refine zs_callv_wV (pc := 17) (av := []) (st := []) (d' := 0) (C' := 0) (S' := 0) d_ST_drop_17 kV_ST_128 z_okb (jm_Row_clear (d := 0) (Nat.le_refl _) v14 H) (by omega) (Nat.le_of_ble_eq_true rfl) (Nat.le_of_ble_eq_true rfl) rfl rfl (Nat.le_of_ble_eq_true rfl) fun y17 => ?_
    refine zs_aload_n (pc := 20) (x := a0) d_ST_drop_20 rfl ?_
    refine zs_getR (pc := 21) d_ST_drop_21 kF_ST_42 fun v21 => ?_
    refine zs_callv_wV (pc := 24) (av := []) (st := []) (d' := 1) (C' := 0) (S' := 0) d_ST_drop_24 kV_ST_131 z_okb (jm_Staging_clear (d := 1) (Nat.le_refl _) v21 y17) (by omega) (Nat.le_of_ble_eq_true rfl) (Nat.le_of_ble_eq_true rfl) rfl rfl (Nat.le_of_ble_eq_true rfl) fun y24 => ?_
    refine zs_iconst (pc := 27) (v := (0 : Int32)) d_ST_drop_27 (by decide) ?_
    exact zs_iret (pc := 28) d_ST_drop_28 rfl (Nat.le_of_ble_eq_true rfl) (Nat.le_of_ble_eq_true rfl) rfl
  · refine zs_bipush (pc := 10) (v := (-4 : Int32)) d_ST_drop_10 (by decide) ?_
    exact zs_iret (pc := 12) d_ST_drop_12 rfl (Nat.le_of_ble_eq_true rfl) (Nat.le_of_ble_eq_true rfl) rfl
def jF_Disk_blocksFor (a0 : Int32) (H : zH) : Option Int32 :=
  some (((a0 + (32 : Int32)) - (1 : Int32)) / (32 : Int32))
theorem jm_Disk_blocksFor {E : zE} {d : Nat} (hd : 0 ≤ d) (a0 : Int32) (H : zH) : z_MS E jM_Disk_blocksFor d 0 0 (zrI H) [zI a0] H (jF_Disk_blocksFor a0 H) := by
  refine zs_of (lv0 := [(0, zI a0)]) pn_Disk (Nat.le_of_ble_eq_true rfl) rfl ?_
  unfold jF_Disk_blocksFor
  refine zs_iload_n (pc := 0) (x := a0) d_Disk_blocksFor_0 rfl ?_
  refine zs_bipush (pc := 1) (v := (32 : Int32)) d_Disk_blocksFor_1 (by decide) ?_
  refine zs_iadd (pc := 3) d_Disk_blocksFor_3 ?_
  refine zs_iconst (pc := 4) (v := (1 : Int32)) d_Disk_blocksFor_4 (by decide) ?_
  refine zs_isub (pc := 5) d_Disk_blocksFor_5 ?_
  refine zs_bipush (pc := 6) (v := (32 : Int32)) d_Disk_blocksFor_6 (by decide) ?_
  refine zs_idiv (pc := 8) d_Disk_blocksFor_8 (by decide) ?_
  exact zs_iret (pc := 9) d_Disk_blocksFor_9 rfl (Nat.le_of_ble_eq_true rfl) (Nat.le_of_ble_eq_true rfl) rfl
def jL_Disk_putAll_11 (fu : Nat) : Nat → Option Nat → Int32 → Option Nat → Int32 → Int32 → zH → Option (Int32 × zH)
  | 0, _, _, _, _, _, _ => none
  | g + 1, a0, a1, a2, a3, a4, H =>
    if a3 ≤ a4 then (
      some ((1 : Int32), H))
    else (
      (jF_Disk_startOf a4 H).bind fun y25 =>
      (jF_Disk_put fu a0 (a1 + a4) a2 y25 H).bind fun y28 =>
      if y28.1 = 0 then (
        some ((0 : Int32), y28.2))
      else (
        jL_Disk_putAll_11 fu g a0 a1 a2 a3 (a4 + (1 : Int32)) y28.2))
def jF_Disk_putAll (fu : Nat) (a0 : Option Nat) (a1 : Int32) (a2 : Option Nat) (H : zH) : Option (Int32 × zH) :=
  (zok H a0 3).bind fun _ =>
  (zgI H a2 2 1).bind fun v1 =>
  (jF_Disk_blocksFor v1 H).bind fun y4 =>
  jL_Disk_putAll_11 fu fu a0 a1 a2 y4 (0 : Int32) H
theorem jl_Disk_putAll_11 {E : zE} {d : Nat} (hd : 2 ≤ d) (fu : Nat) : ∀ (g : Nat), ∀ (a0 : Option Nat) (a1 : Int32) (a2 : Option Nat) (a3 : Int32) (a4 : Int32) (H : zH), z_S E jM_Disk_putAll d 0 0 zwI 11 [(0, zR a0), (1, zI a1), (2, zR a2), (3, zI a3), (4, zI a4)] [] H 0 0 (jL_Disk_putAll_11 fu g a0 a1 a2 a3 a4 H) := by
  intro g
  induction g with
  | zero => intros; exact zs_none
  | succ g ih =>
    intro a0 a1 a2 a3 a4 H
    rw [jL_Disk_putAll_11]
    refine zs_iload (pc := 11) (x := a4) d_Disk_putAll_11 rfl ?_
    refine zs_iload_n (pc := 13) (x := a3) d_Disk_putAll_13 rfl ?_
    refine zs_icmp_ge (pc := 14) (tgt := 42) d_Disk_putAll_14 rfl (fun q14 => ?_) (fun q14 => ?_)
    · refine zs_iconst (pc := 42) (v := (1 : Int32)) d_Disk_putAll_42 (by decide) ?_
      exact zs_zretc (pc := 43) d_Disk_putAll_43 rfl (by decide) (Nat.le_of_ble_eq_true rfl) (Nat.le_of_ble_eq_true rfl) rfl
    · refine zs_aload_n (pc := 17) (x := a0) d_Disk_putAll_17 rfl ?_
      refine zs_iload_n (pc := 18) (x := a1) d_Disk_putAll_18 rfl ?_
      refine zs_iload (pc := 19) (x := a4) d_Disk_putAll_19 rfl ?_
      refine zs_iadd (pc := 21) d_Disk_putAll_21 ?_
      refine zs_aload_n (pc := 22) (x := a2) d_Disk_putAll_22 rfl ?_
      refine zs_iload (pc := 23) (x := a4) d_Disk_putAll_23 rfl ?_
      refine zs_calls_rI (pc := 25) (av := [zI a4]) (st := [zR a2, zI (a1 + a4), zR a0]) (d' := 0) (C' := 0) (S' := 0) d_Disk_putAll_25 kS_Disk_24 (jm_Disk_startOf (d := 0) (Nat.le_refl _) a4 H) (by omega) (Nat.le_of_ble_eq_true rfl) (Nat.le_of_ble_eq_true rfl) rfl rfl (Nat.le_of_ble_eq_true rfl) fun y25 => ?_
      refine zs_callv_wI (pc := 28) (av := [zI (a1 + a4), zR a2, zI y25]) (st := []) (d' := 1) (C' := 0) (S' := 0) d_Disk_putAll_28 kV_Disk_43 z_okb (jm_Disk_put (d := 1) (Nat.le_refl _) fu a0 (a1 + a4) a2 y25 H) (by omega) (Nat.le_of_ble_eq_true rfl) (Nat.le_of_ble_eq_true rfl) rfl rfl (Nat.le_of_ble_eq_true rfl) fun y28 => ?_
      refine zs_if_ne (pc := 31) (tgt := 36) d_Disk_putAll_31 rfl (fun q31 => ?_) (fun q31 => ?_)
      · refine zs_iinc (pc := 36) (x := a4) (v := (a4 + (1 : Int32))) (lv' := [(4, zI (a4 + (1 : Int32))), (0, zR a0), (1, zI a1), (2, zR a2), (3, zI a3)]) d_Disk_putAll_36 rfl rfl (Nat.le_of_ble_eq_true rfl) rfl ?_
        refine zs_goto (pc := 39) (tgt := 11) d_Disk_putAll_39 rfl ?_
        refine zs_sub (lv' := [(0, zR a0), (1, zI a1), (2, zR a2), (3, zI a3), (4, zI (a4 + (1 : Int32)))]) [1, 2, 3, 4, 0] rfl ?_
        exact ih a0 a1 a2 a3 (a4 + (1 : Int32)) y28.2
      · refine zs_iconst (pc := 34) (v := (0 : Int32)) d_Disk_putAll_34 (by decide) ?_
        exact zs_zretc (pc := 35) d_Disk_putAll_35 rfl (by decide) (Nat.le_of_ble_eq_true rfl) (Nat.le_of_ble_eq_true rfl) rfl
theorem jm_Disk_putAll {E : zE} {d : Nat} (hd : 2 ≤ d) (fu : Nat) (a0 : Option Nat) (a1 : Int32) (a2 : Option Nat) (H : zH) : z_MS E jM_Disk_putAll d 0 0 zwI [zR a0, zI a1, zR a2] H (jF_Disk_putAll fu a0 a1 a2 H) := by
  refine zs_of (lv0 := [(0, zR a0), (1, zI a1), (2, zR a2)]) pn_Disk (Nat.le_of_ble_eq_true rfl) rfl ?_
  unfold jF_Disk_putAll
  refine zs_bind fun _ _ => ?_
  refine zs_aload_n (pc := 0) (x := a2) d_Disk_putAll_0 rfl ?_
  refine zs_getI (pc := 1) d_Disk_putAll_1 kF_Disk_37 fun v1 => ?_
  refine zs_calls_rI (pc := 4) (av := [zI v1]) (st := []) (d' := 0) (C' := 0) (S' := 0) d_Disk_putAll_4 kS_Disk_40 (jm_Disk_blocksFor (d := 0) (Nat.le_refl _) v1 H) (by omega) (Nat.le_of_ble_eq_true rfl) (Nat.le_of_ble_eq_true rfl) rfl rfl (Nat.le_of_ble_eq_true rfl) fun y4 => ?_
  refine zs_istore_n (pc := 7) (lv' := [(3, zI y4), (0, zR a0), (1, zI a1), (2, zR a2)]) d_Disk_putAll_7 (Nat.le_of_ble_eq_true rfl) rfl ?_
  refine zs_iconst (pc := 8) (v := (0 : Int32)) d_Disk_putAll_8 (by decide) ?_
  refine zs_istore (pc := 9) (lv' := [(4, zI (0 : Int32)), (3, zI y4), (0, zR a0), (1, zI a1), (2, zR a2)]) d_Disk_putAll_9 (Nat.le_of_ble_eq_true rfl) rfl ?_
  refine zs_sub (lv' := [(0, zR a0), (1, zI a1), (2, zR a2), (3, zI y4), (4, zI (0 : Int32))]) [2, 3, 4, 1, 0] rfl ?_
  exact jl_Disk_putAll_11 hd fu fu a0 a1 a2 y4 (0 : Int32) H
def jF_Manifest_entryByte (a0 : Option Nat) (a1 : Int32) (a2 : Int32) (H : zH) : Option Int32 :=
  (zok H a0 5).bind fun _ =>
  (zgR H a0 5 0).bind fun v1 =>
  (jF_Disk_startOf (0 : Int32) H).bind fun y5 =>
  (jF_Disk_at v1 (((y5 + (1 : Int32)) + (a1 * (3 : Int32))) + a2) H).bind fun y16 =>
  some y16
theorem jm_Manifest_entryByte {E : zE} {d : Nat} (hd : 1 ≤ d) (a0 : Option Nat) (a1 : Int32) (a2 : Int32) (H : zH) : z_MS E jM_Manifest_entryByte d 0 0 (zrI H) [zR a0, zI a1, zI a2] H (jF_Manifest_entryByte a0 a1 a2 H) := by
  refine zs_of (lv0 := [(0, zR a0), (1, zI a1), (2, zI a2)]) pn_Manifest (Nat.le_of_ble_eq_true rfl) rfl ?_
  unfold jF_Manifest_entryByte
  refine zs_bind fun _ _ => ?_
  refine zs_aload_n (pc := 0) (x := a0) d_Manifest_entryByte_0 rfl ?_
  refine zs_getR (pc := 1) d_Manifest_entryByte_1 kF_Manifest_9 fun v1 => ?_
  refine zs_iconst (pc := 4) (v := (0 : Int32)) d_Manifest_entryByte_4 (by decide) ?_
  refine zs_calls_rI (pc := 5) (av := [zI (0 : Int32)]) (st := [zR v1]) (d' := 0) (C' := 0) (S' := 0) d_Manifest_entryByte_5 kS_Manifest_137 (jm_Disk_startOf (d := 0) (Nat.le_refl _) (0 : Int32) H) (by omega) (Nat.le_of_ble_eq_true rfl) (Nat.le_of_ble_eq_true rfl) rfl rfl (Nat.le_of_ble_eq_true rfl) fun y5 => ?_
  refine zs_iconst (pc := 8) (v := (1 : Int32)) d_Manifest_entryByte_8 (by decide) ?_
  refine zs_iadd (pc := 9) d_Manifest_entryByte_9 ?_
  refine zs_iload_n (pc := 10) (x := a1) d_Manifest_entryByte_10 rfl ?_
  refine zs_iconst (pc := 11) (v := (3 : Int32)) d_Manifest_entryByte_11 (by decide) ?_
  refine zs_imul (pc := 12) d_Manifest_entryByte_12 ?_
  refine zs_iadd (pc := 13) d_Manifest_entryByte_13 ?_
  refine zs_iload_n (pc := 14) (x := a2) d_Manifest_entryByte_14 rfl ?_
  refine zs_iadd (pc := 15) d_Manifest_entryByte_15 ?_
  refine zs_callv_rI (pc := 16) (av := [zI (((y5 + (1 : Int32)) + (a1 * (3 : Int32))) + a2)]) (st := []) (d' := 0) (C' := 0) (S' := 0) d_Manifest_entryByte_16 kV_Manifest_112 z_okb (jm_Disk_at (d := 0) (Nat.le_refl _) v1 (((y5 + (1 : Int32)) + (a1 * (3 : Int32))) + a2) H) (by omega) (Nat.le_of_ble_eq_true rfl) (Nat.le_of_ble_eq_true rfl) rfl rfl (Nat.le_of_ble_eq_true rfl) fun y16 => ?_
  exact zs_iret (pc := 19) d_Manifest_entryByte_19 rfl (Nat.le_of_ble_eq_true rfl) (Nat.le_of_ble_eq_true rfl) rfl
def jF_Manifest_blocksOf (a0 : Option Nat) (a1 : Int32) (H : zH) : Option Int32 :=
  (zok H a0 5).bind fun _ =>
  (jF_Manifest_entryByte a0 a1 (2 : Int32) H).bind fun y3 =>
  some y3
theorem jm_Manifest_blocksOf {E : zE} {d : Nat} (hd : 2 ≤ d) (a0 : Option Nat) (a1 : Int32) (H : zH) : z_MS E jM_Manifest_blocksOf d 0 0 (zrI H) [zR a0, zI a1] H (jF_Manifest_blocksOf a0 a1 H) := by
  refine zs_of (lv0 := [(0, zR a0), (1, zI a1)]) pn_Manifest (Nat.le_of_ble_eq_true rfl) rfl ?_
  unfold jF_Manifest_blocksOf
  refine zs_bind fun _ _ => ?_
  refine zs_aload_n (pc := 0) (x := a0) d_Manifest_blocksOf_0 rfl ?_
  refine zs_iload_n (pc := 1) (x := a1) d_Manifest_blocksOf_1 rfl ?_
  refine zs_iconst (pc := 2) (v := (2 : Int32)) d_Manifest_blocksOf_2 (by decide) ?_
  refine zs_callv_rI (pc := 3) (av := [zI a1, zI (2 : Int32)]) (st := []) (d' := 1) (C' := 0) (S' := 0) d_Manifest_blocksOf_3 kV_Manifest_140 z_okb (jm_Manifest_entryByte (d := 1) (Nat.le_refl _) a0 a1 (2 : Int32) H) (by omega) (Nat.le_of_ble_eq_true rfl) (Nat.le_of_ble_eq_true rfl) rfl rfl (Nat.le_of_ble_eq_true rfl) fun y3 => ?_
  exact zs_iret (pc := 6) d_Manifest_blocksOf_6 rfl (Nat.le_of_ble_eq_true rfl) (Nat.le_of_ble_eq_true rfl) rfl
def jF_Manifest_draftEntry (a0 : Option Nat) (a1 : Int32) (a2 : Int32) (a3 : Int32) (H : zH) : Option zH :=
  (zok H a0 5).bind fun _ =>
  (zgR H a0 5 2).bind fun v1 =>
  (jF_Bytes_append v1 a1 H).bind fun y5 =>
  (zgR y5 a0 5 2).bind fun v9 =>
  (jF_Bytes_append v9 a2 y5).bind fun y13 =>
  (zgR y13 a0 5 2).bind fun v17 =>
  (jF_Bytes_append v17 a3 y13).bind fun y21 =>
  some y21
theorem jm_Manifest_draftEntry {E : zE} {d : Nat} (hd : 1 ≤ d) (a0 : Option Nat) (a1 : Int32) (a2 : Int32) (a3 : Int32) (H : zH) : z_MS E jM_Manifest_draftEntry d 0 0 zwV [zR a0, zI a1, zI a2, zI a3] H (jF_Manifest_draftEntry a0 a1 a2 a3 H) := by
  refine zs_of (lv0 := [(0, zR a0), (1, zI a1), (2, zI a2), (3, zI a3)]) pn_Manifest (Nat.le_of_ble_eq_true rfl) rfl ?_
  unfold jF_Manifest_draftEntry
  refine zs_bind fun _ _ => ?_
  refine zs_aload_n (pc := 0) (x := a0) d_Manifest_draftEntry_0 rfl ?_
  refine zs_getR (pc := 1) d_Manifest_draftEntry_1 kF_Manifest_26 fun v1 => ?_
  refine zs_iload_n (pc := 4) (x := a1) d_Manifest_draftEntry_4 rfl ?_
  refine zs_callv_wV (pc := 5) (av := [zI a1]) (st := []) (d' := 0) (C' := 0) (S' := 0) d_Manifest_draftEntry_5 kV_Manifest_100 z_okb (jm_Bytes_append (d := 0) (Nat.le_refl _) v1 a1 H) (by omega) (Nat.le_of_ble_eq_true rfl) (Nat.le_of_ble_eq_true rfl) rfl rfl (Nat.le_of_ble_eq_true rfl) fun y5 => ?_
  refine zs_aload_n (pc := 8) (x := a0) d_Manifest_draftEntry_8 rfl ?_
  refine zs_getR (pc := 9) d_Manifest_draftEntry_9 kF_Manifest_26 fun v9 => ?_
  refine zs_iload_n (pc := 12) (x := a2) d_Manifest_draftEntry_12 rfl ?_
  refine zs_callv_wV (pc := 13) (av := [zI a2]) (st := []) (d' := 0) (C' := 0) (S' := 0) d_Manifest_draftEntry_13 kV_Manifest_100 z_okb (jm_Bytes_append (d := 0) (Nat.le_refl _) v9 a2 y5) (by omega) (Nat.le_of_ble_eq_true rfl) (Nat.le_of_ble_eq_true rfl) rfl rfl (Nat.le_of_ble_eq_true rfl) fun y13 => ?_
  refine zs_aload_n (pc := 16) (x := a0) d_Manifest_draftEntry_16 rfl ?_
  refine zs_getR (pc := 17) d_Manifest_draftEntry_17 kF_Manifest_26 fun v17 => ?_
  refine zs_iload_n (pc := 20) (x := a3) d_Manifest_draftEntry_20 rfl ?_
  refine zs_callv_wV (pc := 21) (av := [zI a3]) (st := []) (d' := 0) (C' := 0) (S' := 0) d_Manifest_draftEntry_21 kV_Manifest_100 z_okb (jm_Bytes_append (d := 0) (Nat.le_refl _) v17 a3 y13) (by omega) (Nat.le_of_ble_eq_true rfl) (Nat.le_of_ble_eq_true rfl) rfl rfl (Nat.le_of_ble_eq_true rfl) fun y21 => ?_
  exact zs_vret (pc := 24) d_Manifest_draftEntry_24 rfl (Nat.le_of_ble_eq_true rfl) (Nat.le_of_ble_eq_true rfl) rfl
def jF_Manifest_entries (a0 : Option Nat) (H : zH) : Option Int32 :=
  (zok H a0 5).bind fun _ =>
  (zgR H a0 5 0).bind fun v1 =>
  (jF_Disk_startOf (0 : Int32) H).bind fun y5 =>
  (jF_Disk_at v1 y5 H).bind fun y8 =>
  some y8
theorem jm_Manifest_entries {E : zE} {d : Nat} (hd : 1 ≤ d) (a0 : Option Nat) (H : zH) : z_MS E jM_Manifest_entries d 0 0 (zrI H) [zR a0] H (jF_Manifest_entries a0 H) := by
  refine zs_of (lv0 := [(0, zR a0)]) pn_Manifest (Nat.le_of_ble_eq_true rfl) rfl ?_
  unfold jF_Manifest_entries
  refine zs_bind fun _ _ => ?_
  refine zs_aload_n (pc := 0) (x := a0) d_Manifest_entries_0 rfl ?_
  refine zs_getR (pc := 1) d_Manifest_entries_1 kF_Manifest_9 fun v1 => ?_
  refine zs_iconst (pc := 4) (v := (0 : Int32)) d_Manifest_entries_4 (by decide) ?_
  refine zs_calls_rI (pc := 5) (av := [zI (0 : Int32)]) (st := [zR v1]) (d' := 0) (C' := 0) (S' := 0) d_Manifest_entries_5 kS_Manifest_137 (jm_Disk_startOf (d := 0) (Nat.le_refl _) (0 : Int32) H) (by omega) (Nat.le_of_ble_eq_true rfl) (Nat.le_of_ble_eq_true rfl) rfl rfl (Nat.le_of_ble_eq_true rfl) fun y5 => ?_
  refine zs_callv_rI (pc := 8) (av := [zI y5]) (st := []) (d' := 0) (C' := 0) (S' := 0) d_Manifest_entries_8 kV_Manifest_112 z_okb (jm_Disk_at (d := 0) (Nat.le_refl _) v1 y5 H) (by omega) (Nat.le_of_ble_eq_true rfl) (Nat.le_of_ble_eq_true rfl) rfl rfl (Nat.le_of_ble_eq_true rfl) fun y8 => ?_
  exact zs_iret (pc := 11) d_Manifest_entries_11 rfl (Nat.le_of_ble_eq_true rfl) (Nat.le_of_ble_eq_true rfl) rfl
