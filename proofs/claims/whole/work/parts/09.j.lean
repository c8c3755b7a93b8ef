abbrev yJ6_bitCount_0f7a4 : MethodName := ⟨"java/lang/Integer", "bitCount", "(I)I"⟩
theorem mwJ6_bitCount_0f7a4 : MW yJ6_bitCount_0f7a4 prog_19_method_49_code 1 (some .int) 1 := ⟨wd_437, wd_19, by decide +kernel⟩
theorem d_J6_bitCount_0f7a4_0 : decode prog_19_method_49_code 0 = .ok (.iload_n 0, 1) := by decide +kernel
theorem d_J6_bitCount_0f7a4_1 : decode prog_19_method_49_code 1 = .ok (.iload_n 0, 1) := by decide +kernel
theorem d_J6_bitCount_0f7a4_2 : decode prog_19_method_49_code 2 = .ok (.iconst 1, 1) := by decide +kernel
theorem d_J6_bitCount_0f7a4_3 : decode prog_19_method_49_code 3 = .ok (.iushr, 1) := by decide +kernel
theorem d_J6_bitCount_0f7a4_4 : decode prog_19_method_49_code 4 = .ok (.ldc_w 265, 3) := by decide +kernel
theorem d_J6_bitCount_0f7a4_7 : decode prog_19_method_49_code 7 = .ok (.iand, 1) := by decide +kernel
theorem d_J6_bitCount_0f7a4_8 : decode prog_19_method_49_code 8 = .ok (.isub, 1) := by decide +kernel
theorem d_J6_bitCount_0f7a4_9 : decode prog_19_method_49_code 9 = .ok (.istore_n 0, 1) := by decide +kernel
theorem d_J6_bitCount_0f7a4_10 : decode prog_19_method_49_code 10 = .ok (.iload_n 0, 1) := by decide +kernel
theorem d_J6_bitCount_0f7a4_11 : decode prog_19_method_49_code 11 = .ok (.ldc_w 266, 3) := by decide +kernel
theorem d_J6_bitCount_0f7a4_14 : decode prog_19_method_49_code 14 = .ok (.iand, 1) := by decide +kernel
theorem d_J6_bitCount_0f7a4_15 : decode prog_19_method_49_code 15 = .ok (.iload_n 0, 1) := by decide +kernel
theorem d_J6_bitCount_0f7a4_16 : decode prog_19_method_49_code 16 = .ok (.iconst 2, 1) := by decide +kernel
theorem d_J6_bitCount_0f7a4_17 : decode prog_19_method_49_code 17 = .ok (.iushr, 1) := by decide +kernel
theorem d_J6_bitCount_0f7a4_18 : decode prog_19_method_49_code 18 = .ok (.ldc_w 266, 3) := by decide +kernel
theorem d_J6_bitCount_0f7a4_21 : decode prog_19_method_49_code 21 = .ok (.iand, 1) := by decide +kernel
theorem d_J6_bitCount_0f7a4_22 : decode prog_19_method_49_code 22 = .ok (.iadd, 1) := by decide +kernel
theorem d_J6_bitCount_0f7a4_23 : decode prog_19_method_49_code 23 = .ok (.istore_n 0, 1) := by decide +kernel
theorem d_J6_bitCount_0f7a4_24 : decode prog_19_method_49_code 24 = .ok (.iload_n 0, 1) := by decide +kernel
theorem d_J6_bitCount_0f7a4_25 : decode prog_19_method_49_code 25 = .ok (.iload_n 0, 1) := by decide +kernel
theorem d_J6_bitCount_0f7a4_26 : decode prog_19_method_49_code 26 = .ok (.iconst 4, 1) := by decide +kernel
theorem d_J6_bitCount_0f7a4_27 : decode prog_19_method_49_code 27 = .ok (.iushr, 1) := by decide +kernel
theorem d_J6_bitCount_0f7a4_28 : decode prog_19_method_49_code 28 = .ok (.iadd, 1) := by decide +kernel
theorem d_J6_bitCount_0f7a4_29 : decode prog_19_method_49_code 29 = .ok (.ldc_w 267, 3) := by decide +kernel
theorem d_J6_bitCount_0f7a4_32 : decode prog_19_method_49_code 32 = .ok (.iand, 1) := by decide +kernel
theorem d_J6_bitCount_0f7a4_33 : decode prog_19_method_49_code 33 = .ok (.istore_n 0, 1) := by decide +kernel
theorem d_J6_bitCount_0f7a4_34 : decode prog_19_method_49_code 34 = .ok (.iload_n 0, 1) := by decide +kernel
theorem d_J6_bitCount_0f7a4_35 : decode prog_19_method_49_code 35 = .ok (.iload_n 0, 1) := by decide +kernel
theorem d_J6_bitCount_0f7a4_36 : decode prog_19_method_49_code 36 = .ok (.bipush 8, 2) := by decide +kernel
theorem d_J6_bitCount_0f7a4_38 : decode prog_19_method_49_code 38 = .ok (.iushr, 1) := by decide +kernel
theorem d_J6_bitCount_0f7a4_39 : decode prog_19_method_49_code 39 = .ok (.iadd, 1) := by decide +kernel
theorem d_J6_bitCount_0f7a4_40 : decode prog_19_method_49_code 40 = .ok (.istore_n 0, 1) := by decide +kernel
theorem d_J6_bitCount_0f7a4_41 : decode prog_19_method_49_code 41 = .ok (.iload_n 0, 1) := by decide +kernel
theorem d_J6_bitCount_0f7a4_42 : decode prog_19_method_49_code 42 = .ok (.iload_n 0, 1) := by decide +kernel
theorem d_J6_bitCount_0f7a4_43 : decode prog_19_method_49_code 43 = .ok (.bipush 16, 2) := by decide +kernel
theorem d_J6_bitCount_0f7a4_45 : decode prog_19_method_49_code 45 = .ok (.iushr, 1) := by decide +kernel
theorem d_J6_bitCount_0f7a4_46 : decode prog_19_method_49_code 46 = .ok (.iadd, 1) := by decide +kernel
theorem d_J6_bitCount_0f7a4_47 : decode prog_19_method_49_code 47 = .ok (.istore_n 0, 1) := by decide +kernel
theorem d_J6_bitCount_0f7a4_48 : decode prog_19_method_49_code 48 = .ok (.iload_n 0, 1) := by decide +kernel
theorem d_J6_bitCount_0f7a4_49 : decode prog_19_method_49_code 49 = .ok (.bipush 63, 2) := by decide +kernel
theorem d_J6_bitCount_0f7a4_51 : decode prog_19_method_49_code 51 = .ok (.iand, 1) := by decide +kernel
theorem d_J6_bitCount_0f7a4_52 : decode prog_19_method_49_code 52 = .ok (.ireturn, 1) := by decide +kernel
def f_J6_bitCount_0f7a4 (a0 : Int32) : Option (Int32) := some ((((((((a0 - ((a0.toUInt32 >>> ((1 : Int32).toUInt32 &&& Int32.toUInt32 31)).toInt32 &&& (1431655765 : Int32))) &&& (858993459 : Int32)) + (((a0 - ((a0.toUInt32 >>> ((1 : Int32).toUInt32 &&& Int32.toUInt32 31)).toInt32 &&& (1431655765 : Int32))).toUInt32 >>> ((2 : Int32).toUInt32 &&& Int32.toUInt32 31)).toInt32 &&& (858993459 : Int32))) + ((((a0 - ((a0.toUInt32 >>> ((1 : Int32).toUInt32 &&& Int32.toUInt32 31)).toInt32 &&& (1431655765 : Int32))) &&& (858993459 : Int32)) + (((a0 - ((a0.toUInt32 >>> ((1 : Int32).toUInt32 &&& Int32.toUInt32 31)).toInt32 &&& (1431655765 : Int32))).toUInt32 >>> ((2 : Int32).toUInt32 &&& Int32.toUInt32 31)).toInt32 &&& (858993459 : Int32))).toUInt32 >>> ((4 : Int32).toUInt32 &&& Int32.toUInt32 31)).toInt32) &&& (252645135 : Int32)) + ((((((a0 - ((a0.toUInt32 >>> ((1 : Int32).toUInt32 &&& Int32.toUInt32 31)).toInt32 &&& (1431655765 : Int32))) &&& (858993459 : Int32)) + (((a0 - ((a0.toUInt32 >>> ((1 : Int32).toUInt32 &&& Int32.toUInt32 31)).toInt32 &&& (1431655765 : Int32))).toUInt32 >>> ((2 : Int32).toUInt32 &&& Int32.toUInt32 31)).toInt32 &&& (858993459 : Int32))) + ((((a0 - ((a0.toUInt32 >>> ((1 : Int32).toUInt32 &&& Int32.toUInt32 31)).toInt32 &&& (1431655765 : Int32))) &&& (858993459 : Int32)) + (((a0 - ((a0.toUInt32 >>> ((1 : Int32).toUInt32 &&& Int32.toUInt32 31)).toInt32 &&& (1431655765 : Int32))).toUInt32 >>> ((2 : Int32).toUInt32 &&& Int32.toUInt32 31)).toInt32 &&& (858993459 : Int32))).toUInt32 >>> ((4 : Int32).toUInt32 &&& Int32.toUInt32 31)).toInt32) &&& (252645135 : Int32)).toUInt32 >>> ((8 : Int32).toUInt32 &&& Int32.toUInt32 31)).toInt32) + (((((((a0 - ((a0.toUInt32 >>> ((1 : Int32).toUInt32 &&& Int32.toUInt32 31)).toInt32 &&& (1431655765 : Int32))) &&& (858993459 : Int32)) + (((a0 - ((a0.toUInt32 >>> ((1 : Int32).toUInt32 &&& Int32.toUInt32 31)).toInt32 &&& (1431655765 : Int32))).toUInt32 >>> ((2 : Int32).toUInt32 &&& Int32.toUInt32 31)).toInt32 &&& (858993459 : Int32))) + ((((a0 - ((a0.toUInt32 >>> ((1 : Int32).toUInt32 &&& Int32.toUInt32 31)).toInt32 &&& (1431655765 : Int32))) &&& (858993459 : Int32)) + (((a0 - ((a0.toUInt32 >>> ((1 : Int32).toUInt32 &&& Int32.toUInt32 31)).toInt32 &&& (1431655765 : Int32))).toUInt32 >>> ((2 : Int32).toUInt32 &&& Int32.toUInt32 31)).toInt32 &&& (858993459 : Int32))).toUInt32 >>> ((4 : Int32).toUInt32 &&& Int32.toUInt32 31)).toInt32) &&& (252645135 : Int32)) + ((((((a0 - ((a0.toUInt32 >>> ((1 : Int32).toUInt32 &&& Int32.toUInt32 31)).toInt32 &&& (1431655765 : Int32))) &&& (858993459 : Int32)) + (((a0 - ((a0.toUInt32 >>> ((1 : Int32).toUInt32 &&& Int32.toUInt32 31)).toInt32 &&& (1431655765 : Int32))).toUInt32 >>> ((2 : Int32).toUInt32 &&& Int32.toUInt32 31)).toInt32 &&& (858993459 : Int32))) + ((((a0 - ((a0.toUInt32 >>> ((1 : Int32).toUInt32 &&& Int32.toUInt32 31)).toInt32 &&& (1431655765 : Int32))) &&& (858993459 : Int32)) + (((a0 - ((a0.toUInt32 >>> ((1 : Int32).toUInt32 &&& Int32.toUInt32 31)).toInt32 &&& (1431655765 : Int32))).toUInt32 >>> ((2 : Int32).toUInt32 &&& Int32.toUInt32 31)).toInt32 &&& (858993459 : Int32))).toUInt32 >>> ((4 : Int32).toUInt32 &&& Int32.toUInt32 31)).toInt32) &&& (252645135 : Int32)).toUInt32 >>> ((8 : Int32).toUInt32 &&& Int32.toUInt32 31)).toInt32).toUInt32 >>> ((16 : Int32).toUInt32 &&& Int32.toUInt32 31)).toInt32) &&& (63 : Int32))
theorem c_J6_bitCount_0f7a4 {l : Launch} {G : gT} {χ σ : St} {a0 : Int32} {q : Int32} (h : f_J6_bitCount_0f7a4 a0 = some q) : Ct l G yJ6_bitCount_0f7a4 prog_19_method_49_code 1 (some .int) 0 0 [.int a0] χ σ (some (.int q)) χ σ := by
  refine Ct.of (by decide) (Nat.le_of_ble_eq_true rfl) ?_
  intro p e s m args below meth c Q X hr hlk hQ
  have hx := X.1
  have hb := X.2.1
  intro H locs ls hw hl
  have hl : lv_has ls 1 [(0, .int a0)] := hl
  unfold f_J6_bitCount_0f7a4 at h
  refine lv_iload_n hx hb d_J6_bitCount_0f7a4_0 rfl (lv_at hl 0 rfl) ?_
  refine lv_iload_n hx hb d_J6_bitCount_0f7a4_1 rfl (lv_at hl 0 rfl) ?_
  refine lv_iconst (v := (1 : Int32)) hx hb d_J6_bitCount_0f7a4_2 (by decide) ?_
  refine lv_iushr hx hb d_J6_bitCount_0f7a4_3 rfl ?_
  refine r_ldcw X wd_438 d_J6_bitCount_0f7a4_4 ?_
  refine lv_iand hx hb d_J6_bitCount_0f7a4_7 ?_
  refine lv_isub hx hb d_J6_bitCount_0f7a4_8 ?_
  refine lv_istore_n (lv' := [(0, .int (a0 - ((a0.toUInt32 >>> ((1 : Int32).toUInt32 &&& Int32.toUInt32 31)).toInt32 &&& (1431655765 : Int32))))]) hx hb d_J6_bitCount_0f7a4_9 rfl hl (Nat.le_of_ble_eq_true rfl) rfl (fun ls hl => ?_)
  refine lv_iload_n hx hb d_J6_bitCount_0f7a4_10 rfl (lv_at hl 0 rfl) ?_
  refine r_ldcw X wd_439 d_J6_bitCount_0f7a4_11 ?_
  refine lv_iand hx hb d_J6_bitCount_0f7a4_14 ?_
  refine lv_iload_n hx hb d_J6_bitCount_0f7a4_15 rfl (lv_at hl 0 rfl) ?_
  refine lv_iconst (v := (2 : Int32)) hx hb d_J6_bitCount_0f7a4_16 (by decide) ?_
  refine lv_iushr hx hb d_J6_bitCount_0f7a4_17 rfl ?_
  refine r_ldcw X wd_439 d_J6_bitCount_0f7a4_18 ?_
  refine lv_iand hx hb d_J6_bitCount_0f7a4_21 ?_
  refine lv_iadd hx hb d_J6_bitCount_0f7a4_22 ?_
  refine lv_istore_n (lv' := [(0, .int (((a0 - ((a0.toUInt32 >>> ((1 : Int32).toUInt32 &&& Int32.toUInt32 31)).toInt32 &&& (1431655765 : Int32))) &&& (858993459 : Int32)) + (((a0 - ((a0.toUInt32 >>> ((1 : Int32).toUInt32 &&& Int32.toUInt32 31)).toInt32 &&& (1431655765 : Int32))).toUInt32 >>> ((2 : Int32).toUInt32 &&& Int32.toUInt32 31)).toInt32 &&& (858993459 : Int32))))]) hx hb d_J6_bitCount_0f7a4_23 rfl hl (Nat.le_of_ble_eq_true rfl) rfl (fun ls hl => ?_)
  refine lv_iload_n hx hb d_J6_bitCount_0f7a4_24 rfl (lv_at hl 0 rfl) ?_
  refine lv_iload_n hx hb d_J6_bitCount_0f7a4_25 rfl (lv_at hl 0 rfl) ?_
  refine lv_iconst (v := (4 : Int32)) hx hb d_J6_bitCount_0f7a4_26 (by decide) ?_
  refine lv_iushr hx hb d_J6_bitCount_0f7a4_27 rfl ?_
  refine lv_iadd hx hb d_J6_bitCount_0f7a4_28 ?_
  refine r_ldcw X wd_440 d_J6_bitCount_0f7a4_29 ?_
  refine lv_iand hx hb d_J6_bitCount_0f7a4_32 ?_
  refine lv_istore_n (lv' := [(0, .int (((((a0 - ((a0.toUInt32 >>> ((1 : Int32).toUInt32 &&& Int32.toUInt32 31)).toInt32 &&& (1431655765 : Int32))) &&& (858993459 : Int32)) + (((a0 - ((a0.toUInt32 >>> ((1 : Int32).toUInt32 &&& Int32.toUInt32 31)).toInt32 &&& (1431655765 : Int32))).toUInt32 >>> ((2 : Int32).toUInt32 &&& Int32.toUInt32 31)).toInt32 &&& (858993459 : Int32))) + ((((a0 - ((a0.toUInt32 >>> ((1 : Int32).toUInt32 &&& Int32.toUInt32 31)).toInt32 &&& (1431655765 : Int32))) &&& (858993459 : Int32)) + (((a0 - ((a0.toUInt32 >>> ((1 : Int32).toUInt32 &&& Int32.toUInt32 31)).toInt32 &&& (1431655765 : Int32))).toUInt32 >>> ((2 : Int32).toUInt32 &&& Int32.toUInt32 31)).toInt32 &&& (858993459 : Int32))).toUInt32 >>> ((4 : Int32).toUInt32 &&& Int32.toUInt32 31)).toInt32) &&& (252645135 : Int32)))]) hx hb d_J6_bitCount_0f7a4_33 rfl hl (Nat.le_of_ble_eq_true rfl) rfl (fun ls hl => ?_)
  refine lv_iload_n hx hb d_J6_bitCount_0f7a4_34 rfl (lv_at hl 0 rfl) ?_
  refine lv_iload_n hx hb d_J6_bitCount_0f7a4_35 rfl (lv_at hl 0 rfl) ?_
  refine lv_bipush (v := (8 : Int32)) hx hb d_J6_bitCount_0f7a4_36 (by decide) ?_
  refine lv_iushr hx hb d_J6_bitCount_0f7a4_38 rfl ?_
  refine lv_iadd hx hb d_J6_bitCount_0f7a4_39 ?_
  refine lv_istore_n (lv' := [(0, .int ((((((a0 - ((a0.toUInt32 >>> ((1 : Int32).toUInt32 &&& Int32.toUInt32 31)).toInt32 &&& (1431655765 : Int32))) &&& (858993459 : Int32)) + (((a0 - ((a0.toUInt32 >>> ((1 : Int32).toUInt32 &&& Int32.toUInt32 31)).toInt32 &&& (1431655765 : Int32))).toUInt32 >>> ((2 : Int32).toUInt32 &&& Int32.toUInt32 31)).toInt32 &&& (858993459 : Int32))) + ((((a0 - ((a0.toUInt32 >>> ((1 : Int32).toUInt32 &&& Int32.toUInt32 31)).toInt32 &&& (1431655765 : Int32))) &&& (858993459 : Int32)) + (((a0 - ((a0.toUInt32 >>> ((1 : Int32).toUInt32 &&& Int32.toUInt32 31)).toInt32 &&& (1431655765 : Int32))).toUInt32 >>> ((2 : Int32).toUInt32 &&& Int32.toUInt32 31)).toInt32 &&& (858993459 : Int32))).toUInt32 >>> ((4 : Int32).toUInt32 &&& Int32.toUInt32 31)).toInt32) &&& (252645135 : Int32)) + ((((((a0 - ((a0.toUInt32 >>> ((1 : Int32).toUInt32 &&& Int32.toUInt32 31)).toInt32 &&& (1431655765 : Int32))) &&& (858993459 : Int32)) + (((a0 - ((a0.toUInt32 >>> ((1 : Int32).toUInt32 &&& Int32.toUInt32 31)).toInt32 &&& (1431655765 : Int32))).toUInt32 >>> ((2 : Int32).toUInt32 &&& Int32.toUInt32 31)).toInt32 &&& (858993459 : Int32))) + ((((a0 - ((a0.toUInt32 >>> ((1 : Int32).toUInt32 &&& Int32.toUInt32 31)).toInt32 &&& (1431655765 : Int32))) &&& (858993459 : Int32)) + (((a0 - ((a0.toUInt32 >>> ((1 : Int32).toUInt32 &&& Int32.toUInt32 31)).toInt32 &&& (1431655765 : Int32))).toUInt32 >>> ((2 : Int32).toUInt32 &&& Int32.toUInt32 31)).toInt32 &&& (858993459 : Int32))).toUInt32 >>> ((4 : Int32).toUInt32 &&& Int32.toUInt32 31)).toInt32) &&& (252645135 : Int32)).toUInt32 >>> ((8 : Int32).toUInt32 &&& Int32.toUInt32 31)).toInt32))]) hx hb d_J6_bitCount_0f7a4_40 rfl hl (Nat.le_of_ble_eq_true rfl) rfl (fun ls hl => ?_)
  refine lv_iload_n hx hb d_J6_bitCount_0f7a4_41 rfl (lv_at hl 0 rfl) ?_
  refine lv_iload_n hx hb d_J6_bitCount_0f7a4_42 rfl (lv_at hl 0 rfl) ?_
  refine lv_bipush (v := (16 : Int32)) hx hb d_J6_bitCount_0f7a4_43 (by decide) ?_
  refine lv_iushr hx hb d_J6_bitCount_0f7a4_45 rfl ?_
  refine lv_iadd hx hb d_J6_bitCount_0f7a4_46 ?_
  refine lv_istore_n (lv' := [(0, .int (((((((a0 - ((a0.toUInt32 >>> ((1 : Int32).toUInt32 &&& Int32.toUInt32 31)).toInt32 &&& (1431655765 : Int32))) &&& (858993459 : Int32)) + (((a0 - ((a0.toUInt32 >>> ((1 : Int32).toUInt32 &&& Int32.toUInt32 31)).toInt32 &&& (1431655765 : Int32))).toUInt32 >>> ((2 : Int32).toUInt32 &&& Int32.toUInt32 31)).toInt32 &&& (858993459 : Int32))) + ((((a0 - ((a0.toUInt32 >>> ((1 : Int32).toUInt32 &&& Int32.toUInt32 31)).toInt32 &&& (1431655765 : Int32))) &&& (858993459 : Int32)) + (((a0 - ((a0.toUInt32 >>> ((1 : Int32).toUInt32 &&& Int32.toUInt32 31)).toInt32 &&& (1431655765 : Int32))).toUInt32 >>> ((2 : Int32).toUInt32 &&& Int32.toUInt32 31)).toInt32 &&& (858993459 : Int32))).toUInt32 >>> ((4 : Int32).toUInt32 &&& Int32.toUInt32 31)).toInt32) &&& (252645135 : Int32)) + ((((((a0 - ((a0.toUInt32 >>> ((1 : Int32).toUInt32 &&& Int32.toUInt32 31)).toInt32 &&& (1431655765 : Int32))) &&& (858993459 : Int32)) + (((a0 - ((a0.toUInt32 >>> ((1 : Int32).toUInt32 &&& Int32.toUInt32 31)).toInt32 &&& (1431655765 : Int32))).toUInt32 >>> ((2 : Int32).toUInt32 &&& Int32.toUInt32 31)).toInt32 &&& (858993459 : Int32))) + ((((a0 - ((a0.toUInt32 >>> ((1 : Int32).toUInt32 &&& Int32.toUInt32 31)).toInt32 &&& (1431655765 : Int32))) &&& (858993459 : Int32)) + (((a0 - ((a0.toUInt32 >>> ((1 : Int32).toUInt32 &&& Int32.toUInt32 31)).toInt32 &&& (1431655765 : Int32))).toUInt32 >>> ((2 : Int32).toUInt32 &&& Int32.toUInt32 31)).toInt32 &&& (858993459 : Int32))).toUInt32 >>> ((4 : Int32).toUInt32 &&& Int32.toUInt32 31)).toInt32) &&& (252645135 : Int32)).toUInt32 >>> ((8 : Int32).toUInt32 &&& Int32.toUInt32 31)).toInt32) + (((((((a0 - ((a0.toUInt32 >>> ((1 : Int32).toUInt32 &&& Int32.toUInt32 31)).toInt32 &&& (1431655765 : Int32))) &&& (858993459 : Int32)) + (((a0 - ((a0.toUInt32 >>> ((1 : Int32).toUInt32 &&& Int32.toUInt32 31)).toInt32 &&& (1431655765 : Int32))).toUInt32 >>> ((2 : Int32).toUInt32 &&& Int32.toUInt32 31)).toInt32 &&& (858993459 : Int32))) + ((((a0 - ((a0.toUInt32 >>> ((1 : Int32).toUInt32 &&& Int32.toUInt32 31)).toInt32 &&& (1431655765 : Int32))) &&& (858993459 : Int32)) + (((a0 - ((a0.toUInt32 >>> ((1 : Int32).toUInt32 &&& Int32.toUInt32 31)).toInt32 &&& (1431655765 : Int32))).toUInt32 >>> ((2 : Int32).toUInt32 &&& Int32.toUInt32 31)).toInt32 &&& (858993459 : Int32))).toUInt32 >>> ((4 : Int32).toUInt32 &&& Int32.toUInt32 31)).toInt32) &&& (252645135 : Int32)) + ((((((a0 - ((a0.toUInt32 >>> ((1 : Int32).toUInt32 &&& Int32.toUInt32 31)).toInt32 &&& (1431655765 : Int32))) &&& (858993459 : Int32)) + (((a0 - ((a0.toUInt32 >>> ((1 : Int32).toUInt32 &&& Int32.toUInt32 31)).toInt32 &&& (1431655765 : Int32))).toUInt32 >>> ((2 : Int32).toUInt32 &&& Int32.toUInt32 31)).toInt32 &&& (858993459 : Int32))) + ((((a0 - ((a0.toUInt32 >>> ((1 : Int32).toUInt32 &&& Int32.toUInt32 31)).toInt32 &&& (1431655765 : Int32))) &&& (858993459 : Int32)) + (((a0 - ((a0.toUInt32 >>> ((1 : Int32).toUInt32 &&& Int32.toUInt32 31)).toInt32 &&& (1431655765 : Int32))).toUInt32 >>> ((2 : Int32).toUInt32 &&& Int32.toUInt32 31)).toInt32 &&& (858993459 : Int32))).toUInt32 >>> ((4 : Int32).toUInt32 &&& Int32.toUInt32 31)).toInt32) &&& (252645135 : Int32)).toUInt32 >>> ((8 : Int32).toUInt32 &&& Int32.toUInt32 31)).toInt32).toUInt32 >>> ((16 : Int32).toUInt32 &&& Int32.toUInt32 31)).toInt32))]) hx hb d_J6_bitCount_0f7a4_47 rfl hl (Nat.le_of_ble_eq_true rfl) rfl (fun ls hl => ?_)
  refine lv_iload_n hx hb d_J6_bitCount_0f7a4_48 rfl (lv_at hl 0 rfl) ?_
  refine lv_bipush (v := (63 : Int32)) hx hb d_J6_bitCount_0f7a4_49 (by decide) ?_
  refine lv_iand hx hb d_J6_bitCount_0f7a4_51 ?_
  obtain rfl := Option.some.inj h
  subst hQ
  exact r_iret X hr hlk hw d_J6_bitCount_0f7a4_52
abbrev yJ6_numberOfTrailingZeros_0f7a4 : MethodName := ⟨"java/lang/Integer", "numberOfTrailingZeros", "(I)I"⟩
theorem mwJ6_numberOfTrailingZeros_0f7a4 : MW yJ6_numberOfTrailingZeros_0f7a4 prog_19_method_48_code 2 (some .int) 1 := ⟨wd_1440, wd_19, by decide +kernel⟩
theorem d_J6_numberOfTrailingZeros_0f7a4_0 : decode prog_19_method_48_code 0 = .ok (.iload_n 0, 1) := by decide +kernel
theorem d_J6_numberOfTrailingZeros_0f7a4_1 : decode prog_19_method_48_code 1 = .ok (.iconst (-1), 1) := by decide +kernel
theorem d_J6_numberOfTrailingZeros_0f7a4_2 : decode prog_19_method_48_code 2 = .ok (.ixor, 1) := by decide +kernel
theorem d_J6_numberOfTrailingZeros_0f7a4_3 : decode prog_19_method_48_code 3 = .ok (.iload_n 0, 1) := by decide +kernel
theorem d_J6_numberOfTrailingZeros_0f7a4_4 : decode prog_19_method_48_code 4 = .ok (.iconst 1, 1) := by decide +kernel
theorem d_J6_numberOfTrailingZeros_0f7a4_5 : decode prog_19_method_48_code 5 = .ok (.isub, 1) := by decide +kernel
theorem d_J6_numberOfTrailingZeros_0f7a4_6 : decode prog_19_method_48_code 6 = .ok (.iand, 1) := by decide +kernel
theorem d_J6_numberOfTrailingZeros_0f7a4_7 : decode prog_19_method_48_code 7 = .ok (.istore_n 0, 1) := by decide +kernel
theorem d_J6_numberOfTrailingZeros_0f7a4_8 : decode prog_19_method_48_code 8 = .ok (.iload_n 0, 1) := by decide +kernel
theorem d_J6_numberOfTrailingZeros_0f7a4_9 : decode prog_19_method_48_code 9 = .ok (.ifCond .gt 8, 3) := by decide +kernel
theorem d_J6_numberOfTrailingZeros_0f7a4_12 : decode prog_19_method_48_code 12 = .ok (.iload_n 0, 1) := by decide +kernel
theorem d_J6_numberOfTrailingZeros_0f7a4_13 : decode prog_19_method_48_code 13 = .ok (.bipush 32, 2) := by decide +kernel
theorem d_J6_numberOfTrailingZeros_0f7a4_15 : decode prog_19_method_48_code 15 = .ok (.iand, 1) := by decide +kernel
theorem d_J6_numberOfTrailingZeros_0f7a4_16 : decode prog_19_method_48_code 16 = .ok (.ireturn, 1) := by decide +kernel
theorem d_J6_numberOfTrailingZeros_0f7a4_17 : decode prog_19_method_48_code 17 = .ok (.iconst 1, 1) := by decide +kernel
theorem d_J6_numberOfTrailingZeros_0f7a4_18 : decode prog_19_method_48_code 18 = .ok (.istore_n 1, 1) := by decide +kernel
theorem d_J6_numberOfTrailingZeros_0f7a4_19 : decode prog_19_method_48_code 19 = .ok (.iload_n 0, 1) := by decide +kernel
theorem d_J6_numberOfTrailingZeros_0f7a4_20 : decode prog_19_method_48_code 20 = .ok (.ldc_w 264, 3) := by decide +kernel
theorem d_J6_numberOfTrailingZeros_0f7a4_23 : decode prog_19_method_48_code 23 = .ok (.if_icmp .le 11, 3) := by decide +kernel
theorem d_J6_numberOfTrailingZeros_0f7a4_26 : decode prog_19_method_48_code 26 = .ok (.iinc 1 16, 3) := by decide +kernel
theorem d_J6_numberOfTrailingZeros_0f7a4_29 : decode prog_19_method_48_code 29 = .ok (.iload_n 0, 1) := by decide +kernel
theorem d_J6_numberOfTrailingZeros_0f7a4_30 : decode prog_19_method_48_code 30 = .ok (.bipush 16, 2) := by decide +kernel
theorem d_J6_numberOfTrailingZeros_0f7a4_32 : decode prog_19_method_48_code 32 = .ok (.iushr, 1) := by decide +kernel
theorem d_J6_numberOfTrailingZeros_0f7a4_33 : decode prog_19_method_48_code 33 = .ok (.istore_n 0, 1) := by decide +kernel
theorem d_J6_numberOfTrailingZeros_0f7a4_34 : decode prog_19_method_48_code 34 = .ok (.iload_n 0, 1) := by decide +kernel
theorem d_J6_numberOfTrailingZeros_0f7a4_35 : decode prog_19_method_48_code 35 = .ok (.sipush 256, 3) := by decide +kernel
theorem d_J6_numberOfTrailingZeros_0f7a4_38 : decode prog_19_method_48_code 38 = .ok (.if_icmp .le 11, 3) := by decide +kernel
theorem d_J6_numberOfTrailingZeros_0f7a4_41 : decode prog_19_method_48_code 41 = .ok (.iinc 1 8, 3) := by decide +kernel
theorem d_J6_numberOfTrailingZeros_0f7a4_44 : decode prog_19_method_48_code 44 = .ok (.iload_n 0, 1) := by decide +kernel
theorem d_J6_numberOfTrailingZeros_0f7a4_45 : decode prog_19_method_48_code 45 = .ok (.bipush 8, 2) := by decide +kernel
theorem d_J6_numberOfTrailingZeros_0f7a4_47 : decode prog_19_method_48_code 47 = .ok (.iushr, 1) := by decide +kernel
theorem d_J6_numberOfTrailingZeros_0f7a4_48 : decode prog_19_method_48_code 48 = .ok (.istore_n 0, 1) := by decide +kernel
theorem d_J6_numberOfTrailingZeros_0f7a4_49 : decode prog_19_method_48_code 49 = .ok (.iload_n 0, 1) := by decide +kernel
theorem d_J6_numberOfTrailingZeros_0f7a4_50 : decode prog_19_method_48_code 50 = .ok (.bipush 16, 2) := by decide +kernel
theorem d_J6_numberOfTrailingZeros_0f7a4_52 : decode prog_19_method_48_code 52 = .ok (.if_icmp .le 10, 3) := by decide +kernel
theorem d_J6_numberOfTrailingZeros_0f7a4_55 : decode prog_19_method_48_code 55 = .ok (.iinc 1 4, 3) := by decide +kernel
theorem d_J6_numberOfTrailingZeros_0f7a4_58 : decode prog_19_method_48_code 58 = .ok (.iload_n 0, 1) := by decide +kernel
theorem d_J6_numberOfTrailingZeros_0f7a4_59 : decode prog_19_method_48_code 59 = .ok (.iconst 4, 1) := by decide +kernel
theorem d_J6_numberOfTrailingZeros_0f7a4_60 : decode prog_19_method_48_code 60 = .ok (.iushr, 1) := by decide +kernel
theorem d_J6_numberOfTrailingZeros_0f7a4_61 : decode prog_19_method_48_code 61 = .ok (.istore_n 0, 1) := by decide +kernel
theorem d_J6_numberOfTrailingZeros_0f7a4_62 : decode prog_19_method_48_code 62 = .ok (.iload_n 0, 1) := by decide +kernel
theorem d_J6_numberOfTrailingZeros_0f7a4_63 : decode prog_19_method_48_code 63 = .ok (.iconst 4, 1) := by decide +kernel
theorem d_J6_numberOfTrailingZeros_0f7a4_64 : decode prog_19_method_48_code 64 = .ok (.if_icmp .le 10, 3) := by decide +kernel
theorem d_J6_numberOfTrailingZeros_0f7a4_67 : decode prog_19_method_48_code 67 = .ok (.iinc 1 2, 3) := by decide +kernel
theorem d_J6_numberOfTrailingZeros_0f7a4_70 : decode prog_19_method_48_code 70 = .ok (.iload_n 0, 1) := by decide +kernel
theorem d_J6_numberOfTrailingZeros_0f7a4_71 : decode prog_19_method_48_code 71 = .ok (.iconst 2, 1) := by decide +kernel
theorem d_J6_numberOfTrailingZeros_0f7a4_72 : decode prog_19_method_48_code 72 = .ok (.iushr, 1) := by decide +kernel
theorem d_J6_numberOfTrailingZeros_0f7a4_73 : decode prog_19_method_48_code 73 = .ok (.istore_n 0, 1) := by decide +kernel
theorem d_J6_numberOfTrailingZeros_0f7a4_74 : decode prog_19_method_48_code 74 = .ok (.iload_n 1, 1) := by decide +kernel
theorem d_J6_numberOfTrailingZeros_0f7a4_75 : decode prog_19_method_48_code 75 = .ok (.iload_n 0, 1) := by decide +kernel
theorem d_J6_numberOfTrailingZeros_0f7a4_76 : decode prog_19_method_48_code 76 = .ok (.iconst 1, 1) := by decide +kernel
theorem d_J6_numberOfTrailingZeros_0f7a4_77 : decode prog_19_method_48_code 77 = .ok (.iushr, 1) := by decide +kernel
theorem d_J6_numberOfTrailingZeros_0f7a4_78 : decode prog_19_method_48_code 78 = .ok (.iadd, 1) := by decide +kernel
theorem d_J6_numberOfTrailingZeros_0f7a4_79 : decode prog_19_method_48_code 79 = .ok (.ireturn, 1) := by decide +kernel
def f_J6_numberOfTrailingZeros_0f7a4_j74 (x0 : Int32) (x1 : Int32) : Option (Int32) := some (x1 + (x0.toUInt32 >>> ((1 : Int32).toUInt32 &&& Int32.toUInt32 31)).toInt32)
def f_J6_numberOfTrailingZeros_0f7a4_j62 (x0 : Int32) (x1 : Int32) : Option (Int32) := f_J6_numberOfTrailingZeros_0f7a4_j74 (if x0 ≤ (4 : Int32) then x0 else (x0.toUInt32 >>> ((2 : Int32).toUInt32 &&& Int32.toUInt32 31)).toInt32) (if x0 ≤ (4 : Int32) then x1 else (x1 + (2 : Int32)))
def f_J6_numberOfTrailingZeros_0f7a4_j49 (x0 : Int32) (x1 : Int32) : Option (Int32) := f_J6_numberOfTrailingZeros_0f7a4_j62 (if x0 ≤ (16 : Int32) then x0 else (x0.toUInt32 >>> ((4 : Int32).toUInt32 &&& Int32.toUInt32 31)).toInt32) (if x0 ≤ (16 : Int32) then x1 else (x1 + (4 : Int32)))
def f_J6_numberOfTrailingZeros_0f7a4_j34 (x0 : Int32) (x1 : Int32) : Option (Int32) := f_J6_numberOfTrailingZeros_0f7a4_j49 (if x0 ≤ (256 : Int32) then x0 else (x0.toUInt32 >>> ((8 : Int32).toUInt32 &&& Int32.toUInt32 31)).toInt32) (if x0 ≤ (256 : Int32) then x1 else (x1 + (8 : Int32)))
def f_J6_numberOfTrailingZeros_0f7a4 (a0 : Int32) : Option (Int32) := (if 0 < ((a0 ^^^ (-1 : Int32)) &&& (a0 - (1 : Int32))) then f_J6_numberOfTrailingZeros_0f7a4_j34 (if ((a0 ^^^ (-1 : Int32)) &&& (a0 - (1 : Int32))) ≤ (65536 : Int32) then ((a0 ^^^ (-1 : Int32)) &&& (a0 - (1 : Int32))) else (((a0 ^^^ (-1 : Int32)) &&& (a0 - (1 : Int32))).toUInt32 >>> ((16 : Int32).toUInt32 &&& Int32.toUInt32 31)).toInt32) (if ((a0 ^^^ (-1 : Int32)) &&& (a0 - (1 : Int32))) ≤ (65536 : Int32) then (1 : Int32) else ((1 : Int32) + (16 : Int32))) else some (((a0 ^^^ (-1 : Int32)) &&& (a0 - (1 : Int32))) &&& (32 : Int32)))
theorem c_J6_numberOfTrailingZeros_0f7a4 {l : Launch} {G : gT} {χ σ : St} {a0 : Int32} {q : Int32} (h : f_J6_numberOfTrailingZeros_0f7a4 a0 = some q) : Ct l G yJ6_numberOfTrailingZeros_0f7a4 prog_19_method_48_code 2 (some .int) 0 0 [.int a0] χ σ (some (.int q)) χ σ := by
  refine Ct.of (by decide) (Nat.le_of_ble_eq_true rfl) ?_
  intro p e s m args below meth c Q X hr hlk hQ
  have hx := X.1
  have hb := X.2.1
  have j74 : ∀ (x0 : Int32) (x1 : Int32), f_J6_numberOfTrailingZeros_0f7a4_j74 x0 x1 = some q → Wat p l e (rmk 0 0) s m args below meth c Q G 2 74 [] [(0, .int x0), (1, .int x1)] χ σ := by
    intro x0 x1 h H locs ls hw hl
    unfold f_J6_numberOfTrailingZeros_0f7a4_j74 at h
    refine lv_iload_n hx hb d_J6_numberOfTrailingZeros_0f7a4_74 rfl (lv_at hl 1 rfl) ?_
    refine lv_iload_n hx hb d_J6_numberOfTrailingZeros_0f7a4_75 rfl (lv_at hl 0 rfl) ?_
    refine lv_iconst (v := (1 : Int32)) hx hb d_J6_numberOfTrailingZeros_0f7a4_76 (by decide) ?_
    refine lv_iushr hx hb d_J6_numberOfTrailingZeros_0f7a4_77 rfl ?_
    refine lv_iadd hx hb d_J6_numberOfTrailingZeros_0f7a4_78 ?_
    obtain rfl := Option.some.inj h
    subst hQ
    exact r_iret X hr hlk hw d_J6_numberOfTrailingZeros_0f7a4_79
  have j62 : ∀ (x0 : Int32) (x1 : Int32), f_J6_numberOfTrailingZeros_0f7a4_j62 x0 x1 = some q → Wat p l e (rmk 0 0) s m args below meth c Q G 2 62 [] [(0, .int x0), (1, .int x1)] χ σ := by
    intro x0 x1 h H locs ls hw hl
    unfold f_J6_numberOfTrailingZeros_0f7a4_j62 at h
    refine lv_iload_n hx hb d_J6_numberOfTrailingZeros_0f7a4_62 rfl (lv_at hl 0 rfl) ?_
    refine lv_iconst (v := (4 : Int32)) hx hb d_J6_numberOfTrailingZeros_0f7a4_63 (by decide) ?_
    refine lv_icmp_le (tgt := 74) hx hb d_J6_numberOfTrailingZeros_0f7a4_64 (by decide) (fun hc => ?_) (fun hc => ?_)
    · simp only [if_pos hc] at h
      exact j74 x0 x1 h _ _ _ hw (lv_sub hl [0, 1] rfl)
    · simp only [if_neg hc] at h
      refine lv_iinc (v := (x1 + (2 : Int32))) (k := 1) (lv' := [(1, .int (x1 + (2 : Int32))), (0, .int x0)]) hx hb d_J6_numberOfTrailingZeros_0f7a4_67 hl rfl (by rfl) (Nat.le_of_ble_eq_true rfl) rfl (fun ls hl => ?_)
      refine lv_iload_n hx hb d_J6_numberOfTrailingZeros_0f7a4_70 rfl (lv_at hl 1 rfl) ?_
      refine lv_iconst (v := (2 : Int32)) hx hb d_J6_numberOfTrailingZeros_0f7a4_71 (by decide) ?_
      refine lv_iushr hx hb d_J6_numberOfTrailingZeros_0f7a4_72 rfl ?_
      refine lv_istore_n (lv' := [(0, .int (x0.toUInt32 >>> ((2 : Int32).toUInt32 &&& Int32.toUInt32 31)).toInt32), (1, .int (x1 + (2 : Int32)))]) hx hb d_J6_numberOfTrailingZeros_0f7a4_73 rfl hl (Nat.le_of_ble_eq_true rfl) rfl (fun ls hl => ?_)
      exact j74 (x0.toUInt32 >>> ((2 : Int32).toUInt32 &&& Int32.toUInt32 31)).toInt32 (x1 + (2 : Int32)) h _ _ _ hw (lv_sub hl [0, 1] rfl)
  have j49 : ∀ (x0 : Int32) (x1 : Int32), f_J6_numberOfTrailingZeros_0f7a4_j49 x0 x1 = some q → Wat p l e (rmk 0 0) s m args below meth c Q G 2 49 [] [(0, .int x0), (1, .int x1)] χ σ := by
    intro x0 x1 h H locs ls hw hl
    unfold f_J6_numberOfTrailingZeros_0f7a4_j49 at h
    refine lv_iload_n hx hb d_J6_numberOfTrailingZeros_0f7a4_49 rfl (lv_at hl 0 rfl) ?_
    refine lv_bipush (v := (16 : Int32)) hx hb d_J6_numberOfTrailingZeros_0f7a4_50 (by decide) ?_
    refine lv_icmp_le (tgt := 62) hx hb d_J6_numberOfTrailingZeros_0f7a4_52 (by decide) (fun hc => ?_) (fun hc => ?_)
    · simp only [if_pos hc] at h
      exact j62 x0 x1 h _ _ _ hw (lv_sub hl [0, 1] rfl)
    · simp only [if_neg hc] at h
      refine lv_iinc (v := (x1 + (4 : Int32))) (k := 1) (lv' := [(1, .int (x1 + (4 : Int32))), (0, .int x0)]) hx hb d_J6_numberOfTrailingZeros_0f7a4_55 hl rfl (by rfl) (Nat.le_of_ble_eq_true rfl) rfl (fun ls hl => ?_)
      refine lv_iload_n hx hb d_J6_numberOfTrailingZeros_0f7a4_58 rfl (lv_at hl 1 rfl) ?_
      refine lv_iconst (v := (4 : Int32)) hx hb d_J6_numberOfTrailingZeros_0f7a4_59 (by decide) ?_
      refine lv_iushr hx hb d_J6_numberOfTrailingZeros_0f7a4_60 rfl ?_
      refine lv_istore_n (lv' := [(0, .int (x0.toUInt32 >>> ((4 : Int32).toUInt32 &&& Int32.toUInt32 31)).toInt32), (1, .int (x1 + (4 : Int32)))]) hx hb d_J6_numberOfTrailingZeros_0f7a4_61 rfl hl (Nat.le_of_ble_eq_true rfl) rfl (fun ls hl => ?_)
      exact j62 (x0.toUInt32 >>> ((4 : Int32).toUInt32 &&& Int32.toUInt32 31)).toInt32 (x1 + (4 : Int32)) h _ _ _ hw (lv_sub hl [0, 1] rfl)
  have j34 : ∀ (x0 : Int32) (x1 : Int32), f_J6_numberOfTrailingZeros_0f7a4_j34 x0 x1 = some q → Wat p l e (rmk 0 0) s m args below meth c Q G 2 34 [] [(0, .int x0), (1, .int x1)] χ σ := by
    intro x0 x1 h H locs ls hw hl
    unfold f_J6_numberOfTrailingZeros_0f7a4_j34 at h
    refine lv_iload_n hx hb d_J6_numberOfTrailingZeros_0f7a4_34 rfl (lv_at hl 0 rfl) ?_
    refine lv_sipush (v := (256 : Int32)) hx hb d_J6_numberOfTrailingZeros_0f7a4_35 (by decide) ?_
    refine lv_icmp_le (tgt := 49) hx hb d_J6_numberOfTrailingZeros_0f7a4_38 (by decide) (fun hc => ?_) (fun hc => ?_)
    · simp only [if_pos hc] at h
      exact j49 x0 x1 h _ _ _ hw (lv_sub hl [0, 1] rfl)
    · simp only [if_neg hc] at h
      refine lv_iinc (v := (x1 + (8 : Int32))) (k := 1) (lv' := [(1, .int (x1 + (8 : Int32))), (0, .int x0)]) hx hb d_J6_numberOfTrailingZeros_0f7a4_41 hl rfl (by rfl) (Nat.le_of_ble_eq_true rfl) rfl (fun ls hl => ?_)
      refine lv_iload_n hx hb d_J6_numberOfTrailingZeros_0f7a4_44 rfl (lv_at hl 1 rfl) ?_
      refine lv_bipush (v := (8 : Int32)) hx hb d_J6_numberOfTrailingZeros_0f7a4_45 (by decide) ?_
      refine lv_iushr hx hb d_J6_numberOfTrailingZeros_0f7a4_47 rfl ?_
      refine lv_istore_n (lv' := [(0, .int (x0.toUInt32 >>> ((8 : Int32).toUInt32 &&& Int32.toUInt32 31)).toInt32), (1, .int (x1 + (8 : Int32)))]) hx hb d_J6_numberOfTrailingZeros_0f7a4_48 rfl hl (Nat.le_of_ble_eq_true rfl) rfl (fun ls hl => ?_)
      exact j49 (x0.toUInt32 >>> ((8 : Int32).toUInt32 &&& Int32.toUInt32 31)).toInt32 (x1 + (8 : Int32)) h _ _ _ hw (lv_sub hl [0, 1] rfl)
  intro H locs ls hw hl
  have hl : lv_has ls 2 [(0, .int a0)] := hl
  unfold f_J6_numberOfTrailingZeros_0f7a4 at h
  refine lv_iload_n hx hb d_J6_numberOfTrailingZeros_0f7a4_0 rfl (lv_at hl 0 rfl) ?_
  refine lv_iconst (v := (-1 : Int32)) hx hb d_J6_numberOfTrailingZeros_0f7a4_1 (by decide) ?_
  refine lv_ixor hx hb d_J6_numberOfTrailingZeros_0f7a4_2 ?_
  refine lv_iload_n hx hb d_J6_numberOfTrailingZeros_0f7a4_3 rfl (lv_at hl 0 rfl) ?_
  refine lv_iconst (v := (1 : Int32)) hx hb d_J6_numberOfTrailingZeros_0f7a4_4 (by decide) ?_
  refine lv_isub hx hb d_J6_numberOfTrailingZeros_0f7a4_5 ?_
  refine lv_iand hx hb d_J6_numberOfTrailingZeros_0f7a4_6 ?_
  refine lv_istore_n (lv' := [(0, .int ((a0 ^^^ (-1 : Int32)) &&& (a0 - (1 : Int32))))]) hx hb d_J6_numberOfTrailingZeros_0f7a4_7 rfl hl (Nat.le_of_ble_eq_true rfl) rfl (fun ls hl => ?_)
  refine lv_iload_n hx hb d_J6_numberOfTrailingZeros_0f7a4_8 rfl (lv_at hl 0 rfl) ?_
  refine lv_if_gt (tgt := 17) hx hb d_J6_numberOfTrailingZeros_0f7a4_9 (by decide) (fun hc => ?_) (fun hc => ?_)
  · have h := ite_t h hc
    refine lv_iconst (v := (1 : Int32)) hx hb d_J6_numberOfTrailingZeros_0f7a4_17 (by decide) ?_
    refine lv_istore_n (lv' := [(1, .int (1 : Int32)), (0, .int ((a0 ^^^ (-1 : Int32)) &&& (a0 - (1 : Int32))))]) hx hb d_J6_numberOfTrailingZeros_0f7a4_18 rfl hl (Nat.le_of_ble_eq_true rfl) rfl (fun ls hl => ?_)
    refine lv_iload_n hx hb d_J6_numberOfTrailingZeros_0f7a4_19 rfl (lv_at hl 1 rfl) ?_
    refine r_ldcw X wd_1441 d_J6_numberOfTrailingZeros_0f7a4_20 ?_
    refine lv_icmp_le (tgt := 34) hx hb d_J6_numberOfTrailingZeros_0f7a4_23 (by decide) (fun hc => ?_) (fun hc => ?_)
    · simp only [if_pos hc] at h
      exact j34 ((a0 ^^^ (-1 : Int32)) &&& (a0 - (1 : Int32))) (1 : Int32) h _ _ _ hw (lv_sub hl [1, 0] rfl)
    · simp only [if_neg hc] at h
      refine lv_iinc (v := ((1 : Int32) + (16 : Int32))) (k := 0) (lv' := [(1, .int ((1 : Int32) + (16 : Int32))), (0, .int ((a0 ^^^ (-1 : Int32)) &&& (a0 - (1 : Int32))))]) hx hb d_J6_numberOfTrailingZeros_0f7a4_26 hl rfl (by rfl) (Nat.le_of_ble_eq_true rfl) rfl (fun ls hl => ?_)
      refine lv_iload_n hx hb d_J6_numberOfTrailingZeros_0f7a4_29 rfl (lv_at hl 1 rfl) ?_
      refine lv_bipush (v := (16 : Int32)) hx hb d_J6_numberOfTrailingZeros_0f7a4_30 (by decide) ?_
      refine lv_iushr hx hb d_J6_numberOfTrailingZeros_0f7a4_32 rfl ?_
      refine lv_istore_n (lv' := [(0, .int (((a0 ^^^ (-1 : Int32)) &&& (a0 - (1 : Int32))).toUInt32 >>> ((16 : Int32).toUInt32 &&& Int32.toUInt32 31)).toInt32), (1, .int ((1 : Int32) + (16 : Int32)))]) hx hb d_J6_numberOfTrailingZeros_0f7a4_33 rfl hl (Nat.le_of_ble_eq_true rfl) rfl (fun ls hl => ?_)
      exact j34 (((a0 ^^^ (-1 : Int32)) &&& (a0 - (1 : Int32))).toUInt32 >>> ((16 : Int32).toUInt32 &&& Int32.toUInt32 31)).toInt32 ((1 : Int32) + (16 : Int32)) h _ _ _ hw (lv_sub hl [0, 1] rfl)
  · have h := ite_f h hc
    refine lv_iload_n hx hb d_J6_numberOfTrailingZeros_0f7a4_12 rfl (lv_at hl 0 rfl) ?_
    refine lv_bipush (v := (32 : Int32)) hx hb d_J6_numberOfTrailingZeros_0f7a4_13 (by decide) ?_
    refine lv_iand hx hb d_J6_numberOfTrailingZeros_0f7a4_15 ?_
    obtain rfl := Option.some.inj h
    subst hQ
    exact r_iret X hr hlk hw d_J6_numberOfTrailingZeros_0f7a4_16
abbrev yJ6_numberOfLeadingZeros_0f7a4 : MethodName := ⟨"java/lang/Integer", "numberOfLeadingZeros", "(I)I"⟩
theorem mwJ6_numberOfLeadingZeros_0f7a4 : MW yJ6_numberOfLeadingZeros_0f7a4 prog_19_method_47_code 2 (some .int) 1 := ⟨wd_1526, wd_19, by decide +kernel⟩
theorem d_J6_numberOfLeadingZeros_0f7a4_0 : decode prog_19_method_47_code 0 = .ok (.iload_n 0, 1) := by decide +kernel
theorem d_J6_numberOfLeadingZeros_0f7a4_1 : decode prog_19_method_47_code 1 = .ok (.ifCond .gt 14, 3) := by decide +kernel
theorem d_J6_numberOfLeadingZeros_0f7a4_4 : decode prog_19_method_47_code 4 = .ok (.iload_n 0, 1) := by decide +kernel
theorem d_J6_numberOfLeadingZeros_0f7a4_5 : decode prog_19_method_47_code 5 = .ok (.ifCond .ne 8, 3) := by decide +kernel
theorem d_J6_numberOfLeadingZeros_0f7a4_8 : decode prog_19_method_47_code 8 = .ok (.bipush 32, 2) := by decide +kernel
theorem d_J6_numberOfLeadingZeros_0f7a4_10 : decode prog_19_method_47_code 10 = .ok (.goto 4, 3) := by decide +kernel
theorem d_J6_numberOfLeadingZeros_0f7a4_13 : decode prog_19_method_47_code 13 = .ok (.iconst 0, 1) := by decide +kernel
theorem d_J6_numberOfLeadingZeros_0f7a4_14 : decode prog_19_method_47_code 14 = .ok (.ireturn, 1) := by decide +kernel
theorem d_J6_numberOfLeadingZeros_0f7a4_15 : decode prog_19_method_47_code 15 = .ok (.bipush 31, 2) := by decide +kernel
theorem d_J6_numberOfLeadingZeros_0f7a4_17 : decode prog_19_method_47_code 17 = .ok (.istore_n 1, 1) := by decide +kernel
theorem d_J6_numberOfLeadingZeros_0f7a4_18 : decode prog_19_method_47_code 18 = .ok (.iload_n 0, 1) := by decide +kernel
theorem d_J6_numberOfLeadingZeros_0f7a4_19 : decode prog_19_method_47_code 19 = .ok (.ldc_w 264, 3) := by decide +kernel
theorem d_J6_numberOfLeadingZeros_0f7a4_22 : decode prog_19_method_47_code 22 = .ok (.if_icmp .lt 11, 3) := by decide +kernel
theorem d_J6_numberOfLeadingZeros_0f7a4_25 : decode prog_19_method_47_code 25 = .ok (.iinc 1 (-16), 3) := by decide +kernel
theorem d_J6_numberOfLeadingZeros_0f7a4_28 : decode prog_19_method_47_code 28 = .ok (.iload_n 0, 1) := by decide +kernel
theorem d_J6_numberOfLeadingZeros_0f7a4_29 : decode prog_19_method_47_code 29 = .ok (.bipush 16, 2) := by decide +kernel
theorem d_J6_numberOfLeadingZeros_0f7a4_31 : decode prog_19_method_47_code 31 = .ok (.iushr, 1) := by decide +kernel
theorem d_J6_numberOfLeadingZeros_0f7a4_32 : decode prog_19_method_47_code 32 = .ok (.istore_n 0, 1) := by decide +kernel
theorem d_J6_numberOfLeadingZeros_0f7a4_33 : decode prog_19_method_47_code 33 = .ok (.iload_n 0, 1) := by decide +kernel
theorem d_J6_numberOfLeadingZeros_0f7a4_34 : decode prog_19_method_47_code 34 = .ok (.sipush 256, 3) := by decide +kernel
theorem d_J6_numberOfLeadingZeros_0f7a4_37 : decode prog_19_method_47_code 37 = .ok (.if_icmp .lt 11, 3) := by decide +kernel
theorem d_J6_numberOfLeadingZeros_0f7a4_40 : decode prog_19_method_47_code 40 = .ok (.iinc 1 (-8), 3) := by decide +kernel
theorem d_J6_numberOfLeadingZeros_0f7a4_43 : decode prog_19_method_47_code 43 = .ok (.iload_n 0, 1) := by decide +kernel
theorem d_J6_numberOfLeadingZeros_0f7a4_44 : decode prog_19_method_47_code 44 = .ok (.bipush 8, 2) := by decide +kernel
theorem d_J6_numberOfLeadingZeros_0f7a4_46 : decode prog_19_method_47_code 46 = .ok (.iushr, 1) := by decide +kernel
theorem d_J6_numberOfLeadingZeros_0f7a4_47 : decode prog_19_method_47_code 47 = .ok (.istore_n 0, 1) := by decide +kernel
theorem d_J6_numberOfLeadingZeros_0f7a4_48 : decode prog_19_method_47_code 48 = .ok (.iload_n 0, 1) := by decide +kernel
theorem d_J6_numberOfLeadingZeros_0f7a4_49 : decode prog_19_method_47_code 49 = .ok (.bipush 16, 2) := by decide +kernel
theorem d_J6_numberOfLeadingZeros_0f7a4_51 : decode prog_19_method_47_code 51 = .ok (.if_icmp .lt 10, 3) := by decide +kernel
theorem d_J6_numberOfLeadingZeros_0f7a4_54 : decode prog_19_method_47_code 54 = .ok (.iinc 1 (-4), 3) := by decide +kernel
theorem d_J6_numberOfLeadingZeros_0f7a4_57 : decode prog_19_method_47_code 57 = .ok (.iload_n 0, 1) := by decide +kernel
theorem d_J6_numberOfLeadingZeros_0f7a4_58 : decode prog_19_method_47_code 58 = .ok (.iconst 4, 1) := by decide +kernel
theorem d_J6_numberOfLeadingZeros_0f7a4_59 : decode prog_19_method_47_code 59 = .ok (.iushr, 1) := by decide +kernel
theorem d_J6_numberOfLeadingZeros_0f7a4_60 : decode prog_19_method_47_code 60 = .ok (.istore_n 0, 1) := by decide +kernel
theorem d_J6_numberOfLeadingZeros_0f7a4_61 : decode prog_19_method_47_code 61 = .ok (.iload_n 0, 1) := by decide +kernel
theorem d_J6_numberOfLeadingZeros_0f7a4_62 : decode prog_19_method_47_code 62 = .ok (.iconst 4, 1) := by decide +kernel
theorem d_J6_numberOfLeadingZeros_0f7a4_63 : decode prog_19_method_47_code 63 = .ok (.if_icmp .lt 10, 3) := by decide +kernel
theorem d_J6_numberOfLeadingZeros_0f7a4_66 : decode prog_19_method_47_code 66 = .ok (.iinc 1 (-2), 3) := by decide +kernel
theorem d_J6_numberOfLeadingZeros_0f7a4_69 : decode prog_19_method_47_code 69 = .ok (.iload_n 0, 1) := by decide +kernel
theorem d_J6_numberOfLeadingZeros_0f7a4_70 : decode prog_19_method_47_code 70 = .ok (.iconst 2, 1) := by decide +kernel
theorem d_J6_numberOfLeadingZeros_0f7a4_71 : decode prog_19_method_47_code 71 = .ok (.iushr, 1) := by decide +kernel
theorem d_J6_numberOfLeadingZeros_0f7a4_72 : decode prog_19_method_47_code 72 = .ok (.istore_n 0, 1) := by decide +kernel
theorem d_J6_numberOfLeadingZeros_0f7a4_73 : decode prog_19_method_47_code 73 = .ok (.iload_n 1, 1) := by decide +kernel
theorem d_J6_numberOfLeadingZeros_0f7a4_74 : decode prog_19_method_47_code 74 = .ok (.iload_n 0, 1) := by decide +kernel
theorem d_J6_numberOfLeadingZeros_0f7a4_75 : decode prog_19_method_47_code 75 = .ok (.iconst 1, 1) := by decide +kernel
theorem d_J6_numberOfLeadingZeros_0f7a4_76 : decode prog_19_method_47_code 76 = .ok (.iushr, 1) := by decide +kernel
theorem d_J6_numberOfLeadingZeros_0f7a4_77 : decode prog_19_method_47_code 77 = .ok (.isub, 1) := by decide +kernel
theorem d_J6_numberOfLeadingZeros_0f7a4_78 : decode prog_19_method_47_code 78 = .ok (.ireturn, 1) := by decide +kernel
def f_J6_numberOfLeadingZeros_0f7a4_j73 (x0 : Int32) (x1 : Int32) : Option (Int32) := some (x1 - (x0.toUInt32 >>> ((1 : Int32).toUInt32 &&& Int32.toUInt32 31)).toInt32)
def f_J6_numberOfLeadingZeros_0f7a4_j61 (x0 : Int32) (x1 : Int32) : Option (Int32) := f_J6_numberOfLeadingZeros_0f7a4_j73 (if x0 < (4 : Int32) then x0 else (x0.toUInt32 >>> ((2 : Int32).toUInt32 &&& Int32.toUInt32 31)).toInt32) (if x0 < (4 : Int32) then x1 else (x1 + (-2 : Int32)))
def f_J6_numberOfLeadingZeros_0f7a4_j48 (x0 : Int32) (x1 : Int32) : Option (Int32) := f_J6_numberOfLeadingZeros_0f7a4_j61 (if x0 < (16 : Int32) then x0 else (x0.toUInt32 >>> ((4 : Int32).toUInt32 &&& Int32.toUInt32 31)).toInt32) (if x0 < (16 : Int32) then x1 else (x1 + (-4 : Int32)))
def f_J6_numberOfLeadingZeros_0f7a4_j33 (x0 : Int32) (x1 : Int32) : Option (Int32) := f_J6_numberOfLeadingZeros_0f7a4_j48 (if x0 < (256 : Int32) then x0 else (x0.toUInt32 >>> ((8 : Int32).toUInt32 &&& Int32.toUInt32 31)).toInt32) (if x0 < (256 : Int32) then x1 else (x1 + (-8 : Int32)))
def f_J6_numberOfLeadingZeros_0f7a4 (a0 : Int32) : Option (Int32) := (if 0 < a0 then f_J6_numberOfLeadingZeros_0f7a4_j33 (if a0 < (65536 : Int32) then a0 else (a0.toUInt32 >>> ((16 : Int32).toUInt32 &&& Int32.toUInt32 31)).toInt32) (if a0 < (65536 : Int32) then (31 : Int32) else ((31 : Int32) + (-16 : Int32))) else some (if a0 = 0 then (32 : Int32) else (0 : Int32)))
theorem c_J6_numberOfLeadingZeros_0f7a4 {l : Launch} {G : gT} {χ σ : St} {a0 : Int32} {q : Int32} (h : f_J6_numberOfLeadingZeros_0f7a4 a0 = some q) : Ct l G yJ6_numberOfLeadingZeros_0f7a4 prog_19_method_47_code 2 (some .int) 0 0 [.int a0] χ σ (some (.int q)) χ σ := by
  refine Ct.of (by decide) (Nat.le_of_ble_eq_true rfl) ?_
  intro p e s m args below meth c Q X hr hlk hQ
  have hx := X.1
  have hb := X.2.1
  have j73 : ∀ (x0 : Int32) (x1 : Int32), f_J6_numberOfLeadingZeros_0f7a4_j73 x0 x1 = some q → Wat p l e (rmk 0 0) s m args below meth c Q G 2 73 [] [(0, .int x0), (1, .int x1)] χ σ := by
    intro x0 x1 h H locs ls hw hl
    unfold f_J6_numberOfLeadingZeros_0f7a4_j73 at h
    refine lv_iload_n hx hb d_J6_numberOfLeadingZeros_0f7a4_73 rfl (lv_at hl 1 rfl) ?_
    refine lv_iload_n hx hb d_J6_numberOfLeadingZeros_0f7a4_74 rfl (lv_at hl 0 rfl) ?_
    refine lv_iconst (v := (1 : Int32)) hx hb d_J6_numberOfLeadingZeros_0f7a4_75 (by decide) ?_
    refine lv_iushr hx hb d_J6_numberOfLeadingZeros_0f7a4_76 rfl ?_
    refine lv_isub hx hb d_J6_numberOfLeadingZeros_0f7a4_77 ?_
    obtain rfl := Option.some.inj h
    subst hQ
    exact r_iret X hr hlk hw d_J6_numberOfLeadingZeros_0f7a4_78
  have j61 : ∀ (x0 : Int32) (x1 : Int32), f_J6_numberOfLeadingZeros_0f7a4_j61 x0 x1 = some q → Wat p l e (rmk 0 0) s m args below meth c Q G 2 61 [] [(0, .int x0), (1, .int x1)] χ σ := by
    intro x0 x1 h H locs ls hw hl
    unfold f_J6_numberOfLeadingZeros_0f7a4_j61 at h
    refine lv_iload_n hx hb d_J6_numberOfLeadingZeros_0f7a4_61 rfl (lv_at hl 0 rfl) ?_
    refine lv_iconst (v := (4 : Int32)) hx hb d_J6_numberOfLeadingZeros_0f7a4_62 (by decide) ?_
    refine lv_icmp_lt (tgt := 73) hx hb d_J6_numberOfLeadingZeros_0f7a4_63 (by decide) (fun hc => ?_) (fun hc => ?_)
    · simp only [if_pos hc] at h
      exact j73 x0 x1 h _ _ _ hw (lv_sub hl [0, 1] rfl)
    · simp only [if_neg hc] at h
      refine lv_iinc (v := (x1 + (-2 : Int32))) (k := 1) (lv' := [(1, .int (x1 + (-2 : Int32))), (0, .int x0)]) hx hb d_J6_numberOfLeadingZeros_0f7a4_66 hl rfl (by rfl) (Nat.le_of_ble_eq_true rfl) rfl (fun ls hl => ?_)
      refine lv_iload_n hx hb d_J6_numberOfLeadingZeros_0f7a4_69 rfl (lv_at hl 1 rfl) ?_
      refine lv_iconst (v := (2 : Int32)) hx hb d_J6_numberOfLeadingZeros_0f7a4_70 (by decide) ?_
      refine lv_iushr hx hb d_J6_numberOfLeadingZeros_0f7a4_71 rfl ?_
      refine lv_istore_n (lv' := [(0, .int (x0.toUInt32 >>> ((2 : Int32).toUInt32 &&& Int32.toUInt32 31)).toInt32), (1, .int (x1 + (-2 : Int32)))]) hx hb d_J6_numberOfLeadingZeros_0f7a4_72 rfl hl (Nat.le_of_ble_eq_true rfl) rfl (fun ls hl => ?_)
      exact j73 (x0.toUInt32 >>> ((2 : Int32).toUInt32 &&& Int32.toUInt32 31)).toInt32 (x1 + (-2 : Int32)) h _ _ _ hw (lv_sub hl [0, 1] rfl)
  have j48 : ∀ (x0 : Int32) (x1 : Int32), f_J6_numberOfLeadingZeros_0f7a4_j48 x0 x1 = some q → Wat p l e (rmk 0 0) s m args below meth c Q G 2 48 [] [(0, .int x0), (1, .int x1)] χ σ := by
    intro x0 x1 h H locs ls hw hl
    unfold f_J6_numberOfLeadingZeros_0f7a4_j48 at h
    refine lv_iload_n hx hb d_J6_numberOfLeadingZeros_0f7a4_48 rfl (lv_at hl 0 rfl) ?_
    refine lv_bipush (v := (16 : Int32)) hx hb d_J6_numberOfLeadingZeros_0f7a4_49 (by decide) ?_
    refine lv_icmp_lt (tgt := 61) hx hb d_J6_numberOfLeadingZeros_0f7a4_51 (by decide) (fun hc => ?_) (fun hc => ?_)
    · simp only [if_pos hc] at h
      exact j61 x0 x1 h _ _ _ hw (lv_sub hl [0, 1] rfl)
    · simp only [if_neg hc] at h
      refine lv_iinc (v := (x1 + (-4 : Int32))) (k := 1) (lv' := [(1, .int (x1 + (-4 : Int32))), (0, .int x0)]) hx hb d_J6_numberOfLeadingZeros_0f7a4_54 hl rfl (by rfl) (Nat.le_of_ble_eq_true rfl) rfl (fun ls hl => ?_)
      refine lv_iload_n hx hb d_J6_numberOfLeadingZeros_0f7a4_57 rfl (lv_at hl 1 rfl) ?_
      refine lv_iconst (v := (4 : Int32)) hx hb d_J6_numberOfLeadingZeros_0f7a4_58 (by decide) ?_
      refine lv_iushr hx hb d_J6_numberOfLeadingZeros_0f7a4_59 rfl ?_
      refine lv_istore_n (lv' := [(0, .int (x0.toUInt32 >>> ((4 : Int32).toUInt32 &&& Int32.toUInt32 31)).toInt32), (1, .int (x1 + (-4 : Int32)))]) hx hb d_J6_numberOfLeadingZeros_0f7a4_60 rfl hl (Nat.le_of_ble_eq_true rfl) rfl (fun ls hl => ?_)
      exact j61 (x0.toUInt32 >>> ((4 : Int32).toUInt32 &&& Int32.toUInt32 31)).toInt32 (x1 + (-4 : Int32)) h _ _ _ hw (lv_sub hl [0, 1] rfl)
  have j33 : ∀ (x0 : Int32) (x1 : Int32), f_J6_numberOfLeadingZeros_0f7a4_j33 x0 x1 = some q → Wat p l e (rmk 0 0) s m args below meth c Q G 2 33 [] [(0, .int x0), (1, .int x1)] χ σ := by
    intro x0 x1 h H locs ls hw hl
    unfold f_J6_numberOfLeadingZeros_0f7a4_j33 at h
    refine lv_iload_n hx hb d_J6_numberOfLeadingZeros_0f7a4_33 rfl (lv_at hl 0 rfl) ?_
    refine lv_sipush (v := (256 : Int32)) hx hb d_J6_numberOfLeadingZeros_0f7a4_34 (by decide) ?_
    refine lv_icmp_lt (tgt := 48) hx hb d_J6_numberOfLeadingZeros_0f7a4_37 (by decide) (fun hc => ?_) (fun hc => ?_)
    · simp only [if_pos hc] at h
      exact j48 x0 x1 h _ _ _ hw (lv_sub hl [0, 1] rfl)
    · simp only [if_neg hc] at h
      refine lv_iinc (v := (x1 + (-8 : Int32))) (k := 1) (lv' := [(1, .int (x1 + (-8 : Int32))), (0, .int x0)]) hx hb d_J6_numberOfLeadingZeros_0f7a4_40 hl rfl (by rfl) (Nat.le_of_ble_eq_true rfl) rfl (fun ls hl => ?_)
      refine lv_iload_n hx hb d_J6_numberOfLeadingZeros_0f7a4_43 rfl (lv_at hl 1 rfl) ?_
      refine lv_bipush (v := (8 : Int32)) hx hb d_J6_numberOfLeadingZeros_0f7a4_44 (by decide) ?_
      refine lv_iushr hx hb d_J6_numberOfLeadingZeros_0f7a4_46 rfl ?_
      refine lv_istore_n (lv' := [(0, .int (x0.toUInt32 >>> ((8 : Int32).toUInt32 &&& Int32.toUInt32 31)).toInt32), (1, .int (x1 + (-8 : Int32)))]) hx hb d_J6_numberOfLeadingZeros_0f7a4_47 rfl hl (Nat.le_of_ble_eq_true rfl) rfl (fun ls hl => ?_)
      exact j48 (x0.toUInt32 >>> ((8 : Int32).toUInt32 &&& Int32.toUInt32 31)).toInt32 (x1 + (-8 : Int32)) h _ _ _ hw (lv_sub hl [0, 1] rfl)
  intro H locs ls hw hl
  have hl : lv_has ls 2 [(0, .int a0)] := hl
  unfold f_J6_numberOfLeadingZeros_0f7a4 at h
  refine lv_iload_n hx hb d_J6_numberOfLeadingZeros_0f7a4_0 rfl (lv_at hl 0 rfl) ?_
  refine lv_if_gt (tgt := 15) hx hb d_J6_numberOfLeadingZeros_0f7a4_1 (by decide) (fun hc => ?_) (fun hc => ?_)
  · have h := ite_t h hc
    refine lv_bipush (v := (31 : Int32)) hx hb d_J6_numberOfLeadingZeros_0f7a4_15 (by decide) ?_
    refine lv_istore_n (lv' := [(1, .int (31 : Int32)), (0, .int a0)]) hx hb d_J6_numberOfLeadingZeros_0f7a4_17 rfl hl (Nat.le_of_ble_eq_true rfl) rfl (fun ls hl => ?_)
    refine lv_iload_n hx hb d_J6_numberOfLeadingZeros_0f7a4_18 rfl (lv_at hl 1 rfl) ?_
    refine r_ldcw X wd_1441 d_J6_numberOfLeadingZeros_0f7a4_19 ?_
    refine lv_icmp_lt (tgt := 33) hx hb d_J6_numberOfLeadingZeros_0f7a4_22 (by decide) (fun hc => ?_) (fun hc => ?_)
    · simp only [if_pos hc] at h
      exact j33 a0 (31 : Int32) h _ _ _ hw (lv_sub hl [1, 0] rfl)
    · simp only [if_neg hc] at h
      refine lv_iinc (v := ((31 : Int32) + (-16 : Int32))) (k := 0) (lv' := [(1, .int ((31 : Int32) + (-16 : Int32))), (0, .int a0)]) hx hb d_J6_numberOfLeadingZeros_0f7a4_25 hl rfl (by rfl) (Nat.le_of_ble_eq_true rfl) rfl (fun ls hl => ?_)
      refine lv_iload_n hx hb d_J6_numberOfLeadingZeros_0f7a4_28 rfl (lv_at hl 1 rfl) ?_
      refine lv_bipush (v := (16 : Int32)) hx hb d_J6_numberOfLeadingZeros_0f7a4_29 (by decide) ?_
      refine lv_iushr hx hb d_J6_numberOfLeadingZeros_0f7a4_31 rfl ?_
      refine lv_istore_n (lv' := [(0, .int (a0.toUInt32 >>> ((16 : Int32).toUInt32 &&& Int32.toUInt32 31)).toInt32), (1, .int ((31 : Int32) + (-16 : Int32)))]) hx hb d_J6_numberOfLeadingZeros_0f7a4_32 rfl hl (Nat.le_of_ble_eq_true rfl) rfl (fun ls hl => ?_)
      exact j33 (a0.toUInt32 >>> ((16 : Int32).toUInt32 &&& Int32.toUInt32 31)).toInt32 ((31 : Int32) + (-16 : Int32)) h _ _ _ hw (lv_sub hl [0, 1] rfl)
  · have h := ite_f h hc
    refine lv_iload_n hx hb d_J6_numberOfLeadingZeros_0f7a4_4 rfl (lv_at hl 0 rfl) ?_
    refine lv_if_ne (tgt := 13) hx hb d_J6_numberOfLeadingZeros_0f7a4_5 (by decide) (fun hc => ?_) (fun hc => ?_)
    · simp only [if_neg hc] at h
      refine lv_iconst (v := (0 : Int32)) hx hb d_J6_numberOfLeadingZeros_0f7a4_13 (by decide) ?_
      obtain rfl := Option.some.inj h
      subst hQ
      exact r_iret X hr hlk hw d_J6_numberOfLeadingZeros_0f7a4_14
    · simp only [if_pos hc] at h
      refine lv_bipush (v := (32 : Int32)) hx hb d_J6_numberOfLeadingZeros_0f7a4_8 (by decide) ?_
      refine lv_goto (tgt := 14) hx hb d_J6_numberOfLeadingZeros_0f7a4_10 (by decide) ?_
      obtain rfl := Option.some.inj h
      subst hQ
      exact r_iret X hr hlk hw d_J6_numberOfLeadingZeros_0f7a4_14
