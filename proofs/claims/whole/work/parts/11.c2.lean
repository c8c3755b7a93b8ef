abbrev yX11_puts : MethodName := ⟨"OysterBeds", "puts", "(II)I"⟩
theorem mwX11_puts : MW yX11_puts prog_1_method_8_code 4 (some .int) 2 := ⟨wd_380, wd_1, by decide +kernel⟩
theorem d_X11_puts_0 : decode prog_1_method_8_code 0 = .ok (.iload_n 1, 1) := by decide +kernel
theorem d_X11_puts_1 : decode prog_1_method_8_code 1 = .ok (.iload_n 2, 1) := by decide +kernel
theorem d_X11_puts_2 : decode prog_1_method_8_code 2 = .ok (.invokestatic 144, 3) := by decide +kernel
theorem d_X11_puts_5 : decode prog_1_method_8_code 5 = .ok (.ifCond .ne 5, 3) := by decide +kernel
theorem d_X11_puts_8 : decode prog_1_method_8_code 8 = .ok (.iconst (-1), 1) := by decide +kernel
theorem d_X11_puts_9 : decode prog_1_method_8_code 9 = .ok (.ireturn, 1) := by decide +kernel
theorem d_X11_puts_10 : decode prog_1_method_8_code 10 = .ok (.aload_n 0, 1) := by decide +kernel
theorem d_X11_puts_11 : decode prog_1_method_8_code 11 = .ok (.getfield 36, 3) := by decide +kernel
theorem d_X11_puts_14 : decode prog_1_method_8_code 14 = .ok (.aload_n 0, 1) := by decide +kernel
theorem d_X11_puts_15 : decode prog_1_method_8_code 15 = .ok (.getfield 26, 3) := by decide +kernel
theorem d_X11_puts_18 : decode prog_1_method_8_code 18 = .ok (.invokevirtual 148, 3) := by decide +kernel
theorem d_X11_puts_21 : decode prog_1_method_8_code 21 = .ok (.aload_n 0, 1) := by decide +kernel
theorem d_X11_puts_22 : decode prog_1_method_8_code 22 = .ok (.getfield 26, 3) := by decide +kernel
theorem d_X11_puts_25 : decode prog_1_method_8_code 25 = .ok (.aload_n 0, 1) := by decide +kernel
theorem d_X11_puts_26 : decode prog_1_method_8_code 26 = .ok (.getfield 57, 3) := by decide +kernel
theorem d_X11_puts_29 : decode prog_1_method_8_code 29 = .ok (.iload_n 1, 1) := by decide +kernel
theorem d_X11_puts_30 : decode prog_1_method_8_code 30 = .ok (.iload_n 2, 1) := by decide +kernel
theorem d_X11_puts_31 : decode prog_1_method_8_code 31 = .ok (.invokevirtual 152, 3) := by decide +kernel
theorem d_X11_puts_34 : decode prog_1_method_8_code 34 = .ok (.istore_n 3, 1) := by decide +kernel
theorem d_X11_puts_35 : decode prog_1_method_8_code 35 = .ok (.aload_n 0, 1) := by decide +kernel
theorem d_X11_puts_36 : decode prog_1_method_8_code 36 = .ok (.getfield 19, 3) := by decide +kernel
theorem d_X11_puts_39 : decode prog_1_method_8_code 39 = .ok (.invokevirtual 156, 3) := by decide +kernel
theorem d_X11_puts_42 : decode prog_1_method_8_code 42 = .ok (.aload_n 0, 1) := by decide +kernel
theorem d_X11_puts_43 : decode prog_1_method_8_code 43 = .ok (.getfield 19, 3) := by decide +kernel
theorem d_X11_puts_46 : decode prog_1_method_8_code 46 = .ok (.iload_n 3, 1) := by decide +kernel
theorem d_X11_puts_47 : decode prog_1_method_8_code 47 = .ok (.i2l, 1) := by decide +kernel
theorem d_X11_puts_48 : decode prog_1_method_8_code 48 = .ok (.invokevirtual 159, 3) := by decide +kernel
theorem d_X11_puts_51 : decode prog_1_method_8_code 51 = .ok (.aload_n 0, 1) := by decide +kernel
theorem d_X11_puts_52 : decode prog_1_method_8_code 52 = .ok (.getfield 19, 3) := by decide +kernel
theorem d_X11_puts_55 : decode prog_1_method_8_code 55 = .ok (.aload_n 0, 1) := by decide +kernel
theorem d_X11_puts_56 : decode prog_1_method_8_code 56 = .ok (.getfield 26, 3) := by decide +kernel
theorem d_X11_puts_59 : decode prog_1_method_8_code 59 = .ok (.invokevirtual 163, 3) := by decide +kernel
theorem d_X11_puts_62 : decode prog_1_method_8_code 62 = .ok (.i2l, 1) := by decide +kernel
theorem d_X11_puts_63 : decode prog_1_method_8_code 63 = .ok (.invokevirtual 159, 3) := by decide +kernel
theorem d_X11_puts_66 : decode prog_1_method_8_code 66 = .ok (.iload_n 3, 1) := by decide +kernel
theorem d_X11_puts_67 : decode prog_1_method_8_code 67 = .ok (.invokestatic 166, 3) := by decide +kernel
theorem d_X11_puts_70 : decode prog_1_method_8_code 70 = .ok (.ireturn, 1) := by decide +kernel
def f_X11_puts (χ : St) (a1 : Int32) (a2 : Int32) : Option (Int32 × St) := (f_X11_isQuestion a1 a2).bind (fun q1 => (if q1 = 0 then some ((-1 : Int32), χ) else (f_X6_push χ 32).bind (fun q3 => gd (isLaw (cW q3).1) ((f_X0_ask q3 32 (cW q3).1 a1 a2).bind (fun q6 => (f_X9_start q6.2).bind (fun q8 => (f_X9_add q8 (q6.1).toInt64).bind (fun q10 => (f_X0_openOnes q10 32).bind (fun q12 => (f_X9_add q10 q12.toInt64).bind (fun q14 => (f_J6_bitCount_0f7a4 q6.1).bind (fun q16 => some (q16, q14)))))))))))
theorem c_X11_puts {l : Launch} {G : gT} {χ σ : St} {a1 : Int32} {a2 : Int32} (hf : FW G) {q : Int32 × St} (h : f_X11_puts χ a1 a2 = some q) : Ct l G yX11_puts prog_1_method_8_code 4 (some .int) 5 124 [.ref (ga G 0), .int a1, .int a2] χ σ (some (.int q.1)) q.2 σ := by
  refine Ct.of (by decide) (Nat.le_of_ble_eq_true rfl) ?_
  intro p e s m args below meth c Q X hr hlk hQ
  have hx := X.1
  have hb := X.2.1
  intro H locs ls hw hl
  have hl : lv_has ls 4 [(0, .ref (ga G 0)), (1, .int a1), (2, .int a2)] := hl
  unfold f_X11_puts at h
  refine lv_iload_n hx hb d_X11_puts_0 rfl (lv_at hl 1 rfl) ?_
  refine lv_iload_n hx hb d_X11_puts_1 rfl (lv_at hl 2 rfl) ?_
  obtain ⟨q1, e2, h⟩ := bd_some h
  refine r_callS (As := [.int a1, .int a2]) (rest := []) (st' := [.int q1]) X hw hl mwX11_isQuestion wd_382 wd_381 (c_X11_isQuestion hf e2) rfl ⟨Nat.le_of_ble_eq_true rfl, Nat.le_of_ble_eq_true rfl⟩ ⟨Nat.le_refl _, Nat.le_refl _⟩ rfl rfl (Nat.le_of_ble_eq_true rfl) d_X11_puts_2 (fun H locs hw => ?_)
  refine lv_if_ne (tgt := 10) hx hb d_X11_puts_5 (by decide) (fun hc => ?_) (fun hc => ?_)
  · have h := ite_f h hc
    refine lv_aload_n hx hb d_X11_puts_10 rfl (lv_at hl 0 rfl) ?_
    refine r_getr (j := 4) X hw ct7 (o_0 hf) rfl (Nat.le_of_ble_eq_true rfl) (q := 5) rfl wd_268 d_X11_puts_11 ?_
    refine lv_aload_n hx hb d_X11_puts_14 rfl (lv_at hl 0 rfl) ?_
    refine r_getr (j := 2) X hw ct7 (o_0 hf) rfl (Nat.le_of_ble_eq_true rfl) (q := 32) rfl wd_266 d_X11_puts_15 ?_
    obtain ⟨q3, e4, h⟩ := bd_some h
    refine r_callV (As := [.ref (ga G 32)]) (rest := []) (st' := []) X hw hl mwX6_push wd_385 wd_386 wd_384 (c_X6_push hf b_32 e4) (r_recv X hw ct3 (o_5 hf)) rfl ⟨Nat.le_of_ble_eq_true rfl, Nat.le_of_ble_eq_true rfl⟩ ⟨Nat.le_refl _, Nat.le_refl _⟩ rfl rfl (Nat.le_of_ble_eq_true rfl) d_X11_puts_18 (fun H locs hw => ?_)
    refine lv_aload_n hx hb d_X11_puts_21 rfl (lv_at hl 0 rfl) ?_
    refine r_getr (j := 2) X hw ct7 (o_0 hf) rfl (Nat.le_of_ble_eq_true rfl) (q := 32) rfl wd_266 d_X11_puts_22 ?_
    refine lv_aload_n hx hb d_X11_puts_25 rfl (lv_at hl 0 rfl) ?_
    obtain ⟨hw5, h⟩ := gd_some h
    refine r_getr (j := 7) X hw ct7 (o_0 hf) rfl (Nat.le_of_ble_eq_true rfl) (q := (cW q3).1) rfl wd_271 d_X11_puts_26 ?_
    refine lv_iload_n hx hb d_X11_puts_29 rfl (lv_at hl 1 rfl) ?_
    refine lv_iload_n hx hb d_X11_puts_30 rfl (lv_at hl 2 rfl) ?_
    obtain ⟨q6, e7, h⟩ := bd_some h
    refine r_callV (As := [.ref (ga G (cW q3).1), .int a1, .int a2]) (rest := []) (st' := [.int q6.1]) X hw hl mwX0_ask wd_394 wd_395 wd_393 (c_X0_ask hf b_32 (LW.of hf hw5) e7) (r_recv X hw ct0 (o_32 hf)) rfl ⟨Nat.le_of_ble_eq_true rfl, Nat.le_of_ble_eq_true rfl⟩ ⟨Nat.le_refl _, Nat.le_refl _⟩ rfl rfl (Nat.le_of_ble_eq_true rfl) d_X11_puts_31 (fun H locs hw => ?_)
    refine lv_istore_n (lv' := [(3, .int q6.1), (0, .ref (ga G 0)), (1, .int a1), (2, .int a2)]) hx hb d_X11_puts_34 rfl hl (Nat.le_of_ble_eq_true rfl) rfl (fun ls hl => ?_)
    refine lv_aload_n hx hb d_X11_puts_35 rfl (lv_at hl 1 rfl) ?_
    refine r_getr (j := 1) X hw ct7 (o_0 hf) rfl (Nat.le_of_ble_eq_true rfl) (q := 3) rfl wd_265 d_X11_puts_36 ?_
    obtain ⟨q8, e9, h⟩ := bd_some h
    refine r_callV (As := []) (rest := []) (st' := []) X hw hl mwX9_start wd_420 wd_421 wd_419 (c_X9_start hf e9) (r_recv X hw ct6 (o_3 hf)) rfl ⟨Nat.le_of_ble_eq_true rfl, Nat.le_of_ble_eq_true rfl⟩ ⟨Nat.le_refl _, Nat.le_refl _⟩ rfl rfl (Nat.le_of_ble_eq_true rfl) d_X11_puts_39 (fun H locs hw => ?_)
    refine lv_aload_n hx hb d_X11_puts_42 rfl (lv_at hl 1 rfl) ?_
    refine r_getr (j := 1) X hw ct7 (o_0 hf) rfl (Nat.le_of_ble_eq_true rfl) (q := 3) rfl wd_265 d_X11_puts_43 ?_
    refine lv_iload_n hx hb d_X11_puts_46 rfl (lv_at hl 0 rfl) ?_
    refine lv_i2l hx hb d_X11_puts_47 rfl ?_
    obtain ⟨q10, e11, h⟩ := bd_some h
    refine r_callV (As := [.long (q6.1).toInt64]) (rest := []) (st' := []) X hw hl mwX9_add wd_424 wd_425 wd_423 (c_X9_add hf e11) (r_recv X hw ct6 (o_3 hf)) rfl ⟨Nat.le_of_ble_eq_true rfl, Nat.le_of_ble_eq_true rfl⟩ ⟨Nat.le_refl _, Nat.le_refl _⟩ rfl rfl (Nat.le_of_ble_eq_true rfl) d_X11_puts_48 (fun H locs hw => ?_)
    refine lv_aload_n hx hb d_X11_puts_51 rfl (lv_at hl 1 rfl) ?_
    refine r_getr (j := 1) X hw ct7 (o_0 hf) rfl (Nat.le_of_ble_eq_true rfl) (q := 3) rfl wd_265 d_X11_puts_52 ?_
    refine lv_aload_n hx hb d_X11_puts_55 rfl (lv_at hl 1 rfl) ?_
    refine r_getr (j := 2) X hw ct7 (o_0 hf) rfl (Nat.le_of_ble_eq_true rfl) (q := 32) rfl wd_266 d_X11_puts_56 ?_
    obtain ⟨q12, e13, h⟩ := bd_some h
    refine r_callV (As := []) (rest := [.ref (ga G 3)]) (st' := [.int q12, .ref (ga G 3)]) X hw hl mwX0_openOnes wd_428 wd_429 wd_427 (c_X0_openOnes hf b_32 e13) (r_recv X hw ct0 (o_32 hf)) rfl ⟨Nat.le_of_ble_eq_true rfl, Nat.le_of_ble_eq_true rfl⟩ ⟨Nat.le_refl _, Nat.le_refl _⟩ rfl rfl (Nat.le_of_ble_eq_true rfl) d_X11_puts_59 (fun H locs hw => ?_)
    refine lv_i2l hx hb d_X11_puts_62 rfl ?_
    obtain ⟨q14, e15, h⟩ := bd_some h
    refine r_callV (As := [.long q12.toInt64]) (rest := []) (st' := []) X hw hl mwX9_add wd_424 wd_425 wd_423 (c_X9_add hf e15) (r_recv X hw ct6 (o_3 hf)) rfl ⟨Nat.le_of_ble_eq_true rfl, Nat.le_of_ble_eq_true rfl⟩ ⟨Nat.le_refl _, Nat.le_refl _⟩ rfl rfl (Nat.le_of_ble_eq_true rfl) d_X11_puts_63 (fun H locs hw => ?_)
    refine lv_iload_n hx hb d_X11_puts_66 rfl (lv_at hl 0 rfl) ?_
    obtain ⟨q16, e17, h⟩ := bd_some h
    refine r_callS (As := [.int q6.1]) (rest := []) (st' := [.int q16]) X hw hl mwJ6_bitCount_0f7a4 wd_436 wd_435 (c_J6_bitCount_0f7a4 e17) rfl ⟨Nat.le_of_ble_eq_true rfl, Nat.le_of_ble_eq_true rfl⟩ ⟨Nat.le_refl _, Nat.le_refl _⟩ rfl rfl (Nat.le_of_ble_eq_true rfl) d_X11_puts_67 (fun H locs hw => ?_)
    obtain rfl := Option.some.inj h
    subst hQ
    exact r_iret X hr hlk hw d_X11_puts_70
  · have h := ite_t h hc
    refine lv_iconst (v := (-1 : Int32)) hx hb d_X11_puts_8 (by decide) ?_
    obtain rfl := Option.some.inj h
    subst hQ
    exact r_iret X hr hlk hw d_X11_puts_9
abbrev yX11_tides : MethodName := ⟨"OysterBeds", "tides", "(I)I"⟩
theorem mwX11_tides : MW yX11_tides prog_1_method_9_code 3 (some .int) 1 := ⟨wd_444, wd_1, by decide +kernel⟩
theorem d_X11_tides_0 : decode prog_1_method_9_code 0 = .ok (.iload_n 1, 1) := by decide +kernel
theorem d_X11_tides_1 : decode prog_1_method_9_code 1 = .ok (.ifCond .lt 9, 3) := by decide +kernel
theorem d_X11_tides_4 : decode prog_1_method_9_code 4 = .ok (.iload_n 1, 1) := by decide +kernel
theorem d_X11_tides_5 : decode prog_1_method_9_code 5 = .ok (.bipush 60, 2) := by decide +kernel
theorem d_X11_tides_7 : decode prog_1_method_9_code 7 = .ok (.if_icmp .le 5, 3) := by decide +kernel
theorem d_X11_tides_10 : decode prog_1_method_9_code 10 = .ok (.iconst (-1), 1) := by decide +kernel
theorem d_X11_tides_11 : decode prog_1_method_9_code 11 = .ok (.ireturn, 1) := by decide +kernel
theorem d_X11_tides_12 : decode prog_1_method_9_code 12 = .ok (.aload_n 0, 1) := by decide +kernel
theorem d_X11_tides_13 : decode prog_1_method_9_code 13 = .ok (.getfield 36, 3) := by decide +kernel
theorem d_X11_tides_16 : decode prog_1_method_9_code 16 = .ok (.aload_n 0, 1) := by decide +kernel
theorem d_X11_tides_17 : decode prog_1_method_9_code 17 = .ok (.getfield 26, 3) := by decide +kernel
theorem d_X11_tides_20 : decode prog_1_method_9_code 20 = .ok (.invokevirtual 148, 3) := by decide +kernel
theorem d_X11_tides_23 : decode prog_1_method_9_code 23 = .ok (.aload_n 0, 1) := by decide +kernel
theorem d_X11_tides_24 : decode prog_1_method_9_code 24 = .ok (.getfield 26, 3) := by decide +kernel
theorem d_X11_tides_27 : decode prog_1_method_9_code 27 = .ok (.iload_n 1, 1) := by decide +kernel
theorem d_X11_tides_28 : decode prog_1_method_9_code 28 = .ok (.invokevirtual 171, 3) := by decide +kernel
theorem d_X11_tides_31 : decode prog_1_method_9_code 31 = .ok (.istore_n 2, 1) := by decide +kernel
theorem d_X11_tides_32 : decode prog_1_method_9_code 32 = .ok (.aload_n 0, 1) := by decide +kernel
theorem d_X11_tides_33 : decode prog_1_method_9_code 33 = .ok (.getfield 19, 3) := by decide +kernel
theorem d_X11_tides_36 : decode prog_1_method_9_code 36 = .ok (.invokevirtual 156, 3) := by decide +kernel
theorem d_X11_tides_39 : decode prog_1_method_9_code 39 = .ok (.aload_n 0, 1) := by decide +kernel
theorem d_X11_tides_40 : decode prog_1_method_9_code 40 = .ok (.getfield 19, 3) := by decide +kernel
theorem d_X11_tides_43 : decode prog_1_method_9_code 43 = .ok (.iload_n 2, 1) := by decide +kernel
theorem d_X11_tides_44 : decode prog_1_method_9_code 44 = .ok (.i2l, 1) := by decide +kernel
theorem d_X11_tides_45 : decode prog_1_method_9_code 45 = .ok (.invokevirtual 159, 3) := by decide +kernel
theorem d_X11_tides_48 : decode prog_1_method_9_code 48 = .ok (.aload_n 0, 1) := by decide +kernel
theorem d_X11_tides_49 : decode prog_1_method_9_code 49 = .ok (.getfield 26, 3) := by decide +kernel
theorem d_X11_tides_52 : decode prog_1_method_9_code 52 = .ok (.invokevirtual 163, 3) := by decide +kernel
theorem d_X11_tides_55 : decode prog_1_method_9_code 55 = .ok (.invokestatic 166, 3) := by decide +kernel
theorem d_X11_tides_58 : decode prog_1_method_9_code 58 = .ok (.ireturn, 1) := by decide +kernel
def f_X11_tides (χ : St) (a1 : Int32) : Option (Int32 × St) := (if a1 < 0 then some ((-1 : Int32), χ) else (if a1 ≤ (60 : Int32) then (f_X6_push χ 32).bind (fun q1 => (f_X0_goBy q1 32 a1).bind (fun q3 => (f_X9_start q3.2).bind (fun q5 => (f_X9_add q5 (q3.1).toInt64).bind (fun q7 => (f_X0_openOnes q7 32).bind (fun q9 => (f_J6_bitCount_0f7a4 q9).bind (fun q11 => some (q11, q7))))))) else some ((-1 : Int32), χ)))
theorem c_X11_tides {l : Launch} {G : gT} {χ σ : St} {a1 : Int32} (hf : FW G) {q : Int32 × St} (h : f_X11_tides χ a1 = some q) : Ct l G yX11_tides prog_1_method_9_code 3 (some .int) 3 66 [.ref (ga G 0), .int a1] χ σ (some (.int q.1)) q.2 σ := by
  refine Ct.of (by decide) (Nat.le_of_ble_eq_true rfl) ?_
  intro p e s m args below meth c Q X hr hlk hQ
  have hx := X.1
  have hb := X.2.1
  intro H locs ls hw hl
  have hl : lv_has ls 3 [(0, .ref (ga G 0)), (1, .int a1)] := hl
  unfold f_X11_tides at h
  refine lv_iload_n hx hb d_X11_tides_0 rfl (lv_at hl 1 rfl) ?_
  refine lv_if_lt (tgt := 10) hx hb d_X11_tides_1 (by decide) (fun hc => ?_) (fun hc => ?_)
  · have h := ite_t h hc
    refine lv_iconst (v := (-1 : Int32)) hx hb d_X11_tides_10 (by decide) ?_
    obtain rfl := Option.some.inj h
    subst hQ
    exact r_iret X hr hlk hw d_X11_tides_11
  · have h := ite_f h hc
    refine lv_iload_n hx hb d_X11_tides_4 rfl (lv_at hl 1 rfl) ?_
    refine lv_bipush (v := (60 : Int32)) hx hb d_X11_tides_5 (by decide) ?_
    refine lv_icmp_le (tgt := 12) hx hb d_X11_tides_7 (by decide) (fun hc => ?_) (fun hc => ?_)
    · have h := ite_t h hc
      refine lv_aload_n hx hb d_X11_tides_12 rfl (lv_at hl 0 rfl) ?_
      refine r_getr (j := 4) X hw ct7 (o_0 hf) rfl (Nat.le_of_ble_eq_true rfl) (q := 5) rfl wd_268 d_X11_tides_13 ?_
      refine lv_aload_n hx hb d_X11_tides_16 rfl (lv_at hl 0 rfl) ?_
      refine r_getr (j := 2) X hw ct7 (o_0 hf) rfl (Nat.le_of_ble_eq_true rfl) (q := 32) rfl wd_266 d_X11_tides_17 ?_
      obtain ⟨q1, e2, h⟩ := bd_some h
      refine r_callV (As := [.ref (ga G 32)]) (rest := []) (st' := []) X hw hl mwX6_push wd_385 wd_386 wd_384 (c_X6_push hf b_32 e2) (r_recv X hw ct3 (o_5 hf)) rfl ⟨Nat.le_of_ble_eq_true rfl, Nat.le_of_ble_eq_true rfl⟩ ⟨Nat.le_refl _, Nat.le_refl _⟩ rfl rfl (Nat.le_of_ble_eq_true rfl) d_X11_tides_20 (fun H locs hw => ?_)
      refine lv_aload_n hx hb d_X11_tides_23 rfl (lv_at hl 0 rfl) ?_
      refine r_getr (j := 2) X hw ct7 (o_0 hf) rfl (Nat.le_of_ble_eq_true rfl) (q := 32) rfl wd_266 d_X11_tides_24 ?_
      refine lv_iload_n hx hb d_X11_tides_27 rfl (lv_at hl 1 rfl) ?_
      obtain ⟨q3, e4, h⟩ := bd_some h
      refine r_callV (As := [.int a1]) (rest := []) (st' := [.int q3.1]) X hw hl mwX0_goBy wd_446 wd_447 wd_445 (c_X0_goBy hf b_32 e4) (r_recv X hw ct0 (o_32 hf)) rfl ⟨Nat.le_of_ble_eq_true rfl, Nat.le_of_ble_eq_true rfl⟩ ⟨Nat.le_refl _, Nat.le_refl _⟩ rfl rfl (Nat.le_of_ble_eq_true rfl) d_X11_tides_28 (fun H locs hw => ?_)
      refine lv_istore_n (lv' := [(2, .int q3.1), (0, .ref (ga G 0)), (1, .int a1)]) hx hb d_X11_tides_31 rfl hl (Nat.le_of_ble_eq_true rfl) rfl (fun ls hl => ?_)
      refine lv_aload_n hx hb d_X11_tides_32 rfl (lv_at hl 1 rfl) ?_
      refine r_getr (j := 1) X hw ct7 (o_0 hf) rfl (Nat.le_of_ble_eq_true rfl) (q := 3) rfl wd_265 d_X11_tides_33 ?_
      obtain ⟨q5, e6, h⟩ := bd_some h
      refine r_callV (As := []) (rest := []) (st' := []) X hw hl mwX9_start wd_420 wd_421 wd_419 (c_X9_start hf e6) (r_recv X hw ct6 (o_3 hf)) rfl ⟨Nat.le_of_ble_eq_true rfl, Nat.le_of_ble_eq_true rfl⟩ ⟨Nat.le_refl _, Nat.le_refl _⟩ rfl rfl (Nat.le_of_ble_eq_true rfl) d_X11_tides_36 (fun H locs hw => ?_)
      refine lv_aload_n hx hb d_X11_tides_39 rfl (lv_at hl 1 rfl) ?_
      refine r_getr (j := 1) X hw ct7 (o_0 hf) rfl (Nat.le_of_ble_eq_true rfl) (q := 3) rfl wd_265 d_X11_tides_40 ?_
      refine lv_iload_n hx hb d_X11_tides_43 rfl (lv_at hl 0 rfl) ?_
      refine lv_i2l hx hb d_X11_tides_44 rfl ?_
      obtain ⟨q7, e8, h⟩ := bd_some h
      refine r_callV (As := [.long (q3.1).toInt64]) (rest := []) (st' := []) X hw hl mwX9_add wd_424 wd_425 wd_423 (c_X9_add hf e8) (r_recv X hw ct6 (o_3 hf)) rfl ⟨Nat.le_of_ble_eq_true rfl, Nat.le_of_ble_eq_true rfl⟩ ⟨Nat.le_refl _, Nat.le_refl _⟩ rfl rfl (Nat.le_of_ble_eq_true rfl) d_X11_tides_45 (fun H locs hw => ?_)
      refine lv_aload_n hx hb d_X11_tides_48 rfl (lv_at hl 1 rfl) ?_
      refine r_getr (j := 2) X hw ct7 (o_0 hf) rfl (Nat.le_of_ble_eq_true rfl) (q := 32) rfl wd_266 d_X11_tides_49 ?_
      obtain ⟨q9, e10, h⟩ := bd_some h
      refine r_callV (As := []) (rest := []) (st' := [.int q9]) X hw hl mwX0_openOnes wd_428 wd_429 wd_427 (c_X0_openOnes hf b_32 e10) (r_recv X hw ct0 (o_32 hf)) rfl ⟨Nat.le_of_ble_eq_true rfl, Nat.le_of_ble_eq_true rfl⟩ ⟨Nat.le_refl _, Nat.le_refl _⟩ rfl rfl (Nat.le_of_ble_eq_true rfl) d_X11_tides_52 (fun H locs hw => ?_)
      obtain ⟨q11, e12, h⟩ := bd_some h
      refine r_callS (As := [.int q9]) (rest := []) (st' := [.int q11]) X hw hl mwJ6_bitCount_0f7a4 wd_436 wd_435 (c_J6_bitCount_0f7a4 e12) rfl ⟨Nat.le_of_ble_eq_true rfl, Nat.le_of_ble_eq_true rfl⟩ ⟨Nat.le_refl _, Nat.le_refl _⟩ rfl rfl (Nat.le_of_ble_eq_true rfl) d_X11_tides_55 (fun H locs hw => ?_)
      obtain rfl := Option.some.inj h
      subst hQ
      exact r_iret X hr hlk hw d_X11_tides_58
    · have h := ite_f h hc
      refine lv_iconst (v := (-1 : Int32)) hx hb d_X11_tides_10 (by decide) ?_
      obtain rfl := Option.some.inj h
      subst hQ
      exact r_iret X hr hlk hw d_X11_tides_11
abbrev yX11_doneWith : MethodName := ⟨"OysterBeds", "doneWith", "(I)I"⟩
theorem mwX11_doneWith : MW yX11_doneWith prog_1_method_57_code 2 (some .int) 1 := ⟨wd_463, wd_1, by decide +kernel⟩
theorem d_X11_doneWith_0 : decode prog_1_method_57_code 0 = .ok (.iload_n 1, 1) := by decide +kernel
theorem d_X11_doneWith_1 : decode prog_1_method_57_code 1 = .ok (.ifCond .lt 14, 3) := by decide +kernel
theorem d_X11_doneWith_4 : decode prog_1_method_57_code 4 = .ok (.aload_n 0, 1) := by decide +kernel
theorem d_X11_doneWith_5 : decode prog_1_method_57_code 5 = .ok (.getfield 36, 3) := by decide +kernel
theorem d_X11_doneWith_8 : decode prog_1_method_57_code 8 = .ok (.aload_n 0, 1) := by decide +kernel
theorem d_X11_doneWith_9 : decode prog_1_method_57_code 9 = .ok (.getfield 30, 3) := by decide +kernel
theorem d_X11_doneWith_12 : decode prog_1_method_57_code 12 = .ok (.invokevirtual 148, 3) := by decide +kernel
theorem d_X11_doneWith_15 : decode prog_1_method_57_code 15 = .ok (.iload_n 1, 1) := by decide +kernel
theorem d_X11_doneWith_16 : decode prog_1_method_57_code 16 = .ok (.ireturn, 1) := by decide +kernel
def f_X11_doneWith (χ : St) (a1 : Int32) : Option (Int32 × St) := (if a1 < 0 then some (a1, χ) else (f_X6_push χ 40).bind (fun q1 => some (a1, q1)))
theorem c_X11_doneWith {l : Launch} {G : gT} {χ σ : St} {a1 : Int32} (hf : FW G) {q : Int32 × St} (h : f_X11_doneWith χ a1 = some q) : Ct l G yX11_doneWith prog_1_method_57_code 2 (some .int) 2 43 [.ref (ga G 0), .int a1] χ σ (some (.int q.1)) q.2 σ := by
  refine Ct.of (by decide) (Nat.le_of_ble_eq_true rfl) ?_
  intro p e s m args below meth c Q X hr hlk hQ
  have hx := X.1
  have hb := X.2.1
  intro H locs ls hw hl
  have hl : lv_has ls 2 [(0, .ref (ga G 0)), (1, .int a1)] := hl
  unfold f_X11_doneWith at h
  refine lv_iload_n hx hb d_X11_doneWith_0 rfl (lv_at hl 1 rfl) ?_
  refine lv_if_lt (tgt := 15) hx hb d_X11_doneWith_1 (by decide) (fun hc => ?_) (fun hc => ?_)
  · have h := ite_t h hc
    refine lv_iload_n hx hb d_X11_doneWith_15 rfl (lv_at hl 1 rfl) ?_
    obtain rfl := Option.some.inj h
    subst hQ
    exact r_iret X hr hlk hw d_X11_doneWith_16
  · have h := ite_f h hc
    refine lv_aload_n hx hb d_X11_doneWith_4 rfl (lv_at hl 0 rfl) ?_
    refine r_getr (j := 4) X hw ct7 (o_0 hf) rfl (Nat.le_of_ble_eq_true rfl) (q := 5) rfl wd_268 d_X11_doneWith_5 ?_
    refine lv_aload_n hx hb d_X11_doneWith_8 rfl (lv_at hl 0 rfl) ?_
    refine r_getr (j := 3) X hw ct7 (o_0 hf) rfl (Nat.le_of_ble_eq_true rfl) (q := 40) rfl wd_267 d_X11_doneWith_9 ?_
    obtain ⟨q1, e2, h⟩ := bd_some h
    refine r_callV (As := [.ref (ga G 40)]) (rest := []) (st' := []) X hw hl mwX6_push wd_385 wd_386 wd_384 (c_X6_push hf b_40 e2) (r_recv X hw ct3 (o_5 hf)) rfl ⟨Nat.le_of_ble_eq_true rfl, Nat.le_of_ble_eq_true rfl⟩ ⟨Nat.le_refl _, Nat.le_refl _⟩ rfl rfl (Nat.le_of_ble_eq_true rfl) d_X11_doneWith_12 (fun H locs hw => ?_)
    refine lv_iload_n hx hb d_X11_doneWith_15 rfl (lv_at hl 1 rfl) ?_
    obtain rfl := Option.some.inj h
    subst hQ
    exact r_iret X hr hlk hw d_X11_doneWith_16
abbrev yX11_stills : MethodName := ⟨"OysterBeds", "stills", "(II)I"⟩
theorem mwX11_stills : MW yX11_stills prog_1_method_10_code 3 (some .int) 2 := ⟨wd_453, wd_1, by decide +kernel⟩
theorem d_X11_stills_0 : decode prog_1_method_10_code 0 = .ok (.aload_n 0, 1) := by decide +kernel
theorem d_X11_stills_1 : decode prog_1_method_10_code 1 = .ok (.getfield 30, 3) := by decide +kernel
theorem d_X11_stills_4 : decode prog_1_method_10_code 4 = .ok (.aload_n 0, 1) := by decide +kernel
theorem d_X11_stills_5 : decode prog_1_method_10_code 5 = .ok (.getfield 26, 3) := by decide +kernel
theorem d_X11_stills_8 : decode prog_1_method_10_code 8 = .ok (.invokevirtual 174, 3) := by decide +kernel
theorem d_X11_stills_11 : decode prog_1_method_10_code 11 = .ok (.aload_n 0, 1) := by decide +kernel
theorem d_X11_stills_12 : decode prog_1_method_10_code 12 = .ok (.aload_n 0, 1) := by decide +kernel
theorem d_X11_stills_13 : decode prog_1_method_10_code 13 = .ok (.getfield 26, 3) := by decide +kernel
theorem d_X11_stills_16 : decode prog_1_method_10_code 16 = .ok (.iload_n 1, 1) := by decide +kernel
theorem d_X11_stills_17 : decode prog_1_method_10_code 17 = .ok (.iload_n 2, 1) := by decide +kernel
theorem d_X11_stills_18 : decode prog_1_method_10_code 18 = .ok (.invokevirtual 177, 3) := by decide +kernel
theorem d_X11_stills_21 : decode prog_1_method_10_code 21 = .ok (.invokevirtual 181, 3) := by decide +kernel
theorem d_X11_stills_24 : decode prog_1_method_10_code 24 = .ok (.ireturn, 1) := by decide +kernel
def f_X11_stills (χ : St) (a1 : Int32) (a2 : Int32) : Option (Int32 × St) := (f_X0_copyFrom χ 40 32).bind (fun q1 => (f_X0_soothe q1 32 a1 a2).bind (fun q3 => (f_X11_doneWith q3.2 q3.1).bind (fun q5 => some (q5.1, q5.2))))
theorem c_X11_stills {l : Launch} {G : gT} {χ σ : St} {a1 : Int32} {a2 : Int32} (hf : FW G) {q : Int32 × St} (h : f_X11_stills χ a1 a2 = some q) : Ct l G yX11_stills prog_1_method_10_code 3 (some .int) 3 64 [.ref (ga G 0), .int a1, .int a2] χ σ (some (.int q.1)) q.2 σ := by
  refine Ct.of (by decide) (Nat.le_of_ble_eq_true rfl) ?_
  intro p e s m args below meth c Q X hr hlk hQ
  have hx := X.1
  have hb := X.2.1
  intro H locs ls hw hl
  have hl : lv_has ls 3 [(0, .ref (ga G 0)), (1, .int a1), (2, .int a2)] := hl
  unfold f_X11_stills at h
  refine lv_aload_n hx hb d_X11_stills_0 rfl (lv_at hl 0 rfl) ?_
  refine r_getr (j := 3) X hw ct7 (o_0 hf) rfl (Nat.le_of_ble_eq_true rfl) (q := 40) rfl wd_267 d_X11_stills_1 ?_
  refine lv_aload_n hx hb d_X11_stills_4 rfl (lv_at hl 0 rfl) ?_
  refine r_getr (j := 2) X hw ct7 (o_0 hf) rfl (Nat.le_of_ble_eq_true rfl) (q := 32) rfl wd_266 d_X11_stills_5 ?_
  obtain ⟨q1, e2, h⟩ := bd_some h
  refine r_callV (As := [.ref (ga G 32)]) (rest := []) (st' := []) X hw hl mwX0_copyFrom wd_389 wd_390 wd_454 (c_X0_copyFrom hf b_40 b_32 e2) (r_recv X hw ct0 (o_40 hf)) rfl ⟨Nat.le_of_ble_eq_true rfl, Nat.le_of_ble_eq_true rfl⟩ ⟨Nat.le_refl _, Nat.le_refl _⟩ rfl rfl (Nat.le_of_ble_eq_true rfl) d_X11_stills_8 (fun H locs hw => ?_)
  refine lv_aload_n hx hb d_X11_stills_11 rfl (lv_at hl 0 rfl) ?_
  refine lv_aload_n hx hb d_X11_stills_12 rfl (lv_at hl 0 rfl) ?_
  refine r_getr (j := 2) X hw ct7 (o_0 hf) rfl (Nat.le_of_ble_eq_true rfl) (q := 32) rfl wd_266 d_X11_stills_13 ?_
  refine lv_iload_n hx hb d_X11_stills_16 rfl (lv_at hl 1 rfl) ?_
  refine lv_iload_n hx hb d_X11_stills_17 rfl (lv_at hl 2 rfl) ?_
  obtain ⟨q3, e4, h⟩ := bd_some h
  refine r_callV (As := [.int a1, .int a2]) (rest := [.ref (ga G 0)]) (st' := [.int q3.1, .ref (ga G 0)]) X hw hl mwX0_soothe wd_456 wd_457 wd_455 (c_X0_soothe hf b_32 e4) (r_recv X hw ct0 (o_32 hf)) rfl ⟨Nat.le_of_ble_eq_true rfl, Nat.le_of_ble_eq_true rfl⟩ ⟨Nat.le_refl _, Nat.le_refl _⟩ rfl rfl (Nat.le_of_ble_eq_true rfl) d_X11_stills_18 (fun H locs hw => ?_)
  obtain ⟨q5, e6, h⟩ := bd_some h
  refine r_callV (As := [.int q3.1]) (rest := []) (st' := [.int q5.1]) X hw hl mwX11_doneWith wd_462 wp_11 wd_460 (c_X11_doneWith hf e6) (r_recv X hw ct7 (o_0 hf)) rfl ⟨Nat.le_of_ble_eq_true rfl, Nat.le_of_ble_eq_true rfl⟩ ⟨Nat.le_refl _, Nat.le_refl _⟩ rfl rfl (Nat.le_of_ble_eq_true rfl) d_X11_stills_21 (fun H locs hw => ?_)
  obtain rfl := Option.some.inj h
  subst hQ
  exact r_iret X hr hlk hw d_X11_stills_24
abbrev yX11_holds : MethodName := ⟨"OysterBeds", "holds", "(II)I"⟩
theorem mwX11_holds : MW yX11_holds prog_1_method_11_code 3 (some .int) 2 := ⟨wd_467, wd_1, by decide +kernel⟩
theorem d_X11_holds_0 : decode prog_1_method_11_code 0 = .ok (.aload_n 0, 1) := by decide +kernel
theorem d_X11_holds_1 : decode prog_1_method_11_code 1 = .ok (.getfield 30, 3) := by decide +kernel
theorem d_X11_holds_4 : decode prog_1_method_11_code 4 = .ok (.aload_n 0, 1) := by decide +kernel
theorem d_X11_holds_5 : decode prog_1_method_11_code 5 = .ok (.getfield 26, 3) := by decide +kernel
theorem d_X11_holds_8 : decode prog_1_method_11_code 8 = .ok (.invokevirtual 174, 3) := by decide +kernel
theorem d_X11_holds_11 : decode prog_1_method_11_code 11 = .ok (.aload_n 0, 1) := by decide +kernel
theorem d_X11_holds_12 : decode prog_1_method_11_code 12 = .ok (.aload_n 0, 1) := by decide +kernel
theorem d_X11_holds_13 : decode prog_1_method_11_code 13 = .ok (.getfield 26, 3) := by decide +kernel
theorem d_X11_holds_16 : decode prog_1_method_11_code 16 = .ok (.iload_n 1, 1) := by decide +kernel
theorem d_X11_holds_17 : decode prog_1_method_11_code 17 = .ok (.iload_n 2, 1) := by decide +kernel
theorem d_X11_holds_18 : decode prog_1_method_11_code 18 = .ok (.invokevirtual 184, 3) := by decide +kernel
theorem d_X11_holds_21 : decode prog_1_method_11_code 21 = .ok (.invokevirtual 181, 3) := by decide +kernel
theorem d_X11_holds_24 : decode prog_1_method_11_code 24 = .ok (.ireturn, 1) := by decide +kernel
def f_X11_holds (χ : St) (a1 : Int32) (a2 : Int32) : Option (Int32 × St) := (f_X0_copyFrom χ 40 32).bind (fun q1 => (f_X0_persuade q1 32 a1 a2).bind (fun q3 => (f_X11_doneWith q3.2 q3.1).bind (fun q5 => some (q5.1, q5.2))))
theorem c_X11_holds {l : Launch} {G : gT} {χ σ : St} {a1 : Int32} {a2 : Int32} (hf : FW G) {q : Int32 × St} (h : f_X11_holds χ a1 a2 = some q) : Ct l G yX11_holds prog_1_method_11_code 3 (some .int) 3 64 [.ref (ga G 0), .int a1, .int a2] χ σ (some (.int q.1)) q.2 σ := by
  refine Ct.of (by decide) (Nat.le_of_ble_eq_true rfl) ?_
  intro p e s m args below meth c Q X hr hlk hQ
  have hx := X.1
  have hb := X.2.1
  intro H locs ls hw hl
  have hl : lv_has ls 3 [(0, .ref (ga G 0)), (1, .int a1), (2, .int a2)] := hl
  unfold f_X11_holds at h
  refine lv_aload_n hx hb d_X11_holds_0 rfl (lv_at hl 0 rfl) ?_
  refine r_getr (j := 3) X hw ct7 (o_0 hf) rfl (Nat.le_of_ble_eq_true rfl) (q := 40) rfl wd_267 d_X11_holds_1 ?_
  refine lv_aload_n hx hb d_X11_holds_4 rfl (lv_at hl 0 rfl) ?_
  refine r_getr (j := 2) X hw ct7 (o_0 hf) rfl (Nat.le_of_ble_eq_true rfl) (q := 32) rfl wd_266 d_X11_holds_5 ?_
  obtain ⟨q1, e2, h⟩ := bd_some h
  refine r_callV (As := [.ref (ga G 32)]) (rest := []) (st' := []) X hw hl mwX0_copyFrom wd_389 wd_390 wd_454 (c_X0_copyFrom hf b_40 b_32 e2) (r_recv X hw ct0 (o_40 hf)) rfl ⟨Nat.le_of_ble_eq_true rfl, Nat.le_of_ble_eq_true rfl⟩ ⟨Nat.le_refl _, Nat.le_refl _⟩ rfl rfl (Nat.le_of_ble_eq_true rfl) d_X11_holds_8 (fun H locs hw => ?_)
  refine lv_aload_n hx hb d_X11_holds_11 rfl (lv_at hl 0 rfl) ?_
  refine lv_aload_n hx hb d_X11_holds_12 rfl (lv_at hl 0 rfl) ?_
  refine r_getr (j := 2) X hw ct7 (o_0 hf) rfl (Nat.le_of_ble_eq_true rfl) (q := 32) rfl wd_266 d_X11_holds_13 ?_
  refine lv_iload_n hx hb d_X11_holds_16 rfl (lv_at hl 1 rfl) ?_
  refine lv_iload_n hx hb d_X11_holds_17 rfl (lv_at hl 2 rfl) ?_
  obtain ⟨q3, e4, h⟩ := bd_some h
  refine r_callV (As := [.int a1, .int a2]) (rest := [.ref (ga G 0)]) (st' := [.int q3.1, .ref (ga G 0)]) X hw hl mwX0_persuade wd_469 wd_470 wd_468 (c_X0_persuade hf b_32 e4) (r_recv X hw ct0 (o_32 hf)) rfl ⟨Nat.le_of_ble_eq_true rfl, Nat.le_of_ble_eq_true rfl⟩ ⟨Nat.le_refl _, Nat.le_refl _⟩ rfl rfl (Nat.le_of_ble_eq_true rfl) d_X11_holds_18 (fun H locs hw => ?_)
  obtain ⟨q5, e6, h⟩ := bd_some h
  refine r_callV (As := [.int q3.1]) (rest := []) (st' := [.int q5.1]) X hw hl mwX11_doneWith wd_462 wp_11 wd_460 (c_X11_doneWith hf e6) (r_recv X hw ct7 (o_0 hf)) rfl ⟨Nat.le_of_ble_eq_true rfl, Nat.le_of_ble_eq_true rfl⟩ ⟨Nat.le_refl _, Nat.le_refl _⟩ rfl rfl (Nat.le_of_ble_eq_true rfl) d_X11_holds_21 (fun H locs hw => ?_)
  obtain rfl := Option.some.inj h
  subst hQ
  exact r_iret X hr hlk hw d_X11_holds_24
abbrev yX11_knife : MethodName := ⟨"OysterBeds", "knife", "(I)I"⟩
theorem mwX11_knife : MW yX11_knife prog_1_method_12_code 2 (some .int) 1 := ⟨wd_475, wd_1, by decide +kernel⟩
theorem d_X11_knife_0 : decode prog_1_method_12_code 0 = .ok (.aload_n 0, 1) := by decide +kernel
theorem d_X11_knife_1 : decode prog_1_method_12_code 1 = .ok (.getfield 30, 3) := by decide +kernel
theorem d_X11_knife_4 : decode prog_1_method_12_code 4 = .ok (.aload_n 0, 1) := by decide +kernel
theorem d_X11_knife_5 : decode prog_1_method_12_code 5 = .ok (.getfield 26, 3) := by decide +kernel
theorem d_X11_knife_8 : decode prog_1_method_12_code 8 = .ok (.invokevirtual 174, 3) := by decide +kernel
theorem d_X11_knife_11 : decode prog_1_method_12_code 11 = .ok (.aload_n 0, 1) := by decide +kernel
theorem d_X11_knife_12 : decode prog_1_method_12_code 12 = .ok (.aload_n 0, 1) := by decide +kernel
theorem d_X11_knife_13 : decode prog_1_method_12_code 13 = .ok (.getfield 26, 3) := by decide +kernel
theorem d_X11_knife_16 : decode prog_1_method_12_code 16 = .ok (.iload_n 1, 1) := by decide +kernel
theorem d_X11_knife_17 : decode prog_1_method_12_code 17 = .ok (.invokevirtual 187, 3) := by decide +kernel
theorem d_X11_knife_20 : decode prog_1_method_12_code 20 = .ok (.invokevirtual 181, 3) := by decide +kernel
theorem d_X11_knife_23 : decode prog_1_method_12_code 23 = .ok (.ireturn, 1) := by decide +kernel
def f_X11_knife (χ : St) (a1 : Int32) : Option (Int32 × St) := (f_X0_copyFrom χ 40 32).bind (fun q1 => (f_X0_cut q1 32 a1).bind (fun q3 => (f_X11_doneWith q3.2 q3.1).bind (fun q5 => some (q5.1, q5.2))))
theorem c_X11_knife {l : Launch} {G : gT} {χ σ : St} {a1 : Int32} (hf : FW G) {q : Int32 × St} (h : f_X11_knife χ a1 = some q) : Ct l G yX11_knife prog_1_method_12_code 2 (some .int) 3 64 [.ref (ga G 0), .int a1] χ σ (some (.int q.1)) q.2 σ := by
  refine Ct.of (by decide) (Nat.le_of_ble_eq_true rfl) ?_
  intro p e s m args below meth c Q X hr hlk hQ
  have hx := X.1
  have hb := X.2.1
  intro H locs ls hw hl
  have hl : lv_has ls 2 [(0, .ref (ga G 0)), (1, .int a1)] := hl
  unfold f_X11_knife at h
  refine lv_aload_n hx hb d_X11_knife_0 rfl (lv_at hl 0 rfl) ?_
  refine r_getr (j := 3) X hw ct7 (o_0 hf) rfl (Nat.le_of_ble_eq_true rfl) (q := 40) rfl wd_267 d_X11_knife_1 ?_
  refine lv_aload_n hx hb d_X11_knife_4 rfl (lv_at hl 0 rfl) ?_
  refine r_getr (j := 2) X hw ct7 (o_0 hf) rfl (Nat.le_of_ble_eq_true rfl) (q := 32) rfl wd_266 d_X11_knife_5 ?_
  obtain ⟨q1, e2, h⟩ := bd_some h
  refine r_callV (As := [.ref (ga G 32)]) (rest := []) (st' := []) X hw hl mwX0_copyFrom wd_389 wd_390 wd_454 (c_X0_copyFrom hf b_40 b_32 e2) (r_recv X hw ct0 (o_40 hf)) rfl ⟨Nat.le_of_ble_eq_true rfl, Nat.le_of_ble_eq_true rfl⟩ ⟨Nat.le_refl _, Nat.le_refl _⟩ rfl rfl (Nat.le_of_ble_eq_true rfl) d_X11_knife_8 (fun H locs hw => ?_)
  refine lv_aload_n hx hb d_X11_knife_11 rfl (lv_at hl 0 rfl) ?_
  refine lv_aload_n hx hb d_X11_knife_12 rfl (lv_at hl 0 rfl) ?_
  refine r_getr (j := 2) X hw ct7 (o_0 hf) rfl (Nat.le_of_ble_eq_true rfl) (q := 32) rfl wd_266 d_X11_knife_13 ?_
  refine lv_iload_n hx hb d_X11_knife_16 rfl (lv_at hl 1 rfl) ?_
  obtain ⟨q3, e4, h⟩ := bd_some h
  refine r_callV (As := [.int a1]) (rest := [.ref (ga G 0)]) (st' := [.int q3.1, .ref (ga G 0)]) X hw hl mwX0_cut wd_477 wd_478 wd_476 (c_X0_cut hf b_32 e4) (r_recv X hw ct0 (o_32 hf)) rfl ⟨Nat.le_of_ble_eq_true rfl, Nat.le_of_ble_eq_true rfl⟩ ⟨Nat.le_refl _, Nat.le_refl _⟩ rfl rfl (Nat.le_of_ble_eq_true rfl) d_X11_knife_17 (fun H locs hw => ?_)
  obtain ⟨q5, e6, h⟩ := bd_some h
  refine r_callV (As := [.int q3.1]) (rest := []) (st' := [.int q5.1]) X hw hl mwX11_doneWith wd_462 wp_11 wd_460 (c_X11_doneWith hf e6) (r_recv X hw ct7 (o_0 hf)) rfl ⟨Nat.le_of_ble_eq_true rfl, Nat.le_of_ble_eq_true rfl⟩ ⟨Nat.le_refl _, Nat.le_refl _⟩ rfl rfl (Nat.le_of_ble_eq_true rfl) d_X11_knife_20 (fun H locs hw => ?_)
  obtain rfl := Option.some.inj h
  subst hQ
  exact r_iret X hr hlk hw d_X11_knife_23
abbrev yX11_actAt : MethodName := ⟨"OysterBeds", "actAt", "(I)I"⟩
theorem mwX11_actAt : MW yX11_actAt prog_1_method_58_code 3 (some .int) 1 := ⟨wd_494, wd_1, by decide +kernel⟩
theorem d_X11_actAt_0 : decode prog_1_method_58_code 0 = .ok (.aload_n 0, 1) := by decide +kernel
theorem d_X11_actAt_1 : decode prog_1_method_58_code 1 = .ok (.getfield 12, 3) := by decide +kernel
theorem d_X11_actAt_4 : decode prog_1_method_58_code 4 = .ok (.iload_n 1, 1) := by decide +kernel
theorem d_X11_actAt_5 : decode prog_1_method_58_code 5 = .ok (.iconst 1, 1) := by decide +kernel
theorem d_X11_actAt_6 : decode prog_1_method_58_code 6 = .ok (.iadd, 1) := by decide +kernel
theorem d_X11_actAt_7 : decode prog_1_method_58_code 7 = .ok (.invokevirtual 91, 3) := by decide +kernel
theorem d_X11_actAt_10 : decode prog_1_method_58_code 10 = .ok (.istore_n 2, 1) := by decide +kernel
theorem d_X11_actAt_11 : decode prog_1_method_58_code 11 = .ok (.aload_n 0, 1) := by decide +kernel
theorem d_X11_actAt_12 : decode prog_1_method_58_code 12 = .ok (.getfield 12, 3) := by decide +kernel
theorem d_X11_actAt_15 : decode prog_1_method_58_code 15 = .ok (.iload_n 1, 1) := by decide +kernel
theorem d_X11_actAt_16 : decode prog_1_method_58_code 16 = .ok (.invokevirtual 83, 3) := by decide +kernel
theorem d_X11_actAt_19 : decode prog_1_method_58_code 19 = .ok (.lookupswitch 128 #[(102, 81), (107, 119), (110, 49), (113, 58), (118, 100)], 49) := by decide +kernel
theorem d_X11_actAt_68 : decode prog_1_method_58_code 68 = .ok (.aload_n 0, 1) := by decide +kernel
theorem d_X11_actAt_69 : decode prog_1_method_58_code 69 = .ok (.getfield 26, 3) := by decide +kernel
theorem d_X11_actAt_72 : decode prog_1_method_58_code 72 = .ok (.iload_n 2, 1) := by decide +kernel
theorem d_X11_actAt_73 : decode prog_1_method_58_code 73 = .ok (.invokevirtual 171, 3) := by decide +kernel
theorem d_X11_actAt_76 : decode prog_1_method_58_code 76 = .ok (.ireturn, 1) := by decide +kernel
theorem d_X11_actAt_77 : decode prog_1_method_58_code 77 = .ok (.aload_n 0, 1) := by decide +kernel
theorem d_X11_actAt_78 : decode prog_1_method_58_code 78 = .ok (.getfield 26, 3) := by decide +kernel
theorem d_X11_actAt_81 : decode prog_1_method_58_code 81 = .ok (.aload_n 0, 1) := by decide +kernel
theorem d_X11_actAt_82 : decode prog_1_method_58_code 82 = .ok (.getfield 57, 3) := by decide +kernel
theorem d_X11_actAt_85 : decode prog_1_method_58_code 85 = .ok (.iload_n 2, 1) := by decide +kernel
theorem d_X11_actAt_86 : decode prog_1_method_58_code 86 = .ok (.aload_n 0, 1) := by decide +kernel
theorem d_X11_actAt_87 : decode prog_1_method_58_code 87 = .ok (.getfield 12, 3) := by decide +kernel
theorem d_X11_actAt_90 : decode prog_1_method_58_code 90 = .ok (.iload_n 1, 1) := by decide +kernel
theorem d_X11_actAt_91 : decode prog_1_method_58_code 91 = .ok (.iconst 2, 1) := by decide +kernel
theorem d_X11_actAt_92 : decode prog_1_method_58_code 92 = .ok (.iadd, 1) := by decide +kernel
theorem d_X11_actAt_93 : decode prog_1_method_58_code 93 = .ok (.invokevirtual 91, 3) := by decide +kernel
theorem d_X11_actAt_96 : decode prog_1_method_58_code 96 = .ok (.invokevirtual 152, 3) := by decide +kernel
theorem d_X11_actAt_99 : decode prog_1_method_58_code 99 = .ok (.ireturn, 1) := by decide +kernel
theorem d_X11_actAt_100 : decode prog_1_method_58_code 100 = .ok (.aload_n 0, 1) := by decide +kernel
theorem d_X11_actAt_101 : decode prog_1_method_58_code 101 = .ok (.getfield 26, 3) := by decide +kernel
theorem d_X11_actAt_104 : decode prog_1_method_58_code 104 = .ok (.iload_n 2, 1) := by decide +kernel
theorem d_X11_actAt_105 : decode prog_1_method_58_code 105 = .ok (.aload_n 0, 1) := by decide +kernel
theorem d_X11_actAt_106 : decode prog_1_method_58_code 106 = .ok (.getfield 12, 3) := by decide +kernel
theorem d_X11_actAt_109 : decode prog_1_method_58_code 109 = .ok (.iload_n 1, 1) := by decide +kernel
theorem d_X11_actAt_110 : decode prog_1_method_58_code 110 = .ok (.iconst 2, 1) := by decide +kernel
theorem d_X11_actAt_111 : decode prog_1_method_58_code 111 = .ok (.iadd, 1) := by decide +kernel
theorem d_X11_actAt_112 : decode prog_1_method_58_code 112 = .ok (.invokevirtual 91, 3) := by decide +kernel
theorem d_X11_actAt_115 : decode prog_1_method_58_code 115 = .ok (.invokevirtual 177, 3) := by decide +kernel
theorem d_X11_actAt_118 : decode prog_1_method_58_code 118 = .ok (.ireturn, 1) := by decide +kernel
theorem d_X11_actAt_119 : decode prog_1_method_58_code 119 = .ok (.aload_n 0, 1) := by decide +kernel
theorem d_X11_actAt_120 : decode prog_1_method_58_code 120 = .ok (.getfield 26, 3) := by decide +kernel
theorem d_X11_actAt_123 : decode prog_1_method_58_code 123 = .ok (.iload_n 2, 1) := by decide +kernel
theorem d_X11_actAt_124 : decode prog_1_method_58_code 124 = .ok (.aload_n 0, 1) := by decide +kernel
theorem d_X11_actAt_125 : decode prog_1_method_58_code 125 = .ok (.getfield 12, 3) := by decide +kernel
theorem d_X11_actAt_128 : decode prog_1_method_58_code 128 = .ok (.iload_n 1, 1) := by decide +kernel
theorem d_X11_actAt_129 : decode prog_1_method_58_code 129 = .ok (.iconst 2, 1) := by decide +kernel
theorem d_X11_actAt_130 : decode prog_1_method_58_code 130 = .ok (.iadd, 1) := by decide +kernel
theorem d_X11_actAt_131 : decode prog_1_method_58_code 131 = .ok (.invokevirtual 94, 3) := by decide +kernel
theorem d_X11_actAt_134 : decode prog_1_method_58_code 134 = .ok (.invokevirtual 184, 3) := by decide +kernel
theorem d_X11_actAt_137 : decode prog_1_method_58_code 137 = .ok (.ireturn, 1) := by decide +kernel
theorem d_X11_actAt_138 : decode prog_1_method_58_code 138 = .ok (.aload_n 0, 1) := by decide +kernel
theorem d_X11_actAt_139 : decode prog_1_method_58_code 139 = .ok (.getfield 26, 3) := by decide +kernel
theorem d_X11_actAt_142 : decode prog_1_method_58_code 142 = .ok (.iload_n 2, 1) := by decide +kernel
theorem d_X11_actAt_143 : decode prog_1_method_58_code 143 = .ok (.invokevirtual 187, 3) := by decide +kernel
theorem d_X11_actAt_146 : decode prog_1_method_58_code 146 = .ok (.ireturn, 1) := by decide +kernel
theorem d_X11_actAt_147 : decode prog_1_method_58_code 147 = .ok (.iconst (-1), 1) := by decide +kernel
theorem d_X11_actAt_148 : decode prog_1_method_58_code 148 = .ok (.ireturn, 1) := by decide +kernel
theorem swD_X11_actAt_19 {x : Int32} (h0 : ¬ x = (102 : Int32)) (h1 : ¬ x = (107 : Int32)) (h2 : ¬ x = (110 : Int32)) (h3 : ¬ x = (113 : Int32)) (h4 : ¬ x = (118 : Int32)) : Op.lookupswitch.offset [(102, 81), (107, 119), (110, 49), (113, 58), (118, 100)] 128 x.toInt = 128 := by
  rw [lv_osw h0 (by decide), lv_osw h1 (by decide), lv_osw h2 (by decide), lv_osw h3 (by decide), lv_osw h4 (by decide)]
  first | done | rfl
def f_X11_actAt (χ : St) (a1 : Int32) : Option (Int32 × St) := (f_X8_digitAt χ (a1 + (1 : Int32))).bind (fun q1 => (f_X8_at χ a1).bind (fun q3 => (if q3 = (102 : Int32) then (f_X8_digitAt χ (a1 + (2 : Int32))).bind (fun q5 => (f_X0_soothe χ 32 q1 q5).bind (fun q7 => some (q7.1, q7.2))) else if q3 = (107 : Int32) then (f_X0_cut χ 32 q1).bind (fun q9 => some (q9.1, q9.2)) else if q3 = (110 : Int32) then (f_X0_goBy χ 32 q1).bind (fun q11 => some (q11.1, q11.2)) else if q3 = (113 : Int32) then gd (isLaw (cW χ).1) ((f_X8_digitAt χ (a1 + (2 : Int32))).bind (fun q14 => (f_X0_ask χ 32 (cW χ).1 q1 q14).bind (fun q16 => some (q16.1, q16.2)))) else if q3 = (118 : Int32) then (f_X8_twoDigitsAt χ (a1 + (2 : Int32))).bind (fun q18 => (f_X0_persuade χ 32 q1 q18).bind (fun q20 => some (q20.1, q20.2))) else some ((-1 : Int32), χ))))
theorem c_X11_actAt {l : Launch} {G : gT} {χ σ : St} {a1 : Int32} (hf : FW G) {q : Int32 × St} (h : f_X11_actAt χ a1 = some q) : Ct l G yX11_actAt prog_1_method_58_code 3 (some .int) 5 124 [.ref (ga G 0), .int a1] χ σ (some (.int q.1)) q.2 σ := by
  refine Ct.of (by decide) (Nat.le_of_ble_eq_true rfl) ?_
  intro p e s m args below meth c Q X hr hlk hQ
  have hx := X.1
  have hb := X.2.1
  intro H locs ls hw hl
  have hl : lv_has ls 3 [(0, .ref (ga G 0)), (1, .int a1)] := hl
  unfold f_X11_actAt at h
  refine lv_aload_n hx hb d_X11_actAt_0 rfl (lv_at hl 0 rfl) ?_
  refine r_getr (j := 0) X hw ct7 (o_0 hf) rfl (Nat.le_of_ble_eq_true rfl) (q := 1) rfl wd_264 d_X11_actAt_1 ?_
  refine lv_iload_n hx hb d_X11_actAt_4 rfl (lv_at hl 1 rfl) ?_
  refine lv_iconst (v := (1 : Int32)) hx hb d_X11_actAt_5 (by decide) ?_
  refine lv_iadd hx hb d_X11_actAt_6 ?_
  obtain ⟨q1, e2, h⟩ := bd_some h
  refine r_callV (As := [.int (a1 + (1 : Int32))]) (rest := []) (st' := [.int q1]) X hw hl mwX8_digitAt wd_328 wd_329 wd_339 (c_X8_digitAt hf e2) (r_recv X hw ct5 (o_1 hf)) rfl ⟨Nat.le_of_ble_eq_true rfl, Nat.le_of_ble_eq_true rfl⟩ ⟨Nat.le_refl _, Nat.le_refl _⟩ rfl rfl (Nat.le_of_ble_eq_true rfl) d_X11_actAt_7 (fun H locs hw => ?_)
  refine lv_istore_n (lv' := [(2, .int q1), (0, .ref (ga G 0)), (1, .int a1)]) hx hb d_X11_actAt_10 rfl hl (Nat.le_of_ble_eq_true rfl) rfl (fun ls hl => ?_)
  refine lv_aload_n hx hb d_X11_actAt_11 rfl (lv_at hl 1 rfl) ?_
  refine r_getr (j := 0) X hw ct7 (o_0 hf) rfl (Nat.le_of_ble_eq_true rfl) (q := 1) rfl wd_264 d_X11_actAt_12 ?_
  refine lv_iload_n hx hb d_X11_actAt_15 rfl (lv_at hl 2 rfl) ?_
  obtain ⟨q3, e4, h⟩ := bd_some h
  refine r_callV (As := [.int a1]) (rest := []) (st' := [.int q3]) X hw hl mwX8_at wd_324 wd_325 wd_335 (c_X8_at hf e4) (r_recv X hw ct5 (o_1 hf)) rfl ⟨Nat.le_of_ble_eq_true rfl, Nat.le_of_ble_eq_true rfl⟩ ⟨Nat.le_refl _, Nat.le_refl _⟩ rfl rfl (Nat.le_of_ble_eq_true rfl) d_X11_actAt_16 (fun H locs hw => ?_)
  by_cases hc0 : q3 = (102 : Int32)
  · have h := ite_t h hc0
    refine lv_lookup (tgt := 100) hx hb d_X11_actAt_19 (by decide) (by rw [hc0]; first | done | rfl) (by decide) ?_
    refine lv_aload_n hx hb d_X11_actAt_100 rfl (lv_at hl 1 rfl) ?_
    refine r_getr (j := 2) X hw ct7 (o_0 hf) rfl (Nat.le_of_ble_eq_true rfl) (q := 32) rfl wd_266 d_X11_actAt_101 ?_
    refine lv_iload_n hx hb d_X11_actAt_104 rfl (lv_at hl 0 rfl) ?_
    refine lv_aload_n hx hb d_X11_actAt_105 rfl (lv_at hl 1 rfl) ?_
    refine r_getr (j := 0) X hw ct7 (o_0 hf) rfl (Nat.le_of_ble_eq_true rfl) (q := 1) rfl wd_264 d_X11_actAt_106 ?_
    refine lv_iload_n hx hb d_X11_actAt_109 rfl (lv_at hl 2 rfl) ?_
    refine lv_iconst (v := (2 : Int32)) hx hb d_X11_actAt_110 (by decide) ?_
    refine lv_iadd hx hb d_X11_actAt_111 ?_
    obtain ⟨q5, e6, h⟩ := bd_some h
    refine r_callV (As := [.int (a1 + (2 : Int32))]) (rest := [.int q1, .ref (ga G 32)]) (st' := [.int q5, .int q1, .ref (ga G 32)]) X hw hl mwX8_digitAt wd_328 wd_329 wd_339 (c_X8_digitAt hf e6) (r_recv X hw ct5 (o_1 hf)) rfl ⟨Nat.le_of_ble_eq_true rfl, Nat.le_of_ble_eq_true rfl⟩ ⟨Nat.le_refl _, Nat.le_refl _⟩ rfl rfl (Nat.le_of_ble_eq_true rfl) d_X11_actAt_112 (fun H locs hw => ?_)
    obtain ⟨q7, e8, h⟩ := bd_some h
    refine r_callV (As := [.int q1, .int q5]) (rest := []) (st' := [.int q7.1]) X hw hl mwX0_soothe wd_456 wd_457 wd_455 (c_X0_soothe hf b_32 e8) (r_recv X hw ct0 (o_32 hf)) rfl ⟨Nat.le_of_ble_eq_true rfl, Nat.le_of_ble_eq_true rfl⟩ ⟨Nat.le_refl _, Nat.le_refl _⟩ rfl rfl (Nat.le_of_ble_eq_true rfl) d_X11_actAt_115 (fun H locs hw => ?_)
    obtain rfl := Option.some.inj h
    subst hQ
    exact r_iret X hr hlk hw d_X11_actAt_118
  have h := ite_f h hc0
  by_cases hc1 : q3 = (107 : Int32)
  · have h := ite_t h hc1
    refine lv_lookup (tgt := 138) hx hb d_X11_actAt_19 (by decide) (by rw [hc1]; first | done | rfl) (by decide) ?_
    refine lv_aload_n hx hb d_X11_actAt_138 rfl (lv_at hl 1 rfl) ?_
    refine r_getr (j := 2) X hw ct7 (o_0 hf) rfl (Nat.le_of_ble_eq_true rfl) (q := 32) rfl wd_266 d_X11_actAt_139 ?_
    refine lv_iload_n hx hb d_X11_actAt_142 rfl (lv_at hl 0 rfl) ?_
    obtain ⟨q9, e10, h⟩ := bd_some h
    refine r_callV (As := [.int q1]) (rest := []) (st' := [.int q9.1]) X hw hl mwX0_cut wd_477 wd_478 wd_476 (c_X0_cut hf b_32 e10) (r_recv X hw ct0 (o_32 hf)) rfl ⟨Nat.le_of_ble_eq_true rfl, Nat.le_of_ble_eq_true rfl⟩ ⟨Nat.le_refl _, Nat.le_refl _⟩ rfl rfl (Nat.le_of_ble_eq_true rfl) d_X11_actAt_143 (fun H locs hw => ?_)
    obtain rfl := Option.some.inj h
    subst hQ
    exact r_iret X hr hlk hw d_X11_actAt_146
  have h := ite_f h hc1
  by_cases hc2 : q3 = (110 : Int32)
  · have h := ite_t h hc2
    refine lv_lookup (tgt := 68) hx hb d_X11_actAt_19 (by decide) (by rw [hc2]; first | done | rfl) (by decide) ?_
    refine lv_aload_n hx hb d_X11_actAt_68 rfl (lv_at hl 1 rfl) ?_
    refine r_getr (j := 2) X hw ct7 (o_0 hf) rfl (Nat.le_of_ble_eq_true rfl) (q := 32) rfl wd_266 d_X11_actAt_69 ?_
    refine lv_iload_n hx hb d_X11_actAt_72 rfl (lv_at hl 0 rfl) ?_
    obtain ⟨q11, e12, h⟩ := bd_some h
    refine r_callV (As := [.int q1]) (rest := []) (st' := [.int q11.1]) X hw hl mwX0_goBy wd_446 wd_447 wd_445 (c_X0_goBy hf b_32 e12) (r_recv X hw ct0 (o_32 hf)) rfl ⟨Nat.le_of_ble_eq_true rfl, Nat.le_of_ble_eq_true rfl⟩ ⟨Nat.le_refl _, Nat.le_refl _⟩ rfl rfl (Nat.le_of_ble_eq_true rfl) d_X11_actAt_73 (fun H locs hw => ?_)
    obtain rfl := Option.some.inj h
    subst hQ
    exact r_iret X hr hlk hw d_X11_actAt_76
  have h := ite_f h hc2
  by_cases hc3 : q3 = (113 : Int32)
  · have h := ite_t h hc3
    refine lv_lookup (tgt := 77) hx hb d_X11_actAt_19 (by decide) (by rw [hc3]; first | done | rfl) (by decide) ?_
    refine lv_aload_n hx hb d_X11_actAt_77 rfl (lv_at hl 1 rfl) ?_
    refine r_getr (j := 2) X hw ct7 (o_0 hf) rfl (Nat.le_of_ble_eq_true rfl) (q := 32) rfl wd_266 d_X11_actAt_78 ?_
    refine lv_aload_n hx hb d_X11_actAt_81 rfl (lv_at hl 1 rfl) ?_
    obtain ⟨hw13, h⟩ := gd_some h
    refine r_getr (j := 7) X hw ct7 (o_0 hf) rfl (Nat.le_of_ble_eq_true rfl) (q := (cW χ).1) rfl wd_271 d_X11_actAt_82 ?_
    refine lv_iload_n hx hb d_X11_actAt_85 rfl (lv_at hl 0 rfl) ?_
    refine lv_aload_n hx hb d_X11_actAt_86 rfl (lv_at hl 1 rfl) ?_
    refine r_getr (j := 0) X hw ct7 (o_0 hf) rfl (Nat.le_of_ble_eq_true rfl) (q := 1) rfl wd_264 d_X11_actAt_87 ?_
    refine lv_iload_n hx hb d_X11_actAt_90 rfl (lv_at hl 2 rfl) ?_
    refine lv_iconst (v := (2 : Int32)) hx hb d_X11_actAt_91 (by decide) ?_
    refine lv_iadd hx hb d_X11_actAt_92 ?_
    obtain ⟨q14, e15, h⟩ := bd_some h
    refine r_callV (As := [.int (a1 + (2 : Int32))]) (rest := [.int q1, .ref (ga G (cW χ).1), .ref (ga G 32)]) (st' := [.int q14, .int q1, .ref (ga G (cW χ).1), .ref (ga G 32)]) X hw hl mwX8_digitAt wd_328 wd_329 wd_339 (c_X8_digitAt hf e15) (r_recv X hw ct5 (o_1 hf)) rfl ⟨Nat.le_of_ble_eq_true rfl, Nat.le_of_ble_eq_true rfl⟩ ⟨Nat.le_refl _, Nat.le_refl _⟩ rfl rfl (Nat.le_of_ble_eq_true rfl) d_X11_actAt_93 (fun H locs hw => ?_)
    obtain ⟨q16, e17, h⟩ := bd_some h
    refine r_callV (As := [.ref (ga G (cW χ).1), .int q1, .int q14]) (rest := []) (st' := [.int q16.1]) X hw hl mwX0_ask wd_394 wd_395 wd_393 (c_X0_ask hf b_32 (LW.of hf hw13) e17) (r_recv X hw ct0 (o_32 hf)) rfl ⟨Nat.le_of_ble_eq_true rfl, Nat.le_of_ble_eq_true rfl⟩ ⟨Nat.le_refl _, Nat.le_refl _⟩ rfl rfl (Nat.le_of_ble_eq_true rfl) d_X11_actAt_96 (fun H locs hw => ?_)
    obtain rfl := Option.some.inj h
    subst hQ
    exact r_iret X hr hlk hw d_X11_actAt_99
  have h := ite_f h hc3
  by_cases hc4 : q3 = (118 : Int32)
  · have h := ite_t h hc4
    refine lv_lookup (tgt := 119) hx hb d_X11_actAt_19 (by decide) (by rw [hc4]; first | done | rfl) (by decide) ?_
    refine lv_aload_n hx hb d_X11_actAt_119 rfl (lv_at hl 1 rfl) ?_
    refine r_getr (j := 2) X hw ct7 (o_0 hf) rfl (Nat.le_of_ble_eq_true rfl) (q := 32) rfl wd_266 d_X11_actAt_120 ?_
    refine lv_iload_n hx hb d_X11_actAt_123 rfl (lv_at hl 0 rfl) ?_
    refine lv_aload_n hx hb d_X11_actAt_124 rfl (lv_at hl 1 rfl) ?_
    refine r_getr (j := 0) X hw ct7 (o_0 hf) rfl (Nat.le_of_ble_eq_true rfl) (q := 1) rfl wd_264 d_X11_actAt_125 ?_
    refine lv_iload_n hx hb d_X11_actAt_128 rfl (lv_at hl 2 rfl) ?_
    refine lv_iconst (v := (2 : Int32)) hx hb d_X11_actAt_129 (by decide) ?_
    refine lv_iadd hx hb d_X11_actAt_130 ?_
    obtain ⟨q18, e19, h⟩ := bd_some h
    refine r_callV (As := [.int (a1 + (2 : Int32))]) (rest := [.int q1, .ref (ga G 32)]) (st' := [.int q18, .int q1, .ref (ga G 32)]) X hw hl mwX8_twoDigitsAt wd_332 wd_333 wd_340 (c_X8_twoDigitsAt hf e19) (r_recv X hw ct5 (o_1 hf)) rfl ⟨Nat.le_of_ble_eq_true rfl, Nat.le_of_ble_eq_true rfl⟩ ⟨Nat.le_refl _, Nat.le_refl _⟩ rfl rfl (Nat.le_of_ble_eq_true rfl) d_X11_actAt_131 (fun H locs hw => ?_)
    obtain ⟨q20, e21, h⟩ := bd_some h
    refine r_callV (As := [.int q1, .int q18]) (rest := []) (st' := [.int q20.1]) X hw hl mwX0_persuade wd_469 wd_470 wd_468 (c_X0_persuade hf b_32 e21) (r_recv X hw ct0 (o_32 hf)) rfl ⟨Nat.le_of_ble_eq_true rfl, Nat.le_of_ble_eq_true rfl⟩ ⟨Nat.le_refl _, Nat.le_refl _⟩ rfl rfl (Nat.le_of_ble_eq_true rfl) d_X11_actAt_134 (fun H locs hw => ?_)
    obtain rfl := Option.some.inj h
    subst hQ
    exact r_iret X hr hlk hw d_X11_actAt_137
  have h := ite_f h hc4
  have hn0 := lv_neT hc0 (a := 102) (by decide)
  have hn1 := lv_neT hc1 (a := 107) (by decide)
  have hn2 := lv_neT hc2 (a := 110) (by decide)
  have hn3 := lv_neT hc3 (a := 113) (by decide)
  have hn4 := lv_neT hc4 (a := 118) (by decide)
  refine lv_lookup (tgt := 147) hx hb d_X11_actAt_19 (by decide) (swD_X11_actAt_19 hc0 hc1 hc2 hc3 hc4) (by decide) ?_
  refine lv_iconst (v := (-1 : Int32)) hx hb d_X11_actAt_147 (by decide) ?_
  obtain rfl := Option.some.inj h
  subst hQ
  exact r_iret X hr hlk hw d_X11_actAt_148
abbrev yX11_season : MethodName := ⟨"OysterBeds", "season", "()I"⟩
theorem mwX11_season : MW yX11_season prog_1_method_13_code 5 (some .int) 0 := ⟨wd_483, wd_1, by decide +kernel⟩
theorem d_X11_season_0 : decode prog_1_method_13_code 0 = .ok (.aload_n 0, 1) := by decide +kernel
theorem d_X11_season_1 : decode prog_1_method_13_code 1 = .ok (.getfield 12, 3) := by decide +kernel
theorem d_X11_season_4 : decode prog_1_method_13_code 4 = .ok (.invokevirtual 190, 3) := by decide +kernel
theorem d_X11_season_7 : decode prog_1_method_13_code 7 = .ok (.istore_n 1, 1) := by decide +kernel
theorem d_X11_season_8 : decode prog_1_method_13_code 8 = .ok (.iload_n 1, 1) := by decide +kernel
theorem d_X11_season_9 : decode prog_1_method_13_code 9 = .ok (.iconst (-1), 1) := by decide +kernel
theorem d_X11_season_10 : decode prog_1_method_13_code 10 = .ok (.if_icmp .eq 16, 3) := by decide +kernel
theorem d_X11_season_13 : decode prog_1_method_13_code 13 = .ok (.aload_n 0, 1) := by decide +kernel
theorem d_X11_season_14 : decode prog_1_method_13_code 14 = .ok (.getfield 12, 3) := by decide +kernel
theorem d_X11_season_17 : decode prog_1_method_13_code 17 = .ok (.iconst 0, 1) := by decide +kernel
theorem d_X11_season_18 : decode prog_1_method_13_code 18 = .ok (.invokevirtual 72, 3) := by decide +kernel
theorem d_X11_season_21 : decode prog_1_method_13_code 21 = .ok (.pop, 1) := by decide +kernel
theorem d_X11_season_22 : decode prog_1_method_13_code 22 = .ok (.iconst (-1), 1) := by decide +kernel
theorem d_X11_season_23 : decode prog_1_method_13_code 23 = .ok (.iload_n 1, 1) := by decide +kernel
theorem d_X11_season_24 : decode prog_1_method_13_code 24 = .ok (.isub, 1) := by decide +kernel
theorem d_X11_season_25 : decode prog_1_method_13_code 25 = .ok (.ireturn, 1) := by decide +kernel
theorem d_X11_season_26 : decode prog_1_method_13_code 26 = .ok (.aload_n 0, 1) := by decide +kernel
theorem d_X11_season_27 : decode prog_1_method_13_code 27 = .ok (.getfield 30, 3) := by decide +kernel
theorem d_X11_season_30 : decode prog_1_method_13_code 30 = .ok (.aload_n 0, 1) := by decide +kernel
theorem d_X11_season_31 : decode prog_1_method_13_code 31 = .ok (.getfield 26, 3) := by decide +kernel
theorem d_X11_season_34 : decode prog_1_method_13_code 34 = .ok (.invokevirtual 174, 3) := by decide +kernel
theorem d_X11_season_37 : decode prog_1_method_13_code 37 = .ok (.iconst 0, 1) := by decide +kernel
theorem d_X11_season_38 : decode prog_1_method_13_code 38 = .ok (.istore_n 2, 1) := by decide +kernel
theorem d_X11_season_39 : decode prog_1_method_13_code 39 = .ok (.iconst 0, 1) := by decide +kernel
theorem d_X11_season_40 : decode prog_1_method_13_code 40 = .ok (.istore_n 3, 1) := by decide +kernel
theorem d_X11_season_41 : decode prog_1_method_13_code 41 = .ok (.iconst 0, 1) := by decide +kernel
theorem d_X11_season_42 : decode prog_1_method_13_code 42 = .ok (.istore 4, 2) := by decide +kernel
theorem d_X11_season_44 : decode prog_1_method_13_code 44 = .ok (.iload 4, 2) := by decide +kernel
theorem d_X11_season_46 : decode prog_1_method_13_code 46 = .ok (.aload_n 0, 1) := by decide +kernel
theorem d_X11_season_47 : decode prog_1_method_13_code 47 = .ok (.getfield 12, 3) := by decide +kernel
theorem d_X11_season_50 : decode prog_1_method_13_code 50 = .ok (.getfield 64, 3) := by decide +kernel
theorem d_X11_season_53 : decode prog_1_method_13_code 53 = .ok (.if_icmp .ge 46, 3) := by decide +kernel
theorem d_X11_season_56 : decode prog_1_method_13_code 56 = .ok (.iload_n 3, 1) := by decide +kernel
theorem d_X11_season_57 : decode prog_1_method_13_code 57 = .ok (.ifCond .ne 42, 3) := by decide +kernel
theorem d_X11_season_60 : decode prog_1_method_13_code 60 = .ok (.aload_n 0, 1) := by decide +kernel
theorem d_X11_season_61 : decode prog_1_method_13_code 61 = .ok (.iload 4, 2) := by decide +kernel
theorem d_X11_season_63 : decode prog_1_method_13_code 63 = .ok (.invokevirtual 193, 3) := by decide +kernel
theorem d_X11_season_66 : decode prog_1_method_13_code 66 = .ok (.ifCond .ge 8, 3) := by decide +kernel
theorem d_X11_season_69 : decode prog_1_method_13_code 69 = .ok (.iconst 1, 1) := by decide +kernel
theorem d_X11_season_70 : decode prog_1_method_13_code 70 = .ok (.istore_n 3, 1) := by decide +kernel
theorem d_X11_season_71 : decode prog_1_method_13_code 71 = .ok (.goto 6, 3) := by decide +kernel
theorem d_X11_season_74 : decode prog_1_method_13_code 74 = .ok (.iinc 2 1, 3) := by decide +kernel
theorem d_X11_season_77 : decode prog_1_method_13_code 77 = .ok (.iload 4, 2) := by decide +kernel
theorem d_X11_season_79 : decode prog_1_method_13_code 79 = .ok (.iconst 1, 1) := by decide +kernel
theorem d_X11_season_80 : decode prog_1_method_13_code 80 = .ok (.aload_n 0, 1) := by decide +kernel
theorem d_X11_season_81 : decode prog_1_method_13_code 81 = .ok (.getfield 12, 3) := by decide +kernel
theorem d_X11_season_84 : decode prog_1_method_13_code 84 = .ok (.iload 4, 2) := by decide +kernel
theorem d_X11_season_86 : decode prog_1_method_13_code 86 = .ok (.invokevirtual 83, 3) := by decide +kernel
theorem d_X11_season_89 : decode prog_1_method_13_code 89 = .ok (.invokestatic 196, 3) := by decide +kernel
theorem d_X11_season_92 : decode prog_1_method_13_code 92 = .ok (.iadd, 1) := by decide +kernel
theorem d_X11_season_93 : decode prog_1_method_13_code 93 = .ok (.iadd, 1) := by decide +kernel
theorem d_X11_season_94 : decode prog_1_method_13_code 94 = .ok (.istore 4, 2) := by decide +kernel
theorem d_X11_season_96 : decode prog_1_method_13_code 96 = .ok (.goto (-52), 3) := by decide +kernel
theorem d_X11_season_99 : decode prog_1_method_13_code 99 = .ok (.aload_n 0, 1) := by decide +kernel
theorem d_X11_season_100 : decode prog_1_method_13_code 100 = .ok (.getfield 12, 3) := by decide +kernel
theorem d_X11_season_103 : decode prog_1_method_13_code 103 = .ok (.iconst 0, 1) := by decide +kernel
theorem d_X11_season_104 : decode prog_1_method_13_code 104 = .ok (.invokevirtual 72, 3) := by decide +kernel
theorem d_X11_season_107 : decode prog_1_method_13_code 107 = .ok (.pop, 1) := by decide +kernel
theorem d_X11_season_108 : decode prog_1_method_13_code 108 = .ok (.iload_n 2, 1) := by decide +kernel
theorem d_X11_season_109 : decode prog_1_method_13_code 109 = .ok (.ifCond .le 14, 3) := by decide +kernel
theorem d_X11_season_112 : decode prog_1_method_13_code 112 = .ok (.aload_n 0, 1) := by decide +kernel
theorem d_X11_season_113 : decode prog_1_method_13_code 113 = .ok (.getfield 36, 3) := by decide +kernel
theorem d_X11_season_116 : decode prog_1_method_13_code 116 = .ok (.aload_n 0, 1) := by decide +kernel
theorem d_X11_season_117 : decode prog_1_method_13_code 117 = .ok (.getfield 30, 3) := by decide +kernel
theorem d_X11_season_120 : decode prog_1_method_13_code 120 = .ok (.invokevirtual 148, 3) := by decide +kernel
theorem d_X11_season_123 : decode prog_1_method_13_code 123 = .ok (.aload_n 0, 1) := by decide +kernel
theorem d_X11_season_124 : decode prog_1_method_13_code 124 = .ok (.getfield 19, 3) := by decide +kernel
theorem d_X11_season_127 : decode prog_1_method_13_code 127 = .ok (.invokevirtual 156, 3) := by decide +kernel
theorem d_X11_season_130 : decode prog_1_method_13_code 130 = .ok (.aload_n 0, 1) := by decide +kernel
theorem d_X11_season_131 : decode prog_1_method_13_code 131 = .ok (.getfield 19, 3) := by decide +kernel
theorem d_X11_season_134 : decode prog_1_method_13_code 134 = .ok (.iload_n 3, 1) := by decide +kernel
theorem d_X11_season_135 : decode prog_1_method_13_code 135 = .ok (.ifCond .eq 7, 3) := by decide +kernel
theorem d_X11_season_138 : decode prog_1_method_13_code 138 = .ok (.lconst 1, 1) := by decide +kernel
theorem d_X11_season_139 : decode prog_1_method_13_code 139 = .ok (.goto 4, 3) := by decide +kernel
theorem d_X11_season_142 : decode prog_1_method_13_code 142 = .ok (.lconst 0, 1) := by decide +kernel
theorem d_X11_season_143 : decode prog_1_method_13_code 143 = .ok (.invokevirtual 159, 3) := by decide +kernel
theorem d_X11_season_146 : decode prog_1_method_13_code 146 = .ok (.aload_n 0, 1) := by decide +kernel
theorem d_X11_season_147 : decode prog_1_method_13_code 147 = .ok (.getfield 19, 3) := by decide +kernel
theorem d_X11_season_150 : decode prog_1_method_13_code 150 = .ok (.aload_n 0, 1) := by decide +kernel
theorem d_X11_season_151 : decode prog_1_method_13_code 151 = .ok (.getfield 26, 3) := by decide +kernel
theorem d_X11_season_154 : decode prog_1_method_13_code 154 = .ok (.invokevirtual 163, 3) := by decide +kernel
theorem d_X11_season_157 : decode prog_1_method_13_code 157 = .ok (.invokestatic 166, 3) := by decide +kernel
theorem d_X11_season_160 : decode prog_1_method_13_code 160 = .ok (.i2l, 1) := by decide +kernel
theorem d_X11_season_161 : decode prog_1_method_13_code 161 = .ok (.invokevirtual 159, 3) := by decide +kernel
theorem d_X11_season_164 : decode prog_1_method_13_code 164 = .ok (.iload_n 2, 1) := by decide +kernel
theorem d_X11_season_165 : decode prog_1_method_13_code 165 = .ok (.ireturn, 1) := by decide +kernel
def f_X11_season_j77_44 (τ : St) (x2 : Int32) (x3 : Int32) (x4 : Int32) : Option ((Int32 × Int32 × Int32 × St) ⊕ (Int32 × Int32 × St)) := (f_X8_at τ x4).bind (fun q7 => (f_X8_digitsBehind q7).bind (fun q9 => some (.inl (x2, x3, (x4 + ((1 : Int32) + q9)), τ))))
def f_X11_season_s44 (τ : St) (x2 : Int32) (x3 : Int32) (x4 : Int32) : Option ((Int32 × Int32 × Int32 × St) ⊕ (Int32 × Int32 × St)) := (if (cF τ 1 1) ≤ x4 then some (.inr (x2, x3, τ)) else (if x3 = 0 then (f_X11_actAt τ x4).bind (fun q5 => f_X11_season_j77_44 q5.2 (if 0 ≤ q5.1 then (x2 + (1 : Int32)) else x2) (if 0 ≤ q5.1 then x3 else (1 : Int32)) x4) else some (.inr (x2, x3, τ))))
def f_X11_season_j143 (τ : St) (x2 : Int32) (s1 : Int64) : Option (Int32 × St) := (f_X9_add τ s1).bind (fun q18 => (f_X0_openOnes q18 32).bind (fun q20 => (f_J6_bitCount_0f7a4 q20).bind (fun q22 => (f_X9_add q18 q22.toInt64).bind (fun q24 => some (x2, q24)))))
def f_X11_season_j123 (τ : St) (x2 : Int32) (x3 : Int32) : Option (Int32 × St) := (f_X9_start τ).bind (fun q16 => f_X11_season_j143 q16 x2 (if x3 = 0 then (0 : Int64) else (1 : Int64)))
def f_X11_season_j99 (τ : St) (x2 : Int32) (x3 : Int32) : Option (Int32 × St) := (f_X8_cutTo τ (0 : Int32)).bind (fun q14 => (if x2 ≤ 0 then f_X11_season_j123 q14.2 x2 x3 else (f_X6_push q14.2 40).bind (fun q26 => f_X11_season_j123 q26 x2 x3)))
def f_X11_season (χ : St) : Option (Int32 × St) := (f_X8_faultAsSeason χ).bind (fun q1 => (if q1 = (-1 : Int32) then (f_X0_copyFrom χ 40 32).bind (fun q3 => (iter (fun z => f_X11_season_s44 z.2.2.2 z.1 z.2.1 z.2.2.1) FU ((0 : Int32), (0 : Int32), (0 : Int32), q3)).bind (fun z11 => f_X11_season_j99 z11.2.2 z11.1 z11.2.1)) else (f_X8_cutTo χ (0 : Int32)).bind (fun q28 => some (((-1 : Int32) - q1), q28.2))))
theorem c_X11_season {l : Launch} {G : gT} {χ σ : St} (hf : FW G) {q : Int32 × St} (h : f_X11_season χ = some q) : Ct l G yX11_season prog_1_method_13_code 5 (some .int) 6 146 [.ref (ga G 0)] χ σ (some (.int q.1)) q.2 σ := by
  refine Ct.of (by decide) (Nat.le_of_ble_eq_true rfl) ?_
  intro p e s m args below meth c Q X hr hlk hQ
  have hx := X.1
  have hb := X.2.1
  have j77_44 : ∀ (τ : St) (x2 : Int32) (x3 : Int32) (x4 : Int32) (o : (Int32 × Int32 × Int32 × St) ⊕ (Int32 × Int32 × St)), f_X11_season_j77_44 τ x2 x3 x4 = some o → Sum.elim (fun z : Int32 × Int32 × Int32 × St => Wat p l e (rmk 6 146) s m args below meth c Q G 5 44 [] [(2, .int z.1), (3, .int z.2.1), (4, .int z.2.2.1), (0, .ref (ga G 0))] z.2.2.2 σ) (fun z : Int32 × Int32 × St => Wat p l e (rmk 6 146) s m args below meth c Q G 5 99 [] [(0, .ref (ga G 0)), (2, .int z.1), (3, .int z.2.1)] z.2.2 σ) o → Wat p l e (rmk 6 146) s m args below meth c Q G 5 77 [] [(0, .ref (ga G 0)), (2, .int x2), (3, .int x3), (4, .int x4)] τ σ := by
    intro τ x2 x3 x4 o h hk H locs ls hw hl
    unfold f_X11_season_j77_44 at h
    refine lv_iload hx hb d_X11_season_77 (lv_at hl 3 rfl) ?_
    refine lv_iconst (v := (1 : Int32)) hx hb d_X11_season_79 (by decide) ?_
    refine lv_aload_n hx hb d_X11_season_80 rfl (lv_at hl 0 rfl) ?_
    refine r_getr (j := 0) X hw ct7 (o_0 hf) rfl (Nat.le_of_ble_eq_true rfl) (q := 1) rfl wd_264 d_X11_season_81 ?_
    refine lv_iload hx hb d_X11_season_84 (lv_at hl 3 rfl) ?_
    obtain ⟨q7, e8, h⟩ := bd_some h
    refine r_callV (As := [.int x4]) (rest := [.int (1 : Int32), .int x4]) (st' := [.int q7, .int (1 : Int32), .int x4]) X hw hl mwX8_at wd_324 wd_325 wd_335 (c_X8_at hf e8) (r_recv X hw ct5 (o_1 hf)) rfl ⟨Nat.le_of_ble_eq_true rfl, Nat.le_of_ble_eq_true rfl⟩ ⟨Nat.le_refl _, Nat.le_refl _⟩ rfl rfl (Nat.le_of_ble_eq_true rfl) d_X11_season_86 (fun H locs hw => ?_)
    obtain ⟨q9, e10, h⟩ := bd_some h
    refine r_callS (As := [.int q7]) (rest := [.int (1 : Int32), .int x4]) (st' := [.int q9, .int (1 : Int32), .int x4]) X hw hl mwX8_digitsBehind wd_489 wd_495 (c_X8_digitsBehind hf e10) rfl ⟨Nat.le_of_ble_eq_true rfl, Nat.le_of_ble_eq_true rfl⟩ ⟨Nat.le_refl _, Nat.le_refl _⟩ rfl rfl (Nat.le_of_ble_eq_true rfl) d_X11_season_89 (fun H locs hw => ?_)
    refine lv_iadd hx hb d_X11_season_92 ?_
    refine lv_iadd hx hb d_X11_season_93 ?_
    refine lv_istore (lv' := [(4, .int (x4 + ((1 : Int32) + q9))), (0, .ref (ga G 0)), (2, .int x2), (3, .int x3)]) hx hb d_X11_season_94 hl (Nat.le_of_ble_eq_true rfl) rfl (fun ls hl => ?_)
    refine lv_goto (tgt := 44) hx hb d_X11_season_96 (by decide) ?_
    obtain rfl := Option.some.inj h
    dsimp only [Sum.elim_inl] at hk
    exact hk _ _ _ hw (lv_sub hl [2, 3, 0, 1] rfl)
  have b44 : ∀ (τ : St) (x2 : Int32) (x3 : Int32) (x4 : Int32) (o : (Int32 × Int32 × Int32 × St) ⊕ (Int32 × Int32 × St)), f_X11_season_s44 τ x2 x3 x4 = some o → Sum.elim (fun z : Int32 × Int32 × Int32 × St => Wat p l e (rmk 6 146) s m args below meth c Q G 5 44 [] [(2, .int z.1), (3, .int z.2.1), (4, .int z.2.2.1), (0, .ref (ga G 0))] z.2.2.2 σ) (fun z : Int32 × Int32 × St => Wat p l e (rmk 6 146) s m args below meth c Q G 5 99 [] [(0, .ref (ga G 0)), (2, .int z.1), (3, .int z.2.1)] z.2.2 σ) o → Wat p l e (rmk 6 146) s m args below meth c Q G 5 44 [] [(2, .int x2), (3, .int x3), (4, .int x4), (0, .ref (ga G 0))] τ σ := by
    intro τ x2 x3 x4 o h hk H locs ls hw hl
    unfold f_X11_season_s44 at h
    refine lv_iload hx hb d_X11_season_44 (lv_at hl 2 rfl) ?_
    refine lv_aload_n hx hb d_X11_season_46 rfl (lv_at hl 3 rfl) ?_
    refine r_getr (j := 0) X hw ct7 (o_0 hf) rfl (Nat.le_of_ble_eq_true rfl) (q := 1) rfl wd_264 d_X11_season_47 ?_
    refine r_getiN (j := 1) X hw ct5 (o_1 hf) (Nat.le_of_ble_eq_true rfl) rfl (Nat.le_of_ble_eq_true rfl) nw_1 d_X11_season_50 ?_
    refine lv_icmp_ge (tgt := 99) hx hb d_X11_season_53 (by decide) (fun hc => ?_) (fun hc => ?_)
    · have h := ite_t h hc
      obtain rfl := Option.some.inj h
      dsimp only [Sum.elim_inr] at hk
      exact hk _ _ _ hw (lv_sub hl [3, 0, 1] rfl)
    · have h := ite_f h hc
      refine lv_iload_n hx hb d_X11_season_56 rfl (lv_at hl 1 rfl) ?_
      refine lv_if_ne (tgt := 99) hx hb d_X11_season_57 (by decide) (fun hc => ?_) (fun hc => ?_)
      · have h := ite_f h hc
        obtain rfl := Option.some.inj h
        dsimp only [Sum.elim_inr] at hk
        exact hk _ _ _ hw (lv_sub hl [3, 0, 1] rfl)
      · have h := ite_t h hc
        refine lv_aload_n hx hb d_X11_season_60 rfl (lv_at hl 3 rfl) ?_
        refine lv_iload hx hb d_X11_season_61 (lv_at hl 2 rfl) ?_
        obtain ⟨q5, e6, h⟩ := bd_some h
        refine r_callV (As := [.int x4]) (rest := []) (st' := [.int q5.1]) X hw hl mwX11_actAt wd_493 wp_12 wd_491 (c_X11_actAt hf e6) (r_recv X hw ct7 (o_0 hf)) rfl ⟨Nat.le_of_ble_eq_true rfl, Nat.le_of_ble_eq_true rfl⟩ ⟨Nat.le_refl _, Nat.le_refl _⟩ rfl rfl (Nat.le_of_ble_eq_true rfl) d_X11_season_63 (fun H locs hw => ?_)
        refine lv_if_ge (tgt := 74) hx hb d_X11_season_66 (by decide) (fun hc => ?_) (fun hc => ?_)
        · simp only [if_pos hc] at h
          refine lv_iinc (v := (x2 + (1 : Int32))) (k := 0) (lv' := [(2, .int (x2 + (1 : Int32))), (3, .int x3), (4, .int x4), (0, .ref (ga G 0))]) hx hb d_X11_season_74 hl rfl (by rfl) (Nat.le_of_ble_eq_true rfl) rfl (fun ls hl => ?_)
          exact j77_44 q5.2 (x2 + (1 : Int32)) x3 x4 o h hk _ _ _ hw (lv_sub hl [3, 0, 1, 2] rfl)
        · simp only [if_neg hc] at h
          refine lv_iconst (v := (1 : Int32)) hx hb d_X11_season_69 (by decide) ?_
          refine lv_istore_n (lv' := [(3, .int (1 : Int32)), (2, .int x2), (4, .int x4), (0, .ref (ga G 0))]) hx hb d_X11_season_70 rfl hl (Nat.le_of_ble_eq_true rfl) rfl (fun ls hl => ?_)
          refine lv_goto (tgt := 77) hx hb d_X11_season_71 (by decide) ?_
          exact j77_44 q5.2 x2 (1 : Int32) x4 o h hk _ _ _ hw (lv_sub hl [3, 1, 0, 2] rfl)
  have j143 : ∀ (τ : St) (x2 : Int32) (s1 : Int64), f_X11_season_j143 τ x2 s1 = some q → Wat p l e (rmk 6 146) s m args below meth c Q G 5 143 [.long s1, .ref (ga G 3)] [(0, .ref (ga G 0)), (2, .int x2)] τ σ := by
    intro τ x2 s1 h H locs ls hw hl
    unfold f_X11_season_j143 at h
    obtain ⟨q18, e19, h⟩ := bd_some h
    refine r_callV (As := [.long s1]) (rest := []) (st' := []) X hw hl mwX9_add wd_424 wd_425 wd_423 (c_X9_add hf e19) (r_recv X hw ct6 (o_3 hf)) rfl ⟨Nat.le_of_ble_eq_true rfl, Nat.le_of_ble_eq_true rfl⟩ ⟨Nat.le_refl _, Nat.le_refl _⟩ rfl rfl (Nat.le_of_ble_eq_true rfl) d_X11_season_143 (fun H locs hw => ?_)
    refine lv_aload_n hx hb d_X11_season_146 rfl (lv_at hl 0 rfl) ?_
    refine r_getr (j := 1) X hw ct7 (o_0 hf) rfl (Nat.le_of_ble_eq_true rfl) (q := 3) rfl wd_265 d_X11_season_147 ?_
    refine lv_aload_n hx hb d_X11_season_150 rfl (lv_at hl 0 rfl) ?_
    refine r_getr (j := 2) X hw ct7 (o_0 hf) rfl (Nat.le_of_ble_eq_true rfl) (q := 32) rfl wd_266 d_X11_season_151 ?_
    obtain ⟨q20, e21, h⟩ := bd_some h
    refine r_callV (As := []) (rest := [.ref (ga G 3)]) (st' := [.int q20, .ref (ga G 3)]) X hw hl mwX0_openOnes wd_428 wd_429 wd_427 (c_X0_openOnes hf b_32 e21) (r_recv X hw ct0 (o_32 hf)) rfl ⟨Nat.le_of_ble_eq_true rfl, Nat.le_of_ble_eq_true rfl⟩ ⟨Nat.le_refl _, Nat.le_refl _⟩ rfl rfl (Nat.le_of_ble_eq_true rfl) d_X11_season_154 (fun H locs hw => ?_)
    obtain ⟨q22, e23, h⟩ := bd_some h
    refine r_callS (As := [.int q20]) (rest := [.ref (ga G 3)]) (st' := [.int q22, .ref (ga G 3)]) X hw hl mwJ6_bitCount_0f7a4 wd_436 wd_435 (c_J6_bitCount_0f7a4 e23) rfl ⟨Nat.le_of_ble_eq_true rfl, Nat.le_of_ble_eq_true rfl⟩ ⟨Nat.le_refl _, Nat.le_refl _⟩ rfl rfl (Nat.le_of_ble_eq_true rfl) d_X11_season_157 (fun H locs hw => ?_)
    refine lv_i2l hx hb d_X11_season_160 rfl ?_
    obtain ⟨q24, e25, h⟩ := bd_some h
    refine r_callV (As := [.long q22.toInt64]) (rest := []) (st' := []) X hw hl mwX9_add wd_424 wd_425 wd_423 (c_X9_add hf e25) (r_recv X hw ct6 (o_3 hf)) rfl ⟨Nat.le_of_ble_eq_true rfl, Nat.le_of_ble_eq_true rfl⟩ ⟨Nat.le_refl _, Nat.le_refl _⟩ rfl rfl (Nat.le_of_ble_eq_true rfl) d_X11_season_161 (fun H locs hw => ?_)
    refine lv_iload_n hx hb d_X11_season_164 rfl (lv_at hl 1 rfl) ?_
    obtain rfl := Option.some.inj h
    subst hQ
    exact r_iret X hr hlk hw d_X11_season_165
  have j123 : ∀ (τ : St) (x2 : Int32) (x3 : Int32), f_X11_season_j123 τ x2 x3 = some q → Wat p l e (rmk 6 146) s m args below meth c Q G 5 123 [] [(0, .ref (ga G 0)), (2, .int x2), (3, .int x3)] τ σ := by
    intro τ x2 x3 h H locs ls hw hl
    unfold f_X11_season_j123 at h
    refine lv_aload_n hx hb d_X11_season_123 rfl (lv_at hl 0 rfl) ?_
    refine r_getr (j := 1) X hw ct7 (o_0 hf) rfl (Nat.le_of_ble_eq_true rfl) (q := 3) rfl wd_265 d_X11_season_124 ?_
    obtain ⟨q16, e17, h⟩ := bd_some h
    refine r_callV (As := []) (rest := []) (st' := []) X hw hl mwX9_start wd_420 wd_421 wd_419 (c_X9_start hf e17) (r_recv X hw ct6 (o_3 hf)) rfl ⟨Nat.le_of_ble_eq_true rfl, Nat.le_of_ble_eq_true rfl⟩ ⟨Nat.le_refl _, Nat.le_refl _⟩ rfl rfl (Nat.le_of_ble_eq_true rfl) d_X11_season_127 (fun H locs hw => ?_)
    refine lv_aload_n hx hb d_X11_season_130 rfl (lv_at hl 0 rfl) ?_
    refine r_getr (j := 1) X hw ct7 (o_0 hf) rfl (Nat.le_of_ble_eq_true rfl) (q := 3) rfl wd_265 d_X11_season_131 ?_
    refine lv_iload_n hx hb d_X11_season_134 rfl (lv_at hl 2 rfl) ?_
    refine lv_if_eq (tgt := 142) hx hb d_X11_season_135 (by decide) (fun hc => ?_) (fun hc => ?_)
    · simp only [if_pos hc] at h
      refine lv_lconst (v := (0 : Int64)) hx hb d_X11_season_142 (by decide) ?_
      exact j143 q16 x2 (0 : Int64) h _ _ _ hw (lv_sub hl [0, 1] rfl)
    · simp only [if_neg hc] at h
      refine lv_lconst (v := (1 : Int64)) hx hb d_X11_season_138 (by decide) ?_
      refine lv_goto (tgt := 143) hx hb d_X11_season_139 (by decide) ?_
      exact j143 q16 x2 (1 : Int64) h _ _ _ hw (lv_sub hl [0, 1] rfl)
  have j99 : ∀ (τ : St) (x2 : Int32) (x3 : Int32), f_X11_season_j99 τ x2 x3 = some q → Wat p l e (rmk 6 146) s m args below meth c Q G 5 99 [] [(0, .ref (ga G 0)), (2, .int x2), (3, .int x3)] τ σ := by
    intro τ x2 x3 h H locs ls hw hl
    unfold f_X11_season_j99 at h
    refine lv_aload_n hx hb d_X11_season_99 rfl (lv_at hl 0 rfl) ?_
    refine r_getr (j := 0) X hw ct7 (o_0 hf) rfl (Nat.le_of_ble_eq_true rfl) (q := 1) rfl wd_264 d_X11_season_100 ?_
    refine lv_iconst (v := (0 : Int32)) hx hb d_X11_season_103 (by decide) ?_
    obtain ⟨q14, e15, h⟩ := bd_some h
    refine r_callV (As := [.int (0 : Int32)]) (rest := []) (st' := [.int q14.1]) X hw hl mwX8_cutTo wd_305 wd_306 wd_304 (c_X8_cutTo hf e15) (r_recv X hw ct5 (o_1 hf)) rfl ⟨Nat.le_of_ble_eq_true rfl, Nat.le_of_ble_eq_true rfl⟩ ⟨Nat.le_refl _, Nat.le_refl _⟩ rfl rfl (Nat.le_of_ble_eq_true rfl) d_X11_season_104 (fun H locs hw => ?_)
    refine lv_pop hx hb d_X11_season_107 rfl ?_
    refine lv_iload_n hx hb d_X11_season_108 rfl (lv_at hl 1 rfl) ?_
    refine lv_if_le (tgt := 123) hx hb d_X11_season_109 (by decide) (fun hc => ?_) (fun hc => ?_)
    · have h := ite_t h hc
      exact j123 q14.2 x2 x3 h _ _ _ hw (lv_sub hl [0, 1, 2] rfl)
    · have h := ite_f h hc
      refine lv_aload_n hx hb d_X11_season_112 rfl (lv_at hl 0 rfl) ?_
      refine r_getr (j := 4) X hw ct7 (o_0 hf) rfl (Nat.le_of_ble_eq_true rfl) (q := 5) rfl wd_268 d_X11_season_113 ?_
      refine lv_aload_n hx hb d_X11_season_116 rfl (lv_at hl 0 rfl) ?_
      refine r_getr (j := 3) X hw ct7 (o_0 hf) rfl (Nat.le_of_ble_eq_true rfl) (q := 40) rfl wd_267 d_X11_season_117 ?_
      obtain ⟨q26, e27, h⟩ := bd_some h
      refine r_callV (As := [.ref (ga G 40)]) (rest := []) (st' := []) X hw hl mwX6_push wd_385 wd_386 wd_384 (c_X6_push hf b_40 e27) (r_recv X hw ct3 (o_5 hf)) rfl ⟨Nat.le_of_ble_eq_true rfl, Nat.le_of_ble_eq_true rfl⟩ ⟨Nat.le_refl _, Nat.le_refl _⟩ rfl rfl (Nat.le_of_ble_eq_true rfl) d_X11_season_120 (fun H locs hw => ?_)
      exact j123 q26 x2 x3 h _ _ _ hw (lv_sub hl [0, 1, 2] rfl)
  intro H locs ls hw hl
  have hl : lv_has ls 5 [(0, .ref (ga G 0))] := hl
  unfold f_X11_season at h
  refine lv_aload_n hx hb d_X11_season_0 rfl (lv_at hl 0 rfl) ?_
  refine r_getr (j := 0) X hw ct7 (o_0 hf) rfl (Nat.le_of_ble_eq_true rfl) (q := 1) rfl wd_264 d_X11_season_1 ?_
  obtain ⟨q1, e2, h⟩ := bd_some h
  refine r_callV (As := []) (rest := []) (st' := [.int q1]) X hw hl mwX8_faultAsSeason wd_485 wd_486 wd_484 (c_X8_faultAsSeason hf e2) (r_recv X hw ct5 (o_1 hf)) rfl ⟨Nat.le_of_ble_eq_true rfl, Nat.le_of_ble_eq_true rfl⟩ ⟨Nat.le_refl _, Nat.le_refl _⟩ rfl rfl (Nat.le_of_ble_eq_true rfl) d_X11_season_4 (fun H locs hw => ?_)
  refine lv_istore_n (lv' := [(1, .int q1), (0, .ref (ga G 0))]) hx hb d_X11_season_7 rfl hl (Nat.le_of_ble_eq_true rfl) rfl (fun ls hl => ?_)
  refine lv_iload_n hx hb d_X11_season_8 rfl (lv_at hl 0 rfl) ?_
  refine lv_iconst (v := (-1 : Int32)) hx hb d_X11_season_9 (by decide) ?_
  refine lv_icmp_eq (tgt := 26) hx hb d_X11_season_10 (by decide) (fun hc => ?_) (fun hc => ?_)
  · have h := ite_t h hc
    refine lv_aload_n hx hb d_X11_season_26 rfl (lv_at hl 1 rfl) ?_
    refine r_getr (j := 3) X hw ct7 (o_0 hf) rfl (Nat.le_of_ble_eq_true rfl) (q := 40) rfl wd_267 d_X11_season_27 ?_
    refine lv_aload_n hx hb d_X11_season_30 rfl (lv_at hl 1 rfl) ?_
    refine r_getr (j := 2) X hw ct7 (o_0 hf) rfl (Nat.le_of_ble_eq_true rfl) (q := 32) rfl wd_266 d_X11_season_31 ?_
    obtain ⟨q3, e4, h⟩ := bd_some h
    refine r_callV (As := [.ref (ga G 32)]) (rest := []) (st' := []) X hw hl mwX0_copyFrom wd_389 wd_390 wd_454 (c_X0_copyFrom hf b_40 b_32 e4) (r_recv X hw ct0 (o_40 hf)) rfl ⟨Nat.le_of_ble_eq_true rfl, Nat.le_of_ble_eq_true rfl⟩ ⟨Nat.le_refl _, Nat.le_refl _⟩ rfl rfl (Nat.le_of_ble_eq_true rfl) d_X11_season_34 (fun H locs hw => ?_)
    refine lv_iconst (v := (0 : Int32)) hx hb d_X11_season_37 (by decide) ?_
    refine lv_istore_n (lv' := [(2, .int (0 : Int32)), (1, .int q1), (0, .ref (ga G 0))]) hx hb d_X11_season_38 rfl hl (Nat.le_of_ble_eq_true rfl) rfl (fun ls hl => ?_)
    refine lv_iconst (v := (0 : Int32)) hx hb d_X11_season_39 (by decide) ?_
    refine lv_istore_n (lv' := [(3, .int (0 : Int32)), (2, .int (0 : Int32)), (1, .int q1), (0, .ref (ga G 0))]) hx hb d_X11_season_40 rfl hl (Nat.le_of_ble_eq_true rfl) rfl (fun ls hl => ?_)
    refine lv_iconst (v := (0 : Int32)) hx hb d_X11_season_41 (by decide) ?_
    refine lv_istore (lv' := [(4, .int (0 : Int32)), (3, .int (0 : Int32)), (2, .int (0 : Int32)), (1, .int q1), (0, .ref (ga G 0))]) hx hb d_X11_season_42 hl (Nat.le_of_ble_eq_true rfl) rfl (fun ls hl => ?_)
    obtain ⟨z11, e12, h⟩ := bd_some h
    refine iter_w (Wh := fun z : Int32 × Int32 × Int32 × St => Wat p l e (rmk 6 146) s m args below meth c Q G 5 44 [] [(2, .int z.1), (3, .int z.2.1), (4, .int z.2.2.1), (0, .ref (ga G 0))] z.2.2.2 σ) (K := fun z : Int32 × Int32 × St => Wat p l e (rmk 6 146) s m args below meth c Q G 5 99 [] [(0, .ref (ga G 0)), (2, .int z.1), (3, .int z.2.1)] z.2.2 σ) (fun z o h1 h2 => b44 z.2.2.2 z.1 z.2.1 z.2.2.1 o h1 h2) FU _ _ e12 ?_ _ _ _ hw (lv_sub hl [2, 1, 0, 4] rfl)
    intro H locs ls hw hl
    exact j99 z11.2.2 z11.1 z11.2.1 h _ _ _ hw (lv_sub hl [0, 1, 2] rfl)
  · have h := ite_f h hc
    refine lv_aload_n hx hb d_X11_season_13 rfl (lv_at hl 1 rfl) ?_
    refine r_getr (j := 0) X hw ct7 (o_0 hf) rfl (Nat.le_of_ble_eq_true rfl) (q := 1) rfl wd_264 d_X11_season_14 ?_
    refine lv_iconst (v := (0 : Int32)) hx hb d_X11_season_17 (by decide) ?_
    obtain ⟨q28, e29, h⟩ := bd_some h
    refine r_callV (As := [.int (0 : Int32)]) (rest := []) (st' := [.int q28.1]) X hw hl mwX8_cutTo wd_305 wd_306 wd_304 (c_X8_cutTo hf e29) (r_recv X hw ct5 (o_1 hf)) rfl ⟨Nat.le_of_ble_eq_true rfl, Nat.le_of_ble_eq_true rfl⟩ ⟨Nat.le_refl _, Nat.le_refl _⟩ rfl rfl (Nat.le_of_ble_eq_true rfl) d_X11_season_18 (fun H locs hw => ?_)
    refine lv_pop hx hb d_X11_season_21 rfl ?_
    refine lv_iconst (v := (-1 : Int32)) hx hb d_X11_season_22 (by decide) ?_
    refine lv_iload_n hx hb d_X11_season_23 rfl (lv_at hl 0 rfl) ?_
    refine lv_isub hx hb d_X11_season_24 ?_
    obtain rfl := Option.some.inj h
    subst hQ
    exact r_iret X hr hlk hw d_X11_season_25
abbrev yX11_undo : MethodName := ⟨"OysterBeds", "undo", "()I"⟩
theorem mwX11_undo : MW yX11_undo prog_1_method_14_code 1 (some .int) 0 := ⟨wd_499, wd_1, by decide +kernel⟩
theorem d_X11_undo_0 : decode prog_1_method_14_code 0 = .ok (.aload_n 0, 1) := by decide +kernel
theorem d_X11_undo_1 : decode prog_1_method_14_code 1 = .ok (.getfield 36, 3) := by decide +kernel
theorem d_X11_undo_4 : decode prog_1_method_14_code 4 = .ok (.aload_n 0, 1) := by decide +kernel
theorem d_X11_undo_5 : decode prog_1_method_14_code 5 = .ok (.getfield 26, 3) := by decide +kernel
theorem d_X11_undo_8 : decode prog_1_method_14_code 8 = .ok (.invokevirtual 199, 3) := by decide +kernel
theorem d_X11_undo_11 : decode prog_1_method_14_code 11 = .ok (.ifCond .eq 13, 3) := by decide +kernel
theorem d_X11_undo_14 : decode prog_1_method_14_code 14 = .ok (.aload_n 0, 1) := by decide +kernel
theorem d_X11_undo_15 : decode prog_1_method_14_code 15 = .ok (.getfield 36, 3) := by decide +kernel
theorem d_X11_undo_18 : decode prog_1_method_14_code 18 = .ok (.getfield 203, 3) := by decide +kernel
theorem d_X11_undo_21 : decode prog_1_method_14_code 21 = .ok (.goto 4, 3) := by decide +kernel
theorem d_X11_undo_24 : decode prog_1_method_14_code 24 = .ok (.iconst (-1), 1) := by decide +kernel
theorem d_X11_undo_25 : decode prog_1_method_14_code 25 = .ok (.ireturn, 1) := by decide +kernel
def f_X11_undo (χ : St) : Option (Int32 × St) := (f_X6_pop χ 32).bind (fun q1 => some ((if q1.1 = 0 then (-1 : Int32) else (cF q1.2 5 2)), q1.2))
theorem c_X11_undo {l : Launch} {G : gT} {χ σ : St} (hf : FW G) {q : Int32 × St} (h : f_X11_undo χ = some q) : Ct l G yX11_undo prog_1_method_14_code 1 (some .int) 2 43 [.ref (ga G 0)] χ σ (some (.int q.1)) q.2 σ := by
  refine Ct.of (by decide) (Nat.le_of_ble_eq_true rfl) ?_
  intro p e s m args below meth c Q X hr hlk hQ
  have hx := X.1
  have hb := X.2.1
  intro H locs ls hw hl
  have hl : lv_has ls 1 [(0, .ref (ga G 0))] := hl
  unfold f_X11_undo at h
  refine lv_aload_n hx hb d_X11_undo_0 rfl (lv_at hl 0 rfl) ?_
  refine r_getr (j := 4) X hw ct7 (o_0 hf) rfl (Nat.le_of_ble_eq_true rfl) (q := 5) rfl wd_268 d_X11_undo_1 ?_
  refine lv_aload_n hx hb d_X11_undo_4 rfl (lv_at hl 0 rfl) ?_
  refine r_getr (j := 2) X hw ct7 (o_0 hf) rfl (Nat.le_of_ble_eq_true rfl) (q := 32) rfl wd_266 d_X11_undo_5 ?_
  obtain ⟨q1, e2, h⟩ := bd_some h
  refine r_callV (As := [.ref (ga G 32)]) (rest := []) (st' := [.int q1.1]) X hw hl mwX6_pop wd_501 wd_502 wd_500 (c_X6_pop hf b_32 e2) (r_recv X hw ct3 (o_5 hf)) rfl ⟨Nat.le_of_ble_eq_true rfl, Nat.le_of_ble_eq_true rfl⟩ ⟨Nat.le_refl _, Nat.le_refl _⟩ rfl rfl (Nat.le_of_ble_eq_true rfl) d_X11_undo_8 (fun H locs hw => ?_)
  refine lv_if_eq (tgt := 24) hx hb d_X11_undo_11 (by decide) (fun hc => ?_) (fun hc => ?_)
  · simp only [if_pos hc] at h
    refine lv_iconst (v := (-1 : Int32)) hx hb d_X11_undo_24 (by decide) ?_
    obtain rfl := Option.some.inj h
    subst hQ
    exact r_iret X hr hlk hw d_X11_undo_25
  · simp only [if_neg hc] at h
    refine lv_aload_n hx hb d_X11_undo_14 rfl (lv_at hl 0 rfl) ?_
    refine r_getr (j := 4) X hw ct7 (o_0 hf) rfl (Nat.le_of_ble_eq_true rfl) (q := 5) rfl wd_268 d_X11_undo_15 ?_
    refine r_getiN (j := 2) X hw ct3 (o_5 hf) (Nat.le_of_ble_eq_true rfl) rfl (Nat.le_of_ble_eq_true rfl) nw_31 d_X11_undo_18 ?_
    refine lv_goto (tgt := 25) hx hb d_X11_undo_21 (by decide) ?_
    obtain rfl := Option.some.inj h
    subst hQ
    exact r_iret X hr hlk hw d_X11_undo_25
abbrev yX11_would : MethodName := ⟨"OysterBeds", "would", "(II)I"⟩
theorem mwX11_would : MW yX11_would prog_1_method_15_code 4 (some .int) 2 := ⟨wd_507, wd_1, by decide +kernel⟩
theorem d_X11_would_0 : decode prog_1_method_15_code 0 = .ok (.iload_n 1, 1) := by decide +kernel
theorem d_X11_would_1 : decode prog_1_method_15_code 1 = .ok (.iload_n 2, 1) := by decide +kernel
theorem d_X11_would_2 : decode prog_1_method_15_code 2 = .ok (.invokestatic 144, 3) := by decide +kernel
theorem d_X11_would_5 : decode prog_1_method_15_code 5 = .ok (.ifCond .ne 5, 3) := by decide +kernel
theorem d_X11_would_8 : decode prog_1_method_15_code 8 = .ok (.iconst (-1), 1) := by decide +kernel
theorem d_X11_would_9 : decode prog_1_method_15_code 9 = .ok (.ireturn, 1) := by decide +kernel
theorem d_X11_would_10 : decode prog_1_method_15_code 10 = .ok (.aload_n 0, 1) := by decide +kernel
theorem d_X11_would_11 : decode prog_1_method_15_code 11 = .ok (.getfield 26, 3) := by decide +kernel
theorem d_X11_would_14 : decode prog_1_method_15_code 14 = .ok (.aload_n 0, 1) := by decide +kernel
theorem d_X11_would_15 : decode prog_1_method_15_code 15 = .ok (.getfield 57, 3) := by decide +kernel
theorem d_X11_would_18 : decode prog_1_method_15_code 18 = .ok (.iload_n 1, 1) := by decide +kernel
theorem d_X11_would_19 : decode prog_1_method_15_code 19 = .ok (.iload_n 2, 1) := by decide +kernel
theorem d_X11_would_20 : decode prog_1_method_15_code 20 = .ok (.invokevirtual 204, 3) := by decide +kernel
theorem d_X11_would_23 : decode prog_1_method_15_code 23 = .ok (.istore_n 3, 1) := by decide +kernel
theorem d_X11_would_24 : decode prog_1_method_15_code 24 = .ok (.aload_n 0, 1) := by decide +kernel
theorem d_X11_would_25 : decode prog_1_method_15_code 25 = .ok (.getfield 19, 3) := by decide +kernel
theorem d_X11_would_28 : decode prog_1_method_15_code 28 = .ok (.invokevirtual 156, 3) := by decide +kernel
theorem d_X11_would_31 : decode prog_1_method_15_code 31 = .ok (.aload_n 0, 1) := by decide +kernel
theorem d_X11_would_32 : decode prog_1_method_15_code 32 = .ok (.getfield 19, 3) := by decide +kernel
theorem d_X11_would_35 : decode prog_1_method_15_code 35 = .ok (.iload_n 3, 1) := by decide +kernel
theorem d_X11_would_36 : decode prog_1_method_15_code 36 = .ok (.i2l, 1) := by decide +kernel
theorem d_X11_would_37 : decode prog_1_method_15_code 37 = .ok (.invokevirtual 159, 3) := by decide +kernel
theorem d_X11_would_40 : decode prog_1_method_15_code 40 = .ok (.aload_n 0, 1) := by decide +kernel
theorem d_X11_would_41 : decode prog_1_method_15_code 41 = .ok (.getfield 19, 3) := by decide +kernel
theorem d_X11_would_44 : decode prog_1_method_15_code 44 = .ok (.iload_n 3, 1) := by decide +kernel
theorem d_X11_would_45 : decode prog_1_method_15_code 45 = .ok (.aload_n 0, 1) := by decide +kernel
theorem d_X11_would_46 : decode prog_1_method_15_code 46 = .ok (.getfield 26, 3) := by decide +kernel
theorem d_X11_would_49 : decode prog_1_method_15_code 49 = .ok (.iload_n 1, 1) := by decide +kernel
theorem d_X11_would_50 : decode prog_1_method_15_code 50 = .ok (.invokevirtual 207, 3) := by decide +kernel
theorem d_X11_would_53 : decode prog_1_method_15_code 53 = .ok (.iand, 1) := by decide +kernel
theorem d_X11_would_54 : decode prog_1_method_15_code 54 = .ok (.invokestatic 166, 3) := by decide +kernel
theorem d_X11_would_57 : decode prog_1_method_15_code 57 = .ok (.i2l, 1) := by decide +kernel
theorem d_X11_would_58 : decode prog_1_method_15_code 58 = .ok (.invokevirtual 159, 3) := by decide +kernel
theorem d_X11_would_61 : decode prog_1_method_15_code 61 = .ok (.iload_n 3, 1) := by decide +kernel
theorem d_X11_would_62 : decode prog_1_method_15_code 62 = .ok (.invokestatic 166, 3) := by decide +kernel
theorem d_X11_would_65 : decode prog_1_method_15_code 65 = .ok (.ireturn, 1) := by decide +kernel
def f_X11_would (χ : St) (a1 : Int32) (a2 : Int32) : Option (Int32 × St) := (f_X11_isQuestion a1 a2).bind (fun q1 => (if q1 = 0 then some ((-1 : Int32), χ) else gd (isLaw (cW χ).1) ((f_X0_closing χ 32 (cW χ).1 a1 a2).bind (fun q4 => (f_X9_start q4.2).bind (fun q6 => (f_X9_add q6 (q4.1).toInt64).bind (fun q8 => (f_X0_yesOnes q8 32 a1).bind (fun q10 => (f_J6_bitCount_0f7a4 (q4.1 &&& q10)).bind (fun q12 => (f_X9_add q8 q12.toInt64).bind (fun q14 => (f_J6_bitCount_0f7a4 q4.1).bind (fun q16 => some (q16, q14)))))))))))
theorem c_X11_would {l : Launch} {G : gT} {χ σ : St} {a1 : Int32} {a2 : Int32} (hf : FW G) {q : Int32 × St} (h : f_X11_would χ a1 a2 = some q) : Ct l G yX11_would prog_1_method_15_code 4 (some .int) 4 99 [.ref (ga G 0), .int a1, .int a2] χ σ (some (.int q.1)) q.2 σ := by
  refine Ct.of (by decide) (Nat.le_of_ble_eq_true rfl) ?_
  intro p e s m args below meth c Q X hr hlk hQ
  have hx := X.1
  have hb := X.2.1
  intro H locs ls hw hl
  have hl : lv_has ls 4 [(0, .ref (ga G 0)), (1, .int a1), (2, .int a2)] := hl
  unfold f_X11_would at h
  refine lv_iload_n hx hb d_X11_would_0 rfl (lv_at hl 1 rfl) ?_
  refine lv_iload_n hx hb d_X11_would_1 rfl (lv_at hl 2 rfl) ?_
  obtain ⟨q1, e2, h⟩ := bd_some h
  refine r_callS (As := [.int a1, .int a2]) (rest := []) (st' := [.int q1]) X hw hl mwX11_isQuestion wd_382 wd_381 (c_X11_isQuestion hf e2) rfl ⟨Nat.le_of_ble_eq_true rfl, Nat.le_of_ble_eq_true rfl⟩ ⟨Nat.le_refl _, Nat.le_refl _⟩ rfl rfl (Nat.le_of_ble_eq_true rfl) d_X11_would_2 (fun H locs hw => ?_)
  refine lv_if_ne (tgt := 10) hx hb d_X11_would_5 (by decide) (fun hc => ?_) (fun hc => ?_)
  · have h := ite_f h hc
    refine lv_aload_n hx hb d_X11_would_10 rfl (lv_at hl 0 rfl) ?_
    refine r_getr (j := 2) X hw ct7 (o_0 hf) rfl (Nat.le_of_ble_eq_true rfl) (q := 32) rfl wd_266 d_X11_would_11 ?_
    refine lv_aload_n hx hb d_X11_would_14 rfl (lv_at hl 0 rfl) ?_
    obtain ⟨hw3, h⟩ := gd_some h
    refine r_getr (j := 7) X hw ct7 (o_0 hf) rfl (Nat.le_of_ble_eq_true rfl) (q := (cW χ).1) rfl wd_271 d_X11_would_15 ?_
    refine lv_iload_n hx hb d_X11_would_18 rfl (lv_at hl 1 rfl) ?_
    refine lv_iload_n hx hb d_X11_would_19 rfl (lv_at hl 2 rfl) ?_
    obtain ⟨q4, e5, h⟩ := bd_some h
    refine r_callV (As := [.ref (ga G (cW χ).1), .int a1, .int a2]) (rest := []) (st' := [.int q4.1]) X hw hl mwX0_closing wd_398 wd_399 wd_508 (c_X0_closing hf b_32 (LW.of hf hw3) e5) (r_recv X hw ct0 (o_32 hf)) rfl ⟨Nat.le_of_ble_eq_true rfl, Nat.le_of_ble_eq_true rfl⟩ ⟨Nat.le_refl _, Nat.le_refl _⟩ rfl rfl (Nat.le_of_ble_eq_true rfl) d_X11_would_20 (fun H locs hw => ?_)
    refine lv_istore_n (lv' := [(3, .int q4.1), (0, .ref (ga G 0)), (1, .int a1), (2, .int a2)]) hx hb d_X11_would_23 rfl hl (Nat.le_of_ble_eq_true rfl) rfl (fun ls hl => ?_)
    refine lv_aload_n hx hb d_X11_would_24 rfl (lv_at hl 1 rfl) ?_
    refine r_getr (j := 1) X hw ct7 (o_0 hf) rfl (Nat.le_of_ble_eq_true rfl) (q := 3) rfl wd_265 d_X11_would_25 ?_
    obtain ⟨q6, e7, h⟩ := bd_some h
    refine r_callV (As := []) (rest := []) (st' := []) X hw hl mwX9_start wd_420 wd_421 wd_419 (c_X9_start hf e7) (r_recv X hw ct6 (o_3 hf)) rfl ⟨Nat.le_of_ble_eq_true rfl, Nat.le_of_ble_eq_true rfl⟩ ⟨Nat.le_refl _, Nat.le_refl _⟩ rfl rfl (Nat.le_of_ble_eq_true rfl) d_X11_would_28 (fun H locs hw => ?_)
    refine lv_aload_n hx hb d_X11_would_31 rfl (lv_at hl 1 rfl) ?_
    refine r_getr (j := 1) X hw ct7 (o_0 hf) rfl (Nat.le_of_ble_eq_true rfl) (q := 3) rfl wd_265 d_X11_would_32 ?_
    refine lv_iload_n hx hb d_X11_would_35 rfl (lv_at hl 0 rfl) ?_
    refine lv_i2l hx hb d_X11_would_36 rfl ?_
    obtain ⟨q8, e9, h⟩ := bd_some h
    refine r_callV (As := [.long (q4.1).toInt64]) (rest := []) (st' := []) X hw hl mwX9_add wd_424 wd_425 wd_423 (c_X9_add hf e9) (r_recv X hw ct6 (o_3 hf)) rfl ⟨Nat.le_of_ble_eq_true rfl, Nat.le_of_ble_eq_true rfl⟩ ⟨Nat.le_refl _, Nat.le_refl _⟩ rfl rfl (Nat.le_of_ble_eq_true rfl) d_X11_would_37 (fun H locs hw => ?_)
    refine lv_aload_n hx hb d_X11_would_40 rfl (lv_at hl 1 rfl) ?_
    refine r_getr (j := 1) X hw ct7 (o_0 hf) rfl (Nat.le_of_ble_eq_true rfl) (q := 3) rfl wd_265 d_X11_would_41 ?_
    refine lv_iload_n hx hb d_X11_would_44 rfl (lv_at hl 0 rfl) ?_
    refine lv_aload_n hx hb d_X11_would_45 rfl (lv_at hl 1 rfl) ?_
    refine r_getr (j := 2) X hw ct7 (o_0 hf) rfl (Nat.le_of_ble_eq_true rfl) (q := 32) rfl wd_266 d_X11_would_46 ?_
    refine lv_iload_n hx hb d_X11_would_49 rfl (lv_at hl 2 rfl) ?_
    obtain ⟨q10, e11, h⟩ := bd_some h
    refine r_callV (As := [.int a1]) (rest := [.int q4.1, .ref (ga G 3)]) (st' := [.int q10, .int q4.1, .ref (ga G 3)]) X hw hl mwX0_yesOnes wd_510 wd_511 wd_509 (c_X0_yesOnes hf b_32 e11) (r_recv X hw ct0 (o_32 hf)) rfl ⟨Nat.le_of_ble_eq_true rfl, Nat.le_of_ble_eq_true rfl⟩ ⟨Nat.le_refl _, Nat.le_refl _⟩ rfl rfl (Nat.le_of_ble_eq_true rfl) d_X11_would_50 (fun H locs hw => ?_)
    refine lv_iand hx hb d_X11_would_53 ?_
    obtain ⟨q12, e13, h⟩ := bd_some h
    refine r_callS (As := [.int (q4.1 &&& q10)]) (rest := [.ref (ga G 3)]) (st' := [.int q12, .ref (ga G 3)]) X hw hl mwJ6_bitCount_0f7a4 wd_436 wd_435 (c_J6_bitCount_0f7a4 e13) rfl ⟨Nat.le_of_ble_eq_true rfl, Nat.le_of_ble_eq_true rfl⟩ ⟨Nat.le_refl _, Nat.le_refl _⟩ rfl rfl (Nat.le_of_ble_eq_true rfl) d_X11_would_54 (fun H locs hw => ?_)
    refine lv_i2l hx hb d_X11_would_57 rfl ?_
    obtain ⟨q14, e15, h⟩ := bd_some h
    refine r_callV (As := [.long q12.toInt64]) (rest := []) (st' := []) X hw hl mwX9_add wd_424 wd_425 wd_423 (c_X9_add hf e15) (r_recv X hw ct6 (o_3 hf)) rfl ⟨Nat.le_of_ble_eq_true rfl, Nat.le_of_ble_eq_true rfl⟩ ⟨Nat.le_refl _, Nat.le_refl _⟩ rfl rfl (Nat.le_of_ble_eq_true rfl) d_X11_would_58 (fun H locs hw => ?_)
    refine lv_iload_n hx hb d_X11_would_61 rfl (lv_at hl 0 rfl) ?_
    obtain ⟨q16, e17, h⟩ := bd_some h
    refine r_callS (As := [.int q4.1]) (rest := []) (st' := [.int q16]) X hw hl mwJ6_bitCount_0f7a4 wd_436 wd_435 (c_J6_bitCount_0f7a4 e17) rfl ⟨Nat.le_of_ble_eq_true rfl, Nat.le_of_ble_eq_true rfl⟩ ⟨Nat.le_refl _, Nat.le_refl _⟩ rfl rfl (Nat.le_of_ble_eq_true rfl) d_X11_would_62 (fun H locs hw => ?_)
    obtain rfl := Option.some.inj h
    subst hQ
    exact r_iret X hr hlk hw d_X11_would_65
  · have h := ite_t h hc
    refine lv_iconst (v := (-1 : Int32)) hx hb d_X11_would_8 (by decide) ?_
    obtain rfl := Option.some.inj h
    subst hQ
    exact r_iret X hr hlk hw d_X11_would_9
abbrev yX11_words : MethodName := ⟨"OysterBeds", "words", "(II)I"⟩
theorem mwX11_words : MW yX11_words prog_1_method_16_code 8 (some .int) 2 := ⟨wd_516, wd_1, by decide +kernel⟩
theorem d_X11_words_0 : decode prog_1_method_16_code 0 = .ok (.iload_n 1, 1) := by decide +kernel
theorem d_X11_words_1 : decode prog_1_method_16_code 1 = .ok (.iconst 0, 1) := by decide +kernel
theorem d_X11_words_2 : decode prog_1_method_16_code 2 = .ok (.invokestatic 144, 3) := by decide +kernel
theorem d_X11_words_5 : decode prog_1_method_16_code 5 = .ok (.ifCond .eq 13, 3) := by decide +kernel
theorem d_X11_words_8 : decode prog_1_method_16_code 8 = .ok (.iload_n 2, 1) := by decide +kernel
theorem d_X11_words_9 : decode prog_1_method_16_code 9 = .ok (.ifCond .lt 9, 3) := by decide +kernel
theorem d_X11_words_12 : decode prog_1_method_16_code 12 = .ok (.iload_n 2, 1) := by decide +kernel
theorem d_X11_words_13 : decode prog_1_method_16_code 13 = .ok (.bipush 8, 2) := by decide +kernel
theorem d_X11_words_15 : decode prog_1_method_16_code 15 = .ok (.if_icmp .le 5, 3) := by decide +kernel
theorem d_X11_words_18 : decode prog_1_method_16_code 18 = .ok (.iconst (-1), 1) := by decide +kernel
theorem d_X11_words_19 : decode prog_1_method_16_code 19 = .ok (.ireturn, 1) := by decide +kernel
theorem d_X11_words_20 : decode prog_1_method_16_code 20 = .ok (.bipush (-2), 2) := by decide +kernel
theorem d_X11_words_22 : decode prog_1_method_16_code 22 = .ok (.istore_n 3, 1) := by decide +kernel
theorem d_X11_words_23 : decode prog_1_method_16_code 23 = .ok (.iconst 0, 1) := by decide +kernel
theorem d_X11_words_24 : decode prog_1_method_16_code 24 = .ok (.istore 4, 2) := by decide +kernel
theorem d_X11_words_26 : decode prog_1_method_16_code 26 = .ok (.iconst 0, 1) := by decide +kernel
theorem d_X11_words_27 : decode prog_1_method_16_code 27 = .ok (.istore 5, 2) := by decide +kernel
theorem d_X11_words_29 : decode prog_1_method_16_code 29 = .ok (.iconst 0, 1) := by decide +kernel
theorem d_X11_words_30 : decode prog_1_method_16_code 30 = .ok (.istore 6, 2) := by decide +kernel
theorem d_X11_words_32 : decode prog_1_method_16_code 32 = .ok (.iload 6, 2) := by decide +kernel
theorem d_X11_words_34 : decode prog_1_method_16_code 34 = .ok (.bipush 10, 2) := by decide +kernel
theorem d_X11_words_36 : decode prog_1_method_16_code 36 = .ok (.if_icmp .ge 50, 3) := by decide +kernel
theorem d_X11_words_39 : decode prog_1_method_16_code 39 = .ok (.aload_n 0, 1) := by decide +kernel
theorem d_X11_words_40 : decode prog_1_method_16_code 40 = .ok (.getfield 26, 3) := by decide +kernel
theorem d_X11_words_43 : decode prog_1_method_16_code 43 = .ok (.aload_n 0, 1) := by decide +kernel
theorem d_X11_words_44 : decode prog_1_method_16_code 44 = .ok (.getfield 57, 3) := by decide +kernel
theorem d_X11_words_47 : decode prog_1_method_16_code 47 = .ok (.iload_n 1, 1) := by decide +kernel
theorem d_X11_words_48 : decode prog_1_method_16_code 48 = .ok (.iload 6, 2) := by decide +kernel
theorem d_X11_words_50 : decode prog_1_method_16_code 50 = .ok (.invokevirtual 204, 3) := by decide +kernel
theorem d_X11_words_53 : decode prog_1_method_16_code 53 = .ok (.istore 7, 2) := by decide +kernel
theorem d_X11_words_55 : decode prog_1_method_16_code 55 = .ok (.iload 7, 2) := by decide +kernel
theorem d_X11_words_57 : decode prog_1_method_16_code 57 = .ok (.invokestatic 166, 3) := by decide +kernel
theorem d_X11_words_60 : decode prog_1_method_16_code 60 = .ok (.iload_n 2, 1) := by decide +kernel
theorem d_X11_words_61 : decode prog_1_method_16_code 61 = .ok (.if_icmp .ne 19, 3) := by decide +kernel
theorem d_X11_words_64 : decode prog_1_method_16_code 64 = .ok (.iinc 5 1, 3) := by decide +kernel
theorem d_X11_words_67 : decode prog_1_method_16_code 67 = .ok (.iload 5, 2) := by decide +kernel
theorem d_X11_words_69 : decode prog_1_method_16_code 69 = .ok (.iconst 1, 1) := by decide +kernel
theorem d_X11_words_70 : decode prog_1_method_16_code 70 = .ok (.if_icmp .ne 10, 3) := by decide +kernel
theorem d_X11_words_73 : decode prog_1_method_16_code 73 = .ok (.iload 6, 2) := by decide +kernel
theorem d_X11_words_75 : decode prog_1_method_16_code 75 = .ok (.istore_n 3, 1) := by decide +kernel
theorem d_X11_words_76 : decode prog_1_method_16_code 76 = .ok (.iload 7, 2) := by decide +kernel
theorem d_X11_words_78 : decode prog_1_method_16_code 78 = .ok (.istore 4, 2) := by decide +kernel
theorem d_X11_words_80 : decode prog_1_method_16_code 80 = .ok (.iinc 6 1, 3) := by decide +kernel
theorem d_X11_words_83 : decode prog_1_method_16_code 83 = .ok (.goto (-51), 3) := by decide +kernel
theorem d_X11_words_86 : decode prog_1_method_16_code 86 = .ok (.iload 5, 2) := by decide +kernel
theorem d_X11_words_88 : decode prog_1_method_16_code 88 = .ok (.ifCond .le 30, 3) := by decide +kernel
theorem d_X11_words_91 : decode prog_1_method_16_code 91 = .ok (.aload_n 0, 1) := by decide +kernel
theorem d_X11_words_92 : decode prog_1_method_16_code 92 = .ok (.getfield 19, 3) := by decide +kernel
theorem d_X11_words_95 : decode prog_1_method_16_code 95 = .ok (.invokevirtual 156, 3) := by decide +kernel
theorem d_X11_words_98 : decode prog_1_method_16_code 98 = .ok (.aload_n 0, 1) := by decide +kernel
theorem d_X11_words_99 : decode prog_1_method_16_code 99 = .ok (.getfield 19, 3) := by decide +kernel
theorem d_X11_words_102 : decode prog_1_method_16_code 102 = .ok (.iload 5, 2) := by decide +kernel
theorem d_X11_words_104 : decode prog_1_method_16_code 104 = .ok (.i2l, 1) := by decide +kernel
theorem d_X11_words_105 : decode prog_1_method_16_code 105 = .ok (.invokevirtual 159, 3) := by decide +kernel
theorem d_X11_words_108 : decode prog_1_method_16_code 108 = .ok (.aload_n 0, 1) := by decide +kernel
theorem d_X11_words_109 : decode prog_1_method_16_code 109 = .ok (.getfield 19, 3) := by decide +kernel
theorem d_X11_words_112 : decode prog_1_method_16_code 112 = .ok (.iload 4, 2) := by decide +kernel
theorem d_X11_words_114 : decode prog_1_method_16_code 114 = .ok (.i2l, 1) := by decide +kernel
theorem d_X11_words_115 : decode prog_1_method_16_code 115 = .ok (.invokevirtual 159, 3) := by decide +kernel
theorem d_X11_words_118 : decode prog_1_method_16_code 118 = .ok (.iload_n 3, 1) := by decide +kernel
theorem d_X11_words_119 : decode prog_1_method_16_code 119 = .ok (.ireturn, 1) := by decide +kernel
def f_X11_words_j80_32 (τ : St) (x1 : Int32) (x2 : Int32) (x3 : Int32) (x4 : Int32) (x5 : Int32) (x6 : Int32) : Option ((Int32 × Int32 × Int32 × Int32 × St) ⊕ (Int32 × Int32 × Int32 × St)) := some (.inl (x3, x4, x5, (x6 + (1 : Int32)), τ))
def f_X11_words_s32 (τ : St) (y1 : Int32) (y2 : Int32) (x3 : Int32) (x4 : Int32) (x5 : Int32) (x6 : Int32) : Option ((Int32 × Int32 × Int32 × Int32 × St) ⊕ (Int32 × Int32 × Int32 × St)) := (if (10 : Int32) ≤ x6 then some (.inr (x3, x4, x5, τ)) else gd (isLaw (cW τ).1) ((f_X0_closing τ 32 (cW τ).1 y1 x6).bind (fun q4 => (f_J6_bitCount_0f7a4 q4.1).bind (fun q6 => f_X11_words_j80_32 q4.2 y1 y2 (if q6 = y2 then (if (x5 + (1 : Int32)) = (1 : Int32) then x6 else x3) else x3) (if q6 = y2 then (if (x5 + (1 : Int32)) = (1 : Int32) then q4.1 else x4) else x4) (if q6 = y2 then (x5 + (1 : Int32)) else x5) x6))))
def f_X11_words (χ : St) (a1 : Int32) (a2 : Int32) : Option (Int32 × St) := (f_X11_isQuestion a1 (0 : Int32)).bind (fun q1 => (if q1 = 0 then some ((-1 : Int32), χ) else (if a2 < 0 then some ((-1 : Int32), χ) else (if a2 ≤ (8 : Int32) then (iter (fun z => f_X11_words_s32 z.2.2.2.2 a1 a2 z.1 z.2.1 z.2.2.1 z.2.2.2.1) FU ((-2 : Int32), (0 : Int32), (0 : Int32), (0 : Int32), χ)).bind (fun z8 => (if z8.2.2.1 ≤ 0 then some (z8.1, z8.2.2.2) else (f_X9_start z8.2.2.2).bind (fun q11 => (f_X9_add q11 (z8.2.2.1).toInt64).bind (fun q13 => (f_X9_add q13 (z8.2.1).toInt64).bind (fun q15 => some (z8.1, q15)))))) else some ((-1 : Int32), χ)))))
theorem c_X11_words {l : Launch} {G : gT} {χ σ : St} {a1 : Int32} {a2 : Int32} (hf : FW G) {q : Int32 × St} (h : f_X11_words χ a1 a2 = some q) : Ct l G yX11_words prog_1_method_16_code 8 (some .int) 4 99 [.ref (ga G 0), .int a1, .int a2] χ σ (some (.int q.1)) q.2 σ := by
  refine Ct.of (by decide) (Nat.le_of_ble_eq_true rfl) ?_
  intro p e s m args below meth c Q X hr hlk hQ
  have hx := X.1
  have hb := X.2.1
  have j80_32 : ∀ (τ : St) (x1 : Int32) (x2 : Int32) (x3 : Int32) (x4 : Int32) (x5 : Int32) (x6 : Int32) (o : (Int32 × Int32 × Int32 × Int32 × St) ⊕ (Int32 × Int32 × Int32 × St)), f_X11_words_j80_32 τ x1 x2 x3 x4 x5 x6 = some o → Sum.elim (fun z : Int32 × Int32 × Int32 × Int32 × St => Wat p l e (rmk 4 99) s m args below meth c Q G 8 32 [] [(3, .int z.1), (4, .int z.2.1), (5, .int z.2.2.1), (6, .int z.2.2.2.1), (0, .ref (ga G 0)), (1, .int x1), (2, .int x2)] z.2.2.2.2 σ) (fun z : Int32 × Int32 × Int32 × St => Wat p l e (rmk 4 99) s m args below meth c Q G 8 86 [] [(0, .ref (ga G 0)), (3, .int z.1), (4, .int z.2.1), (5, .int z.2.2.1)] z.2.2.2 σ) o → Wat p l e (rmk 4 99) s m args below meth c Q G 8 80 [] [(0, .ref (ga G 0)), (1, .int x1), (2, .int x2), (3, .int x3), (4, .int x4), (5, .int x5), (6, .int x6)] τ σ := by
    intro τ x1 x2 x3 x4 x5 x6 o h hk H locs ls hw hl
    unfold f_X11_words_j80_32 at h
    refine lv_iinc (v := (x6 + (1 : Int32))) (k := 6) (lv' := [(6, .int (x6 + (1 : Int32))), (0, .ref (ga G 0)), (1, .int x1), (2, .int x2), (3, .int x3), (4, .int x4), (5, .int x5)]) hx hb d_X11_words_80 hl rfl (by rfl) (Nat.le_of_ble_eq_true rfl) rfl (fun ls hl => ?_)
    refine lv_goto (tgt := 32) hx hb d_X11_words_83 (by decide) ?_
    obtain rfl := Option.some.inj h
    dsimp only [Sum.elim_inl] at hk
    exact hk _ _ _ hw (lv_sub hl [4, 5, 6, 0, 1, 2, 3] rfl)
  have b32 : ∀ (τ : St) (y1 : Int32) (y2 : Int32) (x3 : Int32) (x4 : Int32) (x5 : Int32) (x6 : Int32) (o : (Int32 × Int32 × Int32 × Int32 × St) ⊕ (Int32 × Int32 × Int32 × St)), f_X11_words_s32 τ y1 y2 x3 x4 x5 x6 = some o → Sum.elim (fun z : Int32 × Int32 × Int32 × Int32 × St => Wat p l e (rmk 4 99) s m args below meth c Q G 8 32 [] [(3, .int z.1), (4, .int z.2.1), (5, .int z.2.2.1), (6, .int z.2.2.2.1), (0, .ref (ga G 0)), (1, .int y1), (2, .int y2)] z.2.2.2.2 σ) (fun z : Int32 × Int32 × Int32 × St => Wat p l e (rmk 4 99) s m args below meth c Q G 8 86 [] [(0, .ref (ga G 0)), (3, .int z.1), (4, .int z.2.1), (5, .int z.2.2.1)] z.2.2.2 σ) o → Wat p l e (rmk 4 99) s m args below meth c Q G 8 32 [] [(3, .int x3), (4, .int x4), (5, .int x5), (6, .int x6), (0, .ref (ga G 0)), (1, .int y1), (2, .int y2)] τ σ := by
    intro τ y1 y2 x3 x4 x5 x6 o h hk H locs ls hw hl
    unfold f_X11_words_s32 at h
    refine lv_iload hx hb d_X11_words_32 (lv_at hl 3 rfl) ?_
    refine lv_bipush (v := (10 : Int32)) hx hb d_X11_words_34 (by decide) ?_
    refine lv_icmp_ge (tgt := 86) hx hb d_X11_words_36 (by decide) (fun hc => ?_) (fun hc => ?_)
    · have h := ite_t h hc
      obtain rfl := Option.some.inj h
      dsimp only [Sum.elim_inr] at hk
      exact hk _ _ _ hw (lv_sub hl [4, 0, 1, 2] rfl)
    · have h := ite_f h hc
      refine lv_aload_n hx hb d_X11_words_39 rfl (lv_at hl 4 rfl) ?_
      refine r_getr (j := 2) X hw ct7 (o_0 hf) rfl (Nat.le_of_ble_eq_true rfl) (q := 32) rfl wd_266 d_X11_words_40 ?_
      refine lv_aload_n hx hb d_X11_words_43 rfl (lv_at hl 4 rfl) ?_
      obtain ⟨hw3, h⟩ := gd_some h
      refine r_getr (j := 7) X hw ct7 (o_0 hf) rfl (Nat.le_of_ble_eq_true rfl) (q := (cW τ).1) rfl wd_271 d_X11_words_44 ?_
      refine lv_iload_n hx hb d_X11_words_47 rfl (lv_at hl 5 rfl) ?_
      refine lv_iload hx hb d_X11_words_48 (lv_at hl 3 rfl) ?_
      obtain ⟨q4, e5, h⟩ := bd_some h
      refine r_callV (As := [.ref (ga G (cW τ).1), .int y1, .int x6]) (rest := []) (st' := [.int q4.1]) X hw hl mwX0_closing wd_398 wd_399 wd_508 (c_X0_closing hf b_32 (LW.of hf hw3) e5) (r_recv X hw ct0 (o_32 hf)) rfl ⟨Nat.le_of_ble_eq_true rfl, Nat.le_of_ble_eq_true rfl⟩ ⟨Nat.le_refl _, Nat.le_refl _⟩ rfl rfl (Nat.le_of_ble_eq_true rfl) d_X11_words_50 (fun H locs hw => ?_)
      refine lv_istore (lv' := [(7, .int q4.1), (3, .int x3), (4, .int x4), (5, .int x5), (6, .int x6), (0, .ref (ga G 0)), (1, .int y1), (2, .int y2)]) hx hb d_X11_words_53 hl (Nat.le_of_ble_eq_true rfl) rfl (fun ls hl => ?_)
      refine lv_iload hx hb d_X11_words_55 (lv_at hl 0 rfl) ?_
      obtain ⟨q6, e7, h⟩ := bd_some h
      refine r_callS (As := [.int q4.1]) (rest := []) (st' := [.int q6]) X hw hl mwJ6_bitCount_0f7a4 wd_436 wd_435 (c_J6_bitCount_0f7a4 e7) rfl ⟨Nat.le_of_ble_eq_true rfl, Nat.le_of_ble_eq_true rfl⟩ ⟨Nat.le_refl _, Nat.le_refl _⟩ rfl rfl (Nat.le_of_ble_eq_true rfl) d_X11_words_57 (fun H locs hw => ?_)
      refine lv_iload_n hx hb d_X11_words_60 rfl (lv_at hl 7 rfl) ?_
      refine lv_icmp_ne (tgt := 80) hx hb d_X11_words_61 (by decide) (fun hc => ?_) (fun hc => ?_)
      · simp only [if_neg hc] at h
        exact j80_32 q4.2 y1 y2 x3 x4 x5 x6 o h hk _ _ _ hw (lv_sub hl [5, 6, 7, 1, 2, 3, 4] rfl)
      · simp only [if_pos hc] at h
        refine lv_iinc (v := (x5 + (1 : Int32))) (k := 3) (lv' := [(5, .int (x5 + (1 : Int32))), (7, .int q4.1), (3, .int x3), (4, .int x4), (6, .int x6), (0, .ref (ga G 0)), (1, .int y1), (2, .int y2)]) hx hb d_X11_words_64 hl rfl (by rfl) (Nat.le_of_ble_eq_true rfl) rfl (fun ls hl => ?_)
        refine lv_iload hx hb d_X11_words_67 (lv_at hl 0 rfl) ?_
        refine lv_iconst (v := (1 : Int32)) hx hb d_X11_words_69 (by decide) ?_
        refine lv_icmp_ne (tgt := 80) hx hb d_X11_words_70 (by decide) (fun hc => ?_) (fun hc => ?_)
        · simp only [if_neg hc] at h
          exact j80_32 q4.2 y1 y2 x3 x4 (x5 + (1 : Int32)) x6 o h hk _ _ _ hw (lv_sub hl [5, 6, 7, 2, 3, 0, 4] rfl)
        · simp only [if_pos hc] at h
          refine lv_iload hx hb d_X11_words_73 (lv_at hl 4 rfl) ?_
          refine lv_istore_n (lv' := [(3, .int x6), (5, .int (x5 + (1 : Int32))), (7, .int q4.1), (4, .int x4), (6, .int x6), (0, .ref (ga G 0)), (1, .int y1), (2, .int y2)]) hx hb d_X11_words_75 rfl hl (Nat.le_of_ble_eq_true rfl) rfl (fun ls hl => ?_)
          refine lv_iload hx hb d_X11_words_76 (lv_at hl 2 rfl) ?_
          refine lv_istore (lv' := [(4, .int q4.1), (3, .int x6), (5, .int (x5 + (1 : Int32))), (7, .int q4.1), (6, .int x6), (0, .ref (ga G 0)), (1, .int y1), (2, .int y2)]) hx hb d_X11_words_78 hl (Nat.le_of_ble_eq_true rfl) rfl (fun ls hl => ?_)
          exact j80_32 q4.2 y1 y2 x6 q4.1 (x5 + (1 : Int32)) x6 o h hk _ _ _ hw (lv_sub hl [5, 6, 7, 1, 0, 2, 4] rfl)
  intro H locs ls hw hl
  have hl : lv_has ls 8 [(0, .ref (ga G 0)), (1, .int a1), (2, .int a2)] := hl
  unfold f_X11_words at h
  refine lv_iload_n hx hb d_X11_words_0 rfl (lv_at hl 1 rfl) ?_
  refine lv_iconst (v := (0 : Int32)) hx hb d_X11_words_1 (by decide) ?_
  obtain ⟨q1, e2, h⟩ := bd_some h
  refine r_callS (As := [.int a1, .int (0 : Int32)]) (rest := []) (st' := [.int q1]) X hw hl mwX11_isQuestion wd_382 wd_381 (c_X11_isQuestion hf e2) rfl ⟨Nat.le_of_ble_eq_true rfl, Nat.le_of_ble_eq_true rfl⟩ ⟨Nat.le_refl _, Nat.le_refl _⟩ rfl rfl (Nat.le_of_ble_eq_true rfl) d_X11_words_2 (fun H locs hw => ?_)
  refine lv_if_eq (tgt := 18) hx hb d_X11_words_5 (by decide) (fun hc => ?_) (fun hc => ?_)
  · have h := ite_t h hc
    refine lv_iconst (v := (-1 : Int32)) hx hb d_X11_words_18 (by decide) ?_
    obtain rfl := Option.some.inj h
    subst hQ
    exact r_iret X hr hlk hw d_X11_words_19
  · have h := ite_f h hc
    refine lv_iload_n hx hb d_X11_words_8 rfl (lv_at hl 2 rfl) ?_
    refine lv_if_lt (tgt := 18) hx hb d_X11_words_9 (by decide) (fun hc => ?_) (fun hc => ?_)
    · have h := ite_t h hc
      refine lv_iconst (v := (-1 : Int32)) hx hb d_X11_words_18 (by decide) ?_
      obtain rfl := Option.some.inj h
      subst hQ
      exact r_iret X hr hlk hw d_X11_words_19
    · have h := ite_f h hc
      refine lv_iload_n hx hb d_X11_words_12 rfl (lv_at hl 2 rfl) ?_
      refine lv_bipush (v := (8 : Int32)) hx hb d_X11_words_13 (by decide) ?_
      refine lv_icmp_le (tgt := 20) hx hb d_X11_words_15 (by decide) (fun hc => ?_) (fun hc => ?_)
      · have h := ite_t h hc
        refine lv_bipush (v := (-2 : Int32)) hx hb d_X11_words_20 (by decide) ?_
        refine lv_istore_n (lv' := [(3, .int (-2 : Int32)), (0, .ref (ga G 0)), (1, .int a1), (2, .int a2)]) hx hb d_X11_words_22 rfl hl (Nat.le_of_ble_eq_true rfl) rfl (fun ls hl => ?_)
        refine lv_iconst (v := (0 : Int32)) hx hb d_X11_words_23 (by decide) ?_
        refine lv_istore (lv' := [(4, .int (0 : Int32)), (3, .int (-2 : Int32)), (0, .ref (ga G 0)), (1, .int a1), (2, .int a2)]) hx hb d_X11_words_24 hl (Nat.le_of_ble_eq_true rfl) rfl (fun ls hl => ?_)
        refine lv_iconst (v := (0 : Int32)) hx hb d_X11_words_26 (by decide) ?_
        refine lv_istore (lv' := [(5, .int (0 : Int32)), (4, .int (0 : Int32)), (3, .int (-2 : Int32)), (0, .ref (ga G 0)), (1, .int a1), (2, .int a2)]) hx hb d_X11_words_27 hl (Nat.le_of_ble_eq_true rfl) rfl (fun ls hl => ?_)
        refine lv_iconst (v := (0 : Int32)) hx hb d_X11_words_29 (by decide) ?_
        refine lv_istore (lv' := [(6, .int (0 : Int32)), (5, .int (0 : Int32)), (4, .int (0 : Int32)), (3, .int (-2 : Int32)), (0, .ref (ga G 0)), (1, .int a1), (2, .int a2)]) hx hb d_X11_words_30 hl (Nat.le_of_ble_eq_true rfl) rfl (fun ls hl => ?_)
        obtain ⟨z8, e9, h⟩ := bd_some h
        refine iter_w (Wh := fun z : Int32 × Int32 × Int32 × Int32 × St => Wat p l e (rmk 4 99) s m args below meth c Q G 8 32 [] [(3, .int z.1), (4, .int z.2.1), (5, .int z.2.2.1), (6, .int z.2.2.2.1), (0, .ref (ga G 0)), (1, .int a1), (2, .int a2)] z.2.2.2.2 σ) (K := fun z : Int32 × Int32 × Int32 × St => Wat p l e (rmk 4 99) s m args below meth c Q G 8 86 [] [(0, .ref (ga G 0)), (3, .int z.1), (4, .int z.2.1), (5, .int z.2.2.1)] z.2.2.2 σ) (fun z o h1 h2 => b32 z.2.2.2.2 a1 a2 z.1 z.2.1 z.2.2.1 z.2.2.2.1 o h1 h2) FU _ _ e9 ?_ _ _ _ hw (lv_sub hl [3, 2, 1, 0, 4, 5, 6] rfl)
        intro H locs ls hw hl
        refine lv_iload hx hb d_X11_words_86 (lv_at hl 3 rfl) ?_
        refine lv_if_le (tgt := 118) hx hb d_X11_words_88 (by decide) (fun hc => ?_) (fun hc => ?_)
        · have h := ite_t h hc
          refine lv_iload_n hx hb d_X11_words_118 rfl (lv_at hl 1 rfl) ?_
          obtain rfl := Option.some.inj h
          subst hQ
          exact r_iret X hr hlk hw d_X11_words_119
        · have h := ite_f h hc
          refine lv_aload_n hx hb d_X11_words_91 rfl (lv_at hl 0 rfl) ?_
          refine r_getr (j := 1) X hw ct7 (o_0 hf) rfl (Nat.le_of_ble_eq_true rfl) (q := 3) rfl wd_265 d_X11_words_92 ?_
          obtain ⟨q11, e12, h⟩ := bd_some h
          refine r_callV (As := []) (rest := []) (st' := []) X hw hl mwX9_start wd_420 wd_421 wd_419 (c_X9_start hf e12) (r_recv X hw ct6 (o_3 hf)) rfl ⟨Nat.le_of_ble_eq_true rfl, Nat.le_of_ble_eq_true rfl⟩ ⟨Nat.le_refl _, Nat.le_refl _⟩ rfl rfl (Nat.le_of_ble_eq_true rfl) d_X11_words_95 (fun H locs hw => ?_)
          refine lv_aload_n hx hb d_X11_words_98 rfl (lv_at hl 0 rfl) ?_
          refine r_getr (j := 1) X hw ct7 (o_0 hf) rfl (Nat.le_of_ble_eq_true rfl) (q := 3) rfl wd_265 d_X11_words_99 ?_
          refine lv_iload hx hb d_X11_words_102 (lv_at hl 3 rfl) ?_
          refine lv_i2l hx hb d_X11_words_104 rfl ?_
          obtain ⟨q13, e14, h⟩ := bd_some h
          refine r_callV (As := [.long (z8.2.2.1).toInt64]) (rest := []) (st' := []) X hw hl mwX9_add wd_424 wd_425 wd_423 (c_X9_add hf e14) (r_recv X hw ct6 (o_3 hf)) rfl ⟨Nat.le_of_ble_eq_true rfl, Nat.le_of_ble_eq_true rfl⟩ ⟨Nat.le_refl _, Nat.le_refl _⟩ rfl rfl (Nat.le_of_ble_eq_true rfl) d_X11_words_105 (fun H locs hw => ?_)
          refine lv_aload_n hx hb d_X11_words_108 rfl (lv_at hl 0 rfl) ?_
          refine r_getr (j := 1) X hw ct7 (o_0 hf) rfl (Nat.le_of_ble_eq_true rfl) (q := 3) rfl wd_265 d_X11_words_109 ?_
          refine lv_iload hx hb d_X11_words_112 (lv_at hl 2 rfl) ?_
          refine lv_i2l hx hb d_X11_words_114 rfl ?_
          obtain ⟨q15, e16, h⟩ := bd_some h
          refine r_callV (As := [.long (z8.2.1).toInt64]) (rest := []) (st' := []) X hw hl mwX9_add wd_424 wd_425 wd_423 (c_X9_add hf e16) (r_recv X hw ct6 (o_3 hf)) rfl ⟨Nat.le_of_ble_eq_true rfl, Nat.le_of_ble_eq_true rfl⟩ ⟨Nat.le_refl _, Nat.le_refl _⟩ rfl rfl (Nat.le_of_ble_eq_true rfl) d_X11_words_115 (fun H locs hw => ?_)
          refine lv_iload_n hx hb d_X11_words_118 rfl (lv_at hl 1 rfl) ?_
          obtain rfl := Option.some.inj h
          subst hQ
          exact r_iret X hr hlk hw d_X11_words_119
      · have h := ite_f h hc
        refine lv_iconst (v := (-1 : Int32)) hx hb d_X11_words_18 (by decide) ?_
        obtain rfl := Option.some.inj h
        subst hQ
        exact r_iret X hr hlk hw d_X11_words_19
abbrev yX11_closingBy : MethodName := ⟨"OysterBeds", "closingBy", "(I)I"⟩
theorem mwX11_closingBy : MW yX11_closingBy prog_1_method_59_code 2 (some .int) 1 := ⟨wd_524, wd_1, by decide +kernel⟩
theorem d_X11_closingBy_0 : decode prog_1_method_59_code 0 = .ok (.aload_n 0, 1) := by decide +kernel
theorem d_X11_closingBy_1 : decode prog_1_method_59_code 1 = .ok (.getfield 26, 3) := by decide +kernel
theorem d_X11_closingBy_4 : decode prog_1_method_59_code 4 = .ok (.aload_n 0, 1) := by decide +kernel
theorem d_X11_closingBy_5 : decode prog_1_method_59_code 5 = .ok (.getfield 57, 3) := by decide +kernel
theorem d_X11_closingBy_8 : decode prog_1_method_59_code 8 = .ok (.iload_n 1, 1) := by decide +kernel
theorem d_X11_closingBy_9 : decode prog_1_method_59_code 9 = .ok (.bipush 10, 2) := by decide +kernel
theorem d_X11_closingBy_11 : decode prog_1_method_59_code 11 = .ok (.idiv, 1) := by decide +kernel
theorem d_X11_closingBy_12 : decode prog_1_method_59_code 12 = .ok (.iload_n 1, 1) := by decide +kernel
theorem d_X11_closingBy_13 : decode prog_1_method_59_code 13 = .ok (.bipush 10, 2) := by decide +kernel
theorem d_X11_closingBy_15 : decode prog_1_method_59_code 15 = .ok (.irem, 1) := by decide +kernel
theorem d_X11_closingBy_16 : decode prog_1_method_59_code 16 = .ok (.invokevirtual 204, 3) := by decide +kernel
theorem d_X11_closingBy_19 : decode prog_1_method_59_code 19 = .ok (.ireturn, 1) := by decide +kernel
def f_X11_closingBy (χ : St) (a1 : Int32) : Option (Int32 × St) := gd (isLaw (cW χ).1) ((f_X0_closing χ 32 (cW χ).1 (a1 / (10 : Int32)) (a1 - a1 / (10 : Int32) * (10 : Int32))).bind (fun q2 => some (q2.1, q2.2)))
theorem c_X11_closingBy {l : Launch} {G : gT} {χ σ : St} {a1 : Int32} (hf : FW G) {q : Int32 × St} (h : f_X11_closingBy χ a1 = some q) : Ct l G yX11_closingBy prog_1_method_59_code 2 (some .int) 4 99 [.ref (ga G 0), .int a1] χ σ (some (.int q.1)) q.2 σ := by
  refine Ct.of (by decide) (Nat.le_of_ble_eq_true rfl) ?_
  intro p e s m args below meth c Q X hr hlk hQ
  have hx := X.1
  have hb := X.2.1
  intro H locs ls hw hl
  have hl : lv_has ls 2 [(0, .ref (ga G 0)), (1, .int a1)] := hl
  unfold f_X11_closingBy at h
  refine lv_aload_n hx hb d_X11_closingBy_0 rfl (lv_at hl 0 rfl) ?_
  refine r_getr (j := 2) X hw ct7 (o_0 hf) rfl (Nat.le_of_ble_eq_true rfl) (q := 32) rfl wd_266 d_X11_closingBy_1 ?_
  refine lv_aload_n hx hb d_X11_closingBy_4 rfl (lv_at hl 0 rfl) ?_
  obtain ⟨hw1, h⟩ := gd_some h
  refine r_getr (j := 7) X hw ct7 (o_0 hf) rfl (Nat.le_of_ble_eq_true rfl) (q := (cW χ).1) rfl wd_271 d_X11_closingBy_5 ?_
  refine lv_iload_n hx hb d_X11_closingBy_8 rfl (lv_at hl 1 rfl) ?_
  refine lv_bipush (v := (10 : Int32)) hx hb d_X11_closingBy_9 (by decide) ?_
  refine lv_idiv hx hb d_X11_closingBy_11 (by decide) ?_
  refine lv_iload_n hx hb d_X11_closingBy_12 rfl (lv_at hl 1 rfl) ?_
  refine lv_bipush (v := (10 : Int32)) hx hb d_X11_closingBy_13 (by decide) ?_
  refine lv_irem hx hb d_X11_closingBy_15 (by decide) ?_
  obtain ⟨q2, e3, h⟩ := bd_some h
  refine r_callV (As := [.ref (ga G (cW χ).1), .int (a1 / (10 : Int32)), .int (a1 - a1 / (10 : Int32) * (10 : Int32))]) (rest := []) (st' := [.int q2.1]) X hw hl mwX0_closing wd_398 wd_399 wd_508 (c_X0_closing hf b_32 (LW.of hf hw1) e3) (r_recv X hw ct0 (o_32 hf)) rfl ⟨Nat.le_of_ble_eq_true rfl, Nat.le_of_ble_eq_true rfl⟩ ⟨Nat.le_refl _, Nat.le_refl _⟩ rfl rfl (Nat.le_of_ble_eq_true rfl) d_X11_closingBy_16 (fun H locs hw => ?_)
  obtain rfl := Option.some.inj h
  subst hQ
  exact r_iret X hr hlk hw d_X11_closingBy_19
abbrev yX11_honest : MethodName := ⟨"OysterBeds", "honest", "()I"⟩
theorem mwX11_honest : MW yX11_honest prog_1_method_17_code 5 (some .int) 0 := ⟨wd_520, wd_1, by decide +kernel⟩
theorem d_X11_honest_0 : decode prog_1_method_17_code 0 = .ok (.bipush (-2), 2) := by decide +kernel
theorem d_X11_honest_2 : decode prog_1_method_17_code 2 = .ok (.istore_n 1, 1) := by decide +kernel
theorem d_X11_honest_3 : decode prog_1_method_17_code 3 = .ok (.iconst 0, 1) := by decide +kernel
theorem d_X11_honest_4 : decode prog_1_method_17_code 4 = .ok (.istore_n 2, 1) := by decide +kernel
theorem d_X11_honest_5 : decode prog_1_method_17_code 5 = .ok (.aload_n 0, 1) := by decide +kernel
theorem d_X11_honest_6 : decode prog_1_method_17_code 6 = .ok (.getfield 26, 3) := by decide +kernel
theorem d_X11_honest_9 : decode prog_1_method_17_code 9 = .ok (.invokevirtual 163, 3) := by decide +kernel
theorem d_X11_honest_12 : decode prog_1_method_17_code 12 = .ok (.istore_n 3, 1) := by decide +kernel
theorem d_X11_honest_13 : decode prog_1_method_17_code 13 = .ok (.iconst 0, 1) := by decide +kernel
theorem d_X11_honest_14 : decode prog_1_method_17_code 14 = .ok (.istore 4, 2) := by decide +kernel
theorem d_X11_honest_16 : decode prog_1_method_17_code 16 = .ok (.iload 4, 2) := by decide +kernel
theorem d_X11_honest_18 : decode prog_1_method_17_code 18 = .ok (.bipush 40, 2) := by decide +kernel
theorem d_X11_honest_20 : decode prog_1_method_17_code 20 = .ok (.if_icmp .ge 43, 3) := by decide +kernel
theorem d_X11_honest_23 : decode prog_1_method_17_code 23 = .ok (.aload_n 0, 1) := by decide +kernel
theorem d_X11_honest_24 : decode prog_1_method_17_code 24 = .ok (.iload 4, 2) := by decide +kernel
theorem d_X11_honest_26 : decode prog_1_method_17_code 26 = .ok (.invokevirtual 210, 3) := by decide +kernel
theorem d_X11_honest_29 : decode prog_1_method_17_code 29 = .ok (.iload_n 3, 1) := by decide +kernel
theorem d_X11_honest_30 : decode prog_1_method_17_code 30 = .ok (.aload_n 0, 1) := by decide +kernel
theorem d_X11_honest_31 : decode prog_1_method_17_code 31 = .ok (.getfield 26, 3) := by decide +kernel
theorem d_X11_honest_34 : decode prog_1_method_17_code 34 = .ok (.iload 4, 2) := by decide +kernel
theorem d_X11_honest_36 : decode prog_1_method_17_code 36 = .ok (.bipush 10, 2) := by decide +kernel
theorem d_X11_honest_38 : decode prog_1_method_17_code 38 = .ok (.idiv, 1) := by decide +kernel
theorem d_X11_honest_39 : decode prog_1_method_17_code 39 = .ok (.invokevirtual 207, 3) := by decide +kernel
theorem d_X11_honest_42 : decode prog_1_method_17_code 42 = .ok (.iand, 1) := by decide +kernel
theorem d_X11_honest_43 : decode prog_1_method_17_code 43 = .ok (.if_icmp .ne 14, 3) := by decide +kernel
theorem d_X11_honest_46 : decode prog_1_method_17_code 46 = .ok (.iinc 2 1, 3) := by decide +kernel
theorem d_X11_honest_49 : decode prog_1_method_17_code 49 = .ok (.iload_n 2, 1) := by decide +kernel
theorem d_X11_honest_50 : decode prog_1_method_17_code 50 = .ok (.iconst 1, 1) := by decide +kernel
theorem d_X11_honest_51 : decode prog_1_method_17_code 51 = .ok (.if_icmp .ne 6, 3) := by decide +kernel
theorem d_X11_honest_54 : decode prog_1_method_17_code 54 = .ok (.iload 4, 2) := by decide +kernel
theorem d_X11_honest_56 : decode prog_1_method_17_code 56 = .ok (.istore_n 1, 1) := by decide +kernel
theorem d_X11_honest_57 : decode prog_1_method_17_code 57 = .ok (.iinc 4 1, 3) := by decide +kernel
theorem d_X11_honest_60 : decode prog_1_method_17_code 60 = .ok (.goto (-44), 3) := by decide +kernel
theorem d_X11_honest_63 : decode prog_1_method_17_code 63 = .ok (.iload_n 2, 1) := by decide +kernel
theorem d_X11_honest_64 : decode prog_1_method_17_code 64 = .ok (.ifCond .le 19, 3) := by decide +kernel
theorem d_X11_honest_67 : decode prog_1_method_17_code 67 = .ok (.aload_n 0, 1) := by decide +kernel
theorem d_X11_honest_68 : decode prog_1_method_17_code 68 = .ok (.getfield 19, 3) := by decide +kernel
theorem d_X11_honest_71 : decode prog_1_method_17_code 71 = .ok (.invokevirtual 156, 3) := by decide +kernel
theorem d_X11_honest_74 : decode prog_1_method_17_code 74 = .ok (.aload_n 0, 1) := by decide +kernel
theorem d_X11_honest_75 : decode prog_1_method_17_code 75 = .ok (.getfield 19, 3) := by decide +kernel
theorem d_X11_honest_78 : decode prog_1_method_17_code 78 = .ok (.iload_n 2, 1) := by decide +kernel
theorem d_X11_honest_79 : decode prog_1_method_17_code 79 = .ok (.i2l, 1) := by decide +kernel
theorem d_X11_honest_80 : decode prog_1_method_17_code 80 = .ok (.invokevirtual 159, 3) := by decide +kernel
theorem d_X11_honest_83 : decode prog_1_method_17_code 83 = .ok (.iload_n 1, 1) := by decide +kernel
theorem d_X11_honest_84 : decode prog_1_method_17_code 84 = .ok (.ireturn, 1) := by decide +kernel
def f_X11_honest_j57_16 (τ : St) (x1 : Int32) (x2 : Int32) (x3 : Int32) (x4 : Int32) : Option ((Int32 × Int32 × Int32 × St) ⊕ (Int32 × Int32 × St)) := some (.inl (x1, x2, (x4 + (1 : Int32)), τ))
def f_X11_honest_s16 (τ : St) (y3 : Int32) (x1 : Int32) (x2 : Int32) (x4 : Int32) : Option ((Int32 × Int32 × Int32 × St) ⊕ (Int32 × Int32 × St)) := (if (40 : Int32) ≤ x4 then some (.inr (x1, x2, τ)) else (f_X11_closingBy τ x4).bind (fun q3 => (f_X0_yesOnes q3.2 32 (x4 / (10 : Int32))).bind (fun q5 => f_X11_honest_j57_16 q3.2 (if q3.1 = (y3 &&& q5) then (if (x2 + (1 : Int32)) = (1 : Int32) then x4 else x1) else x1) (if q3.1 = (y3 &&& q5) then (x2 + (1 : Int32)) else x2) y3 x4)))
def f_X11_honest (χ : St) : Option (Int32 × St) := (f_X0_openOnes χ 32).bind (fun q1 => (iter (fun z => f_X11_honest_s16 z.2.2.2 q1 z.1 z.2.1 z.2.2.1) FU ((-2 : Int32), (0 : Int32), (0 : Int32), χ)).bind (fun z7 => (if z7.2.1 ≤ 0 then some (z7.1, z7.2.2) else (f_X9_start z7.2.2).bind (fun q10 => (f_X9_add q10 (z7.2.1).toInt64).bind (fun q12 => some (z7.1, q12))))))
theorem c_X11_honest {l : Launch} {G : gT} {χ σ : St} (hf : FW G) {q : Int32 × St} (h : f_X11_honest χ = some q) : Ct l G yX11_honest prog_1_method_17_code 5 (some .int) 5 120 [.ref (ga G 0)] χ σ (some (.int q.1)) q.2 σ := by
  refine Ct.of (by decide) (Nat.le_of_ble_eq_true rfl) ?_
  intro p e s m args below meth c Q X hr hlk hQ
  have hx := X.1
  have hb := X.2.1
  have j57_16 : ∀ (τ : St) (x1 : Int32) (x2 : Int32) (x3 : Int32) (x4 : Int32) (o : (Int32 × Int32 × Int32 × St) ⊕ (Int32 × Int32 × St)), f_X11_honest_j57_16 τ x1 x2 x3 x4 = some o → Sum.elim (fun z : Int32 × Int32 × Int32 × St => Wat p l e (rmk 5 120) s m args below meth c Q G 5 16 [] [(1, .int z.1), (2, .int z.2.1), (4, .int z.2.2.1), (0, .ref (ga G 0)), (3, .int x3)] z.2.2.2 σ) (fun z : Int32 × Int32 × St => Wat p l e (rmk 5 120) s m args below meth c Q G 5 63 [] [(0, .ref (ga G 0)), (1, .int z.1), (2, .int z.2.1)] z.2.2 σ) o → Wat p l e (rmk 5 120) s m args below meth c Q G 5 57 [] [(0, .ref (ga G 0)), (1, .int x1), (2, .int x2), (3, .int x3), (4, .int x4)] τ σ := by
    intro τ x1 x2 x3 x4 o h hk H locs ls hw hl
    unfold f_X11_honest_j57_16 at h
    refine lv_iinc (v := (x4 + (1 : Int32))) (k := 4) (lv' := [(4, .int (x4 + (1 : Int32))), (0, .ref (ga G 0)), (1, .int x1), (2, .int x2), (3, .int x3)]) hx hb d_X11_honest_57 hl rfl (by rfl) (Nat.le_of_ble_eq_true rfl) rfl (fun ls hl => ?_)
    refine lv_goto (tgt := 16) hx hb d_X11_honest_60 (by decide) ?_
    obtain rfl := Option.some.inj h
    dsimp only [Sum.elim_inl] at hk
    exact hk _ _ _ hw (lv_sub hl [2, 3, 0, 1, 4] rfl)
  have b16 : ∀ (τ : St) (y3 : Int32) (x1 : Int32) (x2 : Int32) (x4 : Int32) (o : (Int32 × Int32 × Int32 × St) ⊕ (Int32 × Int32 × St)), f_X11_honest_s16 τ y3 x1 x2 x4 = some o → Sum.elim (fun z : Int32 × Int32 × Int32 × St => Wat p l e (rmk 5 120) s m args below meth c Q G 5 16 [] [(1, .int z.1), (2, .int z.2.1), (4, .int z.2.2.1), (0, .ref (ga G 0)), (3, .int y3)] z.2.2.2 σ) (fun z : Int32 × Int32 × St => Wat p l e (rmk 5 120) s m args below meth c Q G 5 63 [] [(0, .ref (ga G 0)), (1, .int z.1), (2, .int z.2.1)] z.2.2 σ) o → Wat p l e (rmk 5 120) s m args below meth c Q G 5 16 [] [(1, .int x1), (2, .int x2), (4, .int x4), (0, .ref (ga G 0)), (3, .int y3)] τ σ := by
    intro τ y3 x1 x2 x4 o h hk H locs ls hw hl
    unfold f_X11_honest_s16 at h
    refine lv_iload hx hb d_X11_honest_16 (lv_at hl 2 rfl) ?_
    refine lv_bipush (v := (40 : Int32)) hx hb d_X11_honest_18 (by decide) ?_
    refine lv_icmp_ge (tgt := 63) hx hb d_X11_honest_20 (by decide) (fun hc => ?_) (fun hc => ?_)
    · have h := ite_t h hc
      obtain rfl := Option.some.inj h
      dsimp only [Sum.elim_inr] at hk
      exact hk _ _ _ hw (lv_sub hl [3, 0, 1] rfl)
    · have h := ite_f h hc
      refine lv_aload_n hx hb d_X11_honest_23 rfl (lv_at hl 3 rfl) ?_
      refine lv_iload hx hb d_X11_honest_24 (lv_at hl 2 rfl) ?_
      obtain ⟨q3, e4, h⟩ := bd_some h
      refine r_callV (As := [.int x4]) (rest := []) (st' := [.int q3.1]) X hw hl mwX11_closingBy wd_523 wp_13 wd_521 (c_X11_closingBy hf e4) (r_recv X hw ct7 (o_0 hf)) rfl ⟨Nat.le_of_ble_eq_true rfl, Nat.le_of_ble_eq_true rfl⟩ ⟨Nat.le_refl _, Nat.le_refl _⟩ rfl rfl (Nat.le_of_ble_eq_true rfl) d_X11_honest_26 (fun H locs hw => ?_)
      refine lv_iload_n hx hb d_X11_honest_29 rfl (lv_at hl 4 rfl) ?_
      refine lv_aload_n hx hb d_X11_honest_30 rfl (lv_at hl 3 rfl) ?_
      refine r_getr (j := 2) X hw ct7 (o_0 hf) rfl (Nat.le_of_ble_eq_true rfl) (q := 32) rfl wd_266 d_X11_honest_31 ?_
      refine lv_iload hx hb d_X11_honest_34 (lv_at hl 2 rfl) ?_
      refine lv_bipush (v := (10 : Int32)) hx hb d_X11_honest_36 (by decide) ?_
      refine lv_idiv hx hb d_X11_honest_38 (by decide) ?_
      obtain ⟨q5, e6, h⟩ := bd_some h
      refine r_callV (As := [.int (x4 / (10 : Int32))]) (rest := [.int y3, .int q3.1]) (st' := [.int q5, .int y3, .int q3.1]) X hw hl mwX0_yesOnes wd_510 wd_511 wd_509 (c_X0_yesOnes hf b_32 e6) (r_recv X hw ct0 (o_32 hf)) rfl ⟨Nat.le_of_ble_eq_true rfl, Nat.le_of_ble_eq_true rfl⟩ ⟨Nat.le_refl _, Nat.le_refl _⟩ rfl rfl (Nat.le_of_ble_eq_true rfl) d_X11_honest_39 (fun H locs hw => ?_)
      refine lv_iand hx hb d_X11_honest_42 ?_
      refine lv_icmp_ne (tgt := 57) hx hb d_X11_honest_43 (by decide) (fun hc => ?_) (fun hc => ?_)
      · simp only [if_neg hc] at h
        exact j57_16 q3.2 x1 x2 y3 x4 o h hk _ _ _ hw (lv_sub hl [3, 0, 1, 4, 2] rfl)
      · simp only [if_pos hc] at h
        refine lv_iinc (v := (x2 + (1 : Int32))) (k := 1) (lv' := [(2, .int (x2 + (1 : Int32))), (1, .int x1), (4, .int x4), (0, .ref (ga G 0)), (3, .int y3)]) hx hb d_X11_honest_46 hl rfl (by rfl) (Nat.le_of_ble_eq_true rfl) rfl (fun ls hl => ?_)
        refine lv_iload_n hx hb d_X11_honest_49 rfl (lv_at hl 0 rfl) ?_
        refine lv_iconst (v := (1 : Int32)) hx hb d_X11_honest_50 (by decide) ?_
        refine lv_icmp_ne (tgt := 57) hx hb d_X11_honest_51 (by decide) (fun hc => ?_) (fun hc => ?_)
        · simp only [if_neg hc] at h
          exact j57_16 q3.2 x1 (x2 + (1 : Int32)) y3 x4 o h hk _ _ _ hw (lv_sub hl [3, 1, 0, 4, 2] rfl)
        · simp only [if_pos hc] at h
          refine lv_iload hx hb d_X11_honest_54 (lv_at hl 2 rfl) ?_
          refine lv_istore_n (lv' := [(1, .int x4), (2, .int (x2 + (1 : Int32))), (4, .int x4), (0, .ref (ga G 0)), (3, .int y3)]) hx hb d_X11_honest_56 rfl hl (Nat.le_of_ble_eq_true rfl) rfl (fun ls hl => ?_)
          exact j57_16 q3.2 x4 (x2 + (1 : Int32)) y3 x4 o h hk _ _ _ hw (lv_sub hl [3, 0, 1, 4, 2] rfl)
  intro H locs ls hw hl
  have hl : lv_has ls 5 [(0, .ref (ga G 0))] := hl
  unfold f_X11_honest at h
  refine lv_bipush (v := (-2 : Int32)) hx hb d_X11_honest_0 (by decide) ?_
  refine lv_istore_n (lv' := [(1, .int (-2 : Int32)), (0, .ref (ga G 0))]) hx hb d_X11_honest_2 rfl hl (Nat.le_of_ble_eq_true rfl) rfl (fun ls hl => ?_)
  refine lv_iconst (v := (0 : Int32)) hx hb d_X11_honest_3 (by decide) ?_
  refine lv_istore_n (lv' := [(2, .int (0 : Int32)), (1, .int (-2 : Int32)), (0, .ref (ga G 0))]) hx hb d_X11_honest_4 rfl hl (Nat.le_of_ble_eq_true rfl) rfl (fun ls hl => ?_)
  refine lv_aload_n hx hb d_X11_honest_5 rfl (lv_at hl 2 rfl) ?_
  refine r_getr (j := 2) X hw ct7 (o_0 hf) rfl (Nat.le_of_ble_eq_true rfl) (q := 32) rfl wd_266 d_X11_honest_6 ?_
  obtain ⟨q1, e2, h⟩ := bd_some h
  refine r_callV (As := []) (rest := []) (st' := [.int q1]) X hw hl mwX0_openOnes wd_428 wd_429 wd_427 (c_X0_openOnes hf b_32 e2) (r_recv X hw ct0 (o_32 hf)) rfl ⟨Nat.le_of_ble_eq_true rfl, Nat.le_of_ble_eq_true rfl⟩ ⟨Nat.le_refl _, Nat.le_refl _⟩ rfl rfl (Nat.le_of_ble_eq_true rfl) d_X11_honest_9 (fun H locs hw => ?_)
  refine lv_istore_n (lv' := [(3, .int q1), (2, .int (0 : Int32)), (1, .int (-2 : Int32)), (0, .ref (ga G 0))]) hx hb d_X11_honest_12 rfl hl (Nat.le_of_ble_eq_true rfl) rfl (fun ls hl => ?_)
  refine lv_iconst (v := (0 : Int32)) hx hb d_X11_honest_13 (by decide) ?_
  refine lv_istore (lv' := [(4, .int (0 : Int32)), (3, .int q1), (2, .int (0 : Int32)), (1, .int (-2 : Int32)), (0, .ref (ga G 0))]) hx hb d_X11_honest_14 hl (Nat.le_of_ble_eq_true rfl) rfl (fun ls hl => ?_)
  obtain ⟨z7, e8, h⟩ := bd_some h
  refine iter_w (Wh := fun z : Int32 × Int32 × Int32 × St => Wat p l e (rmk 5 120) s m args below meth c Q G 5 16 [] [(1, .int z.1), (2, .int z.2.1), (4, .int z.2.2.1), (0, .ref (ga G 0)), (3, .int q1)] z.2.2.2 σ) (K := fun z : Int32 × Int32 × St => Wat p l e (rmk 5 120) s m args below meth c Q G 5 63 [] [(0, .ref (ga G 0)), (1, .int z.1), (2, .int z.2.1)] z.2.2 σ) (fun z o h1 h2 => b16 z.2.2.2 q1 z.1 z.2.1 z.2.2.1 o h1 h2) FU _ _ e8 ?_ _ _ _ hw (lv_sub hl [3, 2, 0, 4, 1] rfl)
  intro H locs ls hw hl
  refine lv_iload_n hx hb d_X11_honest_63 rfl (lv_at hl 2 rfl) ?_
  refine lv_if_le (tgt := 83) hx hb d_X11_honest_64 (by decide) (fun hc => ?_) (fun hc => ?_)
  · have h := ite_t h hc
    refine lv_iload_n hx hb d_X11_honest_83 rfl (lv_at hl 1 rfl) ?_
    obtain rfl := Option.some.inj h
    subst hQ
    exact r_iret X hr hlk hw d_X11_honest_84
  · have h := ite_f h hc
    refine lv_aload_n hx hb d_X11_honest_67 rfl (lv_at hl 0 rfl) ?_
    refine r_getr (j := 1) X hw ct7 (o_0 hf) rfl (Nat.le_of_ble_eq_true rfl) (q := 3) rfl wd_265 d_X11_honest_68 ?_
    obtain ⟨q10, e11, h⟩ := bd_some h
    refine r_callV (As := []) (rest := []) (st' := []) X hw hl mwX9_start wd_420 wd_421 wd_419 (c_X9_start hf e11) (r_recv X hw ct6 (o_3 hf)) rfl ⟨Nat.le_of_ble_eq_true rfl, Nat.le_of_ble_eq_true rfl⟩ ⟨Nat.le_refl _, Nat.le_refl _⟩ rfl rfl (Nat.le_of_ble_eq_true rfl) d_X11_honest_71 (fun H locs hw => ?_)
    refine lv_aload_n hx hb d_X11_honest_74 rfl (lv_at hl 0 rfl) ?_
    refine r_getr (j := 1) X hw ct7 (o_0 hf) rfl (Nat.le_of_ble_eq_true rfl) (q := 3) rfl wd_265 d_X11_honest_75 ?_
    refine lv_iload_n hx hb d_X11_honest_78 rfl (lv_at hl 2 rfl) ?_
    refine lv_i2l hx hb d_X11_honest_79 rfl ?_
    obtain ⟨q12, e13, h⟩ := bd_some h
    refine r_callV (As := [.long (z7.2.1).toInt64]) (rest := []) (st' := []) X hw hl mwX9_add wd_424 wd_425 wd_423 (c_X9_add hf e13) (r_recv X hw ct6 (o_3 hf)) rfl ⟨Nat.le_of_ble_eq_true rfl, Nat.le_of_ble_eq_true rfl⟩ ⟨Nat.le_refl _, Nat.le_refl _⟩ rfl rfl (Nat.le_of_ble_eq_true rfl) d_X11_honest_80 (fun H locs hw => ?_)
    refine lv_iload_n hx hb d_X11_honest_83 rfl (lv_at hl 1 rfl) ?_
    obtain rfl := Option.some.inj h
    subst hQ
    exact r_iret X hr hlk hw d_X11_honest_84
abbrev yX11_shyest : MethodName := ⟨"OysterBeds", "shyest", "(II)I"⟩
theorem mwX11_shyest : MW yX11_shyest prog_1_method_18_code 8 (some .int) 2 := ⟨wd_528, wd_1, by decide +kernel⟩
theorem d_X11_shyest_0 : decode prog_1_method_18_code 0 = .ok (.iload_n 1, 1) := by decide +kernel
theorem d_X11_shyest_1 : decode prog_1_method_18_code 1 = .ok (.iload_n 2, 1) := by decide +kernel
theorem d_X11_shyest_2 : decode prog_1_method_18_code 2 = .ok (.invokestatic 144, 3) := by decide +kernel
theorem d_X11_shyest_5 : decode prog_1_method_18_code 5 = .ok (.ifCond .ne 5, 3) := by decide +kernel
theorem d_X11_shyest_8 : decode prog_1_method_18_code 8 = .ok (.iconst (-1), 1) := by decide +kernel
theorem d_X11_shyest_9 : decode prog_1_method_18_code 9 = .ok (.ireturn, 1) := by decide +kernel
theorem d_X11_shyest_10 : decode prog_1_method_18_code 10 = .ok (.aload_n 0, 1) := by decide +kernel
theorem d_X11_shyest_11 : decode prog_1_method_18_code 11 = .ok (.getfield 26, 3) := by decide +kernel
theorem d_X11_shyest_14 : decode prog_1_method_18_code 14 = .ok (.aload_n 0, 1) := by decide +kernel
theorem d_X11_shyest_15 : decode prog_1_method_18_code 15 = .ok (.getfield 57, 3) := by decide +kernel
theorem d_X11_shyest_18 : decode prog_1_method_18_code 18 = .ok (.iload_n 1, 1) := by decide +kernel
theorem d_X11_shyest_19 : decode prog_1_method_18_code 19 = .ok (.iload_n 2, 1) := by decide +kernel
theorem d_X11_shyest_20 : decode prog_1_method_18_code 20 = .ok (.invokevirtual 204, 3) := by decide +kernel
theorem d_X11_shyest_23 : decode prog_1_method_18_code 23 = .ok (.istore_n 3, 1) := by decide +kernel
theorem d_X11_shyest_24 : decode prog_1_method_18_code 24 = .ok (.iconst 0, 1) := by decide +kernel
theorem d_X11_shyest_25 : decode prog_1_method_18_code 25 = .ok (.istore 4, 2) := by decide +kernel
theorem d_X11_shyest_27 : decode prog_1_method_18_code 27 = .ok (.iconst (-1), 1) := by decide +kernel
theorem d_X11_shyest_28 : decode prog_1_method_18_code 28 = .ok (.istore 5, 2) := by decide +kernel
theorem d_X11_shyest_30 : decode prog_1_method_18_code 30 = .ok (.aload_n 0, 1) := by decide +kernel
theorem d_X11_shyest_31 : decode prog_1_method_18_code 31 = .ok (.getfield 19, 3) := by decide +kernel
theorem d_X11_shyest_34 : decode prog_1_method_18_code 34 = .ok (.invokevirtual 156, 3) := by decide +kernel
theorem d_X11_shyest_37 : decode prog_1_method_18_code 37 = .ok (.iconst 0, 1) := by decide +kernel
theorem d_X11_shyest_38 : decode prog_1_method_18_code 38 = .ok (.istore 6, 2) := by decide +kernel
theorem d_X11_shyest_40 : decode prog_1_method_18_code 40 = .ok (.iload 6, 2) := by decide +kernel
theorem d_X11_shyest_42 : decode prog_1_method_18_code 42 = .ok (.iconst 3, 1) := by decide +kernel
theorem d_X11_shyest_43 : decode prog_1_method_18_code 43 = .ok (.if_icmp .ge 50, 3) := by decide +kernel
theorem d_X11_shyest_46 : decode prog_1_method_18_code 46 = .ok (.iload_n 3, 1) := by decide +kernel
theorem d_X11_shyest_47 : decode prog_1_method_18_code 47 = .ok (.aload_n 0, 1) := by decide +kernel
theorem d_X11_shyest_48 : decode prog_1_method_18_code 48 = .ok (.getfield 26, 3) := by decide +kernel
theorem d_X11_shyest_51 : decode prog_1_method_18_code 51 = .ok (.iload 6, 2) := by decide +kernel
theorem d_X11_shyest_53 : decode prog_1_method_18_code 53 = .ok (.invokevirtual 213, 3) := by decide +kernel
theorem d_X11_shyest_56 : decode prog_1_method_18_code 56 = .ok (.iand, 1) := by decide +kernel
theorem d_X11_shyest_57 : decode prog_1_method_18_code 57 = .ok (.invokestatic 166, 3) := by decide +kernel
theorem d_X11_shyest_60 : decode prog_1_method_18_code 60 = .ok (.istore 7, 2) := by decide +kernel
theorem d_X11_shyest_62 : decode prog_1_method_18_code 62 = .ok (.aload_n 0, 1) := by decide +kernel
theorem d_X11_shyest_63 : decode prog_1_method_18_code 63 = .ok (.getfield 19, 3) := by decide +kernel
theorem d_X11_shyest_66 : decode prog_1_method_18_code 66 = .ok (.iload 7, 2) := by decide +kernel
theorem d_X11_shyest_68 : decode prog_1_method_18_code 68 = .ok (.i2l, 1) := by decide +kernel
theorem d_X11_shyest_69 : decode prog_1_method_18_code 69 = .ok (.invokevirtual 159, 3) := by decide +kernel
theorem d_X11_shyest_72 : decode prog_1_method_18_code 72 = .ok (.iload 7, 2) := by decide +kernel
theorem d_X11_shyest_74 : decode prog_1_method_18_code 74 = .ok (.iload 5, 2) := by decide +kernel
theorem d_X11_shyest_76 : decode prog_1_method_18_code 76 = .ok (.if_icmp .le 11, 3) := by decide +kernel
theorem d_X11_shyest_79 : decode prog_1_method_18_code 79 = .ok (.iload 7, 2) := by decide +kernel
theorem d_X11_shyest_81 : decode prog_1_method_18_code 81 = .ok (.istore 5, 2) := by decide +kernel
theorem d_X11_shyest_83 : decode prog_1_method_18_code 83 = .ok (.iload 6, 2) := by decide +kernel
theorem d_X11_shyest_85 : decode prog_1_method_18_code 85 = .ok (.istore 4, 2) := by decide +kernel
theorem d_X11_shyest_87 : decode prog_1_method_18_code 87 = .ok (.iinc 6 1, 3) := by decide +kernel
theorem d_X11_shyest_90 : decode prog_1_method_18_code 90 = .ok (.goto (-50), 3) := by decide +kernel
theorem d_X11_shyest_93 : decode prog_1_method_18_code 93 = .ok (.iload 4, 2) := by decide +kernel
theorem d_X11_shyest_95 : decode prog_1_method_18_code 95 = .ok (.ireturn, 1) := by decide +kernel
def f_X11_shyest_j87_40 (τ : St) (x3 : Int32) (x4 : Int32) (x5 : Int32) (x6 : Int32) : Option ((Int32 × Int32 × Int32 × St) ⊕ (Int32 × St)) := some (.inl (x4, x5, (x6 + (1 : Int32)), τ))
def f_X11_shyest_s40 (τ : St) (y3 : Int32) (x4 : Int32) (x5 : Int32) (x6 : Int32) : Option ((Int32 × Int32 × Int32 × St) ⊕ (Int32 × St)) := (if (3 : Int32) ≤ x6 then some (.inr (x4, τ)) else (f_X0_onesOfKind τ 32 x6).bind (fun q8 => (f_J6_bitCount_0f7a4 (y3 &&& q8)).bind (fun q10 => (f_X9_add τ q10.toInt64).bind (fun q12 => f_X11_shyest_j87_40 q12 y3 (if q10 ≤ x5 then x4 else x6) (if q10 ≤ x5 then x5 else q10) x6))))
def f_X11_shyest (χ : St) (a1 : Int32) (a2 : Int32) : Option (Int32 × St) := (f_X11_isQuestion a1 a2).bind (fun q1 => (if q1 = 0 then some ((-1 : Int32), χ) else gd (isLaw (cW χ).1) ((f_X0_closing χ 32 (cW χ).1 a1 a2).bind (fun q4 => (f_X9_start q4.2).bind (fun q6 => (iter (fun z => f_X11_shyest_s40 z.2.2.2 q4.1 z.1 z.2.1 z.2.2.1) FU ((0 : Int32), (-1 : Int32), (0 : Int32), q6)).bind (fun z14 => some (z14.1, z14.2)))))))
theorem c_X11_shyest {l : Launch} {G : gT} {χ σ : St} {a1 : Int32} {a2 : Int32} (hf : FW G) {q : Int32 × St} (h : f_X11_shyest χ a1 a2 = some q) : Ct l G yX11_shyest prog_1_method_18_code 8 (some .int) 4 99 [.ref (ga G 0), .int a1, .int a2] χ σ (some (.int q.1)) q.2 σ := by
  refine Ct.of (by decide) (Nat.le_of_ble_eq_true rfl) ?_
  intro p e s m args below meth c Q X hr hlk hQ
  have hx := X.1
  have hb := X.2.1
  have j87_40 : ∀ (τ : St) (x3 : Int32) (x4 : Int32) (x5 : Int32) (x6 : Int32) (o : (Int32 × Int32 × Int32 × St) ⊕ (Int32 × St)), f_X11_shyest_j87_40 τ x3 x4 x5 x6 = some o → Sum.elim (fun z : Int32 × Int32 × Int32 × St => Wat p l e (rmk 4 99) s m args below meth c Q G 8 40 [] [(4, .int z.1), (5, .int z.2.1), (6, .int z.2.2.1), (0, .ref (ga G 0)), (3, .int x3)] z.2.2.2 σ) (fun z : Int32 × St => Wat p l e (rmk 4 99) s m args below meth c Q G 8 93 [] [(4, .int z.1)] z.2 σ) o → Wat p l e (rmk 4 99) s m args below meth c Q G 8 87 [] [(0, .ref (ga G 0)), (3, .int x3), (4, .int x4), (5, .int x5), (6, .int x6)] τ σ := by
    intro τ x3 x4 x5 x6 o h hk H locs ls hw hl
    unfold f_X11_shyest_j87_40 at h
    refine lv_iinc (v := (x6 + (1 : Int32))) (k := 4) (lv' := [(6, .int (x6 + (1 : Int32))), (0, .ref (ga G 0)), (3, .int x3), (4, .int x4), (5, .int x5)]) hx hb d_X11_shyest_87 hl rfl (by rfl) (Nat.le_of_ble_eq_true rfl) rfl (fun ls hl => ?_)
    refine lv_goto (tgt := 40) hx hb d_X11_shyest_90 (by decide) ?_
    obtain rfl := Option.some.inj h
    dsimp only [Sum.elim_inl] at hk
    exact hk _ _ _ hw (lv_sub hl [3, 4, 0, 1, 2] rfl)
  have b40 : ∀ (τ : St) (y3 : Int32) (x4 : Int32) (x5 : Int32) (x6 : Int32) (o : (Int32 × Int32 × Int32 × St) ⊕ (Int32 × St)), f_X11_shyest_s40 τ y3 x4 x5 x6 = some o → Sum.elim (fun z : Int32 × Int32 × Int32 × St => Wat p l e (rmk 4 99) s m args below meth c Q G 8 40 [] [(4, .int z.1), (5, .int z.2.1), (6, .int z.2.2.1), (0, .ref (ga G 0)), (3, .int y3)] z.2.2.2 σ) (fun z : Int32 × St => Wat p l e (rmk 4 99) s m args below meth c Q G 8 93 [] [(4, .int z.1)] z.2 σ) o → Wat p l e (rmk 4 99) s m args below meth c Q G 8 40 [] [(4, .int x4), (5, .int x5), (6, .int x6), (0, .ref (ga G 0)), (3, .int y3)] τ σ := by
    intro τ y3 x4 x5 x6 o h hk H locs ls hw hl
    unfold f_X11_shyest_s40 at h
    refine lv_iload hx hb d_X11_shyest_40 (lv_at hl 2 rfl) ?_
    refine lv_iconst (v := (3 : Int32)) hx hb d_X11_shyest_42 (by decide) ?_
    refine lv_icmp_ge (tgt := 93) hx hb d_X11_shyest_43 (by decide) (fun hc => ?_) (fun hc => ?_)
    · have h := ite_t h hc
      obtain rfl := Option.some.inj h
      dsimp only [Sum.elim_inr] at hk
      exact hk _ _ _ hw (lv_sub hl [0] rfl)
    · have h := ite_f h hc
      refine lv_iload_n hx hb d_X11_shyest_46 rfl (lv_at hl 4 rfl) ?_
      refine lv_aload_n hx hb d_X11_shyest_47 rfl (lv_at hl 3 rfl) ?_
      refine r_getr (j := 2) X hw ct7 (o_0 hf) rfl (Nat.le_of_ble_eq_true rfl) (q := 32) rfl wd_266 d_X11_shyest_48 ?_
      refine lv_iload hx hb d_X11_shyest_51 (lv_at hl 2 rfl) ?_
      obtain ⟨q8, e9, h⟩ := bd_some h
      refine r_callV (As := [.int x6]) (rest := [.int y3]) (st' := [.int q8, .int y3]) X hw hl mwX0_onesOfKind wd_530 wd_531 wd_529 (c_X0_onesOfKind hf b_32 e9) (r_recv X hw ct0 (o_32 hf)) rfl ⟨Nat.le_of_ble_eq_true rfl, Nat.le_of_ble_eq_true rfl⟩ ⟨Nat.le_refl _, Nat.le_refl _⟩ rfl rfl (Nat.le_of_ble_eq_true rfl) d_X11_shyest_53 (fun H locs hw => ?_)
      refine lv_iand hx hb d_X11_shyest_56 ?_
      obtain ⟨q10, e11, h⟩ := bd_some h
      refine r_callS (As := [.int (y3 &&& q8)]) (rest := []) (st' := [.int q10]) X hw hl mwJ6_bitCount_0f7a4 wd_436 wd_435 (c_J6_bitCount_0f7a4 e11) rfl ⟨Nat.le_of_ble_eq_true rfl, Nat.le_of_ble_eq_true rfl⟩ ⟨Nat.le_refl _, Nat.le_refl _⟩ rfl rfl (Nat.le_of_ble_eq_true rfl) d_X11_shyest_57 (fun H locs hw => ?_)
      refine lv_istore (lv' := [(7, .int q10), (4, .int x4), (5, .int x5), (6, .int x6), (0, .ref (ga G 0)), (3, .int y3)]) hx hb d_X11_shyest_60 hl (Nat.le_of_ble_eq_true rfl) rfl (fun ls hl => ?_)
      refine lv_aload_n hx hb d_X11_shyest_62 rfl (lv_at hl 4 rfl) ?_
      refine r_getr (j := 1) X hw ct7 (o_0 hf) rfl (Nat.le_of_ble_eq_true rfl) (q := 3) rfl wd_265 d_X11_shyest_63 ?_
      refine lv_iload hx hb d_X11_shyest_66 (lv_at hl 0 rfl) ?_
      refine lv_i2l hx hb d_X11_shyest_68 rfl ?_
      obtain ⟨q12, e13, h⟩ := bd_some h
      refine r_callV (As := [.long q10.toInt64]) (rest := []) (st' := []) X hw hl mwX9_add wd_424 wd_425 wd_423 (c_X9_add hf e13) (r_recv X hw ct6 (o_3 hf)) rfl ⟨Nat.le_of_ble_eq_true rfl, Nat.le_of_ble_eq_true rfl⟩ ⟨Nat.le_refl _, Nat.le_refl _⟩ rfl rfl (Nat.le_of_ble_eq_true rfl) d_X11_shyest_69 (fun H locs hw => ?_)
      refine lv_iload hx hb d_X11_shyest_72 (lv_at hl 0 rfl) ?_
      refine lv_iload hx hb d_X11_shyest_74 (lv_at hl 2 rfl) ?_
      refine lv_icmp_le (tgt := 87) hx hb d_X11_shyest_76 (by decide) (fun hc => ?_) (fun hc => ?_)
      · simp only [if_pos hc] at h
        exact j87_40 q12 y3 x4 x5 x6 o h hk _ _ _ hw (lv_sub hl [4, 5, 1, 2, 3] rfl)
      · simp only [if_neg hc] at h
        refine lv_iload hx hb d_X11_shyest_79 (lv_at hl 0 rfl) ?_
        refine lv_istore (lv' := [(5, .int q10), (7, .int q10), (4, .int x4), (6, .int x6), (0, .ref (ga G 0)), (3, .int y3)]) hx hb d_X11_shyest_81 hl (Nat.le_of_ble_eq_true rfl) rfl (fun ls hl => ?_)
        refine lv_iload hx hb d_X11_shyest_83 (lv_at hl 3 rfl) ?_
        refine lv_istore (lv' := [(4, .int x6), (5, .int q10), (7, .int q10), (6, .int x6), (0, .ref (ga G 0)), (3, .int y3)]) hx hb d_X11_shyest_85 hl (Nat.le_of_ble_eq_true rfl) rfl (fun ls hl => ?_)
        exact j87_40 q12 y3 x6 q10 x6 o h hk _ _ _ hw (lv_sub hl [4, 5, 0, 1, 3] rfl)
  intro H locs ls hw hl
  have hl : lv_has ls 8 [(0, .ref (ga G 0)), (1, .int a1), (2, .int a2)] := hl
  unfold f_X11_shyest at h
  refine lv_iload_n hx hb d_X11_shyest_0 rfl (lv_at hl 1 rfl) ?_
  refine lv_iload_n hx hb d_X11_shyest_1 rfl (lv_at hl 2 rfl) ?_
  obtain ⟨q1, e2, h⟩ := bd_some h
  refine r_callS (As := [.int a1, .int a2]) (rest := []) (st' := [.int q1]) X hw hl mwX11_isQuestion wd_382 wd_381 (c_X11_isQuestion hf e2) rfl ⟨Nat.le_of_ble_eq_true rfl, Nat.le_of_ble_eq_true rfl⟩ ⟨Nat.le_refl _, Nat.le_refl _⟩ rfl rfl (Nat.le_of_ble_eq_true rfl) d_X11_shyest_2 (fun H locs hw => ?_)
  refine lv_if_ne (tgt := 10) hx hb d_X11_shyest_5 (by decide) (fun hc => ?_) (fun hc => ?_)
  · have h := ite_f h hc
    refine lv_aload_n hx hb d_X11_shyest_10 rfl (lv_at hl 0 rfl) ?_
    refine r_getr (j := 2) X hw ct7 (o_0 hf) rfl (Nat.le_of_ble_eq_true rfl) (q := 32) rfl wd_266 d_X11_shyest_11 ?_
    refine lv_aload_n hx hb d_X11_shyest_14 rfl (lv_at hl 0 rfl) ?_
    obtain ⟨hw3, h⟩ := gd_some h
    refine r_getr (j := 7) X hw ct7 (o_0 hf) rfl (Nat.le_of_ble_eq_true rfl) (q := (cW χ).1) rfl wd_271 d_X11_shyest_15 ?_
    refine lv_iload_n hx hb d_X11_shyest_18 rfl (lv_at hl 1 rfl) ?_
    refine lv_iload_n hx hb d_X11_shyest_19 rfl (lv_at hl 2 rfl) ?_
    obtain ⟨q4, e5, h⟩ := bd_some h
    refine r_callV (As := [.ref (ga G (cW χ).1), .int a1, .int a2]) (rest := []) (st' := [.int q4.1]) X hw hl mwX0_closing wd_398 wd_399 wd_508 (c_X0_closing hf b_32 (LW.of hf hw3) e5) (r_recv X hw ct0 (o_32 hf)) rfl ⟨Nat.le_of_ble_eq_true rfl, Nat.le_of_ble_eq_true rfl⟩ ⟨Nat.le_refl _, Nat.le_refl _⟩ rfl rfl (Nat.le_of_ble_eq_true rfl) d_X11_shyest_20 (fun H locs hw => ?_)
    refine lv_istore_n (lv' := [(3, .int q4.1), (0, .ref (ga G 0)), (1, .int a1), (2, .int a2)]) hx hb d_X11_shyest_23 rfl hl (Nat.le_of_ble_eq_true rfl) rfl (fun ls hl => ?_)
    refine lv_iconst (v := (0 : Int32)) hx hb d_X11_shyest_24 (by decide) ?_
    refine lv_istore (lv' := [(4, .int (0 : Int32)), (3, .int q4.1), (0, .ref (ga G 0)), (1, .int a1), (2, .int a2)]) hx hb d_X11_shyest_25 hl (Nat.le_of_ble_eq_true rfl) rfl (fun ls hl => ?_)
    refine lv_iconst (v := (-1 : Int32)) hx hb d_X11_shyest_27 (by decide) ?_
    refine lv_istore (lv' := [(5, .int (-1 : Int32)), (4, .int (0 : Int32)), (3, .int q4.1), (0, .ref (ga G 0)), (1, .int a1), (2, .int a2)]) hx hb d_X11_shyest_28 hl (Nat.le_of_ble_eq_true rfl) rfl (fun ls hl => ?_)
    refine lv_aload_n hx hb d_X11_shyest_30 rfl (lv_at hl 3 rfl) ?_
    refine r_getr (j := 1) X hw ct7 (o_0 hf) rfl (Nat.le_of_ble_eq_true rfl) (q := 3) rfl wd_265 d_X11_shyest_31 ?_
    obtain ⟨q6, e7, h⟩ := bd_some h
    refine r_callV (As := []) (rest := []) (st' := []) X hw hl mwX9_start wd_420 wd_421 wd_419 (c_X9_start hf e7) (r_recv X hw ct6 (o_3 hf)) rfl ⟨Nat.le_of_ble_eq_true rfl, Nat.le_of_ble_eq_true rfl⟩ ⟨Nat.le_refl _, Nat.le_refl _⟩ rfl rfl (Nat.le_of_ble_eq_true rfl) d_X11_shyest_34 (fun H locs hw => ?_)
    refine lv_iconst (v := (0 : Int32)) hx hb d_X11_shyest_37 (by decide) ?_
    refine lv_istore (lv' := [(6, .int (0 : Int32)), (5, .int (-1 : Int32)), (4, .int (0 : Int32)), (3, .int q4.1), (0, .ref (ga G 0)), (1, .int a1), (2, .int a2)]) hx hb d_X11_shyest_38 hl (Nat.le_of_ble_eq_true rfl) rfl (fun ls hl => ?_)
    obtain ⟨z14, e15, h⟩ := bd_some h
    refine iter_w (Wh := fun z : Int32 × Int32 × Int32 × St => Wat p l e (rmk 4 99) s m args below meth c Q G 8 40 [] [(4, .int z.1), (5, .int z.2.1), (6, .int z.2.2.1), (0, .ref (ga G 0)), (3, .int q4.1)] z.2.2.2 σ) (K := fun z : Int32 × St => Wat p l e (rmk 4 99) s m args below meth c Q G 8 93 [] [(4, .int z.1)] z.2 σ) (fun z o h1 h2 => b40 z.2.2.2 q4.1 z.1 z.2.1 z.2.2.1 o h1 h2) FU _ _ e15 ?_ _ _ _ hw (lv_sub hl [2, 1, 0, 4, 3] rfl)
    intro H locs ls hw hl
    refine lv_iload hx hb d_X11_shyest_93 (lv_at hl 0 rfl) ?_
    obtain rfl := Option.some.inj h
    subst hQ
    exact r_iret X hr hlk hw d_X11_shyest_95
  · have h := ite_t h hc
    refine lv_iconst (v := (-1 : Int32)) hx hb d_X11_shyest_8 (by decide) ?_
    obtain rfl := Option.some.inj h
    subst hQ
    exact r_iret X hr hlk hw d_X11_shyest_9
abbrev yX11_loudest : MethodName := ⟨"OysterBeds", "loudest", "()I"⟩
theorem mwX11_loudest : MW yX11_loudest prog_1_method_19_code 6 (some .int) 0 := ⟨wd_536, wd_1, by decide +kernel⟩
theorem d_X11_loudest_0 : decode prog_1_method_19_code 0 = .ok (.iconst 0, 1) := by decide +kernel
theorem d_X11_loudest_1 : decode prog_1_method_19_code 1 = .ok (.istore_n 1, 1) := by decide +kernel
theorem d_X11_loudest_2 : decode prog_1_method_19_code 2 = .ok (.iconst (-1), 1) := by decide +kernel
theorem d_X11_loudest_3 : decode prog_1_method_19_code 3 = .ok (.istore_n 2, 1) := by decide +kernel
theorem d_X11_loudest_4 : decode prog_1_method_19_code 4 = .ok (.bipush 8, 2) := by decide +kernel
theorem d_X11_loudest_6 : decode prog_1_method_19_code 6 = .ok (.istore_n 3, 1) := by decide +kernel
theorem d_X11_loudest_7 : decode prog_1_method_19_code 7 = .ok (.iconst 0, 1) := by decide +kernel
theorem d_X11_loudest_8 : decode prog_1_method_19_code 8 = .ok (.istore 4, 2) := by decide +kernel
theorem d_X11_loudest_10 : decode prog_1_method_19_code 10 = .ok (.iload 4, 2) := by decide +kernel
theorem d_X11_loudest_12 : decode prog_1_method_19_code 12 = .ok (.bipush 40, 2) := by decide +kernel
theorem d_X11_loudest_14 : decode prog_1_method_19_code 14 = .ok (.if_icmp .ge 39, 3) := by decide +kernel
theorem d_X11_loudest_17 : decode prog_1_method_19_code 17 = .ok (.aload_n 0, 1) := by decide +kernel
theorem d_X11_loudest_18 : decode prog_1_method_19_code 18 = .ok (.iload 4, 2) := by decide +kernel
theorem d_X11_loudest_20 : decode prog_1_method_19_code 20 = .ok (.invokevirtual 210, 3) := by decide +kernel
theorem d_X11_loudest_23 : decode prog_1_method_19_code 23 = .ok (.invokestatic 166, 3) := by decide +kernel
theorem d_X11_loudest_26 : decode prog_1_method_19_code 26 = .ok (.istore 5, 2) := by decide +kernel
theorem d_X11_loudest_28 : decode prog_1_method_19_code 28 = .ok (.iload_n 3, 1) := by decide +kernel
theorem d_X11_loudest_29 : decode prog_1_method_19_code 29 = .ok (.iload 5, 2) := by decide +kernel
theorem d_X11_loudest_31 : decode prog_1_method_19_code 31 = .ok (.invokestatic 216, 3) := by decide +kernel
theorem d_X11_loudest_34 : decode prog_1_method_19_code 34 = .ok (.istore_n 3, 1) := by decide +kernel
theorem d_X11_loudest_35 : decode prog_1_method_19_code 35 = .ok (.iload 5, 2) := by decide +kernel
theorem d_X11_loudest_37 : decode prog_1_method_19_code 37 = .ok (.iload_n 2, 1) := by decide +kernel
theorem d_X11_loudest_38 : decode prog_1_method_19_code 38 = .ok (.if_icmp .le 9, 3) := by decide +kernel
theorem d_X11_loudest_41 : decode prog_1_method_19_code 41 = .ok (.iload 5, 2) := by decide +kernel
theorem d_X11_loudest_43 : decode prog_1_method_19_code 43 = .ok (.istore_n 2, 1) := by decide +kernel
theorem d_X11_loudest_44 : decode prog_1_method_19_code 44 = .ok (.iload 4, 2) := by decide +kernel
theorem d_X11_loudest_46 : decode prog_1_method_19_code 46 = .ok (.istore_n 1, 1) := by decide +kernel
theorem d_X11_loudest_47 : decode prog_1_method_19_code 47 = .ok (.iinc 4 1, 3) := by decide +kernel
theorem d_X11_loudest_50 : decode prog_1_method_19_code 50 = .ok (.goto (-40), 3) := by decide +kernel
theorem d_X11_loudest_53 : decode prog_1_method_19_code 53 = .ok (.aload_n 0, 1) := by decide +kernel
theorem d_X11_loudest_54 : decode prog_1_method_19_code 54 = .ok (.getfield 19, 3) := by decide +kernel
theorem d_X11_loudest_57 : decode prog_1_method_19_code 57 = .ok (.invokevirtual 156, 3) := by decide +kernel
theorem d_X11_loudest_60 : decode prog_1_method_19_code 60 = .ok (.aload_n 0, 1) := by decide +kernel
theorem d_X11_loudest_61 : decode prog_1_method_19_code 61 = .ok (.getfield 19, 3) := by decide +kernel
theorem d_X11_loudest_64 : decode prog_1_method_19_code 64 = .ok (.iload_n 2, 1) := by decide +kernel
theorem d_X11_loudest_65 : decode prog_1_method_19_code 65 = .ok (.i2l, 1) := by decide +kernel
theorem d_X11_loudest_66 : decode prog_1_method_19_code 66 = .ok (.invokevirtual 159, 3) := by decide +kernel
theorem d_X11_loudest_69 : decode prog_1_method_19_code 69 = .ok (.aload_n 0, 1) := by decide +kernel
theorem d_X11_loudest_70 : decode prog_1_method_19_code 70 = .ok (.getfield 19, 3) := by decide +kernel
theorem d_X11_loudest_73 : decode prog_1_method_19_code 73 = .ok (.iload_n 3, 1) := by decide +kernel
theorem d_X11_loudest_74 : decode prog_1_method_19_code 74 = .ok (.i2l, 1) := by decide +kernel
theorem d_X11_loudest_75 : decode prog_1_method_19_code 75 = .ok (.invokevirtual 159, 3) := by decide +kernel
theorem d_X11_loudest_78 : decode prog_1_method_19_code 78 = .ok (.iload_n 1, 1) := by decide +kernel
theorem d_X11_loudest_79 : decode prog_1_method_19_code 79 = .ok (.ireturn, 1) := by decide +kernel
def f_X11_loudest_j47_10 (τ : St) (x1 : Int32) (x2 : Int32) (x3 : Int32) (x4 : Int32) : Option ((Int32 × Int32 × Int32 × Int32 × St) ⊕ (Int32 × Int32 × Int32 × St)) := some (.inl (x1, x2, x3, (x4 + (1 : Int32)), τ))
def f_X11_loudest_s10 (τ : St) (x1 : Int32) (x2 : Int32) (x3 : Int32) (x4 : Int32) : Option ((Int32 × Int32 × Int32 × Int32 × St) ⊕ (Int32 × Int32 × Int32 × St)) := (if (40 : Int32) ≤ x4 then some (.inr (x1, x2, x3, τ)) else (f_X11_closingBy τ x4).bind (fun q1 => (f_J6_bitCount_0f7a4 q1.1).bind (fun q3 => f_X11_loudest_j47_10 q1.2 (if q3 ≤ x2 then x1 else x4) (if q3 ≤ x2 then x2 else q3) (if q3 < x3 then q3 else x3) x4)))
def f_X11_loudest (χ : St) : Option (Int32 × St) := (iter (fun z => f_X11_loudest_s10 z.2.2.2.2 z.1 z.2.1 z.2.2.1 z.2.2.2.1) FU ((0 : Int32), (-1 : Int32), (8 : Int32), (0 : Int32), χ)).bind (fun z5 => (f_X9_start z5.2.2.2).bind (fun q8 => (f_X9_add q8 (z5.2.1).toInt64).bind (fun q10 => (f_X9_add q10 (z5.2.2.1).toInt64).bind (fun q12 => some (z5.1, q12)))))
theorem c_X11_loudest {l : Launch} {G : gT} {χ σ : St} (hf : FW G) {q : Int32 × St} (h : f_X11_loudest χ = some q) : Ct l G yX11_loudest prog_1_method_19_code 6 (some .int) 5 120 [.ref (ga G 0)] χ σ (some (.int q.1)) q.2 σ := by
  refine Ct.of (by decide) (Nat.le_of_ble_eq_true rfl) ?_
  intro p e s m args below meth c Q X hr hlk hQ
  have hx := X.1
  have hb := X.2.1
  have j47_10 : ∀ (τ : St) (x1 : Int32) (x2 : Int32) (x3 : Int32) (x4 : Int32) (o : (Int32 × Int32 × Int32 × Int32 × St) ⊕ (Int32 × Int32 × Int32 × St)), f_X11_loudest_j47_10 τ x1 x2 x3 x4 = some o → Sum.elim (fun z : Int32 × Int32 × Int32 × Int32 × St => Wat p l e (rmk 5 120) s m args below meth c Q G 6 10 [] [(1, .int z.1), (2, .int z.2.1), (3, .int z.2.2.1), (4, .int z.2.2.2.1), (0, .ref (ga G 0))] z.2.2.2.2 σ) (fun z : Int32 × Int32 × Int32 × St => Wat p l e (rmk 5 120) s m args below meth c Q G 6 53 [] [(0, .ref (ga G 0)), (1, .int z.1), (2, .int z.2.1), (3, .int z.2.2.1)] z.2.2.2 σ) o → Wat p l e (rmk 5 120) s m args below meth c Q G 6 47 [] [(0, .ref (ga G 0)), (1, .int x1), (2, .int x2), (3, .int x3), (4, .int x4)] τ σ := by
    intro τ x1 x2 x3 x4 o h hk H locs ls hw hl
    unfold f_X11_loudest_j47_10 at h
    refine lv_iinc (v := (x4 + (1 : Int32))) (k := 4) (lv' := [(4, .int (x4 + (1 : Int32))), (0, .ref (ga G 0)), (1, .int x1), (2, .int x2), (3, .int x3)]) hx hb d_X11_loudest_47 hl rfl (by rfl) (Nat.le_of_ble_eq_true rfl) rfl (fun ls hl => ?_)
    refine lv_goto (tgt := 10) hx hb d_X11_loudest_50 (by decide) ?_
    obtain rfl := Option.some.inj h
    dsimp only [Sum.elim_inl] at hk
    exact hk _ _ _ hw (lv_sub hl [2, 3, 4, 0, 1] rfl)
  have b10 : ∀ (τ : St) (x1 : Int32) (x2 : Int32) (x3 : Int32) (x4 : Int32) (o : (Int32 × Int32 × Int32 × Int32 × St) ⊕ (Int32 × Int32 × Int32 × St)), f_X11_loudest_s10 τ x1 x2 x3 x4 = some o → Sum.elim (fun z : Int32 × Int32 × Int32 × Int32 × St => Wat p l e (rmk 5 120) s m args below meth c Q G 6 10 [] [(1, .int z.1), (2, .int z.2.1), (3, .int z.2.2.1), (4, .int z.2.2.2.1), (0, .ref (ga G 0))] z.2.2.2.2 σ) (fun z : Int32 × Int32 × Int32 × St => Wat p l e (rmk 5 120) s m args below meth c Q G 6 53 [] [(0, .ref (ga G 0)), (1, .int z.1), (2, .int z.2.1), (3, .int z.2.2.1)] z.2.2.2 σ) o → Wat p l e (rmk 5 120) s m args below meth c Q G 6 10 [] [(1, .int x1), (2, .int x2), (3, .int x3), (4, .int x4), (0, .ref (ga G 0))] τ σ := by
    intro τ x1 x2 x3 x4 o h hk H locs ls hw hl
    unfold f_X11_loudest_s10 at h
    refine lv_iload hx hb d_X11_loudest_10 (lv_at hl 3 rfl) ?_
    refine lv_bipush (v := (40 : Int32)) hx hb d_X11_loudest_12 (by decide) ?_
    refine lv_icmp_ge (tgt := 53) hx hb d_X11_loudest_14 (by decide) (fun hc => ?_) (fun hc => ?_)
    · have h := ite_t h hc
      obtain rfl := Option.some.inj h
      dsimp only [Sum.elim_inr] at hk
      exact hk _ _ _ hw (lv_sub hl [4, 0, 1, 2] rfl)
    · have h := ite_f h hc
      refine lv_aload_n hx hb d_X11_loudest_17 rfl (lv_at hl 4 rfl) ?_
      refine lv_iload hx hb d_X11_loudest_18 (lv_at hl 3 rfl) ?_
      obtain ⟨q1, e2, h⟩ := bd_some h
      refine r_callV (As := [.int x4]) (rest := []) (st' := [.int q1.1]) X hw hl mwX11_closingBy wd_523 wp_13 wd_521 (c_X11_closingBy hf e2) (r_recv X hw ct7 (o_0 hf)) rfl ⟨Nat.le_of_ble_eq_true rfl, Nat.le_of_ble_eq_true rfl⟩ ⟨Nat.le_refl _, Nat.le_refl _⟩ rfl rfl (Nat.le_of_ble_eq_true rfl) d_X11_loudest_20 (fun H locs hw => ?_)
      obtain ⟨q3, e4, h⟩ := bd_some h
      refine r_callS (As := [.int q1.1]) (rest := []) (st' := [.int q3]) X hw hl mwJ6_bitCount_0f7a4 wd_436 wd_435 (c_J6_bitCount_0f7a4 e4) rfl ⟨Nat.le_of_ble_eq_true rfl, Nat.le_of_ble_eq_true rfl⟩ ⟨Nat.le_refl _, Nat.le_refl _⟩ rfl rfl (Nat.le_of_ble_eq_true rfl) d_X11_loudest_23 (fun H locs hw => ?_)
      refine lv_istore (lv' := [(5, .int q3), (1, .int x1), (2, .int x2), (3, .int x3), (4, .int x4), (0, .ref (ga G 0))]) hx hb d_X11_loudest_26 hl (Nat.le_of_ble_eq_true rfl) rfl (fun ls hl => ?_)
      refine lv_iload_n hx hb d_X11_loudest_28 rfl (lv_at hl 3 rfl) ?_
      refine lv_iload hx hb d_X11_loudest_29 (lv_at hl 0 rfl) ?_
      refine r_min X hl wd_537 ⟨Nat.le_of_ble_eq_true rfl, Nat.le_of_ble_eq_true rfl⟩ ⟨Nat.le_refl _, Nat.le_refl _⟩ d_X11_loudest_31 ?_
      refine lv_istore_n (lv' := [(3, .int (if q3 < x3 then q3 else x3)), (5, .int q3), (1, .int x1), (2, .int x2), (4, .int x4), (0, .ref (ga G 0))]) hx hb d_X11_loudest_34 rfl hl (Nat.le_of_ble_eq_true rfl) rfl (fun ls hl => ?_)
      refine lv_iload hx hb d_X11_loudest_35 (lv_at hl 1 rfl) ?_
      refine lv_iload_n hx hb d_X11_loudest_37 rfl (lv_at hl 3 rfl) ?_
      refine lv_icmp_le (tgt := 47) hx hb d_X11_loudest_38 (by decide) (fun hc => ?_) (fun hc => ?_)
      · simp only [if_pos hc] at h
        exact j47_10 q1.2 x1 x2 (if q3 < x3 then q3 else x3) x4 o h hk _ _ _ hw (lv_sub hl [5, 2, 3, 0, 4] rfl)
      · simp only [if_neg hc] at h
        refine lv_iload hx hb d_X11_loudest_41 (lv_at hl 1 rfl) ?_
        refine lv_istore_n (lv' := [(2, .int q3), (3, .int (if q3 < x3 then q3 else x3)), (5, .int q3), (1, .int x1), (4, .int x4), (0, .ref (ga G 0))]) hx hb d_X11_loudest_43 rfl hl (Nat.le_of_ble_eq_true rfl) rfl (fun ls hl => ?_)
        refine lv_iload hx hb d_X11_loudest_44 (lv_at hl 4 rfl) ?_
        refine lv_istore_n (lv' := [(1, .int x4), (2, .int q3), (3, .int (if q3 < x3 then q3 else x3)), (5, .int q3), (4, .int x4), (0, .ref (ga G 0))]) hx hb d_X11_loudest_46 rfl hl (Nat.le_of_ble_eq_true rfl) rfl (fun ls hl => ?_)
        exact j47_10 q1.2 x4 q3 (if q3 < x3 then q3 else x3) x4 o h hk _ _ _ hw (lv_sub hl [5, 0, 1, 2, 4] rfl)
  intro H locs ls hw hl
  have hl : lv_has ls 6 [(0, .ref (ga G 0))] := hl
  unfold f_X11_loudest at h
  refine lv_iconst (v := (0 : Int32)) hx hb d_X11_loudest_0 (by decide) ?_
  refine lv_istore_n (lv' := [(1, .int (0 : Int32)), (0, .ref (ga G 0))]) hx hb d_X11_loudest_1 rfl hl (Nat.le_of_ble_eq_true rfl) rfl (fun ls hl => ?_)
  refine lv_iconst (v := (-1 : Int32)) hx hb d_X11_loudest_2 (by decide) ?_
  refine lv_istore_n (lv' := [(2, .int (-1 : Int32)), (1, .int (0 : Int32)), (0, .ref (ga G 0))]) hx hb d_X11_loudest_3 rfl hl (Nat.le_of_ble_eq_true rfl) rfl (fun ls hl => ?_)
  refine lv_bipush (v := (8 : Int32)) hx hb d_X11_loudest_4 (by decide) ?_
  refine lv_istore_n (lv' := [(3, .int (8 : Int32)), (2, .int (-1 : Int32)), (1, .int (0 : Int32)), (0, .ref (ga G 0))]) hx hb d_X11_loudest_6 rfl hl (Nat.le_of_ble_eq_true rfl) rfl (fun ls hl => ?_)
  refine lv_iconst (v := (0 : Int32)) hx hb d_X11_loudest_7 (by decide) ?_
  refine lv_istore (lv' := [(4, .int (0 : Int32)), (3, .int (8 : Int32)), (2, .int (-1 : Int32)), (1, .int (0 : Int32)), (0, .ref (ga G 0))]) hx hb d_X11_loudest_8 hl (Nat.le_of_ble_eq_true rfl) rfl (fun ls hl => ?_)
  obtain ⟨z5, e6, h⟩ := bd_some h
  refine iter_w (Wh := fun z : Int32 × Int32 × Int32 × Int32 × St => Wat p l e (rmk 5 120) s m args below meth c Q G 6 10 [] [(1, .int z.1), (2, .int z.2.1), (3, .int z.2.2.1), (4, .int z.2.2.2.1), (0, .ref (ga G 0))] z.2.2.2.2 σ) (K := fun z : Int32 × Int32 × Int32 × St => Wat p l e (rmk 5 120) s m args below meth c Q G 6 53 [] [(0, .ref (ga G 0)), (1, .int z.1), (2, .int z.2.1), (3, .int z.2.2.1)] z.2.2.2 σ) (fun z o h1 h2 => b10 z.2.2.2.2 z.1 z.2.1 z.2.2.1 z.2.2.2.1 o h1 h2) FU _ _ e6 ?_ _ _ _ hw (lv_sub hl [3, 2, 1, 0, 4] rfl)
  intro H locs ls hw hl
  refine lv_aload_n hx hb d_X11_loudest_53 rfl (lv_at hl 0 rfl) ?_
  refine r_getr (j := 1) X hw ct7 (o_0 hf) rfl (Nat.le_of_ble_eq_true rfl) (q := 3) rfl wd_265 d_X11_loudest_54 ?_
  obtain ⟨q8, e9, h⟩ := bd_some h
  refine r_callV (As := []) (rest := []) (st' := []) X hw hl mwX9_start wd_420 wd_421 wd_419 (c_X9_start hf e9) (r_recv X hw ct6 (o_3 hf)) rfl ⟨Nat.le_of_ble_eq_true rfl, Nat.le_of_ble_eq_true rfl⟩ ⟨Nat.le_refl _, Nat.le_refl _⟩ rfl rfl (Nat.le_of_ble_eq_true rfl) d_X11_loudest_57 (fun H locs hw => ?_)
  refine lv_aload_n hx hb d_X11_loudest_60 rfl (lv_at hl 0 rfl) ?_
  refine r_getr (j := 1) X hw ct7 (o_0 hf) rfl (Nat.le_of_ble_eq_true rfl) (q := 3) rfl wd_265 d_X11_loudest_61 ?_
  refine lv_iload_n hx hb d_X11_loudest_64 rfl (lv_at hl 2 rfl) ?_
  refine lv_i2l hx hb d_X11_loudest_65 rfl ?_
  obtain ⟨q10, e11, h⟩ := bd_some h
  refine r_callV (As := [.long (z5.2.1).toInt64]) (rest := []) (st' := []) X hw hl mwX9_add wd_424 wd_425 wd_423 (c_X9_add hf e11) (r_recv X hw ct6 (o_3 hf)) rfl ⟨Nat.le_of_ble_eq_true rfl, Nat.le_of_ble_eq_true rfl⟩ ⟨Nat.le_refl _, Nat.le_refl _⟩ rfl rfl (Nat.le_of_ble_eq_true rfl) d_X11_loudest_66 (fun H locs hw => ?_)
  refine lv_aload_n hx hb d_X11_loudest_69 rfl (lv_at hl 0 rfl) ?_
  refine r_getr (j := 1) X hw ct7 (o_0 hf) rfl (Nat.le_of_ble_eq_true rfl) (q := 3) rfl wd_265 d_X11_loudest_70 ?_
  refine lv_iload_n hx hb d_X11_loudest_73 rfl (lv_at hl 3 rfl) ?_
  refine lv_i2l hx hb d_X11_loudest_74 rfl ?_
  obtain ⟨q12, e13, h⟩ := bd_some h
  refine r_callV (As := [.long (z5.2.2.1).toInt64]) (rest := []) (st' := []) X hw hl mwX9_add wd_424 wd_425 wd_423 (c_X9_add hf e13) (r_recv X hw ct6 (o_3 hf)) rfl ⟨Nat.le_of_ble_eq_true rfl, Nat.le_of_ble_eq_true rfl⟩ ⟨Nat.le_refl _, Nat.le_refl _⟩ rfl rfl (Nat.le_of_ble_eq_true rfl) d_X11_loudest_75 (fun H locs hw => ?_)
  refine lv_iload_n hx hb d_X11_loudest_78 rfl (lv_at hl 1 rfl) ?_
  obtain rfl := Option.some.inj h
  subst hQ
  exact r_iret X hr hlk hw d_X11_loudest_79
abbrev yX11_repeats : MethodName := ⟨"OysterBeds", "repeats", "(III)I"⟩
theorem mwX11_repeats : MW yX11_repeats prog_1_method_20_code 7 (some .int) 3 := ⟨wd_541, wd_1, by decide +kernel⟩
theorem d_X11_repeats_0 : decode prog_1_method_20_code 0 = .ok (.iload_n 1, 1) := by decide +kernel
theorem d_X11_repeats_1 : decode prog_1_method_20_code 1 = .ok (.iload_n 2, 1) := by decide +kernel
theorem d_X11_repeats_2 : decode prog_1_method_20_code 2 = .ok (.invokestatic 144, 3) := by decide +kernel
theorem d_X11_repeats_5 : decode prog_1_method_20_code 5 = .ok (.ifCond .eq 14, 3) := by decide +kernel
theorem d_X11_repeats_8 : decode prog_1_method_20_code 8 = .ok (.iload_n 3, 1) := by decide +kernel
theorem d_X11_repeats_9 : decode prog_1_method_20_code 9 = .ok (.iconst 1, 1) := by decide +kernel
theorem d_X11_repeats_10 : decode prog_1_method_20_code 10 = .ok (.if_icmp .lt 9, 3) := by decide +kernel
theorem d_X11_repeats_13 : decode prog_1_method_20_code 13 = .ok (.iload_n 3, 1) := by decide +kernel
theorem d_X11_repeats_14 : decode prog_1_method_20_code 14 = .ok (.bipush 20, 2) := by decide +kernel
theorem d_X11_repeats_16 : decode prog_1_method_20_code 16 = .ok (.if_icmp .le 5, 3) := by decide +kernel
theorem d_X11_repeats_19 : decode prog_1_method_20_code 19 = .ok (.iconst (-1), 1) := by decide +kernel
theorem d_X11_repeats_20 : decode prog_1_method_20_code 20 = .ok (.ireturn, 1) := by decide +kernel
theorem d_X11_repeats_21 : decode prog_1_method_20_code 21 = .ok (.aload_n 0, 1) := by decide +kernel
theorem d_X11_repeats_22 : decode prog_1_method_20_code 22 = .ok (.getfield 30, 3) := by decide +kernel
theorem d_X11_repeats_25 : decode prog_1_method_20_code 25 = .ok (.aload_n 0, 1) := by decide +kernel
theorem d_X11_repeats_26 : decode prog_1_method_20_code 26 = .ok (.getfield 26, 3) := by decide +kernel
theorem d_X11_repeats_29 : decode prog_1_method_20_code 29 = .ok (.invokevirtual 174, 3) := by decide +kernel
theorem d_X11_repeats_32 : decode prog_1_method_20_code 32 = .ok (.iconst 0, 1) := by decide +kernel
theorem d_X11_repeats_33 : decode prog_1_method_20_code 33 = .ok (.istore 4, 2) := by decide +kernel
theorem d_X11_repeats_35 : decode prog_1_method_20_code 35 = .ok (.aload_n 0, 1) := by decide +kernel
theorem d_X11_repeats_36 : decode prog_1_method_20_code 36 = .ok (.getfield 19, 3) := by decide +kernel
theorem d_X11_repeats_39 : decode prog_1_method_20_code 39 = .ok (.invokevirtual 156, 3) := by decide +kernel
theorem d_X11_repeats_42 : decode prog_1_method_20_code 42 = .ok (.iconst 0, 1) := by decide +kernel
theorem d_X11_repeats_43 : decode prog_1_method_20_code 43 = .ok (.istore 5, 2) := by decide +kernel
theorem d_X11_repeats_45 : decode prog_1_method_20_code 45 = .ok (.iload 5, 2) := by decide +kernel
theorem d_X11_repeats_47 : decode prog_1_method_20_code 47 = .ok (.iload_n 3, 1) := by decide +kernel
theorem d_X11_repeats_48 : decode prog_1_method_20_code 48 = .ok (.if_icmp .ge 60, 3) := by decide +kernel
theorem d_X11_repeats_51 : decode prog_1_method_20_code 51 = .ok (.aload_n 0, 1) := by decide +kernel
theorem d_X11_repeats_52 : decode prog_1_method_20_code 52 = .ok (.getfield 30, 3) := by decide +kernel
theorem d_X11_repeats_55 : decode prog_1_method_20_code 55 = .ok (.aload_n 0, 1) := by decide +kernel
theorem d_X11_repeats_56 : decode prog_1_method_20_code 56 = .ok (.getfield 57, 3) := by decide +kernel
theorem d_X11_repeats_59 : decode prog_1_method_20_code 59 = .ok (.iload_n 1, 1) := by decide +kernel
theorem d_X11_repeats_60 : decode prog_1_method_20_code 60 = .ok (.iload_n 2, 1) := by decide +kernel
theorem d_X11_repeats_61 : decode prog_1_method_20_code 61 = .ok (.invokevirtual 152, 3) := by decide +kernel
theorem d_X11_repeats_64 : decode prog_1_method_20_code 64 = .ok (.invokestatic 166, 3) := by decide +kernel
theorem d_X11_repeats_67 : decode prog_1_method_20_code 67 = .ok (.istore 6, 2) := by decide +kernel
theorem d_X11_repeats_69 : decode prog_1_method_20_code 69 = .ok (.aload_n 0, 1) := by decide +kernel
theorem d_X11_repeats_70 : decode prog_1_method_20_code 70 = .ok (.getfield 30, 3) := by decide +kernel
theorem d_X11_repeats_73 : decode prog_1_method_20_code 73 = .ok (.iconst 1, 1) := by decide +kernel
theorem d_X11_repeats_74 : decode prog_1_method_20_code 74 = .ok (.invokevirtual 171, 3) := by decide +kernel
theorem d_X11_repeats_77 : decode prog_1_method_20_code 77 = .ok (.pop, 1) := by decide +kernel
theorem d_X11_repeats_78 : decode prog_1_method_20_code 78 = .ok (.iload 4, 2) := by decide +kernel
theorem d_X11_repeats_80 : decode prog_1_method_20_code 80 = .ok (.iload 6, 2) := by decide +kernel
theorem d_X11_repeats_82 : decode prog_1_method_20_code 82 = .ok (.iadd, 1) := by decide +kernel
theorem d_X11_repeats_83 : decode prog_1_method_20_code 83 = .ok (.istore 4, 2) := by decide +kernel
theorem d_X11_repeats_85 : decode prog_1_method_20_code 85 = .ok (.iload 5, 2) := by decide +kernel
theorem d_X11_repeats_87 : decode prog_1_method_20_code 87 = .ok (.bipush 12, 2) := by decide +kernel
theorem d_X11_repeats_89 : decode prog_1_method_20_code 89 = .ok (.if_icmp .ge 13, 3) := by decide +kernel
theorem d_X11_repeats_92 : decode prog_1_method_20_code 92 = .ok (.aload_n 0, 1) := by decide +kernel
theorem d_X11_repeats_93 : decode prog_1_method_20_code 93 = .ok (.getfield 19, 3) := by decide +kernel
theorem d_X11_repeats_96 : decode prog_1_method_20_code 96 = .ok (.iload 6, 2) := by decide +kernel
theorem d_X11_repeats_98 : decode prog_1_method_20_code 98 = .ok (.i2l, 1) := by decide +kernel
theorem d_X11_repeats_99 : decode prog_1_method_20_code 99 = .ok (.invokevirtual 159, 3) := by decide +kernel
theorem d_X11_repeats_102 : decode prog_1_method_20_code 102 = .ok (.iinc 5 1, 3) := by decide +kernel
theorem d_X11_repeats_105 : decode prog_1_method_20_code 105 = .ok (.goto (-60), 3) := by decide +kernel
theorem d_X11_repeats_108 : decode prog_1_method_20_code 108 = .ok (.iload 4, 2) := by decide +kernel
theorem d_X11_repeats_110 : decode prog_1_method_20_code 110 = .ok (.ireturn, 1) := by decide +kernel
def f_X11_repeats_j102_45 (τ : St) (x1 : Int32) (x2 : Int32) (x3 : Int32) (x4 : Int32) (x5 : Int32) : Option ((Int32 × Int32 × St) ⊕ (Int32 × St)) := some (.inl (x4, (x5 + (1 : Int32)), τ))
def f_X11_repeats_s45 (τ : St) (y1 : Int32) (y2 : Int32) (y3 : Int32) (x4 : Int32) (x5 : Int32) : Option ((Int32 × Int32 × St) ⊕ (Int32 × St)) := (if y3 ≤ x5 then some (.inr (x4, τ)) else gd (isLaw (cW τ).1) ((f_X0_ask τ 40 (cW τ).1 y1 y2).bind (fun q8 => (f_J6_bitCount_0f7a4 q8.1).bind (fun q10 => (f_X0_goBy q8.2 40 (1 : Int32)).bind (fun q12 => (if (12 : Int32) ≤ x5 then f_X11_repeats_j102_45 q12.2 y1 y2 y3 (x4 + q10) x5 else (f_X9_add q12.2 q10.toInt64).bind (fun q14 => f_X11_repeats_j102_45 q14 y1 y2 y3 (x4 + q10) x5)))))))
def f_X11_repeats (χ : St) (a1 : Int32) (a2 : Int32) (a3 : Int32) : Option (Int32 × St) := (f_X11_isQuestion a1 a2).bind (fun q1 => (if q1 = 0 then some ((-1 : Int32), χ) else (if a3 < (1 : Int32) then some ((-1 : Int32), χ) else (if a3 ≤ (20 : Int32) then (f_X0_copyFrom χ 40 32).bind (fun q3 => (f_X9_start q3).bind (fun q5 => (iter (fun z => f_X11_repeats_s45 z.2.2 a1 a2 a3 z.1 z.2.1) FU ((0 : Int32), (0 : Int32), q5)).bind (fun z16 => some (z16.1, z16.2)))) else some ((-1 : Int32), χ)))))
theorem c_X11_repeats {l : Launch} {G : gT} {χ σ : St} {a1 : Int32} {a2 : Int32} {a3 : Int32} (hf : FW G) {q : Int32 × St} (h : f_X11_repeats χ a1 a2 a3 = some q) : Ct l G yX11_repeats prog_1_method_20_code 7 (some .int) 5 124 [.ref (ga G 0), .int a1, .int a2, .int a3] χ σ (some (.int q.1)) q.2 σ := by
  refine Ct.of (by decide) (Nat.le_of_ble_eq_true rfl) ?_
  intro p e s m args below meth c Q X hr hlk hQ
  have hx := X.1
  have hb := X.2.1
  have j102_45 : ∀ (τ : St) (x1 : Int32) (x2 : Int32) (x3 : Int32) (x4 : Int32) (x5 : Int32) (o : (Int32 × Int32 × St) ⊕ (Int32 × St)), f_X11_repeats_j102_45 τ x1 x2 x3 x4 x5 = some o → Sum.elim (fun z : Int32 × Int32 × St => Wat p l e (rmk 5 124) s m args below meth c Q G 7 45 [] [(4, .int z.1), (5, .int z.2.1), (0, .ref (ga G 0)), (1, .int x1), (2, .int x2), (3, .int x3)] z.2.2 σ) (fun z : Int32 × St => Wat p l e (rmk 5 124) s m args below meth c Q G 7 108 [] [(4, .int z.1)] z.2 σ) o → Wat p l e (rmk 5 124) s m args below meth c Q G 7 102 [] [(0, .ref (ga G 0)), (1, .int x1), (2, .int x2), (3, .int x3), (4, .int x4), (5, .int x5)] τ σ := by
    intro τ x1 x2 x3 x4 x5 o h hk H locs ls hw hl
    unfold f_X11_repeats_j102_45 at h
    refine lv_iinc (v := (x5 + (1 : Int32))) (k := 5) (lv' := [(5, .int (x5 + (1 : Int32))), (0, .ref (ga G 0)), (1, .int x1), (2, .int x2), (3, .int x3), (4, .int x4)]) hx hb d_X11_repeats_102 hl rfl (by rfl) (Nat.le_of_ble_eq_true rfl) rfl (fun ls hl => ?_)
    refine lv_goto (tgt := 45) hx hb d_X11_repeats_105 (by decide) ?_
    obtain rfl := Option.some.inj h
    dsimp only [Sum.elim_inl] at hk
    exact hk _ _ _ hw (lv_sub hl [5, 0, 1, 2, 3, 4] rfl)
  have b45 : ∀ (τ : St) (y1 : Int32) (y2 : Int32) (y3 : Int32) (x4 : Int32) (x5 : Int32) (o : (Int32 × Int32 × St) ⊕ (Int32 × St)), f_X11_repeats_s45 τ y1 y2 y3 x4 x5 = some o → Sum.elim (fun z : Int32 × Int32 × St => Wat p l e (rmk 5 124) s m args below meth c Q G 7 45 [] [(4, .int z.1), (5, .int z.2.1), (0, .ref (ga G 0)), (1, .int y1), (2, .int y2), (3, .int y3)] z.2.2 σ) (fun z : Int32 × St => Wat p l e (rmk 5 124) s m args below meth c Q G 7 108 [] [(4, .int z.1)] z.2 σ) o → Wat p l e (rmk 5 124) s m args below meth c Q G 7 45 [] [(4, .int x4), (5, .int x5), (0, .ref (ga G 0)), (1, .int y1), (2, .int y2), (3, .int y3)] τ σ := by
    intro τ y1 y2 y3 x4 x5 o h hk H locs ls hw hl
    unfold f_X11_repeats_s45 at h
    refine lv_iload hx hb d_X11_repeats_45 (lv_at hl 1 rfl) ?_
    refine lv_iload_n hx hb d_X11_repeats_47 rfl (lv_at hl 5 rfl) ?_
    refine lv_icmp_ge (tgt := 108) hx hb d_X11_repeats_48 (by decide) (fun hc => ?_) (fun hc => ?_)
    · have h := ite_t h hc
      obtain rfl := Option.some.inj h
      dsimp only [Sum.elim_inr] at hk
      exact hk _ _ _ hw (lv_sub hl [0] rfl)
    · have h := ite_f h hc
      refine lv_aload_n hx hb d_X11_repeats_51 rfl (lv_at hl 2 rfl) ?_
      refine r_getr (j := 3) X hw ct7 (o_0 hf) rfl (Nat.le_of_ble_eq_true rfl) (q := 40) rfl wd_267 d_X11_repeats_52 ?_
      refine lv_aload_n hx hb d_X11_repeats_55 rfl (lv_at hl 2 rfl) ?_
      obtain ⟨hw7, h⟩ := gd_some h
      refine r_getr (j := 7) X hw ct7 (o_0 hf) rfl (Nat.le_of_ble_eq_true rfl) (q := (cW τ).1) rfl wd_271 d_X11_repeats_56 ?_
      refine lv_iload_n hx hb d_X11_repeats_59 rfl (lv_at hl 3 rfl) ?_
      refine lv_iload_n hx hb d_X11_repeats_60 rfl (lv_at hl 4 rfl) ?_
      obtain ⟨q8, e9, h⟩ := bd_some h
      refine r_callV (As := [.ref (ga G (cW τ).1), .int y1, .int y2]) (rest := []) (st' := [.int q8.1]) X hw hl mwX0_ask wd_394 wd_395 wd_393 (c_X0_ask hf b_40 (LW.of hf hw7) e9) (r_recv X hw ct0 (o_40 hf)) rfl ⟨Nat.le_of_ble_eq_true rfl, Nat.le_of_ble_eq_true rfl⟩ ⟨Nat.le_refl _, Nat.le_refl _⟩ rfl rfl (Nat.le_of_ble_eq_true rfl) d_X11_repeats_61 (fun H locs hw => ?_)
      obtain ⟨q10, e11, h⟩ := bd_some h
      refine r_callS (As := [.int q8.1]) (rest := []) (st' := [.int q10]) X hw hl mwJ6_bitCount_0f7a4 wd_436 wd_435 (c_J6_bitCount_0f7a4 e11) rfl ⟨Nat.le_of_ble_eq_true rfl, Nat.le_of_ble_eq_true rfl⟩ ⟨Nat.le_refl _, Nat.le_refl _⟩ rfl rfl (Nat.le_of_ble_eq_true rfl) d_X11_repeats_64 (fun H locs hw => ?_)
      refine lv_istore (lv' := [(6, .int q10), (4, .int x4), (5, .int x5), (0, .ref (ga G 0)), (1, .int y1), (2, .int y2), (3, .int y3)]) hx hb d_X11_repeats_67 hl (Nat.le_of_ble_eq_true rfl) rfl (fun ls hl => ?_)
      refine lv_aload_n hx hb d_X11_repeats_69 rfl (lv_at hl 3 rfl) ?_
      refine r_getr (j := 3) X hw ct7 (o_0 hf) rfl (Nat.le_of_ble_eq_true rfl) (q := 40) rfl wd_267 d_X11_repeats_70 ?_
      refine lv_iconst (v := (1 : Int32)) hx hb d_X11_repeats_73 (by decide) ?_
      obtain ⟨q12, e13, h⟩ := bd_some h
      refine r_callV (As := [.int (1 : Int32)]) (rest := []) (st' := [.int q12.1]) X hw hl mwX0_goBy wd_446 wd_447 wd_445 (c_X0_goBy hf b_40 e13) (r_recv X hw ct0 (o_40 hf)) rfl ⟨Nat.le_of_ble_eq_true rfl, Nat.le_of_ble_eq_true rfl⟩ ⟨Nat.le_refl _, Nat.le_refl _⟩ rfl rfl (Nat.le_of_ble_eq_true rfl) d_X11_repeats_74 (fun H locs hw => ?_)
      refine lv_pop hx hb d_X11_repeats_77 rfl ?_
      refine lv_iload hx hb d_X11_repeats_78 (lv_at hl 1 rfl) ?_
      refine lv_iload hx hb d_X11_repeats_80 (lv_at hl 0 rfl) ?_
      refine lv_iadd hx hb d_X11_repeats_82 ?_
      refine lv_istore (lv' := [(4, .int (x4 + q10)), (6, .int q10), (5, .int x5), (0, .ref (ga G 0)), (1, .int y1), (2, .int y2), (3, .int y3)]) hx hb d_X11_repeats_83 hl (Nat.le_of_ble_eq_true rfl) rfl (fun ls hl => ?_)
      refine lv_iload hx hb d_X11_repeats_85 (lv_at hl 2 rfl) ?_
      refine lv_bipush (v := (12 : Int32)) hx hb d_X11_repeats_87 (by decide) ?_
      refine lv_icmp_ge (tgt := 102) hx hb d_X11_repeats_89 (by decide) (fun hc => ?_) (fun hc => ?_)
      · have h := ite_t h hc
        exact j102_45 q12.2 y1 y2 y3 (x4 + q10) x5 o h hk _ _ _ hw (lv_sub hl [3, 4, 5, 6, 0, 2] rfl)
      · have h := ite_f h hc
        refine lv_aload_n hx hb d_X11_repeats_92 rfl (lv_at hl 3 rfl) ?_
        refine r_getr (j := 1) X hw ct7 (o_0 hf) rfl (Nat.le_of_ble_eq_true rfl) (q := 3) rfl wd_265 d_X11_repeats_93 ?_
        refine lv_iload hx hb d_X11_repeats_96 (lv_at hl 1 rfl) ?_
        refine lv_i2l hx hb d_X11_repeats_98 rfl ?_
        obtain ⟨q14, e15, h⟩ := bd_some h
        refine r_callV (As := [.long q10.toInt64]) (rest := []) (st' := []) X hw hl mwX9_add wd_424 wd_425 wd_423 (c_X9_add hf e15) (r_recv X hw ct6 (o_3 hf)) rfl ⟨Nat.le_of_ble_eq_true rfl, Nat.le_of_ble_eq_true rfl⟩ ⟨Nat.le_refl _, Nat.le_refl _⟩ rfl rfl (Nat.le_of_ble_eq_true rfl) d_X11_repeats_99 (fun H locs hw => ?_)
        exact j102_45 q14 y1 y2 y3 (x4 + q10) x5 o h hk _ _ _ hw (lv_sub hl [3, 4, 5, 6, 0, 2] rfl)
  intro H locs ls hw hl
  have hl : lv_has ls 7 [(0, .ref (ga G 0)), (1, .int a1), (2, .int a2), (3, .int a3)] := hl
  unfold f_X11_repeats at h
  refine lv_iload_n hx hb d_X11_repeats_0 rfl (lv_at hl 1 rfl) ?_
  refine lv_iload_n hx hb d_X11_repeats_1 rfl (lv_at hl 2 rfl) ?_
  obtain ⟨q1, e2, h⟩ := bd_some h
  refine r_callS (As := [.int a1, .int a2]) (rest := []) (st' := [.int q1]) X hw hl mwX11_isQuestion wd_382 wd_381 (c_X11_isQuestion hf e2) rfl ⟨Nat.le_of_ble_eq_true rfl, Nat.le_of_ble_eq_true rfl⟩ ⟨Nat.le_refl _, Nat.le_refl _⟩ rfl rfl (Nat.le_of_ble_eq_true rfl) d_X11_repeats_2 (fun H locs hw => ?_)
  refine lv_if_eq (tgt := 19) hx hb d_X11_repeats_5 (by decide) (fun hc => ?_) (fun hc => ?_)
  · have h := ite_t h hc
    refine lv_iconst (v := (-1 : Int32)) hx hb d_X11_repeats_19 (by decide) ?_
    obtain rfl := Option.some.inj h
    subst hQ
    exact r_iret X hr hlk hw d_X11_repeats_20
  · have h := ite_f h hc
    refine lv_iload_n hx hb d_X11_repeats_8 rfl (lv_at hl 3 rfl) ?_
    refine lv_iconst (v := (1 : Int32)) hx hb d_X11_repeats_9 (by decide) ?_
    refine lv_icmp_lt (tgt := 19) hx hb d_X11_repeats_10 (by decide) (fun hc => ?_) (fun hc => ?_)
    · have h := ite_t h hc
      refine lv_iconst (v := (-1 : Int32)) hx hb d_X11_repeats_19 (by decide) ?_
      obtain rfl := Option.some.inj h
      subst hQ
      exact r_iret X hr hlk hw d_X11_repeats_20
    · have h := ite_f h hc
      refine lv_iload_n hx hb d_X11_repeats_13 rfl (lv_at hl 3 rfl) ?_
      refine lv_bipush (v := (20 : Int32)) hx hb d_X11_repeats_14 (by decide) ?_
      refine lv_icmp_le (tgt := 21) hx hb d_X11_repeats_16 (by decide) (fun hc => ?_) (fun hc => ?_)
      · have h := ite_t h hc
        refine lv_aload_n hx hb d_X11_repeats_21 rfl (lv_at hl 0 rfl) ?_
        refine r_getr (j := 3) X hw ct7 (o_0 hf) rfl (Nat.le_of_ble_eq_true rfl) (q := 40) rfl wd_267 d_X11_repeats_22 ?_
        refine lv_aload_n hx hb d_X11_repeats_25 rfl (lv_at hl 0 rfl) ?_
        refine r_getr (j := 2) X hw ct7 (o_0 hf) rfl (Nat.le_of_ble_eq_true rfl) (q := 32) rfl wd_266 d_X11_repeats_26 ?_
        obtain ⟨q3, e4, h⟩ := bd_some h
        refine r_callV (As := [.ref (ga G 32)]) (rest := []) (st' := []) X hw hl mwX0_copyFrom wd_389 wd_390 wd_454 (c_X0_copyFrom hf b_40 b_32 e4) (r_recv X hw ct0 (o_40 hf)) rfl ⟨Nat.le_of_ble_eq_true rfl, Nat.le_of_ble_eq_true rfl⟩ ⟨Nat.le_refl _, Nat.le_refl _⟩ rfl rfl (Nat.le_of_ble_eq_true rfl) d_X11_repeats_29 (fun H locs hw => ?_)
        refine lv_iconst (v := (0 : Int32)) hx hb d_X11_repeats_32 (by decide) ?_
        refine lv_istore (lv' := [(4, .int (0 : Int32)), (0, .ref (ga G 0)), (1, .int a1), (2, .int a2), (3, .int a3)]) hx hb d_X11_repeats_33 hl (Nat.le_of_ble_eq_true rfl) rfl (fun ls hl => ?_)
        refine lv_aload_n hx hb d_X11_repeats_35 rfl (lv_at hl 1 rfl) ?_
        refine r_getr (j := 1) X hw ct7 (o_0 hf) rfl (Nat.le_of_ble_eq_true rfl) (q := 3) rfl wd_265 d_X11_repeats_36 ?_
        obtain ⟨q5, e6, h⟩ := bd_some h
        refine r_callV (As := []) (rest := []) (st' := []) X hw hl mwX9_start wd_420 wd_421 wd_419 (c_X9_start hf e6) (r_recv X hw ct6 (o_3 hf)) rfl ⟨Nat.le_of_ble_eq_true rfl, Nat.le_of_ble_eq_true rfl⟩ ⟨Nat.le_refl _, Nat.le_refl _⟩ rfl rfl (Nat.le_of_ble_eq_true rfl) d_X11_repeats_39 (fun H locs hw => ?_)
        refine lv_iconst (v := (0 : Int32)) hx hb d_X11_repeats_42 (by decide) ?_
        refine lv_istore (lv' := [(5, .int (0 : Int32)), (4, .int (0 : Int32)), (0, .ref (ga G 0)), (1, .int a1), (2, .int a2), (3, .int a3)]) hx hb d_X11_repeats_43 hl (Nat.le_of_ble_eq_true rfl) rfl (fun ls hl => ?_)
        obtain ⟨z16, e17, h⟩ := bd_some h
        refine iter_w (Wh := fun z : Int32 × Int32 × St => Wat p l e (rmk 5 124) s m args below meth c Q G 7 45 [] [(4, .int z.1), (5, .int z.2.1), (0, .ref (ga G 0)), (1, .int a1), (2, .int a2), (3, .int a3)] z.2.2 σ) (K := fun z : Int32 × St => Wat p l e (rmk 5 124) s m args below meth c Q G 7 108 [] [(4, .int z.1)] z.2 σ) (fun z o h1 h2 => b45 z.2.2 a1 a2 a3 z.1 z.2.1 o h1 h2) FU _ _ e17 ?_ _ _ _ hw (lv_sub hl [1, 0, 2, 3, 4, 5] rfl)
        intro H locs ls hw hl
        refine lv_iload hx hb d_X11_repeats_108 (lv_at hl 0 rfl) ?_
        obtain rfl := Option.some.inj h
        subst hQ
        exact r_iret X hr hlk hw d_X11_repeats_110
      · have h := ite_f h hc
        refine lv_iconst (v := (-1 : Int32)) hx hb d_X11_repeats_19 (by decide) ?_
        obtain rfl := Option.some.inj h
        subst hQ
        exact r_iret X hr hlk hw d_X11_repeats_20
abbrev yX11_later : MethodName := ⟨"OysterBeds", "later", "(I)I"⟩
theorem mwX11_later : MW yX11_later prog_1_method_21_code 3 (some .int) 1 := ⟨wd_545, wd_1, by decide +kernel⟩
theorem d_X11_later_0 : decode prog_1_method_21_code 0 = .ok (.iload_n 1, 1) := by decide +kernel
theorem d_X11_later_1 : decode prog_1_method_21_code 1 = .ok (.ifCond .lt 9, 3) := by decide +kernel
theorem d_X11_later_4 : decode prog_1_method_21_code 4 = .ok (.iload_n 1, 1) := by decide +kernel
theorem d_X11_later_5 : decode prog_1_method_21_code 5 = .ok (.bipush 99, 2) := by decide +kernel
theorem d_X11_later_7 : decode prog_1_method_21_code 7 = .ok (.if_icmp .le 5, 3) := by decide +kernel
theorem d_X11_later_10 : decode prog_1_method_21_code 10 = .ok (.iconst (-1), 1) := by decide +kernel
theorem d_X11_later_11 : decode prog_1_method_21_code 11 = .ok (.ireturn, 1) := by decide +kernel
theorem d_X11_later_12 : decode prog_1_method_21_code 12 = .ok (.aload_n 0, 1) := by decide +kernel
theorem d_X11_later_13 : decode prog_1_method_21_code 13 = .ok (.getfield 26, 3) := by decide +kernel
theorem d_X11_later_16 : decode prog_1_method_21_code 16 = .ok (.iload_n 1, 1) := by decide +kernel
theorem d_X11_later_17 : decode prog_1_method_21_code 17 = .ok (.invokevirtual 221, 3) := by decide +kernel
theorem d_X11_later_20 : decode prog_1_method_21_code 20 = .ok (.istore_n 2, 1) := by decide +kernel
theorem d_X11_later_21 : decode prog_1_method_21_code 21 = .ok (.aload_n 0, 1) := by decide +kernel
theorem d_X11_later_22 : decode prog_1_method_21_code 22 = .ok (.getfield 19, 3) := by decide +kernel
theorem d_X11_later_25 : decode prog_1_method_21_code 25 = .ok (.invokevirtual 156, 3) := by decide +kernel
theorem d_X11_later_28 : decode prog_1_method_21_code 28 = .ok (.aload_n 0, 1) := by decide +kernel
theorem d_X11_later_29 : decode prog_1_method_21_code 29 = .ok (.getfield 19, 3) := by decide +kernel
theorem d_X11_later_32 : decode prog_1_method_21_code 32 = .ok (.iload_n 2, 1) := by decide +kernel
theorem d_X11_later_33 : decode prog_1_method_21_code 33 = .ok (.invokestatic 166, 3) := by decide +kernel
theorem d_X11_later_36 : decode prog_1_method_21_code 36 = .ok (.i2l, 1) := by decide +kernel
theorem d_X11_later_37 : decode prog_1_method_21_code 37 = .ok (.invokevirtual 159, 3) := by decide +kernel
theorem d_X11_later_40 : decode prog_1_method_21_code 40 = .ok (.iload_n 2, 1) := by decide +kernel
theorem d_X11_later_41 : decode prog_1_method_21_code 41 = .ok (.ireturn, 1) := by decide +kernel
def f_X11_later (χ : St) (a1 : Int32) : Option (Int32 × St) := (if a1 < 0 then some ((-1 : Int32), χ) else (if a1 ≤ (99 : Int32) then (f_X0_openIn χ 32 a1).bind (fun q1 => (f_X9_start χ).bind (fun q3 => (f_J6_bitCount_0f7a4 q1).bind (fun q5 => (f_X9_add q3 q5.toInt64).bind (fun q7 => some (q1, q7))))) else some ((-1 : Int32), χ)))
theorem c_X11_later {l : Launch} {G : gT} {χ σ : St} {a1 : Int32} (hf : FW G) {q : Int32 × St} (h : f_X11_later χ a1 = some q) : Ct l G yX11_later prog_1_method_21_code 3 (some .int) 1 23 [.ref (ga G 0), .int a1] χ σ (some (.int q.1)) q.2 σ := by
  refine Ct.of (by decide) (Nat.le_of_ble_eq_true rfl) ?_
  intro p e s m args below meth c Q X hr hlk hQ
  have hx := X.1
  have hb := X.2.1
  intro H locs ls hw hl
  have hl : lv_has ls 3 [(0, .ref (ga G 0)), (1, .int a1)] := hl
  unfold f_X11_later at h
  refine lv_iload_n hx hb d_X11_later_0 rfl (lv_at hl 1 rfl) ?_
  refine lv_if_lt (tgt := 10) hx hb d_X11_later_1 (by decide) (fun hc => ?_) (fun hc => ?_)
  · have h := ite_t h hc
    refine lv_iconst (v := (-1 : Int32)) hx hb d_X11_later_10 (by decide) ?_
    obtain rfl := Option.some.inj h
    subst hQ
    exact r_iret X hr hlk hw d_X11_later_11
  · have h := ite_f h hc
    refine lv_iload_n hx hb d_X11_later_4 rfl (lv_at hl 1 rfl) ?_
    refine lv_bipush (v := (99 : Int32)) hx hb d_X11_later_5 (by decide) ?_
    refine lv_icmp_le (tgt := 12) hx hb d_X11_later_7 (by decide) (fun hc => ?_) (fun hc => ?_)
    · have h := ite_t h hc
      refine lv_aload_n hx hb d_X11_later_12 rfl (lv_at hl 0 rfl) ?_
      refine r_getr (j := 2) X hw ct7 (o_0 hf) rfl (Nat.le_of_ble_eq_true rfl) (q := 32) rfl wd_266 d_X11_later_13 ?_
      refine lv_iload_n hx hb d_X11_later_16 rfl (lv_at hl 1 rfl) ?_
      obtain ⟨q1, e2, h⟩ := bd_some h
      refine r_callV (As := [.int a1]) (rest := []) (st' := [.int q1]) X hw hl mwX0_openIn wd_432 wd_433 wd_546 (c_X0_openIn hf b_32 e2) (r_recv X hw ct0 (o_32 hf)) rfl ⟨Nat.le_of_ble_eq_true rfl, Nat.le_of_ble_eq_true rfl⟩ ⟨Nat.le_refl _, Nat.le_refl _⟩ rfl rfl (Nat.le_of_ble_eq_true rfl) d_X11_later_17 (fun H locs hw => ?_)
      refine lv_istore_n (lv' := [(2, .int q1), (0, .ref (ga G 0)), (1, .int a1)]) hx hb d_X11_later_20 rfl hl (Nat.le_of_ble_eq_true rfl) rfl (fun ls hl => ?_)
      refine lv_aload_n hx hb d_X11_later_21 rfl (lv_at hl 1 rfl) ?_
      refine r_getr (j := 1) X hw ct7 (o_0 hf) rfl (Nat.le_of_ble_eq_true rfl) (q := 3) rfl wd_265 d_X11_later_22 ?_
      obtain ⟨q3, e4, h⟩ := bd_some h
      refine r_callV (As := []) (rest := []) (st' := []) X hw hl mwX9_start wd_420 wd_421 wd_419 (c_X9_start hf e4) (r_recv X hw ct6 (o_3 hf)) rfl ⟨Nat.le_of_ble_eq_true rfl, Nat.le_of_ble_eq_true rfl⟩ ⟨Nat.le_refl _, Nat.le_refl _⟩ rfl rfl (Nat.le_of_ble_eq_true rfl) d_X11_later_25 (fun H locs hw => ?_)
      refine lv_aload_n hx hb d_X11_later_28 rfl (lv_at hl 1 rfl) ?_
      refine r_getr (j := 1) X hw ct7 (o_0 hf) rfl (Nat.le_of_ble_eq_true rfl) (q := 3) rfl wd_265 d_X11_later_29 ?_
      refine lv_iload_n hx hb d_X11_later_32 rfl (lv_at hl 0 rfl) ?_
      obtain ⟨q5, e6, h⟩ := bd_some h
      refine r_callS (As := [.int q1]) (rest := [.ref (ga G 3)]) (st' := [.int q5, .ref (ga G 3)]) X hw hl mwJ6_bitCount_0f7a4 wd_436 wd_435 (c_J6_bitCount_0f7a4 e6) rfl ⟨Nat.le_of_ble_eq_true rfl, Nat.le_of_ble_eq_true rfl⟩ ⟨Nat.le_refl _, Nat.le_refl _⟩ rfl rfl (Nat.le_of_ble_eq_true rfl) d_X11_later_33 (fun H locs hw => ?_)
      refine lv_i2l hx hb d_X11_later_36 rfl ?_
      obtain ⟨q7, e8, h⟩ := bd_some h
      refine r_callV (As := [.long q5.toInt64]) (rest := []) (st' := []) X hw hl mwX9_add wd_424 wd_425 wd_423 (c_X9_add hf e8) (r_recv X hw ct6 (o_3 hf)) rfl ⟨Nat.le_of_ble_eq_true rfl, Nat.le_of_ble_eq_true rfl⟩ ⟨Nat.le_refl _, Nat.le_refl _⟩ rfl rfl (Nat.le_of_ble_eq_true rfl) d_X11_later_37 (fun H locs hw => ?_)
      refine lv_iload_n hx hb d_X11_later_40 rfl (lv_at hl 0 rfl) ?_
      obtain rfl := Option.some.inj h
      subst hQ
      exact r_iret X hr hlk hw d_X11_later_41
    · have h := ite_f h hc
      refine lv_iconst (v := (-1 : Int32)) hx hb d_X11_later_10 (by decide) ?_
      obtain rfl := Option.some.inj h
      subst hQ
      exact r_iret X hr hlk hw d_X11_later_11
abbrev yX11_calm : MethodName := ⟨"OysterBeds", "calm", "()I"⟩
theorem mwX11_calm : MW yX11_calm prog_1_method_22_code 3 (some .int) 0 := ⟨wd_550, wd_1, by decide +kernel⟩
theorem d_X11_calm_0 : decode prog_1_method_22_code 0 = .ok (.iconst 0, 1) := by decide +kernel
theorem d_X11_calm_1 : decode prog_1_method_22_code 1 = .ok (.istore_n 1, 1) := by decide +kernel
theorem d_X11_calm_2 : decode prog_1_method_22_code 2 = .ok (.iconst 0, 1) := by decide +kernel
theorem d_X11_calm_3 : decode prog_1_method_22_code 3 = .ok (.istore_n 2, 1) := by decide +kernel
theorem d_X11_calm_4 : decode prog_1_method_22_code 4 = .ok (.iload_n 2, 1) := by decide +kernel
theorem d_X11_calm_5 : decode prog_1_method_22_code 5 = .ok (.aload_n 0, 1) := by decide +kernel
theorem d_X11_calm_6 : decode prog_1_method_22_code 6 = .ok (.getfield 26, 3) := by decide +kernel
theorem d_X11_calm_9 : decode prog_1_method_22_code 9 = .ok (.getfield 76, 3) := by decide +kernel
theorem d_X11_calm_12 : decode prog_1_method_22_code 12 = .ok (.if_icmp .ge 23, 3) := by decide +kernel
theorem d_X11_calm_15 : decode prog_1_method_22_code 15 = .ok (.iload_n 1, 1) := by decide +kernel
theorem d_X11_calm_16 : decode prog_1_method_22_code 16 = .ok (.aload_n 0, 1) := by decide +kernel
theorem d_X11_calm_17 : decode prog_1_method_22_code 17 = .ok (.getfield 26, 3) := by decide +kernel
theorem d_X11_calm_20 : decode prog_1_method_22_code 20 = .ok (.getfield 128, 3) := by decide +kernel
theorem d_X11_calm_23 : decode prog_1_method_22_code 23 = .ok (.iload_n 2, 1) := by decide +kernel
theorem d_X11_calm_24 : decode prog_1_method_22_code 24 = .ok (.iaload, 1) := by decide +kernel
theorem d_X11_calm_25 : decode prog_1_method_22_code 25 = .ok (.invokestatic 224, 3) := by decide +kernel
theorem d_X11_calm_28 : decode prog_1_method_22_code 28 = .ok (.istore_n 1, 1) := by decide +kernel
theorem d_X11_calm_29 : decode prog_1_method_22_code 29 = .ok (.iinc 2 1, 3) := by decide +kernel
theorem d_X11_calm_32 : decode prog_1_method_22_code 32 = .ok (.goto (-28), 3) := by decide +kernel
theorem d_X11_calm_35 : decode prog_1_method_22_code 35 = .ok (.iload_n 1, 1) := by decide +kernel
theorem d_X11_calm_36 : decode prog_1_method_22_code 36 = .ok (.ireturn, 1) := by decide +kernel
def f_X11_calm_s4 (χ : St) (x1 : Int32) (x2 : Int32) : Option ((Int32 × Int32) ⊕ (Int32)) := (if (cF χ 32 5) ≤ x2 then some (.inr x1) else gd (inb x2 8) (some (.inl ((if x1 < (cA χ 36 x2.toNatClampNeg) then (cA χ 36 x2.toNatClampNeg) else x1), (x2 + (1 : Int32))))))
def f_X11_calm (χ : St) : Option (Int32) := (iter (fun z => f_X11_calm_s4 χ z.1 z.2) FU ((0 : Int32), (0 : Int32))).bind (fun z2 => some z2)
theorem c_X11_calm {l : Launch} {G : gT} {χ σ : St} (hf : FW G) {q : Int32} (h : f_X11_calm χ = some q) : Ct l G yX11_calm prog_1_method_22_code 3 (some .int) 1 21 [.ref (ga G 0)] χ σ (some (.int q)) χ σ := by
  refine Ct.of (by decide) (Nat.le_of_ble_eq_true rfl) ?_
  intro p e s m args below meth c Q X hr hlk hQ
  have hx := X.1
  have hb := X.2.1
  have b4 : ∀ (x1 : Int32) (x2 : Int32) (o : (Int32 × Int32) ⊕ (Int32)), f_X11_calm_s4 χ x1 x2 = some o → Sum.elim (fun z : Int32 × Int32 => Wat p l e (rmk 1 21) s m args below meth c Q G 3 4 [] [(1, .int z.1), (2, .int z.2), (0, .ref (ga G 0))] χ σ) (fun z : Int32 => Wat p l e (rmk 1 21) s m args below meth c Q G 3 35 [] [(1, .int z)] χ σ) o → Wat p l e (rmk 1 21) s m args below meth c Q G 3 4 [] [(1, .int x1), (2, .int x2), (0, .ref (ga G 0))] χ σ := by
    intro x1 x2 o h hk H locs ls hw hl
    unfold f_X11_calm_s4 at h
    refine lv_iload_n hx hb d_X11_calm_4 rfl (lv_at hl 1 rfl) ?_
    refine lv_aload_n hx hb d_X11_calm_5 rfl (lv_at hl 2 rfl) ?_
    refine r_getr (j := 2) X hw ct7 (o_0 hf) rfl (Nat.le_of_ble_eq_true rfl) (q := 32) rfl wd_266 d_X11_calm_6 ?_
    refine r_getiN (j := 5) X hw ct0 (o_32 hf) (Nat.le_of_ble_eq_true rfl) rfl (Nat.le_of_ble_eq_true rfl) nw_23 d_X11_calm_9 ?_
    refine lv_icmp_ge (tgt := 35) hx hb d_X11_calm_12 (by decide) (fun hc => ?_) (fun hc => ?_)
    · have h := ite_t h hc
      obtain rfl := Option.some.inj h
      dsimp only [Sum.elim_inr] at hk
      exact hk _ _ _ hw (lv_sub hl [0] rfl)
    · have h := ite_f h hc
      refine lv_iload_n hx hb d_X11_calm_15 rfl (lv_at hl 0 rfl) ?_
      refine lv_aload_n hx hb d_X11_calm_16 rfl (lv_at hl 2 rfl) ?_
      refine r_getr (j := 2) X hw ct7 (o_0 hf) rfl (Nat.le_of_ble_eq_true rfl) (q := 32) rfl wd_266 d_X11_calm_17 ?_
      refine r_getrN (j := 3) X hw ct0 (o_32 hf) rfl (Nat.le_of_ble_eq_true rfl) (q := 36) rfl nw_17 d_X11_calm_20 ?_
      refine lv_iload_n hx hb d_X11_calm_23 rfl (lv_at hl 1 rfl) ?_
      obtain ⟨hi1, h⟩ := gd_some h
      refine r_iald X hw (o_36 hf) (Nat.le_of_ble_eq_true rfl) hi1 d_X11_calm_24 ?_
      refine r_max X hl wd_551 ⟨Nat.le_of_ble_eq_true rfl, Nat.le_of_ble_eq_true rfl⟩ ⟨Nat.le_refl _, Nat.le_refl _⟩ d_X11_calm_25 ?_
      refine lv_istore_n (lv' := [(1, .int (if x1 < (cA χ 36 x2.toNatClampNeg) then (cA χ 36 x2.toNatClampNeg) else x1)), (2, .int x2), (0, .ref (ga G 0))]) hx hb d_X11_calm_28 rfl hl (Nat.le_of_ble_eq_true rfl) rfl (fun ls hl => ?_)
      refine lv_iinc (v := (x2 + (1 : Int32))) (k := 1) (lv' := [(2, .int (x2 + (1 : Int32))), (1, .int (if x1 < (cA χ 36 x2.toNatClampNeg) then (cA χ 36 x2.toNatClampNeg) else x1)), (0, .ref (ga G 0))]) hx hb d_X11_calm_29 hl rfl (by rfl) (Nat.le_of_ble_eq_true rfl) rfl (fun ls hl => ?_)
      refine lv_goto (tgt := 4) hx hb d_X11_calm_32 (by decide) ?_
      obtain rfl := Option.some.inj h
      dsimp only [Sum.elim_inl] at hk
      exact hk _ _ _ hw (lv_sub hl [1, 0, 2] rfl)
  intro H locs ls hw hl
  have hl : lv_has ls 3 [(0, .ref (ga G 0))] := hl
  unfold f_X11_calm at h
  refine lv_iconst (v := (0 : Int32)) hx hb d_X11_calm_0 (by decide) ?_
  refine lv_istore_n (lv' := [(1, .int (0 : Int32)), (0, .ref (ga G 0))]) hx hb d_X11_calm_1 rfl hl (Nat.le_of_ble_eq_true rfl) rfl (fun ls hl => ?_)
  refine lv_iconst (v := (0 : Int32)) hx hb d_X11_calm_2 (by decide) ?_
  refine lv_istore_n (lv' := [(2, .int (0 : Int32)), (1, .int (0 : Int32)), (0, .ref (ga G 0))]) hx hb d_X11_calm_3 rfl hl (Nat.le_of_ble_eq_true rfl) rfl (fun ls hl => ?_)
  obtain ⟨z2, e3, h⟩ := bd_some h
  refine iter_w (Wh := fun z : Int32 × Int32 => Wat p l e (rmk 1 21) s m args below meth c Q G 3 4 [] [(1, .int z.1), (2, .int z.2), (0, .ref (ga G 0))] χ σ) (K := fun z : Int32 => Wat p l e (rmk 1 21) s m args below meth c Q G 3 35 [] [(1, .int z)] χ σ) (fun z o h1 h2 => b4 z.1 z.2 o h1 h2) FU _ _ e3 ?_ _ _ _ hw (lv_sub hl [1, 0, 2] rfl)
  intro H locs ls hw hl
  refine lv_iload_n hx hb d_X11_calm_35 rfl (lv_at hl 0 rfl) ?_
  obtain rfl := Option.some.inj h
  subst hQ
  exact r_iret X hr hlk hw d_X11_calm_36
abbrev yX11_opens : MethodName := ⟨"OysterBeds", "opens", "(I)I"⟩
theorem mwX11_opens : MW yX11_opens prog_1_method_23_code 5 (some .int) 1 := ⟨wd_555, wd_1, by decide +kernel⟩
theorem d_X11_opens_0 : decode prog_1_method_23_code 0 = .ok (.iload_n 1, 1) := by decide +kernel
theorem d_X11_opens_1 : decode prog_1_method_23_code 1 = .ok (.ifCond .lt 9, 3) := by decide +kernel
theorem d_X11_opens_4 : decode prog_1_method_23_code 4 = .ok (.iload_n 1, 1) := by decide +kernel
theorem d_X11_opens_5 : decode prog_1_method_23_code 5 = .ok (.bipush 8, 2) := by decide +kernel
theorem d_X11_opens_7 : decode prog_1_method_23_code 7 = .ok (.if_icmp .le 5, 3) := by decide +kernel
theorem d_X11_opens_10 : decode prog_1_method_23_code 10 = .ok (.iconst (-1), 1) := by decide +kernel
theorem d_X11_opens_11 : decode prog_1_method_23_code 11 = .ok (.ireturn, 1) := by decide +kernel
theorem d_X11_opens_12 : decode prog_1_method_23_code 12 = .ok (.aload_n 0, 1) := by decide +kernel
theorem d_X11_opens_13 : decode prog_1_method_23_code 13 = .ok (.invokevirtual 227, 3) := by decide +kernel
theorem d_X11_opens_16 : decode prog_1_method_23_code 16 = .ok (.istore_n 2, 1) := by decide +kernel
theorem d_X11_opens_17 : decode prog_1_method_23_code 17 = .ok (.iconst 0, 1) := by decide +kernel
theorem d_X11_opens_18 : decode prog_1_method_23_code 18 = .ok (.istore_n 3, 1) := by decide +kernel
theorem d_X11_opens_19 : decode prog_1_method_23_code 19 = .ok (.iload_n 3, 1) := by decide +kernel
theorem d_X11_opens_20 : decode prog_1_method_23_code 20 = .ok (.iload_n 2, 1) := by decide +kernel
theorem d_X11_opens_21 : decode prog_1_method_23_code 21 = .ok (.if_icmp .gt 47, 3) := by decide +kernel
theorem d_X11_opens_24 : decode prog_1_method_23_code 24 = .ok (.aload_n 0, 1) := by decide +kernel
theorem d_X11_opens_25 : decode prog_1_method_23_code 25 = .ok (.getfield 26, 3) := by decide +kernel
theorem d_X11_opens_28 : decode prog_1_method_23_code 28 = .ok (.iload_n 3, 1) := by decide +kernel
theorem d_X11_opens_29 : decode prog_1_method_23_code 29 = .ok (.invokevirtual 221, 3) := by decide +kernel
theorem d_X11_opens_32 : decode prog_1_method_23_code 32 = .ok (.istore 4, 2) := by decide +kernel
theorem d_X11_opens_34 : decode prog_1_method_23_code 34 = .ok (.iload 4, 2) := by decide +kernel
theorem d_X11_opens_36 : decode prog_1_method_23_code 36 = .ok (.invokestatic 166, 3) := by decide +kernel
theorem d_X11_opens_39 : decode prog_1_method_23_code 39 = .ok (.iload_n 1, 1) := by decide +kernel
theorem d_X11_opens_40 : decode prog_1_method_23_code 40 = .ok (.if_icmp .lt 22, 3) := by decide +kernel
theorem d_X11_opens_43 : decode prog_1_method_23_code 43 = .ok (.aload_n 0, 1) := by decide +kernel
theorem d_X11_opens_44 : decode prog_1_method_23_code 44 = .ok (.getfield 19, 3) := by decide +kernel
theorem d_X11_opens_47 : decode prog_1_method_23_code 47 = .ok (.invokevirtual 156, 3) := by decide +kernel
theorem d_X11_opens_50 : decode prog_1_method_23_code 50 = .ok (.aload_n 0, 1) := by decide +kernel
theorem d_X11_opens_51 : decode prog_1_method_23_code 51 = .ok (.getfield 19, 3) := by decide +kernel
theorem d_X11_opens_54 : decode prog_1_method_23_code 54 = .ok (.iload 4, 2) := by decide +kernel
theorem d_X11_opens_56 : decode prog_1_method_23_code 56 = .ok (.i2l, 1) := by decide +kernel
theorem d_X11_opens_57 : decode prog_1_method_23_code 57 = .ok (.invokevirtual 159, 3) := by decide +kernel
theorem d_X11_opens_60 : decode prog_1_method_23_code 60 = .ok (.iload_n 3, 1) := by decide +kernel
theorem d_X11_opens_61 : decode prog_1_method_23_code 61 = .ok (.ireturn, 1) := by decide +kernel
theorem d_X11_opens_62 : decode prog_1_method_23_code 62 = .ok (.iinc 3 1, 3) := by decide +kernel
theorem d_X11_opens_65 : decode prog_1_method_23_code 65 = .ok (.goto (-46), 3) := by decide +kernel
theorem d_X11_opens_68 : decode prog_1_method_23_code 68 = .ok (.bipush (-2), 2) := by decide +kernel
theorem d_X11_opens_70 : decode prog_1_method_23_code 70 = .ok (.ireturn, 1) := by decide +kernel
def f_X11_opens_s19 (τ : St) (y1 : Int32) (y2 : Int32) (x3 : Int32) : Option ((Int32 × St) ⊕ ((Int32 × St) ⊕ (St))) := (if y2 < x3 then some (.inr (.inr τ)) else (f_X0_openIn τ 32 x3).bind (fun q3 => (f_J6_bitCount_0f7a4 q3).bind (fun q5 => (if q5 < y1 then some (.inl ((x3 + (1 : Int32)), τ)) else (f_X9_start τ).bind (fun q7 => (f_X9_add q7 q3.toInt64).bind (fun q9 => some (.inr (.inl (x3, q9)))))))))
def f_X11_opens (χ : St) (a1 : Int32) : Option (Int32 × St) := (if a1 < 0 then some ((-1 : Int32), χ) else (if a1 ≤ (8 : Int32) then (f_X11_calm χ).bind (fun q1 => (iter (fun z => f_X11_opens_s19 z.2 a1 q1 z.1) FU ((0 : Int32), χ)).bind (Sum.elim (fun r => some r) (fun z11 => some ((-2 : Int32), z11)))) else some ((-1 : Int32), χ)))
theorem c_X11_opens {l : Launch} {G : gT} {χ σ : St} {a1 : Int32} (hf : FW G) {q : Int32 × St} (h : f_X11_opens χ a1 = some q) : Ct l G yX11_opens prog_1_method_23_code 5 (some .int) 2 43 [.ref (ga G 0), .int a1] χ σ (some (.int q.1)) q.2 σ := by
  refine Ct.of (by decide) (Nat.le_of_ble_eq_true rfl) ?_
  intro p e s m args below meth c Q X hr hlk hQ
  have hx := X.1
  have hb := X.2.1
  have b19 : ∀ (τ : St) (y1 : Int32) (y2 : Int32) (x3 : Int32) (o : (Int32 × St) ⊕ ((Int32 × St) ⊕ (St))), f_X11_opens_s19 τ y1 y2 x3 = some o → Sum.elim (fun z : Int32 × St => Wat p l e (rmk 2 43) s m args below meth c Q G 5 19 [] [(3, .int z.1), (0, .ref (ga G 0)), (1, .int y1), (2, .int y2)] z.2 σ) (Sum.elim (fun r : Int32 × St => r = q) (fun z : St => Wat p l e (rmk 2 43) s m args below meth c Q G 5 68 [] [] z σ)) o → Wat p l e (rmk 2 43) s m args below meth c Q G 5 19 [] [(3, .int x3), (0, .ref (ga G 0)), (1, .int y1), (2, .int y2)] τ σ := by
    intro τ y1 y2 x3 o h hk H locs ls hw hl
    unfold f_X11_opens_s19 at h
    refine lv_iload_n hx hb d_X11_opens_19 rfl (lv_at hl 0 rfl) ?_
    refine lv_iload_n hx hb d_X11_opens_20 rfl (lv_at hl 3 rfl) ?_
    refine lv_icmp_gt (tgt := 68) hx hb d_X11_opens_21 (by decide) (fun hc => ?_) (fun hc => ?_)
    · have h := ite_t h hc
      obtain rfl := Option.some.inj h
      dsimp only [Sum.elim_inr, Sum.elim_inl] at hk
      exact hk _ _ _ hw (lv_sub hl [] rfl)
    · have h := ite_f h hc
      refine lv_aload_n hx hb d_X11_opens_24 rfl (lv_at hl 1 rfl) ?_
      refine r_getr (j := 2) X hw ct7 (o_0 hf) rfl (Nat.le_of_ble_eq_true rfl) (q := 32) rfl wd_266 d_X11_opens_25 ?_
      refine lv_iload_n hx hb d_X11_opens_28 rfl (lv_at hl 0 rfl) ?_
      obtain ⟨q3, e4, h⟩ := bd_some h
      refine r_callV (As := [.int x3]) (rest := []) (st' := [.int q3]) X hw hl mwX0_openIn wd_432 wd_433 wd_546 (c_X0_openIn hf b_32 e4) (r_recv X hw ct0 (o_32 hf)) rfl ⟨Nat.le_of_ble_eq_true rfl, Nat.le_of_ble_eq_true rfl⟩ ⟨Nat.le_refl _, Nat.le_refl _⟩ rfl rfl (Nat.le_of_ble_eq_true rfl) d_X11_opens_29 (fun H locs hw => ?_)
      refine lv_istore (lv' := [(4, .int q3), (3, .int x3), (0, .ref (ga G 0)), (1, .int y1), (2, .int y2)]) hx hb d_X11_opens_32 hl (Nat.le_of_ble_eq_true rfl) rfl (fun ls hl => ?_)
      refine lv_iload hx hb d_X11_opens_34 (lv_at hl 0 rfl) ?_
      obtain ⟨q5, e6, h⟩ := bd_some h
      refine r_callS (As := [.int q3]) (rest := []) (st' := [.int q5]) X hw hl mwJ6_bitCount_0f7a4 wd_436 wd_435 (c_J6_bitCount_0f7a4 e6) rfl ⟨Nat.le_of_ble_eq_true rfl, Nat.le_of_ble_eq_true rfl⟩ ⟨Nat.le_refl _, Nat.le_refl _⟩ rfl rfl (Nat.le_of_ble_eq_true rfl) d_X11_opens_36 (fun H locs hw => ?_)
      refine lv_iload_n hx hb d_X11_opens_39 rfl (lv_at hl 3 rfl) ?_
      refine lv_icmp_lt (tgt := 62) hx hb d_X11_opens_40 (by decide) (fun hc => ?_) (fun hc => ?_)
      · have h := ite_t h hc
        refine lv_iinc (v := (x3 + (1 : Int32))) (k := 1) (lv' := [(3, .int (x3 + (1 : Int32))), (4, .int q3), (0, .ref (ga G 0)), (1, .int y1), (2, .int y2)]) hx hb d_X11_opens_62 hl rfl (by rfl) (Nat.le_of_ble_eq_true rfl) rfl (fun ls hl => ?_)
        refine lv_goto (tgt := 19) hx hb d_X11_opens_65 (by decide) ?_
        obtain rfl := Option.some.inj h
        dsimp only [Sum.elim_inl] at hk
        exact hk _ _ _ hw (lv_sub hl [0, 2, 3, 4] rfl)
      · have h := ite_f h hc
        refine lv_aload_n hx hb d_X11_opens_43 rfl (lv_at hl 2 rfl) ?_
        refine r_getr (j := 1) X hw ct7 (o_0 hf) rfl (Nat.le_of_ble_eq_true rfl) (q := 3) rfl wd_265 d_X11_opens_44 ?_
        obtain ⟨q7, e8, h⟩ := bd_some h
        refine r_callV (As := []) (rest := []) (st' := []) X hw hl mwX9_start wd_420 wd_421 wd_419 (c_X9_start hf e8) (r_recv X hw ct6 (o_3 hf)) rfl ⟨Nat.le_of_ble_eq_true rfl, Nat.le_of_ble_eq_true rfl⟩ ⟨Nat.le_refl _, Nat.le_refl _⟩ rfl rfl (Nat.le_of_ble_eq_true rfl) d_X11_opens_47 (fun H locs hw => ?_)
        refine lv_aload_n hx hb d_X11_opens_50 rfl (lv_at hl 2 rfl) ?_
        refine r_getr (j := 1) X hw ct7 (o_0 hf) rfl (Nat.le_of_ble_eq_true rfl) (q := 3) rfl wd_265 d_X11_opens_51 ?_
        refine lv_iload hx hb d_X11_opens_54 (lv_at hl 0 rfl) ?_
        refine lv_i2l hx hb d_X11_opens_56 rfl ?_
        obtain ⟨q9, e10, h⟩ := bd_some h
        refine r_callV (As := [.long q3.toInt64]) (rest := []) (st' := []) X hw hl mwX9_add wd_424 wd_425 wd_423 (c_X9_add hf e10) (r_recv X hw ct6 (o_3 hf)) rfl ⟨Nat.le_of_ble_eq_true rfl, Nat.le_of_ble_eq_true rfl⟩ ⟨Nat.le_refl _, Nat.le_refl _⟩ rfl rfl (Nat.le_of_ble_eq_true rfl) d_X11_opens_57 (fun H locs hw => ?_)
        refine lv_iload_n hx hb d_X11_opens_60 rfl (lv_at hl 1 rfl) ?_
        obtain rfl := Option.some.inj h
        cases (show _ = q from hk)
        subst hQ
        exact r_iret X hr hlk hw d_X11_opens_61
  intro H locs ls hw hl
  have hl : lv_has ls 5 [(0, .ref (ga G 0)), (1, .int a1)] := hl
  unfold f_X11_opens at h
  refine lv_iload_n hx hb d_X11_opens_0 rfl (lv_at hl 1 rfl) ?_
  refine lv_if_lt (tgt := 10) hx hb d_X11_opens_1 (by decide) (fun hc => ?_) (fun hc => ?_)
  · have h := ite_t h hc
    refine lv_iconst (v := (-1 : Int32)) hx hb d_X11_opens_10 (by decide) ?_
    obtain rfl := Option.some.inj h
    subst hQ
    exact r_iret X hr hlk hw d_X11_opens_11
  · have h := ite_f h hc
    refine lv_iload_n hx hb d_X11_opens_4 rfl (lv_at hl 1 rfl) ?_
    refine lv_bipush (v := (8 : Int32)) hx hb d_X11_opens_5 (by decide) ?_
    refine lv_icmp_le (tgt := 12) hx hb d_X11_opens_7 (by decide) (fun hc => ?_) (fun hc => ?_)
    · have h := ite_t h hc
      refine lv_aload_n hx hb d_X11_opens_12 rfl (lv_at hl 0 rfl) ?_
      obtain ⟨q1, e2, h⟩ := bd_some h
      refine r_callV (As := []) (rest := []) (st' := [.int q1]) X hw hl mwX11_calm wd_548 wd_549 wd_556 (c_X11_calm hf e2) (r_recv X hw ct7 (o_0 hf)) rfl ⟨Nat.le_of_ble_eq_true rfl, Nat.le_of_ble_eq_true rfl⟩ ⟨Nat.le_refl _, Nat.le_refl _⟩ rfl rfl (Nat.le_of_ble_eq_true rfl) d_X11_opens_13 (fun H locs hw => ?_)
      refine lv_istore_n (lv' := [(2, .int q1), (0, .ref (ga G 0)), (1, .int a1)]) hx hb d_X11_opens_16 rfl hl (Nat.le_of_ble_eq_true rfl) rfl (fun ls hl => ?_)
      refine lv_iconst (v := (0 : Int32)) hx hb d_X11_opens_17 (by decide) ?_
      refine lv_istore_n (lv' := [(3, .int (0 : Int32)), (2, .int q1), (0, .ref (ga G 0)), (1, .int a1)]) hx hb d_X11_opens_18 rfl hl (Nat.le_of_ble_eq_true rfl) rfl (fun ls hl => ?_)
      obtain ⟨z11, e12, h⟩ := bd_some h
      refine iter_w (Wh := fun z : Int32 × St => Wat p l e (rmk 2 43) s m args below meth c Q G 5 19 [] [(3, .int z.1), (0, .ref (ga G 0)), (1, .int a1), (2, .int q1)] z.2 σ) (K := Sum.elim (fun r : Int32 × St => r = q) (fun z : St => Wat p l e (rmk 2 43) s m args below meth c Q G 5 68 [] [] z σ)) (fun z o h1 h2 => b19 z.2 a1 q1 z.1 o h1 h2) FU _ _ e12 ?_ _ _ _ hw (lv_sub hl [0, 2, 3, 1] rfl)
      rcases z11 with r | z11
      · exact Option.some.inj h
      · dsimp only [Sum.elim_inr] at h ⊢
        intro H locs ls hw hl
        refine lv_bipush (v := (-2 : Int32)) hx hb d_X11_opens_68 (by decide) ?_
        obtain rfl := Option.some.inj h
        subst hQ
        exact r_iret X hr hlk hw d_X11_opens_70
    · have h := ite_f h hc
      refine lv_iconst (v := (-1 : Int32)) hx hb d_X11_opens_10 (by decide) ?_
      obtain rfl := Option.some.inj h
      subst hQ
      exact r_iret X hr hlk hw d_X11_opens_11
abbrev yX11_line : MethodName := ⟨"OysterBeds", "line", "()I"⟩
theorem mwX11_line : MW yX11_line prog_1_method_24_code 4 (some .int) 0 := ⟨wd_560, wd_1, by decide +kernel⟩
theorem d_X11_line_0 : decode prog_1_method_24_code 0 = .ok (.aload_n 0, 1) := by decide +kernel
theorem d_X11_line_1 : decode prog_1_method_24_code 1 = .ok (.invokevirtual 227, 3) := by decide +kernel
theorem d_X11_line_4 : decode prog_1_method_24_code 4 = .ok (.istore_n 1, 1) := by decide +kernel
theorem d_X11_line_5 : decode prog_1_method_24_code 5 = .ok (.aload_n 0, 1) := by decide +kernel
theorem d_X11_line_6 : decode prog_1_method_24_code 6 = .ok (.getfield 19, 3) := by decide +kernel
theorem d_X11_line_9 : decode prog_1_method_24_code 9 = .ok (.invokevirtual 156, 3) := by decide +kernel
theorem d_X11_line_12 : decode prog_1_method_24_code 12 = .ok (.iconst 0, 1) := by decide +kernel
theorem d_X11_line_13 : decode prog_1_method_24_code 13 = .ok (.istore_n 2, 1) := by decide +kernel
theorem d_X11_line_14 : decode prog_1_method_24_code 14 = .ok (.iload_n 2, 1) := by decide +kernel
theorem d_X11_line_15 : decode prog_1_method_24_code 15 = .ok (.iload_n 1, 1) := by decide +kernel
theorem d_X11_line_16 : decode prog_1_method_24_code 16 = .ok (.if_icmp .gt 50, 3) := by decide +kernel
theorem d_X11_line_19 : decode prog_1_method_24_code 19 = .ok (.iconst 0, 1) := by decide +kernel
theorem d_X11_line_20 : decode prog_1_method_24_code 20 = .ok (.istore_n 3, 1) := by decide +kernel
theorem d_X11_line_21 : decode prog_1_method_24_code 21 = .ok (.iload_n 3, 1) := by decide +kernel
theorem d_X11_line_22 : decode prog_1_method_24_code 22 = .ok (.aload_n 0, 1) := by decide +kernel
theorem d_X11_line_23 : decode prog_1_method_24_code 23 = .ok (.getfield 26, 3) := by decide +kernel
theorem d_X11_line_26 : decode prog_1_method_24_code 26 = .ok (.getfield 76, 3) := by decide +kernel
theorem d_X11_line_29 : decode prog_1_method_24_code 29 = .ok (.if_icmp .ge 31, 3) := by decide +kernel
theorem d_X11_line_32 : decode prog_1_method_24_code 32 = .ok (.aload_n 0, 1) := by decide +kernel
theorem d_X11_line_33 : decode prog_1_method_24_code 33 = .ok (.getfield 26, 3) := by decide +kernel
theorem d_X11_line_36 : decode prog_1_method_24_code 36 = .ok (.getfield 128, 3) := by decide +kernel
theorem d_X11_line_39 : decode prog_1_method_24_code 39 = .ok (.iload_n 3, 1) := by decide +kernel
theorem d_X11_line_40 : decode prog_1_method_24_code 40 = .ok (.iaload, 1) := by decide +kernel
theorem d_X11_line_41 : decode prog_1_method_24_code 41 = .ok (.iload_n 2, 1) := by decide +kernel
theorem d_X11_line_42 : decode prog_1_method_24_code 42 = .ok (.if_icmp .ne 12, 3) := by decide +kernel
theorem d_X11_line_45 : decode prog_1_method_24_code 45 = .ok (.aload_n 0, 1) := by decide +kernel
theorem d_X11_line_46 : decode prog_1_method_24_code 46 = .ok (.getfield 19, 3) := by decide +kernel
theorem d_X11_line_49 : decode prog_1_method_24_code 49 = .ok (.iload_n 3, 1) := by decide +kernel
theorem d_X11_line_50 : decode prog_1_method_24_code 50 = .ok (.i2l, 1) := by decide +kernel
theorem d_X11_line_51 : decode prog_1_method_24_code 51 = .ok (.invokevirtual 159, 3) := by decide +kernel
theorem d_X11_line_54 : decode prog_1_method_24_code 54 = .ok (.iinc 3 1, 3) := by decide +kernel
theorem d_X11_line_57 : decode prog_1_method_24_code 57 = .ok (.goto (-36), 3) := by decide +kernel
theorem d_X11_line_60 : decode prog_1_method_24_code 60 = .ok (.iinc 2 1, 3) := by decide +kernel
theorem d_X11_line_63 : decode prog_1_method_24_code 63 = .ok (.goto (-49), 3) := by decide +kernel
theorem d_X11_line_66 : decode prog_1_method_24_code 66 = .ok (.aload_n 0, 1) := by decide +kernel
theorem d_X11_line_67 : decode prog_1_method_24_code 67 = .ok (.getfield 26, 3) := by decide +kernel
theorem d_X11_line_70 : decode prog_1_method_24_code 70 = .ok (.getfield 76, 3) := by decide +kernel
theorem d_X11_line_73 : decode prog_1_method_24_code 73 = .ok (.ireturn, 1) := by decide +kernel
def f_X11_line_j54_21 (τ : St) (x1 : Int32) (x2 : Int32) (x3 : Int32) : Option ((Int32 × St) ⊕ (St)) := some (.inl ((x3 + (1 : Int32)), τ))
def f_X11_line_s21 (τ : St) (y1 : Int32) (y2 : Int32) (x3 : Int32) : Option ((Int32 × St) ⊕ (St)) := (if (cF τ 32 5) ≤ x3 then some (.inr τ) else gd (inb x3 8) ((if (cA τ 36 x3.toNatClampNeg) = y2 then (f_X9_add τ x3.toInt64).bind (fun q6 => f_X11_line_j54_21 q6 y1 y2 x3) else f_X11_line_j54_21 τ y1 y2 x3)))
def f_X11_line_s14 (τ : St) (y1 : Int32) (x2 : Int32) : Option ((Int32 × St) ⊕ (St)) := (if y1 < x2 then some (.inr τ) else (iter (fun z => f_X11_line_s21 z.2 y1 x2 z.1) FU ((0 : Int32), τ)).bind (fun z8 => some (.inl ((x2 + (1 : Int32)), z8))))
def f_X11_line (χ : St) : Option (Int32 × St) := (f_X11_calm χ).bind (fun q1 => (f_X9_start χ).bind (fun q3 => (iter (fun z => f_X11_line_s14 z.2 q1 z.1) FU ((0 : Int32), q3)).bind (fun z11 => some ((cF z11 32 5), z11))))
theorem c_X11_line {l : Launch} {G : gT} {χ σ : St} (hf : FW G) {q : Int32 × St} (h : f_X11_line χ = some q) : Ct l G yX11_line prog_1_method_24_code 4 (some .int) 2 43 [.ref (ga G 0)] χ σ (some (.int q.1)) q.2 σ := by
  refine Ct.of (by decide) (Nat.le_of_ble_eq_true rfl) ?_
  intro p e s m args below meth c Q X hr hlk hQ
  have hx := X.1
  have hb := X.2.1
  have j54_21 : ∀ (τ : St) (x1 : Int32) (x2 : Int32) (x3 : Int32) (o : (Int32 × St) ⊕ (St)), f_X11_line_j54_21 τ x1 x2 x3 = some o → Sum.elim (fun z : Int32 × St => Wat p l e (rmk 2 43) s m args below meth c Q G 4 21 [] [(3, .int z.1), (0, .ref (ga G 0)), (1, .int x1), (2, .int x2)] z.2 σ) (fun z : St => Wat p l e (rmk 2 43) s m args below meth c Q G 4 60 [] [(0, .ref (ga G 0)), (1, .int x1), (2, .int x2)] z σ) o → Wat p l e (rmk 2 43) s m args below meth c Q G 4 54 [] [(0, .ref (ga G 0)), (1, .int x1), (2, .int x2), (3, .int x3)] τ σ := by
    intro τ x1 x2 x3 o h hk H locs ls hw hl
    unfold f_X11_line_j54_21 at h
    refine lv_iinc (v := (x3 + (1 : Int32))) (k := 3) (lv' := [(3, .int (x3 + (1 : Int32))), (0, .ref (ga G 0)), (1, .int x1), (2, .int x2)]) hx hb d_X11_line_54 hl rfl (by rfl) (Nat.le_of_ble_eq_true rfl) rfl (fun ls hl => ?_)
    refine lv_goto (tgt := 21) hx hb d_X11_line_57 (by decide) ?_
    obtain rfl := Option.some.inj h
    dsimp only [Sum.elim_inl] at hk
    exact hk _ _ _ hw (lv_sub hl [0, 1, 2, 3] rfl)
  have b21 : ∀ (τ : St) (y1 : Int32) (y2 : Int32) (x3 : Int32) (o : (Int32 × St) ⊕ (St)), f_X11_line_s21 τ y1 y2 x3 = some o → Sum.elim (fun z : Int32 × St => Wat p l e (rmk 2 43) s m args below meth c Q G 4 21 [] [(3, .int z.1), (0, .ref (ga G 0)), (1, .int y1), (2, .int y2)] z.2 σ) (fun z : St => Wat p l e (rmk 2 43) s m args below meth c Q G 4 60 [] [(0, .ref (ga G 0)), (1, .int y1), (2, .int y2)] z σ) o → Wat p l e (rmk 2 43) s m args below meth c Q G 4 21 [] [(3, .int x3), (0, .ref (ga G 0)), (1, .int y1), (2, .int y2)] τ σ := by
    intro τ y1 y2 x3 o h hk H locs ls hw hl
    unfold f_X11_line_s21 at h
    refine lv_iload_n hx hb d_X11_line_21 rfl (lv_at hl 0 rfl) ?_
    refine lv_aload_n hx hb d_X11_line_22 rfl (lv_at hl 1 rfl) ?_
    refine r_getr (j := 2) X hw ct7 (o_0 hf) rfl (Nat.le_of_ble_eq_true rfl) (q := 32) rfl wd_266 d_X11_line_23 ?_
    refine r_getiN (j := 5) X hw ct0 (o_32 hf) (Nat.le_of_ble_eq_true rfl) rfl (Nat.le_of_ble_eq_true rfl) nw_23 d_X11_line_26 ?_
    refine lv_icmp_ge (tgt := 60) hx hb d_X11_line_29 (by decide) (fun hc => ?_) (fun hc => ?_)
    · have h := ite_t h hc
      obtain rfl := Option.some.inj h
      dsimp only [Sum.elim_inr] at hk
      exact hk _ _ _ hw (lv_sub hl [1, 2, 3] rfl)
    · have h := ite_f h hc
      refine lv_aload_n hx hb d_X11_line_32 rfl (lv_at hl 1 rfl) ?_
      refine r_getr (j := 2) X hw ct7 (o_0 hf) rfl (Nat.le_of_ble_eq_true rfl) (q := 32) rfl wd_266 d_X11_line_33 ?_
      refine r_getrN (j := 3) X hw ct0 (o_32 hf) rfl (Nat.le_of_ble_eq_true rfl) (q := 36) rfl nw_17 d_X11_line_36 ?_
      refine lv_iload_n hx hb d_X11_line_39 rfl (lv_at hl 0 rfl) ?_
      obtain ⟨hi5, h⟩ := gd_some h
      refine r_iald X hw (o_36 hf) (Nat.le_of_ble_eq_true rfl) hi5 d_X11_line_40 ?_
      refine lv_iload_n hx hb d_X11_line_41 rfl (lv_at hl 3 rfl) ?_
      refine lv_icmp_ne (tgt := 54) hx hb d_X11_line_42 (by decide) (fun hc => ?_) (fun hc => ?_)
      · have h := ite_f h hc
        exact j54_21 τ y1 y2 x3 o h hk _ _ _ hw (lv_sub hl [1, 2, 3, 0] rfl)
      · have h := ite_t h hc
        refine lv_aload_n hx hb d_X11_line_45 rfl (lv_at hl 1 rfl) ?_
        refine r_getr (j := 1) X hw ct7 (o_0 hf) rfl (Nat.le_of_ble_eq_true rfl) (q := 3) rfl wd_265 d_X11_line_46 ?_
        refine lv_iload_n hx hb d_X11_line_49 rfl (lv_at hl 0 rfl) ?_
        refine lv_i2l hx hb d_X11_line_50 rfl ?_
        obtain ⟨q6, e7, h⟩ := bd_some h
        refine r_callV (As := [.long x3.toInt64]) (rest := []) (st' := []) X hw hl mwX9_add wd_424 wd_425 wd_423 (c_X9_add hf e7) (r_recv X hw ct6 (o_3 hf)) rfl ⟨Nat.le_of_ble_eq_true rfl, Nat.le_of_ble_eq_true rfl⟩ ⟨Nat.le_refl _, Nat.le_refl _⟩ rfl rfl (Nat.le_of_ble_eq_true rfl) d_X11_line_51 (fun H locs hw => ?_)
        exact j54_21 q6 y1 y2 x3 o h hk _ _ _ hw (lv_sub hl [1, 2, 3, 0] rfl)
  have b14 : ∀ (τ : St) (y1 : Int32) (x2 : Int32) (o : (Int32 × St) ⊕ (St)), f_X11_line_s14 τ y1 x2 = some o → Sum.elim (fun z : Int32 × St => Wat p l e (rmk 2 43) s m args below meth c Q G 4 14 [] [(2, .int z.1), (0, .ref (ga G 0)), (1, .int y1)] z.2 σ) (fun z : St => Wat p l e (rmk 2 43) s m args below meth c Q G 4 66 [] [(0, .ref (ga G 0))] z σ) o → Wat p l e (rmk 2 43) s m args below meth c Q G 4 14 [] [(2, .int x2), (0, .ref (ga G 0)), (1, .int y1)] τ σ := by
    intro τ y1 x2 o h hk H locs ls hw hl
    unfold f_X11_line_s14 at h
    refine lv_iload_n hx hb d_X11_line_14 rfl (lv_at hl 0 rfl) ?_
    refine lv_iload_n hx hb d_X11_line_15 rfl (lv_at hl 2 rfl) ?_
    refine lv_icmp_gt (tgt := 66) hx hb d_X11_line_16 (by decide) (fun hc => ?_) (fun hc => ?_)
    · have h := ite_t h hc
      obtain rfl := Option.some.inj h
      dsimp only [Sum.elim_inr] at hk
      exact hk _ _ _ hw (lv_sub hl [1] rfl)
    · have h := ite_f h hc
      refine lv_iconst (v := (0 : Int32)) hx hb d_X11_line_19 (by decide) ?_
      refine lv_istore_n (lv' := [(3, .int (0 : Int32)), (2, .int x2), (0, .ref (ga G 0)), (1, .int y1)]) hx hb d_X11_line_20 rfl hl (Nat.le_of_ble_eq_true rfl) rfl (fun ls hl => ?_)
      obtain ⟨z8, e9, h⟩ := bd_some h
      refine iter_w (Wh := fun z : Int32 × St => Wat p l e (rmk 2 43) s m args below meth c Q G 4 21 [] [(3, .int z.1), (0, .ref (ga G 0)), (1, .int y1), (2, .int x2)] z.2 σ) (K := fun z : St => Wat p l e (rmk 2 43) s m args below meth c Q G 4 60 [] [(0, .ref (ga G 0)), (1, .int y1), (2, .int x2)] z σ) (fun z o h1 h2 => b21 z.2 y1 x2 z.1 o h1 h2) FU _ _ e9 ?_ _ _ _ hw (lv_sub hl [0, 2, 3, 1] rfl)
      intro H locs ls hw hl
      refine lv_iinc (v := (x2 + (1 : Int32))) (k := 2) (lv' := [(2, .int (x2 + (1 : Int32))), (0, .ref (ga G 0)), (1, .int y1)]) hx hb d_X11_line_60 hl rfl (by rfl) (Nat.le_of_ble_eq_true rfl) rfl (fun ls hl => ?_)
      refine lv_goto (tgt := 14) hx hb d_X11_line_63 (by decide) ?_
      obtain rfl := Option.some.inj h
      dsimp only [Sum.elim_inl] at hk
      exact hk _ _ _ hw (lv_sub hl [0, 1, 2] rfl)
  intro H locs ls hw hl
  have hl : lv_has ls 4 [(0, .ref (ga G 0))] := hl
  unfold f_X11_line at h
  refine lv_aload_n hx hb d_X11_line_0 rfl (lv_at hl 0 rfl) ?_
  obtain ⟨q1, e2, h⟩ := bd_some h
  refine r_callV (As := []) (rest := []) (st' := [.int q1]) X hw hl mwX11_calm wd_548 wd_549 wd_556 (c_X11_calm hf e2) (r_recv X hw ct7 (o_0 hf)) rfl ⟨Nat.le_of_ble_eq_true rfl, Nat.le_of_ble_eq_true rfl⟩ ⟨Nat.le_refl _, Nat.le_refl _⟩ rfl rfl (Nat.le_of_ble_eq_true rfl) d_X11_line_1 (fun H locs hw => ?_)
  refine lv_istore_n (lv' := [(1, .int q1), (0, .ref (ga G 0))]) hx hb d_X11_line_4 rfl hl (Nat.le_of_ble_eq_true rfl) rfl (fun ls hl => ?_)
  refine lv_aload_n hx hb d_X11_line_5 rfl (lv_at hl 1 rfl) ?_
  refine r_getr (j := 1) X hw ct7 (o_0 hf) rfl (Nat.le_of_ble_eq_true rfl) (q := 3) rfl wd_265 d_X11_line_6 ?_
  obtain ⟨q3, e4, h⟩ := bd_some h
  refine r_callV (As := []) (rest := []) (st' := []) X hw hl mwX9_start wd_420 wd_421 wd_419 (c_X9_start hf e4) (r_recv X hw ct6 (o_3 hf)) rfl ⟨Nat.le_of_ble_eq_true rfl, Nat.le_of_ble_eq_true rfl⟩ ⟨Nat.le_refl _, Nat.le_refl _⟩ rfl rfl (Nat.le_of_ble_eq_true rfl) d_X11_line_9 (fun H locs hw => ?_)
  refine lv_iconst (v := (0 : Int32)) hx hb d_X11_line_12 (by decide) ?_
  refine lv_istore_n (lv' := [(2, .int (0 : Int32)), (1, .int q1), (0, .ref (ga G 0))]) hx hb d_X11_line_13 rfl hl (Nat.le_of_ble_eq_true rfl) rfl (fun ls hl => ?_)
  obtain ⟨z11, e12, h⟩ := bd_some h
  refine iter_w (Wh := fun z : Int32 × St => Wat p l e (rmk 2 43) s m args below meth c Q G 4 14 [] [(2, .int z.1), (0, .ref (ga G 0)), (1, .int q1)] z.2 σ) (K := fun z : St => Wat p l e (rmk 2 43) s m args below meth c Q G 4 66 [] [(0, .ref (ga G 0))] z σ) (fun z o h1 h2 => b14 z.2 q1 z.1 o h1 h2) FU _ _ e12 ?_ _ _ _ hw (lv_sub hl [0, 2, 1] rfl)
  intro H locs ls hw hl
  refine lv_aload_n hx hb d_X11_line_66 rfl (lv_at hl 0 rfl) ?_
  refine r_getr (j := 2) X hw ct7 (o_0 hf) rfl (Nat.le_of_ble_eq_true rfl) (q := 32) rfl wd_266 d_X11_line_67 ?_
  refine r_getiN (j := 5) X hw ct0 (o_32 hf) (Nat.le_of_ble_eq_true rfl) rfl (Nat.le_of_ble_eq_true rfl) nw_23 d_X11_line_70 ?_
  obtain rfl := Option.some.inj h
  subst hQ
  exact r_iret X hr hlk hw d_X11_line_73
abbrev yX11_yes : MethodName := ⟨"OysterBeds", "yes", "(I)I"⟩
theorem mwX11_yes : MW yX11_yes prog_1_method_25_code 4 (some .int) 1 := ⟨wd_564, wd_1, by decide +kernel⟩
theorem d_X11_yes_0 : decode prog_1_method_25_code 0 = .ok (.iload_n 1, 1) := by decide +kernel
theorem d_X11_yes_1 : decode prog_1_method_25_code 1 = .ok (.iconst 0, 1) := by decide +kernel
theorem d_X11_yes_2 : decode prog_1_method_25_code 2 = .ok (.invokestatic 144, 3) := by decide +kernel
theorem d_X11_yes_5 : decode prog_1_method_25_code 5 = .ok (.ifCond .ne 5, 3) := by decide +kernel
theorem d_X11_yes_8 : decode prog_1_method_25_code 8 = .ok (.iconst (-1), 1) := by decide +kernel
theorem d_X11_yes_9 : decode prog_1_method_25_code 9 = .ok (.ireturn, 1) := by decide +kernel
theorem d_X11_yes_10 : decode prog_1_method_25_code 10 = .ok (.aload_n 0, 1) := by decide +kernel
theorem d_X11_yes_11 : decode prog_1_method_25_code 11 = .ok (.getfield 26, 3) := by decide +kernel
theorem d_X11_yes_14 : decode prog_1_method_25_code 14 = .ok (.iload_n 1, 1) := by decide +kernel
theorem d_X11_yes_15 : decode prog_1_method_25_code 15 = .ok (.invokevirtual 207, 3) := by decide +kernel
theorem d_X11_yes_18 : decode prog_1_method_25_code 18 = .ok (.istore_n 2, 1) := by decide +kernel
theorem d_X11_yes_19 : decode prog_1_method_25_code 19 = .ok (.aload_n 0, 1) := by decide +kernel
theorem d_X11_yes_20 : decode prog_1_method_25_code 20 = .ok (.getfield 19, 3) := by decide +kernel
theorem d_X11_yes_23 : decode prog_1_method_25_code 23 = .ok (.invokevirtual 156, 3) := by decide +kernel
theorem d_X11_yes_26 : decode prog_1_method_25_code 26 = .ok (.aload_n 0, 1) := by decide +kernel
theorem d_X11_yes_27 : decode prog_1_method_25_code 27 = .ok (.getfield 19, 3) := by decide +kernel
theorem d_X11_yes_30 : decode prog_1_method_25_code 30 = .ok (.iload_n 2, 1) := by decide +kernel
theorem d_X11_yes_31 : decode prog_1_method_25_code 31 = .ok (.aload_n 0, 1) := by decide +kernel
theorem d_X11_yes_32 : decode prog_1_method_25_code 32 = .ok (.getfield 26, 3) := by decide +kernel
theorem d_X11_yes_35 : decode prog_1_method_25_code 35 = .ok (.invokevirtual 163, 3) := by decide +kernel
theorem d_X11_yes_38 : decode prog_1_method_25_code 38 = .ok (.iand, 1) := by decide +kernel
theorem d_X11_yes_39 : decode prog_1_method_25_code 39 = .ok (.invokestatic 166, 3) := by decide +kernel
theorem d_X11_yes_42 : decode prog_1_method_25_code 42 = .ok (.i2l, 1) := by decide +kernel
theorem d_X11_yes_43 : decode prog_1_method_25_code 43 = .ok (.invokevirtual 159, 3) := by decide +kernel
theorem d_X11_yes_46 : decode prog_1_method_25_code 46 = .ok (.iconst 0, 1) := by decide +kernel
theorem d_X11_yes_47 : decode prog_1_method_25_code 47 = .ok (.istore_n 3, 1) := by decide +kernel
theorem d_X11_yes_48 : decode prog_1_method_25_code 48 = .ok (.iload_n 3, 1) := by decide +kernel
theorem d_X11_yes_49 : decode prog_1_method_25_code 49 = .ok (.iconst 3, 1) := by decide +kernel
theorem d_X11_yes_50 : decode prog_1_method_25_code 50 = .ok (.if_icmp .ge 30, 3) := by decide +kernel
theorem d_X11_yes_53 : decode prog_1_method_25_code 53 = .ok (.aload_n 0, 1) := by decide +kernel
theorem d_X11_yes_54 : decode prog_1_method_25_code 54 = .ok (.getfield 19, 3) := by decide +kernel
theorem d_X11_yes_57 : decode prog_1_method_25_code 57 = .ok (.iload_n 2, 1) := by decide +kernel
theorem d_X11_yes_58 : decode prog_1_method_25_code 58 = .ok (.aload_n 0, 1) := by decide +kernel
theorem d_X11_yes_59 : decode prog_1_method_25_code 59 = .ok (.getfield 26, 3) := by decide +kernel
theorem d_X11_yes_62 : decode prog_1_method_25_code 62 = .ok (.iload_n 3, 1) := by decide +kernel
theorem d_X11_yes_63 : decode prog_1_method_25_code 63 = .ok (.invokevirtual 213, 3) := by decide +kernel
theorem d_X11_yes_66 : decode prog_1_method_25_code 66 = .ok (.iand, 1) := by decide +kernel
theorem d_X11_yes_67 : decode prog_1_method_25_code 67 = .ok (.invokestatic 166, 3) := by decide +kernel
theorem d_X11_yes_70 : decode prog_1_method_25_code 70 = .ok (.i2l, 1) := by decide +kernel
theorem d_X11_yes_71 : decode prog_1_method_25_code 71 = .ok (.invokevirtual 159, 3) := by decide +kernel
theorem d_X11_yes_74 : decode prog_1_method_25_code 74 = .ok (.iinc 3 1, 3) := by decide +kernel
theorem d_X11_yes_77 : decode prog_1_method_25_code 77 = .ok (.goto (-29), 3) := by decide +kernel
theorem d_X11_yes_80 : decode prog_1_method_25_code 80 = .ok (.iload_n 2, 1) := by decide +kernel
theorem d_X11_yes_81 : decode prog_1_method_25_code 81 = .ok (.invokestatic 166, 3) := by decide +kernel
theorem d_X11_yes_84 : decode prog_1_method_25_code 84 = .ok (.ireturn, 1) := by decide +kernel
def f_X11_yes_s48 (τ : St) (y2 : Int32) (x3 : Int32) : Option ((Int32 × St) ⊕ (St)) := (if (3 : Int32) ≤ x3 then some (.inr τ) else (f_X0_onesOfKind τ 32 x3).bind (fun q13 => (f_J6_bitCount_0f7a4 (y2 &&& q13)).bind (fun q15 => (f_X9_add τ q15.toInt64).bind (fun q17 => some (.inl ((x3 + (1 : Int32)), q17))))))
def f_X11_yes (χ : St) (a1 : Int32) : Option (Int32 × St) := (f_X11_isQuestion a1 (0 : Int32)).bind (fun q1 => (if q1 = 0 then some ((-1 : Int32), χ) else (f_X0_yesOnes χ 32 a1).bind (fun q3 => (f_X9_start χ).bind (fun q5 => (f_X0_openOnes q5 32).bind (fun q7 => (f_J6_bitCount_0f7a4 (q3 &&& q7)).bind (fun q9 => (f_X9_add q5 q9.toInt64).bind (fun q11 => (iter (fun z => f_X11_yes_s48 z.2 q3 z.1) FU ((0 : Int32), q11)).bind (fun z19 => (f_J6_bitCount_0f7a4 q3).bind (fun q22 => some (q22, z19))))))))))
theorem c_X11_yes {l : Launch} {G : gT} {χ σ : St} {a1 : Int32} (hf : FW G) {q : Int32 × St} (h : f_X11_yes χ a1 = some q) : Ct l G yX11_yes prog_1_method_25_code 4 (some .int) 2 43 [.ref (ga G 0), .int a1] χ σ (some (.int q.1)) q.2 σ := by
  refine Ct.of (by decide) (Nat.le_of_ble_eq_true rfl) ?_
  intro p e s m args below meth c Q X hr hlk hQ
  have hx := X.1
  have hb := X.2.1
  have b48 : ∀ (τ : St) (y2 : Int32) (x3 : Int32) (o : (Int32 × St) ⊕ (St)), f_X11_yes_s48 τ y2 x3 = some o → Sum.elim (fun z : Int32 × St => Wat p l e (rmk 2 43) s m args below meth c Q G 4 48 [] [(3, .int z.1), (0, .ref (ga G 0)), (2, .int y2)] z.2 σ) (fun z : St => Wat p l e (rmk 2 43) s m args below meth c Q G 4 80 [] [(2, .int y2)] z σ) o → Wat p l e (rmk 2 43) s m args below meth c Q G 4 48 [] [(3, .int x3), (0, .ref (ga G 0)), (2, .int y2)] τ σ := by
    intro τ y2 x3 o h hk H locs ls hw hl
    unfold f_X11_yes_s48 at h
    refine lv_iload_n hx hb d_X11_yes_48 rfl (lv_at hl 0 rfl) ?_
    refine lv_iconst (v := (3 : Int32)) hx hb d_X11_yes_49 (by decide) ?_
    refine lv_icmp_ge (tgt := 80) hx hb d_X11_yes_50 (by decide) (fun hc => ?_) (fun hc => ?_)
    · have h := ite_t h hc
      obtain rfl := Option.some.inj h
      dsimp only [Sum.elim_inr] at hk
      exact hk _ _ _ hw (lv_sub hl [2] rfl)
    · have h := ite_f h hc
      refine lv_aload_n hx hb d_X11_yes_53 rfl (lv_at hl 1 rfl) ?_
      refine r_getr (j := 1) X hw ct7 (o_0 hf) rfl (Nat.le_of_ble_eq_true rfl) (q := 3) rfl wd_265 d_X11_yes_54 ?_
      refine lv_iload_n hx hb d_X11_yes_57 rfl (lv_at hl 2 rfl) ?_
      refine lv_aload_n hx hb d_X11_yes_58 rfl (lv_at hl 1 rfl) ?_
      refine r_getr (j := 2) X hw ct7 (o_0 hf) rfl (Nat.le_of_ble_eq_true rfl) (q := 32) rfl wd_266 d_X11_yes_59 ?_
      refine lv_iload_n hx hb d_X11_yes_62 rfl (lv_at hl 0 rfl) ?_
      obtain ⟨q13, e14, h⟩ := bd_some h
      refine r_callV (As := [.int x3]) (rest := [.int y2, .ref (ga G 3)]) (st' := [.int q13, .int y2, .ref (ga G 3)]) X hw hl mwX0_onesOfKind wd_530 wd_531 wd_529 (c_X0_onesOfKind hf b_32 e14) (r_recv X hw ct0 (o_32 hf)) rfl ⟨Nat.le_of_ble_eq_true rfl, Nat.le_of_ble_eq_true rfl⟩ ⟨Nat.le_refl _, Nat.le_refl _⟩ rfl rfl (Nat.le_of_ble_eq_true rfl) d_X11_yes_63 (fun H locs hw => ?_)
      refine lv_iand hx hb d_X11_yes_66 ?_
      obtain ⟨q15, e16, h⟩ := bd_some h
      refine r_callS (As := [.int (y2 &&& q13)]) (rest := [.ref (ga G 3)]) (st' := [.int q15, .ref (ga G 3)]) X hw hl mwJ6_bitCount_0f7a4 wd_436 wd_435 (c_J6_bitCount_0f7a4 e16) rfl ⟨Nat.le_of_ble_eq_true rfl, Nat.le_of_ble_eq_true rfl⟩ ⟨Nat.le_refl _, Nat.le_refl _⟩ rfl rfl (Nat.le_of_ble_eq_true rfl) d_X11_yes_67 (fun H locs hw => ?_)
      refine lv_i2l hx hb d_X11_yes_70 rfl ?_
      obtain ⟨q17, e18, h⟩ := bd_some h
      refine r_callV (As := [.long q15.toInt64]) (rest := []) (st' := []) X hw hl mwX9_add wd_424 wd_425 wd_423 (c_X9_add hf e18) (r_recv X hw ct6 (o_3 hf)) rfl ⟨Nat.le_of_ble_eq_true rfl, Nat.le_of_ble_eq_true rfl⟩ ⟨Nat.le_refl _, Nat.le_refl _⟩ rfl rfl (Nat.le_of_ble_eq_true rfl) d_X11_yes_71 (fun H locs hw => ?_)
      refine lv_iinc (v := (x3 + (1 : Int32))) (k := 0) (lv' := [(3, .int (x3 + (1 : Int32))), (0, .ref (ga G 0)), (2, .int y2)]) hx hb d_X11_yes_74 hl rfl (by rfl) (Nat.le_of_ble_eq_true rfl) rfl (fun ls hl => ?_)
      refine lv_goto (tgt := 48) hx hb d_X11_yes_77 (by decide) ?_
      obtain rfl := Option.some.inj h
      dsimp only [Sum.elim_inl] at hk
      exact hk _ _ _ hw (lv_sub hl [0, 1, 2] rfl)
  intro H locs ls hw hl
  have hl : lv_has ls 4 [(0, .ref (ga G 0)), (1, .int a1)] := hl
  unfold f_X11_yes at h
  refine lv_iload_n hx hb d_X11_yes_0 rfl (lv_at hl 1 rfl) ?_
  refine lv_iconst (v := (0 : Int32)) hx hb d_X11_yes_1 (by decide) ?_
  obtain ⟨q1, e2, h⟩ := bd_some h
  refine r_callS (As := [.int a1, .int (0 : Int32)]) (rest := []) (st' := [.int q1]) X hw hl mwX11_isQuestion wd_382 wd_381 (c_X11_isQuestion hf e2) rfl ⟨Nat.le_of_ble_eq_true rfl, Nat.le_of_ble_eq_true rfl⟩ ⟨Nat.le_refl _, Nat.le_refl _⟩ rfl rfl (Nat.le_of_ble_eq_true rfl) d_X11_yes_2 (fun H locs hw => ?_)
  refine lv_if_ne (tgt := 10) hx hb d_X11_yes_5 (by decide) (fun hc => ?_) (fun hc => ?_)
  · have h := ite_f h hc
    refine lv_aload_n hx hb d_X11_yes_10 rfl (lv_at hl 0 rfl) ?_
    refine r_getr (j := 2) X hw ct7 (o_0 hf) rfl (Nat.le_of_ble_eq_true rfl) (q := 32) rfl wd_266 d_X11_yes_11 ?_
    refine lv_iload_n hx hb d_X11_yes_14 rfl (lv_at hl 1 rfl) ?_
    obtain ⟨q3, e4, h⟩ := bd_some h
    refine r_callV (As := [.int a1]) (rest := []) (st' := [.int q3]) X hw hl mwX0_yesOnes wd_510 wd_511 wd_509 (c_X0_yesOnes hf b_32 e4) (r_recv X hw ct0 (o_32 hf)) rfl ⟨Nat.le_of_ble_eq_true rfl, Nat.le_of_ble_eq_true rfl⟩ ⟨Nat.le_refl _, Nat.le_refl _⟩ rfl rfl (Nat.le_of_ble_eq_true rfl) d_X11_yes_15 (fun H locs hw => ?_)
    refine lv_istore_n (lv' := [(2, .int q3), (0, .ref (ga G 0)), (1, .int a1)]) hx hb d_X11_yes_18 rfl hl (Nat.le_of_ble_eq_true rfl) rfl (fun ls hl => ?_)
    refine lv_aload_n hx hb d_X11_yes_19 rfl (lv_at hl 1 rfl) ?_
    refine r_getr (j := 1) X hw ct7 (o_0 hf) rfl (Nat.le_of_ble_eq_true rfl) (q := 3) rfl wd_265 d_X11_yes_20 ?_
    obtain ⟨q5, e6, h⟩ := bd_some h
    refine r_callV (As := []) (rest := []) (st' := []) X hw hl mwX9_start wd_420 wd_421 wd_419 (c_X9_start hf e6) (r_recv X hw ct6 (o_3 hf)) rfl ⟨Nat.le_of_ble_eq_true rfl, Nat.le_of_ble_eq_true rfl⟩ ⟨Nat.le_refl _, Nat.le_refl _⟩ rfl rfl (Nat.le_of_ble_eq_true rfl) d_X11_yes_23 (fun H locs hw => ?_)
    refine lv_aload_n hx hb d_X11_yes_26 rfl (lv_at hl 1 rfl) ?_
    refine r_getr (j := 1) X hw ct7 (o_0 hf) rfl (Nat.le_of_ble_eq_true rfl) (q := 3) rfl wd_265 d_X11_yes_27 ?_
    refine lv_iload_n hx hb d_X11_yes_30 rfl (lv_at hl 0 rfl) ?_
    refine lv_aload_n hx hb d_X11_yes_31 rfl (lv_at hl 1 rfl) ?_
    refine r_getr (j := 2) X hw ct7 (o_0 hf) rfl (Nat.le_of_ble_eq_true rfl) (q := 32) rfl wd_266 d_X11_yes_32 ?_
    obtain ⟨q7, e8, h⟩ := bd_some h
    refine r_callV (As := []) (rest := [.int q3, .ref (ga G 3)]) (st' := [.int q7, .int q3, .ref (ga G 3)]) X hw hl mwX0_openOnes wd_428 wd_429 wd_427 (c_X0_openOnes hf b_32 e8) (r_recv X hw ct0 (o_32 hf)) rfl ⟨Nat.le_of_ble_eq_true rfl, Nat.le_of_ble_eq_true rfl⟩ ⟨Nat.le_refl _, Nat.le_refl _⟩ rfl rfl (Nat.le_of_ble_eq_true rfl) d_X11_yes_35 (fun H locs hw => ?_)
    refine lv_iand hx hb d_X11_yes_38 ?_
    obtain ⟨q9, e10, h⟩ := bd_some h
    refine r_callS (As := [.int (q3 &&& q7)]) (rest := [.ref (ga G 3)]) (st' := [.int q9, .ref (ga G 3)]) X hw hl mwJ6_bitCount_0f7a4 wd_436 wd_435 (c_J6_bitCount_0f7a4 e10) rfl ⟨Nat.le_of_ble_eq_true rfl, Nat.le_of_ble_eq_true rfl⟩ ⟨Nat.le_refl _, Nat.le_refl _⟩ rfl rfl (Nat.le_of_ble_eq_true rfl) d_X11_yes_39 (fun H locs hw => ?_)
    refine lv_i2l hx hb d_X11_yes_42 rfl ?_
    obtain ⟨q11, e12, h⟩ := bd_some h
    refine r_callV (As := [.long q9.toInt64]) (rest := []) (st' := []) X hw hl mwX9_add wd_424 wd_425 wd_423 (c_X9_add hf e12) (r_recv X hw ct6 (o_3 hf)) rfl ⟨Nat.le_of_ble_eq_true rfl, Nat.le_of_ble_eq_true rfl⟩ ⟨Nat.le_refl _, Nat.le_refl _⟩ rfl rfl (Nat.le_of_ble_eq_true rfl) d_X11_yes_43 (fun H locs hw => ?_)
    refine lv_iconst (v := (0 : Int32)) hx hb d_X11_yes_46 (by decide) ?_
    refine lv_istore_n (lv' := [(3, .int (0 : Int32)), (2, .int q3), (0, .ref (ga G 0)), (1, .int a1)]) hx hb d_X11_yes_47 rfl hl (Nat.le_of_ble_eq_true rfl) rfl (fun ls hl => ?_)
    obtain ⟨z19, e20, h⟩ := bd_some h
    refine iter_w (Wh := fun z : Int32 × St => Wat p l e (rmk 2 43) s m args below meth c Q G 4 48 [] [(3, .int z.1), (0, .ref (ga G 0)), (2, .int q3)] z.2 σ) (K := fun z : St => Wat p l e (rmk 2 43) s m args below meth c Q G 4 80 [] [(2, .int q3)] z σ) (fun z o h1 h2 => b48 z.2 q3 z.1 o h1 h2) FU _ _ e20 ?_ _ _ _ hw (lv_sub hl [0, 2, 1] rfl)
    intro H locs ls hw hl
    refine lv_iload_n hx hb d_X11_yes_80 rfl (lv_at hl 0 rfl) ?_
    obtain ⟨q22, e23, h⟩ := bd_some h
    refine r_callS (As := [.int q3]) (rest := []) (st' := [.int q22]) X hw hl mwJ6_bitCount_0f7a4 wd_436 wd_435 (c_J6_bitCount_0f7a4 e23) rfl ⟨Nat.le_of_ble_eq_true rfl, Nat.le_of_ble_eq_true rfl⟩ ⟨Nat.le_refl _, Nat.le_refl _⟩ rfl rfl (Nat.le_of_ble_eq_true rfl) d_X11_yes_81 (fun H locs hw => ?_)
    obtain rfl := Option.some.inj h
    subst hQ
    exact r_iret X hr hlk hw d_X11_yes_84
  · have h := ite_t h hc
    refine lv_iconst (v := (-1 : Int32)) hx hb d_X11_yes_8 (by decide) ?_
    obtain rfl := Option.some.inj h
    subst hQ
    exact r_iret X hr hlk hw d_X11_yes_9
abbrev yX11_whole : MethodName := ⟨"OysterBeds", "whole", "()I"⟩
theorem mwX11_whole : MW yX11_whole prog_1_method_26_code 2 (some .int) 0 := ⟨wd_568, wd_1, by decide +kernel⟩
theorem d_X11_whole_0 : decode prog_1_method_26_code 0 = .ok (.aload_n 0, 1) := by decide +kernel
theorem d_X11_whole_1 : decode prog_1_method_26_code 1 = .ok (.getfield 26, 3) := by decide +kernel
theorem d_X11_whole_4 : decode prog_1_method_26_code 4 = .ok (.aload_n 0, 1) := by decide +kernel
theorem d_X11_whole_5 : decode prog_1_method_26_code 5 = .ok (.getfield 26, 3) := by decide +kernel
theorem d_X11_whole_8 : decode prog_1_method_26_code 8 = .ok (.invokevirtual 230, 3) := by decide +kernel
theorem d_X11_whole_11 : decode prog_1_method_26_code 11 = .ok (.invokestatic 233, 3) := by decide +kernel
theorem d_X11_whole_14 : decode prog_1_method_26_code 14 = .ok (.istore_n 1, 1) := by decide +kernel
theorem d_X11_whole_15 : decode prog_1_method_26_code 15 = .ok (.aload_n 0, 1) := by decide +kernel
theorem d_X11_whole_16 : decode prog_1_method_26_code 16 = .ok (.getfield 19, 3) := by decide +kernel
theorem d_X11_whole_19 : decode prog_1_method_26_code 19 = .ok (.invokevirtual 156, 3) := by decide +kernel
theorem d_X11_whole_22 : decode prog_1_method_26_code 22 = .ok (.aload_n 0, 1) := by decide +kernel
theorem d_X11_whole_23 : decode prog_1_method_26_code 23 = .ok (.getfield 19, 3) := by decide +kernel
theorem d_X11_whole_26 : decode prog_1_method_26_code 26 = .ok (.aload_n 0, 1) := by decide +kernel
theorem d_X11_whole_27 : decode prog_1_method_26_code 27 = .ok (.getfield 26, 3) := by decide +kernel
theorem d_X11_whole_30 : decode prog_1_method_26_code 30 = .ok (.iload_n 1, 1) := by decide +kernel
theorem d_X11_whole_31 : decode prog_1_method_26_code 31 = .ok (.invokestatic 239, 3) := by decide +kernel
theorem d_X11_whole_34 : decode prog_1_method_26_code 34 = .ok (.invokestatic 166, 3) := by decide +kernel
theorem d_X11_whole_37 : decode prog_1_method_26_code 37 = .ok (.i2l, 1) := by decide +kernel
theorem d_X11_whole_38 : decode prog_1_method_26_code 38 = .ok (.invokevirtual 159, 3) := by decide +kernel
theorem d_X11_whole_41 : decode prog_1_method_26_code 41 = .ok (.aload_n 0, 1) := by decide +kernel
theorem d_X11_whole_42 : decode prog_1_method_26_code 42 = .ok (.getfield 19, 3) := by decide +kernel
theorem d_X11_whole_45 : decode prog_1_method_26_code 45 = .ok (.aload_n 0, 1) := by decide +kernel
theorem d_X11_whole_46 : decode prog_1_method_26_code 46 = .ok (.getfield 26, 3) := by decide +kernel
theorem d_X11_whole_49 : decode prog_1_method_26_code 49 = .ok (.invokestatic 242, 3) := by decide +kernel
theorem d_X11_whole_52 : decode prog_1_method_26_code 52 = .ok (.i2l, 1) := by decide +kernel
theorem d_X11_whole_53 : decode prog_1_method_26_code 53 = .ok (.invokevirtual 159, 3) := by decide +kernel
theorem d_X11_whole_56 : decode prog_1_method_26_code 56 = .ok (.iload_n 1, 1) := by decide +kernel
theorem d_X11_whole_57 : decode prog_1_method_26_code 57 = .ok (.ireturn, 1) := by decide +kernel
def f_X11_whole (χ : St) : Option (Int32 × St) := (f_X0_all χ 32).bind (fun q1 => (f_X10_ofMost χ 32 q1).bind (fun q3 => (f_X9_start χ).bind (fun q5 => (f_X10_onesWith q5 32 q3).bind (fun q7 => (f_J6_bitCount_0f7a4 q7).bind (fun q9 => (f_X9_add q5 q9.toInt64).bind (fun q11 => (f_X10_ties q11 32).bind (fun q13 => (f_X9_add q11 q13.toInt64).bind (fun q15 => some (q3, q15)))))))))
theorem c_X11_whole {l : Launch} {G : gT} {χ σ : St} (hf : FW G) {q : Int32 × St} (h : f_X11_whole χ = some q) : Ct l G yX11_whole prog_1_method_26_code 2 (some .int) 2 46 [.ref (ga G 0)] χ σ (some (.int q.1)) q.2 σ := by
  refine Ct.of (by decide) (Nat.le_of_ble_eq_true rfl) ?_
  intro p e s m args below meth c Q X hr hlk hQ
  have hx := X.1
  have hb := X.2.1
  intro H locs ls hw hl
  have hl : lv_has ls 2 [(0, .ref (ga G 0))] := hl
  unfold f_X11_whole at h
  refine lv_aload_n hx hb d_X11_whole_0 rfl (lv_at hl 0 rfl) ?_
  refine r_getr (j := 2) X hw ct7 (o_0 hf) rfl (Nat.le_of_ble_eq_true rfl) (q := 32) rfl wd_266 d_X11_whole_1 ?_
  refine lv_aload_n hx hb d_X11_whole_4 rfl (lv_at hl 0 rfl) ?_
  refine r_getr (j := 2) X hw ct7 (o_0 hf) rfl (Nat.le_of_ble_eq_true rfl) (q := 32) rfl wd_266 d_X11_whole_5 ?_
  obtain ⟨q1, e2, h⟩ := bd_some h
  refine r_callV (As := []) (rest := [.ref (ga G 32)]) (st' := [.int q1, .ref (ga G 32)]) X hw hl mwX0_all wd_570 wd_571 wd_569 (c_X0_all hf b_32 e2) (r_recv X hw ct0 (o_32 hf)) rfl ⟨Nat.le_of_ble_eq_true rfl, Nat.le_of_ble_eq_true rfl⟩ ⟨Nat.le_refl _, Nat.le_refl _⟩ rfl rfl (Nat.le_of_ble_eq_true rfl) d_X11_whole_8 (fun H locs hw => ?_)
  obtain ⟨q3, e4, h⟩ := bd_some h
  refine r_callS (As := [.ref (ga G 32), .int q1]) (rest := []) (st' := [.int q3]) X hw hl mwX10_ofMost wd_574 wd_573 (c_X10_ofMost hf b_32 e4) rfl ⟨Nat.le_of_ble_eq_true rfl, Nat.le_of_ble_eq_true rfl⟩ ⟨Nat.le_refl _, Nat.le_refl _⟩ rfl rfl (Nat.le_of_ble_eq_true rfl) d_X11_whole_11 (fun H locs hw => ?_)
  refine lv_istore_n (lv' := [(1, .int q3), (0, .ref (ga G 0))]) hx hb d_X11_whole_14 rfl hl (Nat.le_of_ble_eq_true rfl) rfl (fun ls hl => ?_)
  refine lv_aload_n hx hb d_X11_whole_15 rfl (lv_at hl 1 rfl) ?_
  refine r_getr (j := 1) X hw ct7 (o_0 hf) rfl (Nat.le_of_ble_eq_true rfl) (q := 3) rfl wd_265 d_X11_whole_16 ?_
  obtain ⟨q5, e6, h⟩ := bd_some h
  refine r_callV (As := []) (rest := []) (st' := []) X hw hl mwX9_start wd_420 wd_421 wd_419 (c_X9_start hf e6) (r_recv X hw ct6 (o_3 hf)) rfl ⟨Nat.le_of_ble_eq_true rfl, Nat.le_of_ble_eq_true rfl⟩ ⟨Nat.le_refl _, Nat.le_refl _⟩ rfl rfl (Nat.le_of_ble_eq_true rfl) d_X11_whole_19 (fun H locs hw => ?_)
  refine lv_aload_n hx hb d_X11_whole_22 rfl (lv_at hl 1 rfl) ?_
  refine r_getr (j := 1) X hw ct7 (o_0 hf) rfl (Nat.le_of_ble_eq_true rfl) (q := 3) rfl wd_265 d_X11_whole_23 ?_
  refine lv_aload_n hx hb d_X11_whole_26 rfl (lv_at hl 1 rfl) ?_
  refine r_getr (j := 2) X hw ct7 (o_0 hf) rfl (Nat.le_of_ble_eq_true rfl) (q := 32) rfl wd_266 d_X11_whole_27 ?_
  refine lv_iload_n hx hb d_X11_whole_30 rfl (lv_at hl 0 rfl) ?_
  obtain ⟨q7, e8, h⟩ := bd_some h
  refine r_callS (As := [.ref (ga G 32), .int q3]) (rest := [.ref (ga G 3)]) (st' := [.int q7, .ref (ga G 3)]) X hw hl mwX10_onesWith wd_579 wd_578 (c_X10_onesWith hf b_32 e8) rfl ⟨Nat.le_of_ble_eq_true rfl, Nat.le_of_ble_eq_true rfl⟩ ⟨Nat.le_refl _, Nat.le_refl _⟩ rfl rfl (Nat.le_of_ble_eq_true rfl) d_X11_whole_31 (fun H locs hw => ?_)
  obtain ⟨q9, e10, h⟩ := bd_some h
  refine r_callS (As := [.int q7]) (rest := [.ref (ga G 3)]) (st' := [.int q9, .ref (ga G 3)]) X hw hl mwJ6_bitCount_0f7a4 wd_436 wd_435 (c_J6_bitCount_0f7a4 e10) rfl ⟨Nat.le_of_ble_eq_true rfl, Nat.le_of_ble_eq_true rfl⟩ ⟨Nat.le_refl _, Nat.le_refl _⟩ rfl rfl (Nat.le_of_ble_eq_true rfl) d_X11_whole_34 (fun H locs hw => ?_)
  refine lv_i2l hx hb d_X11_whole_37 rfl ?_
  obtain ⟨q11, e12, h⟩ := bd_some h
  refine r_callV (As := [.long q9.toInt64]) (rest := []) (st' := []) X hw hl mwX9_add wd_424 wd_425 wd_423 (c_X9_add hf e12) (r_recv X hw ct6 (o_3 hf)) rfl ⟨Nat.le_of_ble_eq_true rfl, Nat.le_of_ble_eq_true rfl⟩ ⟨Nat.le_refl _, Nat.le_refl _⟩ rfl rfl (Nat.le_of_ble_eq_true rfl) d_X11_whole_38 (fun H locs hw => ?_)
  refine lv_aload_n hx hb d_X11_whole_41 rfl (lv_at hl 1 rfl) ?_
  refine r_getr (j := 1) X hw ct7 (o_0 hf) rfl (Nat.le_of_ble_eq_true rfl) (q := 3) rfl wd_265 d_X11_whole_42 ?_
  refine lv_aload_n hx hb d_X11_whole_45 rfl (lv_at hl 1 rfl) ?_
  refine r_getr (j := 2) X hw ct7 (o_0 hf) rfl (Nat.le_of_ble_eq_true rfl) (q := 32) rfl wd_266 d_X11_whole_46 ?_
  obtain ⟨q13, e14, h⟩ := bd_some h
  refine r_callS (As := [.ref (ga G 32)]) (rest := [.ref (ga G 3)]) (st' := [.int q13, .ref (ga G 3)]) X hw hl mwX10_ties wd_582 wd_581 (c_X10_ties hf b_32 e14) rfl ⟨Nat.le_of_ble_eq_true rfl, Nat.le_of_ble_eq_true rfl⟩ ⟨Nat.le_refl _, Nat.le_refl _⟩ rfl rfl (Nat.le_of_ble_eq_true rfl) d_X11_whole_49 (fun H locs hw => ?_)
  refine lv_i2l hx hb d_X11_whole_52 rfl ?_
  obtain ⟨q15, e16, h⟩ := bd_some h
  refine r_callV (As := [.long q13.toInt64]) (rest := []) (st' := []) X hw hl mwX9_add wd_424 wd_425 wd_423 (c_X9_add hf e16) (r_recv X hw ct6 (o_3 hf)) rfl ⟨Nat.le_of_ble_eq_true rfl, Nat.le_of_ble_eq_true rfl⟩ ⟨Nat.le_refl _, Nat.le_refl _⟩ rfl rfl (Nat.le_of_ble_eq_true rfl) d_X11_whole_53 (fun H locs hw => ?_)
  refine lv_iload_n hx hb d_X11_whole_56 rfl (lv_at hl 0 rfl) ?_
  obtain rfl := Option.some.inj h
  subst hQ
  exact r_iret X hr hlk hw d_X11_whole_57
abbrev yX11_middle : MethodName := ⟨"OysterBeds", "middle", "()I"⟩
theorem mwX11_middle : MW yX11_middle prog_1_method_27_code 3 (some .int) 0 := ⟨wd_587, wd_1, by decide +kernel⟩
theorem d_X11_middle_0 : decode prog_1_method_27_code 0 = .ok (.iconst 0, 1) := by decide +kernel
theorem d_X11_middle_1 : decode prog_1_method_27_code 1 = .ok (.istore_n 1, 1) := by decide +kernel
theorem d_X11_middle_2 : decode prog_1_method_27_code 2 = .ok (.iconst 1, 1) := by decide +kernel
theorem d_X11_middle_3 : decode prog_1_method_27_code 3 = .ok (.istore_n 2, 1) := by decide +kernel
theorem d_X11_middle_4 : decode prog_1_method_27_code 4 = .ok (.iload_n 2, 1) := by decide +kernel
theorem d_X11_middle_5 : decode prog_1_method_27_code 5 = .ok (.bipush 16, 2) := by decide +kernel
theorem d_X11_middle_7 : decode prog_1_method_27_code 7 = .ok (.if_icmp .ge 30, 3) := by decide +kernel
theorem d_X11_middle_10 : decode prog_1_method_27_code 10 = .ok (.aload_n 0, 1) := by decide +kernel
theorem d_X11_middle_11 : decode prog_1_method_27_code 11 = .ok (.getfield 26, 3) := by decide +kernel
theorem d_X11_middle_14 : decode prog_1_method_27_code 14 = .ok (.iload_n 2, 1) := by decide +kernel
theorem d_X11_middle_15 : decode prog_1_method_27_code 15 = .ok (.invokestatic 246, 3) := by decide +kernel
theorem d_X11_middle_18 : decode prog_1_method_27_code 18 = .ok (.aload_n 0, 1) := by decide +kernel
theorem d_X11_middle_19 : decode prog_1_method_27_code 19 = .ok (.getfield 26, 3) := by decide +kernel
theorem d_X11_middle_22 : decode prog_1_method_27_code 22 = .ok (.iload_n 1, 1) := by decide +kernel
theorem d_X11_middle_23 : decode prog_1_method_27_code 23 = .ok (.invokestatic 246, 3) := by decide +kernel
theorem d_X11_middle_26 : decode prog_1_method_27_code 26 = .ok (.if_icmp .ge 5, 3) := by decide +kernel
theorem d_X11_middle_29 : decode prog_1_method_27_code 29 = .ok (.iload_n 2, 1) := by decide +kernel
theorem d_X11_middle_30 : decode prog_1_method_27_code 30 = .ok (.istore_n 1, 1) := by decide +kernel
theorem d_X11_middle_31 : decode prog_1_method_27_code 31 = .ok (.iinc 2 1, 3) := by decide +kernel
theorem d_X11_middle_34 : decode prog_1_method_27_code 34 = .ok (.goto (-30), 3) := by decide +kernel
theorem d_X11_middle_37 : decode prog_1_method_27_code 37 = .ok (.aload_n 0, 1) := by decide +kernel
theorem d_X11_middle_38 : decode prog_1_method_27_code 38 = .ok (.getfield 19, 3) := by decide +kernel
theorem d_X11_middle_41 : decode prog_1_method_27_code 41 = .ok (.invokevirtual 156, 3) := by decide +kernel
theorem d_X11_middle_44 : decode prog_1_method_27_code 44 = .ok (.aload_n 0, 1) := by decide +kernel
theorem d_X11_middle_45 : decode prog_1_method_27_code 45 = .ok (.getfield 19, 3) := by decide +kernel
theorem d_X11_middle_48 : decode prog_1_method_27_code 48 = .ok (.aload_n 0, 1) := by decide +kernel
theorem d_X11_middle_49 : decode prog_1_method_27_code 49 = .ok (.getfield 26, 3) := by decide +kernel
theorem d_X11_middle_52 : decode prog_1_method_27_code 52 = .ok (.iload_n 1, 1) := by decide +kernel
theorem d_X11_middle_53 : decode prog_1_method_27_code 53 = .ok (.invokestatic 246, 3) := by decide +kernel
theorem d_X11_middle_56 : decode prog_1_method_27_code 56 = .ok (.i2l, 1) := by decide +kernel
theorem d_X11_middle_57 : decode prog_1_method_27_code 57 = .ok (.invokevirtual 159, 3) := by decide +kernel
theorem d_X11_middle_60 : decode prog_1_method_27_code 60 = .ok (.aload_n 0, 1) := by decide +kernel
theorem d_X11_middle_61 : decode prog_1_method_27_code 61 = .ok (.getfield 19, 3) := by decide +kernel
theorem d_X11_middle_64 : decode prog_1_method_27_code 64 = .ok (.aload_n 0, 1) := by decide +kernel
theorem d_X11_middle_65 : decode prog_1_method_27_code 65 = .ok (.getfield 26, 3) := by decide +kernel
theorem d_X11_middle_68 : decode prog_1_method_27_code 68 = .ok (.iload_n 1, 1) := by decide +kernel
theorem d_X11_middle_69 : decode prog_1_method_27_code 69 = .ok (.invokestatic 249, 3) := by decide +kernel
theorem d_X11_middle_72 : decode prog_1_method_27_code 72 = .ok (.i2l, 1) := by decide +kernel
theorem d_X11_middle_73 : decode prog_1_method_27_code 73 = .ok (.invokevirtual 159, 3) := by decide +kernel
theorem d_X11_middle_76 : decode prog_1_method_27_code 76 = .ok (.iload_n 1, 1) := by decide +kernel
theorem d_X11_middle_77 : decode prog_1_method_27_code 77 = .ok (.ireturn, 1) := by decide +kernel
def f_X11_middle_j31_4 (τ : St) (x1 : Int32) (x2 : Int32) : Option ((Int32 × Int32) ⊕ (Int32)) := some (.inl (x1, (x2 + (1 : Int32))))
def f_X11_middle_s4 (τ : St) (x1 : Int32) (x2 : Int32) : Option ((Int32 × Int32) ⊕ (Int32)) := (if (16 : Int32) ≤ x2 then some (.inr x1) else (f_X10_farFromAll τ 32 x2).bind (fun q1 => (f_X10_farFromAll τ 32 x1).bind (fun q3 => f_X11_middle_j31_4 τ (if q3 ≤ q1 then x1 else x2) x2)))
def f_X11_middle (χ : St) : Option (Int32 × St) := (iter (fun z => f_X11_middle_s4 χ z.1 z.2) FU ((0 : Int32), (1 : Int32))).bind (fun z5 => (f_X9_start χ).bind (fun q8 => (f_X10_farFromAll q8 32 z5).bind (fun q10 => (f_X9_add q8 q10.toInt64).bind (fun q12 => (f_X10_farthestFrom q12 32 z5).bind (fun q14 => (f_X9_add q12 q14.toInt64).bind (fun q16 => some (z5, q16)))))))
theorem c_X11_middle {l : Launch} {G : gT} {χ σ : St} (hf : FW G) {q : Int32 × St} (h : f_X11_middle χ = some q) : Ct l G yX11_middle prog_1_method_27_code 3 (some .int) 2 44 [.ref (ga G 0)] χ σ (some (.int q.1)) q.2 σ := by
  refine Ct.of (by decide) (Nat.le_of_ble_eq_true rfl) ?_
  intro p e s m args below meth c Q X hr hlk hQ
  have hx := X.1
  have hb := X.2.1
  have j31_4 : ∀ (τ : St) (x1 : Int32) (x2 : Int32) (o : (Int32 × Int32) ⊕ (Int32)), f_X11_middle_j31_4 τ x1 x2 = some o → Sum.elim (fun z : Int32 × Int32 => Wat p l e (rmk 2 44) s m args below meth c Q G 3 4 [] [(1, .int z.1), (2, .int z.2), (0, .ref (ga G 0))] τ σ) (fun z : Int32 => Wat p l e (rmk 2 44) s m args below meth c Q G 3 37 [] [(0, .ref (ga G 0)), (1, .int z)] τ σ) o → Wat p l e (rmk 2 44) s m args below meth c Q G 3 31 [] [(0, .ref (ga G 0)), (1, .int x1), (2, .int x2)] τ σ := by
    intro τ x1 x2 o h hk H locs ls hw hl
    unfold f_X11_middle_j31_4 at h
    refine lv_iinc (v := (x2 + (1 : Int32))) (k := 2) (lv' := [(2, .int (x2 + (1 : Int32))), (0, .ref (ga G 0)), (1, .int x1)]) hx hb d_X11_middle_31 hl rfl (by rfl) (Nat.le_of_ble_eq_true rfl) rfl (fun ls hl => ?_)
    refine lv_goto (tgt := 4) hx hb d_X11_middle_34 (by decide) ?_
    obtain rfl := Option.some.inj h
    dsimp only [Sum.elim_inl] at hk
    exact hk _ _ _ hw (lv_sub hl [2, 0, 1] rfl)
  have b4 : ∀ (τ : St) (x1 : Int32) (x2 : Int32) (o : (Int32 × Int32) ⊕ (Int32)), f_X11_middle_s4 τ x1 x2 = some o → Sum.elim (fun z : Int32 × Int32 => Wat p l e (rmk 2 44) s m args below meth c Q G 3 4 [] [(1, .int z.1), (2, .int z.2), (0, .ref (ga G 0))] τ σ) (fun z : Int32 => Wat p l e (rmk 2 44) s m args below meth c Q G 3 37 [] [(0, .ref (ga G 0)), (1, .int z)] τ σ) o → Wat p l e (rmk 2 44) s m args below meth c Q G 3 4 [] [(1, .int x1), (2, .int x2), (0, .ref (ga G 0))] τ σ := by
    intro τ x1 x2 o h hk H locs ls hw hl
    unfold f_X11_middle_s4 at h
    refine lv_iload_n hx hb d_X11_middle_4 rfl (lv_at hl 1 rfl) ?_
    refine lv_bipush (v := (16 : Int32)) hx hb d_X11_middle_5 (by decide) ?_
    refine lv_icmp_ge (tgt := 37) hx hb d_X11_middle_7 (by decide) (fun hc => ?_) (fun hc => ?_)
    · have h := ite_t h hc
      obtain rfl := Option.some.inj h
      dsimp only [Sum.elim_inr] at hk
      exact hk _ _ _ hw (lv_sub hl [2, 0] rfl)
    · have h := ite_f h hc
      refine lv_aload_n hx hb d_X11_middle_10 rfl (lv_at hl 2 rfl) ?_
      refine r_getr (j := 2) X hw ct7 (o_0 hf) rfl (Nat.le_of_ble_eq_true rfl) (q := 32) rfl wd_266 d_X11_middle_11 ?_
      refine lv_iload_n hx hb d_X11_middle_14 rfl (lv_at hl 1 rfl) ?_
      obtain ⟨q1, e2, h⟩ := bd_some h
      refine r_callS (As := [.ref (ga G 32), .int x2]) (rest := []) (st' := [.int q1]) X hw hl mwX10_farFromAll wd_589 wd_588 (c_X10_farFromAll hf b_32 e2) rfl ⟨Nat.le_of_ble_eq_true rfl, Nat.le_of_ble_eq_true rfl⟩ ⟨Nat.le_refl _, Nat.le_refl _⟩ rfl rfl (Nat.le_of_ble_eq_true rfl) d_X11_middle_15 (fun H locs hw => ?_)
      refine lv_aload_n hx hb d_X11_middle_18 rfl (lv_at hl 2 rfl) ?_
      refine r_getr (j := 2) X hw ct7 (o_0 hf) rfl (Nat.le_of_ble_eq_true rfl) (q := 32) rfl wd_266 d_X11_middle_19 ?_
      refine lv_iload_n hx hb d_X11_middle_22 rfl (lv_at hl 0 rfl) ?_
      obtain ⟨q3, e4, h⟩ := bd_some h
      refine r_callS (As := [.ref (ga G 32), .int x1]) (rest := [.int q1]) (st' := [.int q3, .int q1]) X hw hl mwX10_farFromAll wd_589 wd_588 (c_X10_farFromAll hf b_32 e4) rfl ⟨Nat.le_of_ble_eq_true rfl, Nat.le_of_ble_eq_true rfl⟩ ⟨Nat.le_refl _, Nat.le_refl _⟩ rfl rfl (Nat.le_of_ble_eq_true rfl) d_X11_middle_23 (fun H locs hw => ?_)
      refine lv_icmp_ge (tgt := 31) hx hb d_X11_middle_26 (by decide) (fun hc => ?_) (fun hc => ?_)
      · simp only [if_pos hc] at h
        exact j31_4 τ x1 x2 o h hk _ _ _ hw (lv_sub hl [2, 0, 1] rfl)
      · simp only [if_neg hc] at h
        refine lv_iload_n hx hb d_X11_middle_29 rfl (lv_at hl 1 rfl) ?_
        refine lv_istore_n (lv' := [(1, .int x2), (2, .int x2), (0, .ref (ga G 0))]) hx hb d_X11_middle_30 rfl hl (Nat.le_of_ble_eq_true rfl) rfl (fun ls hl => ?_)
        exact j31_4 τ x2 x2 o h hk _ _ _ hw (lv_sub hl [2, 0, 1] rfl)
  intro H locs ls hw hl
  have hl : lv_has ls 3 [(0, .ref (ga G 0))] := hl
  unfold f_X11_middle at h
  refine lv_iconst (v := (0 : Int32)) hx hb d_X11_middle_0 (by decide) ?_
  refine lv_istore_n (lv' := [(1, .int (0 : Int32)), (0, .ref (ga G 0))]) hx hb d_X11_middle_1 rfl hl (Nat.le_of_ble_eq_true rfl) rfl (fun ls hl => ?_)
  refine lv_iconst (v := (1 : Int32)) hx hb d_X11_middle_2 (by decide) ?_
  refine lv_istore_n (lv' := [(2, .int (1 : Int32)), (1, .int (0 : Int32)), (0, .ref (ga G 0))]) hx hb d_X11_middle_3 rfl hl (Nat.le_of_ble_eq_true rfl) rfl (fun ls hl => ?_)
  obtain ⟨z5, e6, h⟩ := bd_some h
  refine iter_w (Wh := fun z : Int32 × Int32 => Wat p l e (rmk 2 44) s m args below meth c Q G 3 4 [] [(1, .int z.1), (2, .int z.2), (0, .ref (ga G 0))] χ σ) (K := fun z : Int32 => Wat p l e (rmk 2 44) s m args below meth c Q G 3 37 [] [(0, .ref (ga G 0)), (1, .int z)] χ σ) (fun z o h1 h2 => b4 χ z.1 z.2 o h1 h2) FU _ _ e6 ?_ _ _ _ hw (lv_sub hl [1, 0, 2] rfl)
  intro H locs ls hw hl
  refine lv_aload_n hx hb d_X11_middle_37 rfl (lv_at hl 0 rfl) ?_
  refine r_getr (j := 1) X hw ct7 (o_0 hf) rfl (Nat.le_of_ble_eq_true rfl) (q := 3) rfl wd_265 d_X11_middle_38 ?_
  obtain ⟨q8, e9, h⟩ := bd_some h
  refine r_callV (As := []) (rest := []) (st' := []) X hw hl mwX9_start wd_420 wd_421 wd_419 (c_X9_start hf e9) (r_recv X hw ct6 (o_3 hf)) rfl ⟨Nat.le_of_ble_eq_true rfl, Nat.le_of_ble_eq_true rfl⟩ ⟨Nat.le_refl _, Nat.le_refl _⟩ rfl rfl (Nat.le_of_ble_eq_true rfl) d_X11_middle_41 (fun H locs hw => ?_)
  refine lv_aload_n hx hb d_X11_middle_44 rfl (lv_at hl 0 rfl) ?_
  refine r_getr (j := 1) X hw ct7 (o_0 hf) rfl (Nat.le_of_ble_eq_true rfl) (q := 3) rfl wd_265 d_X11_middle_45 ?_
  refine lv_aload_n hx hb d_X11_middle_48 rfl (lv_at hl 0 rfl) ?_
  refine r_getr (j := 2) X hw ct7 (o_0 hf) rfl (Nat.le_of_ble_eq_true rfl) (q := 32) rfl wd_266 d_X11_middle_49 ?_
  refine lv_iload_n hx hb d_X11_middle_52 rfl (lv_at hl 1 rfl) ?_
  obtain ⟨q10, e11, h⟩ := bd_some h
  refine r_callS (As := [.ref (ga G 32), .int z5]) (rest := [.ref (ga G 3)]) (st' := [.int q10, .ref (ga G 3)]) X hw hl mwX10_farFromAll wd_589 wd_588 (c_X10_farFromAll hf b_32 e11) rfl ⟨Nat.le_of_ble_eq_true rfl, Nat.le_of_ble_eq_true rfl⟩ ⟨Nat.le_refl _, Nat.le_refl _⟩ rfl rfl (Nat.le_of_ble_eq_true rfl) d_X11_middle_53 (fun H locs hw => ?_)
  refine lv_i2l hx hb d_X11_middle_56 rfl ?_
  obtain ⟨q12, e13, h⟩ := bd_some h
  refine r_callV (As := [.long q10.toInt64]) (rest := []) (st' := []) X hw hl mwX9_add wd_424 wd_425 wd_423 (c_X9_add hf e13) (r_recv X hw ct6 (o_3 hf)) rfl ⟨Nat.le_of_ble_eq_true rfl, Nat.le_of_ble_eq_true rfl⟩ ⟨Nat.le_refl _, Nat.le_refl _⟩ rfl rfl (Nat.le_of_ble_eq_true rfl) d_X11_middle_57 (fun H locs hw => ?_)
  refine lv_aload_n hx hb d_X11_middle_60 rfl (lv_at hl 0 rfl) ?_
  refine r_getr (j := 1) X hw ct7 (o_0 hf) rfl (Nat.le_of_ble_eq_true rfl) (q := 3) rfl wd_265 d_X11_middle_61 ?_
  refine lv_aload_n hx hb d_X11_middle_64 rfl (lv_at hl 0 rfl) ?_
  refine r_getr (j := 2) X hw ct7 (o_0 hf) rfl (Nat.le_of_ble_eq_true rfl) (q := 32) rfl wd_266 d_X11_middle_65 ?_
  refine lv_iload_n hx hb d_X11_middle_68 rfl (lv_at hl 1 rfl) ?_
  obtain ⟨q14, e15, h⟩ := bd_some h
  refine r_callS (As := [.ref (ga G 32), .int z5]) (rest := [.ref (ga G 3)]) (st' := [.int q14, .ref (ga G 3)]) X hw hl mwX10_farthestFrom wd_592 wd_591 (c_X10_farthestFrom hf b_32 e15) rfl ⟨Nat.le_of_ble_eq_true rfl, Nat.le_of_ble_eq_true rfl⟩ ⟨Nat.le_refl _, Nat.le_refl _⟩ rfl rfl (Nat.le_of_ble_eq_true rfl) d_X11_middle_69 (fun H locs hw => ?_)
  refine lv_i2l hx hb d_X11_middle_72 rfl ?_
  obtain ⟨q16, e17, h⟩ := bd_some h
  refine r_callV (As := [.long q14.toInt64]) (rest := []) (st' := []) X hw hl mwX9_add wd_424 wd_425 wd_423 (c_X9_add hf e17) (r_recv X hw ct6 (o_3 hf)) rfl ⟨Nat.le_of_ble_eq_true rfl, Nat.le_of_ble_eq_true rfl⟩ ⟨Nat.le_refl _, Nat.le_refl _⟩ rfl rfl (Nat.le_of_ble_eq_true rfl) d_X11_middle_73 (fun H locs hw => ?_)
  refine lv_iload_n hx hb d_X11_middle_76 rfl (lv_at hl 1 rfl) ?_
  obtain rfl := Option.some.inj h
  subst hQ
  exact r_iret X hr hlk hw d_X11_middle_77
abbrev yX11_nearest : MethodName := ⟨"OysterBeds", "nearest", "()I"⟩
theorem mwX11_nearest : MW yX11_nearest prog_1_method_28_code 7 (some .int) 0 := ⟨wd_598, wd_1, by decide +kernel⟩
theorem d_X11_nearest_0 : decode prog_1_method_28_code 0 = .ok (.iconst 5, 1) := by decide +kernel
theorem d_X11_nearest_1 : decode prog_1_method_28_code 1 = .ok (.istore_n 1, 1) := by decide +kernel
theorem d_X11_nearest_2 : decode prog_1_method_28_code 2 = .ok (.iconst 0, 1) := by decide +kernel
theorem d_X11_nearest_3 : decode prog_1_method_28_code 3 = .ok (.istore_n 2, 1) := by decide +kernel
theorem d_X11_nearest_4 : decode prog_1_method_28_code 4 = .ok (.iconst 0, 1) := by decide +kernel
theorem d_X11_nearest_5 : decode prog_1_method_28_code 5 = .ok (.istore_n 3, 1) := by decide +kernel
theorem d_X11_nearest_6 : decode prog_1_method_28_code 6 = .ok (.iconst 0, 1) := by decide +kernel
theorem d_X11_nearest_7 : decode prog_1_method_28_code 7 = .ok (.istore 4, 2) := by decide +kernel
theorem d_X11_nearest_9 : decode prog_1_method_28_code 9 = .ok (.iload 4, 2) := by decide +kernel
theorem d_X11_nearest_11 : decode prog_1_method_28_code 11 = .ok (.aload_n 0, 1) := by decide +kernel
theorem d_X11_nearest_12 : decode prog_1_method_28_code 12 = .ok (.getfield 26, 3) := by decide +kernel
theorem d_X11_nearest_15 : decode prog_1_method_28_code 15 = .ok (.getfield 76, 3) := by decide +kernel
theorem d_X11_nearest_18 : decode prog_1_method_28_code 18 = .ok (.if_icmp .ge 74, 3) := by decide +kernel
theorem d_X11_nearest_21 : decode prog_1_method_28_code 21 = .ok (.iload 4, 2) := by decide +kernel
theorem d_X11_nearest_23 : decode prog_1_method_28_code 23 = .ok (.iconst 1, 1) := by decide +kernel
theorem d_X11_nearest_24 : decode prog_1_method_28_code 24 = .ok (.iadd, 1) := by decide +kernel
theorem d_X11_nearest_25 : decode prog_1_method_28_code 25 = .ok (.istore 5, 2) := by decide +kernel
theorem d_X11_nearest_27 : decode prog_1_method_28_code 27 = .ok (.iload 5, 2) := by decide +kernel
theorem d_X11_nearest_29 : decode prog_1_method_28_code 29 = .ok (.aload_n 0, 1) := by decide +kernel
theorem d_X11_nearest_30 : decode prog_1_method_28_code 30 = .ok (.getfield 26, 3) := by decide +kernel
theorem d_X11_nearest_33 : decode prog_1_method_28_code 33 = .ok (.getfield 76, 3) := by decide +kernel
theorem d_X11_nearest_36 : decode prog_1_method_28_code 36 = .ok (.if_icmp .ge 50, 3) := by decide +kernel
theorem d_X11_nearest_39 : decode prog_1_method_28_code 39 = .ok (.aload_n 0, 1) := by decide +kernel
theorem d_X11_nearest_40 : decode prog_1_method_28_code 40 = .ok (.getfield 26, 3) := by decide +kernel
theorem d_X11_nearest_43 : decode prog_1_method_28_code 43 = .ok (.getfield 125, 3) := by decide +kernel
theorem d_X11_nearest_46 : decode prog_1_method_28_code 46 = .ok (.iload 4, 2) := by decide +kernel
theorem d_X11_nearest_48 : decode prog_1_method_28_code 48 = .ok (.iaload, 1) := by decide +kernel
theorem d_X11_nearest_49 : decode prog_1_method_28_code 49 = .ok (.aload_n 0, 1) := by decide +kernel
theorem d_X11_nearest_50 : decode prog_1_method_28_code 50 = .ok (.getfield 26, 3) := by decide +kernel
theorem d_X11_nearest_53 : decode prog_1_method_28_code 53 = .ok (.getfield 125, 3) := by decide +kernel
theorem d_X11_nearest_56 : decode prog_1_method_28_code 56 = .ok (.iload 5, 2) := by decide +kernel
theorem d_X11_nearest_58 : decode prog_1_method_28_code 58 = .ok (.iaload, 1) := by decide +kernel
theorem d_X11_nearest_59 : decode prog_1_method_28_code 59 = .ok (.ixor, 1) := by decide +kernel
theorem d_X11_nearest_60 : decode prog_1_method_28_code 60 = .ok (.invokestatic 166, 3) := by decide +kernel
theorem d_X11_nearest_63 : decode prog_1_method_28_code 63 = .ok (.istore 6, 2) := by decide +kernel
theorem d_X11_nearest_65 : decode prog_1_method_28_code 65 = .ok (.iload 6, 2) := by decide +kernel
theorem d_X11_nearest_67 : decode prog_1_method_28_code 67 = .ok (.iload_n 1, 1) := by decide +kernel
theorem d_X11_nearest_68 : decode prog_1_method_28_code 68 = .ok (.if_icmp .ge 12, 3) := by decide +kernel
theorem d_X11_nearest_71 : decode prog_1_method_28_code 71 = .ok (.iload 6, 2) := by decide +kernel
theorem d_X11_nearest_73 : decode prog_1_method_28_code 73 = .ok (.istore_n 1, 1) := by decide +kernel
theorem d_X11_nearest_74 : decode prog_1_method_28_code 74 = .ok (.iload 4, 2) := by decide +kernel
theorem d_X11_nearest_76 : decode prog_1_method_28_code 76 = .ok (.istore_n 2, 1) := by decide +kernel
theorem d_X11_nearest_77 : decode prog_1_method_28_code 77 = .ok (.iload 5, 2) := by decide +kernel
theorem d_X11_nearest_79 : decode prog_1_method_28_code 79 = .ok (.istore_n 3, 1) := by decide +kernel
theorem d_X11_nearest_80 : decode prog_1_method_28_code 80 = .ok (.iinc 5 1, 3) := by decide +kernel
theorem d_X11_nearest_83 : decode prog_1_method_28_code 83 = .ok (.goto (-56), 3) := by decide +kernel
theorem d_X11_nearest_86 : decode prog_1_method_28_code 86 = .ok (.iinc 4 1, 3) := by decide +kernel
theorem d_X11_nearest_89 : decode prog_1_method_28_code 89 = .ok (.goto (-80), 3) := by decide +kernel
theorem d_X11_nearest_92 : decode prog_1_method_28_code 92 = .ok (.iload_n 1, 1) := by decide +kernel
theorem d_X11_nearest_93 : decode prog_1_method_28_code 93 = .ok (.iconst 4, 1) := by decide +kernel
theorem d_X11_nearest_94 : decode prog_1_method_28_code 94 = .ok (.if_icmp .le 6, 3) := by decide +kernel
theorem d_X11_nearest_97 : decode prog_1_method_28_code 97 = .ok (.bipush (-2), 2) := by decide +kernel
theorem d_X11_nearest_99 : decode prog_1_method_28_code 99 = .ok (.ireturn, 1) := by decide +kernel
theorem d_X11_nearest_100 : decode prog_1_method_28_code 100 = .ok (.aload_n 0, 1) := by decide +kernel
theorem d_X11_nearest_101 : decode prog_1_method_28_code 101 = .ok (.getfield 19, 3) := by decide +kernel
theorem d_X11_nearest_104 : decode prog_1_method_28_code 104 = .ok (.invokevirtual 156, 3) := by decide +kernel
theorem d_X11_nearest_107 : decode prog_1_method_28_code 107 = .ok (.aload_n 0, 1) := by decide +kernel
theorem d_X11_nearest_108 : decode prog_1_method_28_code 108 = .ok (.getfield 19, 3) := by decide +kernel
theorem d_X11_nearest_111 : decode prog_1_method_28_code 111 = .ok (.iload_n 2, 1) := by decide +kernel
theorem d_X11_nearest_112 : decode prog_1_method_28_code 112 = .ok (.i2l, 1) := by decide +kernel
theorem d_X11_nearest_113 : decode prog_1_method_28_code 113 = .ok (.invokevirtual 159, 3) := by decide +kernel
theorem d_X11_nearest_116 : decode prog_1_method_28_code 116 = .ok (.aload_n 0, 1) := by decide +kernel
theorem d_X11_nearest_117 : decode prog_1_method_28_code 117 = .ok (.getfield 19, 3) := by decide +kernel
theorem d_X11_nearest_120 : decode prog_1_method_28_code 120 = .ok (.iload_n 3, 1) := by decide +kernel
theorem d_X11_nearest_121 : decode prog_1_method_28_code 121 = .ok (.i2l, 1) := by decide +kernel
theorem d_X11_nearest_122 : decode prog_1_method_28_code 122 = .ok (.invokevirtual 159, 3) := by decide +kernel
theorem d_X11_nearest_125 : decode prog_1_method_28_code 125 = .ok (.iload_n 1, 1) := by decide +kernel
theorem d_X11_nearest_126 : decode prog_1_method_28_code 126 = .ok (.ireturn, 1) := by decide +kernel
def f_X11_nearest_j80_27 (τ : St) (x1 : Int32) (x2 : Int32) (x3 : Int32) (x4 : Int32) (x5 : Int32) : Option ((Int32 × Int32 × Int32 × Int32) ⊕ (Int32 × Int32 × Int32)) := some (.inl (x1, x2, x3, (x5 + (1 : Int32))))
def f_X11_nearest_s27 (τ : St) (y4 : Int32) (x1 : Int32) (x2 : Int32) (x3 : Int32) (x5 : Int32) : Option ((Int32 × Int32 × Int32 × Int32) ⊕ (Int32 × Int32 × Int32)) := (if (cF τ 32 5) ≤ x5 then some (.inr (x1, x2, x3)) else gd (inb y4 8) (gd (inb x5 8) ((f_J6_bitCount_0f7a4 ((cA τ 35 y4.toNatClampNeg) ^^^ (cA τ 35 x5.toNatClampNeg))).bind (fun q3 => f_X11_nearest_j80_27 τ (if x1 ≤ q3 then x1 else q3) (if x1 ≤ q3 then x2 else y4) (if x1 ≤ q3 then x3 else x5) y4 x5))))
def f_X11_nearest_s9 (τ : St) (x1 : Int32) (x2 : Int32) (x3 : Int32) (x4 : Int32) : Option ((Int32 × Int32 × Int32 × Int32) ⊕ (Int32 × Int32 × Int32)) := (if (cF τ 32 5) ≤ x4 then some (.inr (x1, x2, x3)) else (iter (fun z => f_X11_nearest_s27 τ x4 z.1 z.2.1 z.2.2.1 z.2.2.2) FU (x1, x2, x3, (x4 + (1 : Int32)))).bind (fun z5 => some (.inl (z5.1, z5.2.1, z5.2.2, (x4 + (1 : Int32))))))
def f_X11_nearest (χ : St) : Option (Int32 × St) := (iter (fun z => f_X11_nearest_s9 χ z.1 z.2.1 z.2.2.1 z.2.2.2) FU ((5 : Int32), (0 : Int32), (0 : Int32), (0 : Int32))).bind (fun z8 => (if z8.1 ≤ (4 : Int32) then (f_X9_start χ).bind (fun q11 => (f_X9_add q11 (z8.2.1).toInt64).bind (fun q13 => (f_X9_add q13 (z8.2.2).toInt64).bind (fun q15 => some (z8.1, q15)))) else some ((-2 : Int32), χ)))
theorem c_X11_nearest {l : Launch} {G : gT} {χ σ : St} (hf : FW G) {q : Int32 × St} (h : f_X11_nearest χ = some q) : Ct l G yX11_nearest prog_1_method_28_code 7 (some .int) 1 22 [.ref (ga G 0)] χ σ (some (.int q.1)) q.2 σ := by
  refine Ct.of (by decide) (Nat.le_of_ble_eq_true rfl) ?_
  intro p e s m args below meth c Q X hr hlk hQ
  have hx := X.1
  have hb := X.2.1
  have j80_27 : ∀ (τ : St) (x1 : Int32) (x2 : Int32) (x3 : Int32) (x4 : Int32) (x5 : Int32) (o : (Int32 × Int32 × Int32 × Int32) ⊕ (Int32 × Int32 × Int32)), f_X11_nearest_j80_27 τ x1 x2 x3 x4 x5 = some o → Sum.elim (fun z : Int32 × Int32 × Int32 × Int32 => Wat p l e (rmk 1 22) s m args below meth c Q G 7 27 [] [(1, .int z.1), (2, .int z.2.1), (3, .int z.2.2.1), (5, .int z.2.2.2), (0, .ref (ga G 0)), (4, .int x4)] τ σ) (fun z : Int32 × Int32 × Int32 => Wat p l e (rmk 1 22) s m args below meth c Q G 7 86 [] [(0, .ref (ga G 0)), (1, .int z.1), (2, .int z.2.1), (3, .int z.2.2), (4, .int x4)] τ σ) o → Wat p l e (rmk 1 22) s m args below meth c Q G 7 80 [] [(0, .ref (ga G 0)), (1, .int x1), (2, .int x2), (3, .int x3), (4, .int x4), (5, .int x5)] τ σ := by
    intro τ x1 x2 x3 x4 x5 o h hk H locs ls hw hl
    unfold f_X11_nearest_j80_27 at h
    refine lv_iinc (v := (x5 + (1 : Int32))) (k := 5) (lv' := [(5, .int (x5 + (1 : Int32))), (0, .ref (ga G 0)), (1, .int x1), (2, .int x2), (3, .int x3), (4, .int x4)]) hx hb d_X11_nearest_80 hl rfl (by rfl) (Nat.le_of_ble_eq_true rfl) rfl (fun ls hl => ?_)
    refine lv_goto (tgt := 27) hx hb d_X11_nearest_83 (by decide) ?_
    obtain rfl := Option.some.inj h
    dsimp only [Sum.elim_inl] at hk
    exact hk _ _ _ hw (lv_sub hl [2, 3, 4, 0, 1, 5] rfl)
  have b27 : ∀ (τ : St) (y4 : Int32) (x1 : Int32) (x2 : Int32) (x3 : Int32) (x5 : Int32) (o : (Int32 × Int32 × Int32 × Int32) ⊕ (Int32 × Int32 × Int32)), f_X11_nearest_s27 τ y4 x1 x2 x3 x5 = some o → Sum.elim (fun z : Int32 × Int32 × Int32 × Int32 => Wat p l e (rmk 1 22) s m args below meth c Q G 7 27 [] [(1, .int z.1), (2, .int z.2.1), (3, .int z.2.2.1), (5, .int z.2.2.2), (0, .ref (ga G 0)), (4, .int y4)] τ σ) (fun z : Int32 × Int32 × Int32 => Wat p l e (rmk 1 22) s m args below meth c Q G 7 86 [] [(0, .ref (ga G 0)), (1, .int z.1), (2, .int z.2.1), (3, .int z.2.2), (4, .int y4)] τ σ) o → Wat p l e (rmk 1 22) s m args below meth c Q G 7 27 [] [(1, .int x1), (2, .int x2), (3, .int x3), (5, .int x5), (0, .ref (ga G 0)), (4, .int y4)] τ σ := by
    intro τ y4 x1 x2 x3 x5 o h hk H locs ls hw hl
    unfold f_X11_nearest_s27 at h
    refine lv_iload hx hb d_X11_nearest_27 (lv_at hl 3 rfl) ?_
    refine lv_aload_n hx hb d_X11_nearest_29 rfl (lv_at hl 4 rfl) ?_
    refine r_getr (j := 2) X hw ct7 (o_0 hf) rfl (Nat.le_of_ble_eq_true rfl) (q := 32) rfl wd_266 d_X11_nearest_30 ?_
    refine r_getiN (j := 5) X hw ct0 (o_32 hf) (Nat.le_of_ble_eq_true rfl) rfl (Nat.le_of_ble_eq_true rfl) nw_23 d_X11_nearest_33 ?_
    refine lv_icmp_ge (tgt := 86) hx hb d_X11_nearest_36 (by decide) (fun hc => ?_) (fun hc => ?_)
    · have h := ite_t h hc
      obtain rfl := Option.some.inj h
      dsimp only [Sum.elim_inr] at hk
      exact hk _ _ _ hw (lv_sub hl [4, 0, 1, 2, 5] rfl)
    · have h := ite_f h hc
      refine lv_aload_n hx hb d_X11_nearest_39 rfl (lv_at hl 4 rfl) ?_
      refine r_getr (j := 2) X hw ct7 (o_0 hf) rfl (Nat.le_of_ble_eq_true rfl) (q := 32) rfl wd_266 d_X11_nearest_40 ?_
      refine r_getrN (j := 2) X hw ct0 (o_32 hf) rfl (Nat.le_of_ble_eq_true rfl) (q := 35) rfl nw_14 d_X11_nearest_43 ?_
      refine lv_iload hx hb d_X11_nearest_46 (lv_at hl 5 rfl) ?_
      obtain ⟨hi1, h⟩ := gd_some h
      refine r_iald X hw (o_35 hf) (Nat.le_of_ble_eq_true rfl) hi1 d_X11_nearest_48 ?_
      refine lv_aload_n hx hb d_X11_nearest_49 rfl (lv_at hl 4 rfl) ?_
      refine r_getr (j := 2) X hw ct7 (o_0 hf) rfl (Nat.le_of_ble_eq_true rfl) (q := 32) rfl wd_266 d_X11_nearest_50 ?_
      refine r_getrN (j := 2) X hw ct0 (o_32 hf) rfl (Nat.le_of_ble_eq_true rfl) (q := 35) rfl nw_14 d_X11_nearest_53 ?_
      refine lv_iload hx hb d_X11_nearest_56 (lv_at hl 3 rfl) ?_
      obtain ⟨hi2, h⟩ := gd_some h
      refine r_iald X hw (o_35 hf) (Nat.le_of_ble_eq_true rfl) hi2 d_X11_nearest_58 ?_
      refine lv_ixor hx hb d_X11_nearest_59 ?_
      obtain ⟨q3, e4, h⟩ := bd_some h
      refine r_callS (As := [.int ((cA τ 35 y4.toNatClampNeg) ^^^ (cA τ 35 x5.toNatClampNeg))]) (rest := []) (st' := [.int q3]) X hw hl mwJ6_bitCount_0f7a4 wd_436 wd_435 (c_J6_bitCount_0f7a4 e4) rfl ⟨Nat.le_of_ble_eq_true rfl, Nat.le_of_ble_eq_true rfl⟩ ⟨Nat.le_refl _, Nat.le_refl _⟩ rfl rfl (Nat.le_of_ble_eq_true rfl) d_X11_nearest_60 (fun H locs hw => ?_)
      refine lv_istore (lv' := [(6, .int q3), (1, .int x1), (2, .int x2), (3, .int x3), (5, .int x5), (0, .ref (ga G 0)), (4, .int y4)]) hx hb d_X11_nearest_63 hl (Nat.le_of_ble_eq_true rfl) rfl (fun ls hl => ?_)
      refine lv_iload hx hb d_X11_nearest_65 (lv_at hl 0 rfl) ?_
      refine lv_iload_n hx hb d_X11_nearest_67 rfl (lv_at hl 1 rfl) ?_
      refine lv_icmp_ge (tgt := 80) hx hb d_X11_nearest_68 (by decide) (fun hc => ?_) (fun hc => ?_)
      · simp only [if_pos hc] at h
        exact j80_27 τ x1 x2 x3 y4 x5 o h hk _ _ _ hw (lv_sub hl [5, 1, 2, 3, 6, 4] rfl)
      · simp only [if_neg hc] at h
        refine lv_iload hx hb d_X11_nearest_71 (lv_at hl 0 rfl) ?_
        refine lv_istore_n (lv' := [(1, .int q3), (6, .int q3), (2, .int x2), (3, .int x3), (5, .int x5), (0, .ref (ga G 0)), (4, .int y4)]) hx hb d_X11_nearest_73 rfl hl (Nat.le_of_ble_eq_true rfl) rfl (fun ls hl => ?_)
        refine lv_iload hx hb d_X11_nearest_74 (lv_at hl 6 rfl) ?_
        refine lv_istore_n (lv' := [(2, .int y4), (1, .int q3), (6, .int q3), (3, .int x3), (5, .int x5), (0, .ref (ga G 0)), (4, .int y4)]) hx hb d_X11_nearest_76 rfl hl (Nat.le_of_ble_eq_true rfl) rfl (fun ls hl => ?_)
        refine lv_iload hx hb d_X11_nearest_77 (lv_at hl 4 rfl) ?_
        refine lv_istore_n (lv' := [(3, .int x5), (2, .int y4), (1, .int q3), (6, .int q3), (5, .int x5), (0, .ref (ga G 0)), (4, .int y4)]) hx hb d_X11_nearest_79 rfl hl (Nat.le_of_ble_eq_true rfl) rfl (fun ls hl => ?_)
        exact j80_27 τ q3 y4 x5 y4 x5 o h hk _ _ _ hw (lv_sub hl [5, 2, 1, 0, 6, 4] rfl)
  have b9 : ∀ (τ : St) (x1 : Int32) (x2 : Int32) (x3 : Int32) (x4 : Int32) (o : (Int32 × Int32 × Int32 × Int32) ⊕ (Int32 × Int32 × Int32)), f_X11_nearest_s9 τ x1 x2 x3 x4 = some o → Sum.elim (fun z : Int32 × Int32 × Int32 × Int32 => Wat p l e (rmk 1 22) s m args below meth c Q G 7 9 [] [(1, .int z.1), (2, .int z.2.1), (3, .int z.2.2.1), (4, .int z.2.2.2), (0, .ref (ga G 0))] τ σ) (fun z : Int32 × Int32 × Int32 => Wat p l e (rmk 1 22) s m args below meth c Q G 7 92 [] [(0, .ref (ga G 0)), (1, .int z.1), (2, .int z.2.1), (3, .int z.2.2)] τ σ) o → Wat p l e (rmk 1 22) s m args below meth c Q G 7 9 [] [(1, .int x1), (2, .int x2), (3, .int x3), (4, .int x4), (0, .ref (ga G 0))] τ σ := by
    intro τ x1 x2 x3 x4 o h hk H locs ls hw hl
    unfold f_X11_nearest_s9 at h
    refine lv_iload hx hb d_X11_nearest_9 (lv_at hl 3 rfl) ?_
    refine lv_aload_n hx hb d_X11_nearest_11 rfl (lv_at hl 4 rfl) ?_
    refine r_getr (j := 2) X hw ct7 (o_0 hf) rfl (Nat.le_of_ble_eq_true rfl) (q := 32) rfl wd_266 d_X11_nearest_12 ?_
    refine r_getiN (j := 5) X hw ct0 (o_32 hf) (Nat.le_of_ble_eq_true rfl) rfl (Nat.le_of_ble_eq_true rfl) nw_23 d_X11_nearest_15 ?_
    refine lv_icmp_ge (tgt := 92) hx hb d_X11_nearest_18 (by decide) (fun hc => ?_) (fun hc => ?_)
    · have h := ite_t h hc
      obtain rfl := Option.some.inj h
      dsimp only [Sum.elim_inr] at hk
      exact hk _ _ _ hw (lv_sub hl [4, 0, 1, 2] rfl)
    · have h := ite_f h hc
      refine lv_iload hx hb d_X11_nearest_21 (lv_at hl 3 rfl) ?_
      refine lv_iconst (v := (1 : Int32)) hx hb d_X11_nearest_23 (by decide) ?_
      refine lv_iadd hx hb d_X11_nearest_24 ?_
      refine lv_istore (lv' := [(5, .int (x4 + (1 : Int32))), (1, .int x1), (2, .int x2), (3, .int x3), (4, .int x4), (0, .ref (ga G 0))]) hx hb d_X11_nearest_25 hl (Nat.le_of_ble_eq_true rfl) rfl (fun ls hl => ?_)
      obtain ⟨z5, e6, h⟩ := bd_some h
      refine iter_w (Wh := fun z : Int32 × Int32 × Int32 × Int32 => Wat p l e (rmk 1 22) s m args below meth c Q G 7 27 [] [(1, .int z.1), (2, .int z.2.1), (3, .int z.2.2.1), (5, .int z.2.2.2), (0, .ref (ga G 0)), (4, .int x4)] τ σ) (K := fun z : Int32 × Int32 × Int32 => Wat p l e (rmk 1 22) s m args below meth c Q G 7 86 [] [(0, .ref (ga G 0)), (1, .int z.1), (2, .int z.2.1), (3, .int z.2.2), (4, .int x4)] τ σ) (fun z o h1 h2 => b27 τ x4 z.1 z.2.1 z.2.2.1 z.2.2.2 o h1 h2) FU _ _ e6 ?_ _ _ _ hw (lv_sub hl [1, 2, 3, 0, 5, 4] rfl)
      intro H locs ls hw hl
      refine lv_iinc (v := (x4 + (1 : Int32))) (k := 4) (lv' := [(4, .int (x4 + (1 : Int32))), (0, .ref (ga G 0)), (1, .int z5.1), (2, .int z5.2.1), (3, .int z5.2.2)]) hx hb d_X11_nearest_86 hl rfl (by rfl) (Nat.le_of_ble_eq_true rfl) rfl (fun ls hl => ?_)
      refine lv_goto (tgt := 9) hx hb d_X11_nearest_89 (by decide) ?_
      obtain rfl := Option.some.inj h
      dsimp only [Sum.elim_inl] at hk
      exact hk _ _ _ hw (lv_sub hl [2, 3, 4, 0, 1] rfl)
  intro H locs ls hw hl
  have hl : lv_has ls 7 [(0, .ref (ga G 0))] := hl
  unfold f_X11_nearest at h
  refine lv_iconst (v := (5 : Int32)) hx hb d_X11_nearest_0 (by decide) ?_
  refine lv_istore_n (lv' := [(1, .int (5 : Int32)), (0, .ref (ga G 0))]) hx hb d_X11_nearest_1 rfl hl (Nat.le_of_ble_eq_true rfl) rfl (fun ls hl => ?_)
  refine lv_iconst (v := (0 : Int32)) hx hb d_X11_nearest_2 (by decide) ?_
  refine lv_istore_n (lv' := [(2, .int (0 : Int32)), (1, .int (5 : Int32)), (0, .ref (ga G 0))]) hx hb d_X11_nearest_3 rfl hl (Nat.le_of_ble_eq_true rfl) rfl (fun ls hl => ?_)
  refine lv_iconst (v := (0 : Int32)) hx hb d_X11_nearest_4 (by decide) ?_
  refine lv_istore_n (lv' := [(3, .int (0 : Int32)), (2, .int (0 : Int32)), (1, .int (5 : Int32)), (0, .ref (ga G 0))]) hx hb d_X11_nearest_5 rfl hl (Nat.le_of_ble_eq_true rfl) rfl (fun ls hl => ?_)
  refine lv_iconst (v := (0 : Int32)) hx hb d_X11_nearest_6 (by decide) ?_
  refine lv_istore (lv' := [(4, .int (0 : Int32)), (3, .int (0 : Int32)), (2, .int (0 : Int32)), (1, .int (5 : Int32)), (0, .ref (ga G 0))]) hx hb d_X11_nearest_7 hl (Nat.le_of_ble_eq_true rfl) rfl (fun ls hl => ?_)
  obtain ⟨z8, e9, h⟩ := bd_some h
  refine iter_w (Wh := fun z : Int32 × Int32 × Int32 × Int32 => Wat p l e (rmk 1 22) s m args below meth c Q G 7 9 [] [(1, .int z.1), (2, .int z.2.1), (3, .int z.2.2.1), (4, .int z.2.2.2), (0, .ref (ga G 0))] χ σ) (K := fun z : Int32 × Int32 × Int32 => Wat p l e (rmk 1 22) s m args below meth c Q G 7 92 [] [(0, .ref (ga G 0)), (1, .int z.1), (2, .int z.2.1), (3, .int z.2.2)] χ σ) (fun z o h1 h2 => b9 χ z.1 z.2.1 z.2.2.1 z.2.2.2 o h1 h2) FU _ _ e9 ?_ _ _ _ hw (lv_sub hl [3, 2, 1, 0, 4] rfl)
  intro H locs ls hw hl
  refine lv_iload_n hx hb d_X11_nearest_92 rfl (lv_at hl 1 rfl) ?_
  refine lv_iconst (v := (4 : Int32)) hx hb d_X11_nearest_93 (by decide) ?_
  refine lv_icmp_le (tgt := 100) hx hb d_X11_nearest_94 (by decide) (fun hc => ?_) (fun hc => ?_)
  · have h := ite_t h hc
    refine lv_aload_n hx hb d_X11_nearest_100 rfl (lv_at hl 0 rfl) ?_
    refine r_getr (j := 1) X hw ct7 (o_0 hf) rfl (Nat.le_of_ble_eq_true rfl) (q := 3) rfl wd_265 d_X11_nearest_101 ?_
    obtain ⟨q11, e12, h⟩ := bd_some h
    refine r_callV (As := []) (rest := []) (st' := []) X hw hl mwX9_start wd_420 wd_421 wd_419 (c_X9_start hf e12) (r_recv X hw ct6 (o_3 hf)) rfl ⟨Nat.le_of_ble_eq_true rfl, Nat.le_of_ble_eq_true rfl⟩ ⟨Nat.le_refl _, Nat.le_refl _⟩ rfl rfl (Nat.le_of_ble_eq_true rfl) d_X11_nearest_104 (fun H locs hw => ?_)
    refine lv_aload_n hx hb d_X11_nearest_107 rfl (lv_at hl 0 rfl) ?_
    refine r_getr (j := 1) X hw ct7 (o_0 hf) rfl (Nat.le_of_ble_eq_true rfl) (q := 3) rfl wd_265 d_X11_nearest_108 ?_
    refine lv_iload_n hx hb d_X11_nearest_111 rfl (lv_at hl 2 rfl) ?_
    refine lv_i2l hx hb d_X11_nearest_112 rfl ?_
    obtain ⟨q13, e14, h⟩ := bd_some h
    refine r_callV (As := [.long (z8.2.1).toInt64]) (rest := []) (st' := []) X hw hl mwX9_add wd_424 wd_425 wd_423 (c_X9_add hf e14) (r_recv X hw ct6 (o_3 hf)) rfl ⟨Nat.le_of_ble_eq_true rfl, Nat.le_of_ble_eq_true rfl⟩ ⟨Nat.le_refl _, Nat.le_refl _⟩ rfl rfl (Nat.le_of_ble_eq_true rfl) d_X11_nearest_113 (fun H locs hw => ?_)
    refine lv_aload_n hx hb d_X11_nearest_116 rfl (lv_at hl 0 rfl) ?_
    refine r_getr (j := 1) X hw ct7 (o_0 hf) rfl (Nat.le_of_ble_eq_true rfl) (q := 3) rfl wd_265 d_X11_nearest_117 ?_
    refine lv_iload_n hx hb d_X11_nearest_120 rfl (lv_at hl 3 rfl) ?_
    refine lv_i2l hx hb d_X11_nearest_121 rfl ?_
    obtain ⟨q15, e16, h⟩ := bd_some h
    refine r_callV (As := [.long (z8.2.2).toInt64]) (rest := []) (st' := []) X hw hl mwX9_add wd_424 wd_425 wd_423 (c_X9_add hf e16) (r_recv X hw ct6 (o_3 hf)) rfl ⟨Nat.le_of_ble_eq_true rfl, Nat.le_of_ble_eq_true rfl⟩ ⟨Nat.le_refl _, Nat.le_refl _⟩ rfl rfl (Nat.le_of_ble_eq_true rfl) d_X11_nearest_122 (fun H locs hw => ?_)
    refine lv_iload_n hx hb d_X11_nearest_125 rfl (lv_at hl 1 rfl) ?_
    obtain rfl := Option.some.inj h
    subst hQ
    exact r_iret X hr hlk hw d_X11_nearest_126
  · have h := ite_f h hc
    refine lv_bipush (v := (-2 : Int32)) hx hb d_X11_nearest_97 (by decide) ?_
    obtain rfl := Option.some.inj h
    subst hQ
    exact r_iret X hr hlk hw d_X11_nearest_99
abbrev yX11_sorts : MethodName := ⟨"OysterBeds", "sorts", "()I"⟩
theorem mwX11_sorts : MW yX11_sorts prog_1_method_29_code 6 (some .int) 0 := ⟨wd_602, wd_1, by decide +kernel⟩
theorem d_X11_sorts_0 : decode prog_1_method_29_code 0 = .ok (.iconst 0, 1) := by decide +kernel
theorem d_X11_sorts_1 : decode prog_1_method_29_code 1 = .ok (.istore_n 1, 1) := by decide +kernel
theorem d_X11_sorts_2 : decode prog_1_method_29_code 2 = .ok (.iconst 0, 1) := by decide +kernel
theorem d_X11_sorts_3 : decode prog_1_method_29_code 3 = .ok (.istore_n 2, 1) := by decide +kernel
theorem d_X11_sorts_4 : decode prog_1_method_29_code 4 = .ok (.iconst 0, 1) := by decide +kernel
theorem d_X11_sorts_5 : decode prog_1_method_29_code 5 = .ok (.istore_n 3, 1) := by decide +kernel
theorem d_X11_sorts_6 : decode prog_1_method_29_code 6 = .ok (.iload_n 3, 1) := by decide +kernel
theorem d_X11_sorts_7 : decode prog_1_method_29_code 7 = .ok (.aload_n 0, 1) := by decide +kernel
theorem d_X11_sorts_8 : decode prog_1_method_29_code 8 = .ok (.getfield 26, 3) := by decide +kernel
theorem d_X11_sorts_11 : decode prog_1_method_29_code 11 = .ok (.getfield 76, 3) := by decide +kernel
theorem d_X11_sorts_14 : decode prog_1_method_29_code 14 = .ok (.if_icmp .ge 68, 3) := by decide +kernel
theorem d_X11_sorts_17 : decode prog_1_method_29_code 17 = .ok (.aload_n 0, 1) := by decide +kernel
theorem d_X11_sorts_18 : decode prog_1_method_29_code 18 = .ok (.getfield 26, 3) := by decide +kernel
theorem d_X11_sorts_21 : decode prog_1_method_29_code 21 = .ok (.aload_n 0, 1) := by decide +kernel
theorem d_X11_sorts_22 : decode prog_1_method_29_code 22 = .ok (.getfield 26, 3) := by decide +kernel
theorem d_X11_sorts_25 : decode prog_1_method_29_code 25 = .ok (.getfield 125, 3) := by decide +kernel
theorem d_X11_sorts_28 : decode prog_1_method_29_code 28 = .ok (.iload_n 3, 1) := by decide +kernel
theorem d_X11_sorts_29 : decode prog_1_method_29_code 29 = .ok (.iaload, 1) := by decide +kernel
theorem d_X11_sorts_30 : decode prog_1_method_29_code 30 = .ok (.invokestatic 239, 3) := by decide +kernel
theorem d_X11_sorts_33 : decode prog_1_method_29_code 33 = .ok (.istore 4, 2) := by decide +kernel
theorem d_X11_sorts_35 : decode prog_1_method_29_code 35 = .ok (.iload 4, 2) := by decide +kernel
theorem d_X11_sorts_37 : decode prog_1_method_29_code 37 = .ok (.iconst 1, 1) := by decide +kernel
theorem d_X11_sorts_38 : decode prog_1_method_29_code 38 = .ok (.iload_n 3, 1) := by decide +kernel
theorem d_X11_sorts_39 : decode prog_1_method_29_code 39 = .ok (.ishl, 1) := by decide +kernel
theorem d_X11_sorts_40 : decode prog_1_method_29_code 40 = .ok (.iconst 1, 1) := by decide +kernel
theorem d_X11_sorts_41 : decode prog_1_method_29_code 41 = .ok (.isub, 1) := by decide +kernel
theorem d_X11_sorts_42 : decode prog_1_method_29_code 42 = .ok (.iand, 1) := by decide +kernel
theorem d_X11_sorts_43 : decode prog_1_method_29_code 43 = .ok (.ifCond .ne 7, 3) := by decide +kernel
theorem d_X11_sorts_46 : decode prog_1_method_29_code 46 = .ok (.iconst 1, 1) := by decide +kernel
theorem d_X11_sorts_47 : decode prog_1_method_29_code 47 = .ok (.goto 4, 3) := by decide +kernel
theorem d_X11_sorts_50 : decode prog_1_method_29_code 50 = .ok (.iconst 0, 1) := by decide +kernel
theorem d_X11_sorts_51 : decode prog_1_method_29_code 51 = .ok (.istore 5, 2) := by decide +kernel
theorem d_X11_sorts_53 : decode prog_1_method_29_code 53 = .ok (.iload 5, 2) := by decide +kernel
theorem d_X11_sorts_55 : decode prog_1_method_29_code 55 = .ok (.ifCond .eq 21, 3) := by decide +kernel
theorem d_X11_sorts_58 : decode prog_1_method_29_code 58 = .ok (.iinc 1 1, 3) := by decide +kernel
theorem d_X11_sorts_61 : decode prog_1_method_29_code 61 = .ok (.iload 4, 2) := by decide +kernel
theorem d_X11_sorts_63 : decode prog_1_method_29_code 63 = .ok (.invokestatic 166, 3) := by decide +kernel
theorem d_X11_sorts_66 : decode prog_1_method_29_code 66 = .ok (.iload_n 2, 1) := by decide +kernel
theorem d_X11_sorts_67 : decode prog_1_method_29_code 67 = .ok (.invokestatic 166, 3) := by decide +kernel
theorem d_X11_sorts_70 : decode prog_1_method_29_code 70 = .ok (.if_icmp .le 6, 3) := by decide +kernel
theorem d_X11_sorts_73 : decode prog_1_method_29_code 73 = .ok (.iload 4, 2) := by decide +kernel
theorem d_X11_sorts_75 : decode prog_1_method_29_code 75 = .ok (.istore_n 2, 1) := by decide +kernel
theorem d_X11_sorts_76 : decode prog_1_method_29_code 76 = .ok (.iinc 3 1, 3) := by decide +kernel
theorem d_X11_sorts_79 : decode prog_1_method_29_code 79 = .ok (.goto (-73), 3) := by decide +kernel
theorem d_X11_sorts_82 : decode prog_1_method_29_code 82 = .ok (.aload_n 0, 1) := by decide +kernel
theorem d_X11_sorts_83 : decode prog_1_method_29_code 83 = .ok (.getfield 19, 3) := by decide +kernel
theorem d_X11_sorts_86 : decode prog_1_method_29_code 86 = .ok (.invokevirtual 156, 3) := by decide +kernel
theorem d_X11_sorts_89 : decode prog_1_method_29_code 89 = .ok (.iload_n 1, 1) := by decide +kernel
theorem d_X11_sorts_90 : decode prog_1_method_29_code 90 = .ok (.ifCond .le 12, 3) := by decide +kernel
theorem d_X11_sorts_93 : decode prog_1_method_29_code 93 = .ok (.aload_n 0, 1) := by decide +kernel
theorem d_X11_sorts_94 : decode prog_1_method_29_code 94 = .ok (.getfield 19, 3) := by decide +kernel
theorem d_X11_sorts_97 : decode prog_1_method_29_code 97 = .ok (.iload_n 2, 1) := by decide +kernel
theorem d_X11_sorts_98 : decode prog_1_method_29_code 98 = .ok (.i2l, 1) := by decide +kernel
theorem d_X11_sorts_99 : decode prog_1_method_29_code 99 = .ok (.invokevirtual 159, 3) := by decide +kernel
theorem d_X11_sorts_102 : decode prog_1_method_29_code 102 = .ok (.iload_n 1, 1) := by decide +kernel
theorem d_X11_sorts_103 : decode prog_1_method_29_code 103 = .ok (.ireturn, 1) := by decide +kernel
def f_X11_sorts_j76_6 (τ : St) (x1 : Int32) (x2 : Int32) (x3 : Int32) : Option ((Int32 × Int32 × Int32) ⊕ (Int32 × Int32)) := some (.inl (x1, x2, (x3 + (1 : Int32))))
def f_X11_sorts_j51_6 (τ : St) (x1 : Int32) (x2 : Int32) (x3 : Int32) (x4 : Int32) (s0 : Int32) : Option ((Int32 × Int32 × Int32) ⊕ (Int32 × Int32)) := (if s0 = 0 then f_X11_sorts_j76_6 τ x1 x2 x3 else (f_J6_bitCount_0f7a4 x4).bind (fun q4 => (f_J6_bitCount_0f7a4 x2).bind (fun q6 => f_X11_sorts_j76_6 τ (x1 + (1 : Int32)) (if q4 ≤ q6 then x2 else x4) x3)))
def f_X11_sorts_s6 (τ : St) (x1 : Int32) (x2 : Int32) (x3 : Int32) : Option ((Int32 × Int32 × Int32) ⊕ (Int32 × Int32)) := (if (cF τ 32 5) ≤ x3 then some (.inr (x1, x2)) else gd (inb x3 8) ((f_X10_onesWith τ 32 (cA τ 35 x3.toNatClampNeg)).bind (fun q2 => f_X11_sorts_j51_6 τ x1 x2 x3 q2 (if (q2 &&& (((1 : Int32) <<< (x3 &&& 31)) - (1 : Int32))) = 0 then (1 : Int32) else (0 : Int32)))))
def f_X11_sorts (χ : St) : Option (Int32 × St) := (iter (fun z => f_X11_sorts_s6 χ z.1 z.2.1 z.2.2) FU ((0 : Int32), (0 : Int32), (0 : Int32))).bind (fun z8 => (f_X9_start χ).bind (fun q11 => (if z8.1 ≤ 0 then some (z8.1, q11) else (f_X9_add q11 (z8.2).toInt64).bind (fun q13 => some (z8.1, q13)))))
theorem c_X11_sorts {l : Launch} {G : gT} {χ σ : St} (hf : FW G) {q : Int32 × St} (h : f_X11_sorts χ = some q) : Ct l G yX11_sorts prog_1_method_29_code 6 (some .int) 1 23 [.ref (ga G 0)] χ σ (some (.int q.1)) q.2 σ := by
  refine Ct.of (by decide) (Nat.le_of_ble_eq_true rfl) ?_
  intro p e s m args below meth c Q X hr hlk hQ
  have hx := X.1
  have hb := X.2.1
  have j76_6 : ∀ (τ : St) (x1 : Int32) (x2 : Int32) (x3 : Int32) (o : (Int32 × Int32 × Int32) ⊕ (Int32 × Int32)), f_X11_sorts_j76_6 τ x1 x2 x3 = some o → Sum.elim (fun z : Int32 × Int32 × Int32 => Wat p l e (rmk 1 23) s m args below meth c Q G 6 6 [] [(1, .int z.1), (2, .int z.2.1), (3, .int z.2.2), (0, .ref (ga G 0))] τ σ) (fun z : Int32 × Int32 => Wat p l e (rmk 1 23) s m args below meth c Q G 6 82 [] [(0, .ref (ga G 0)), (1, .int z.1), (2, .int z.2)] τ σ) o → Wat p l e (rmk 1 23) s m args below meth c Q G 6 76 [] [(0, .ref (ga G 0)), (1, .int x1), (2, .int x2), (3, .int x3)] τ σ := by
    intro τ x1 x2 x3 o h hk H locs ls hw hl
    unfold f_X11_sorts_j76_6 at h
    refine lv_iinc (v := (x3 + (1 : Int32))) (k := 3) (lv' := [(3, .int (x3 + (1 : Int32))), (0, .ref (ga G 0)), (1, .int x1), (2, .int x2)]) hx hb d_X11_sorts_76 hl rfl (by rfl) (Nat.le_of_ble_eq_true rfl) rfl (fun ls hl => ?_)
    refine lv_goto (tgt := 6) hx hb d_X11_sorts_79 (by decide) ?_
    obtain rfl := Option.some.inj h
    dsimp only [Sum.elim_inl] at hk
    exact hk _ _ _ hw (lv_sub hl [2, 3, 0, 1] rfl)
  have j51_6 : ∀ (τ : St) (x1 : Int32) (x2 : Int32) (x3 : Int32) (x4 : Int32) (s0 : Int32) (o : (Int32 × Int32 × Int32) ⊕ (Int32 × Int32)), f_X11_sorts_j51_6 τ x1 x2 x3 x4 s0 = some o → Sum.elim (fun z : Int32 × Int32 × Int32 => Wat p l e (rmk 1 23) s m args below meth c Q G 6 6 [] [(1, .int z.1), (2, .int z.2.1), (3, .int z.2.2), (0, .ref (ga G 0))] τ σ) (fun z : Int32 × Int32 => Wat p l e (rmk 1 23) s m args below meth c Q G 6 82 [] [(0, .ref (ga G 0)), (1, .int z.1), (2, .int z.2)] τ σ) o → Wat p l e (rmk 1 23) s m args below meth c Q G 6 51 [.int s0] [(0, .ref (ga G 0)), (1, .int x1), (2, .int x2), (3, .int x3), (4, .int x4)] τ σ := by
    intro τ x1 x2 x3 x4 s0 o h hk H locs ls hw hl
    unfold f_X11_sorts_j51_6 at h
    refine lv_istore (lv' := [(5, .int s0), (0, .ref (ga G 0)), (1, .int x1), (2, .int x2), (3, .int x3), (4, .int x4)]) hx hb d_X11_sorts_51 hl (Nat.le_of_ble_eq_true rfl) rfl (fun ls hl => ?_)
    refine lv_iload hx hb d_X11_sorts_53 (lv_at hl 0 rfl) ?_
    refine lv_if_eq (tgt := 76) hx hb d_X11_sorts_55 (by decide) (fun hc => ?_) (fun hc => ?_)
    · have h := ite_t h hc
      exact j76_6 τ x1 x2 x3 o h hk _ _ _ hw (lv_sub hl [1, 2, 3, 4] rfl)
    · have h := ite_f h hc
      refine lv_iinc (v := (x1 + (1 : Int32))) (k := 2) (lv' := [(1, .int (x1 + (1 : Int32))), (5, .int s0), (0, .ref (ga G 0)), (2, .int x2), (3, .int x3), (4, .int x4)]) hx hb d_X11_sorts_58 hl rfl (by rfl) (Nat.le_of_ble_eq_true rfl) rfl (fun ls hl => ?_)
      refine lv_iload hx hb d_X11_sorts_61 (lv_at hl 5 rfl) ?_
      obtain ⟨q4, e5, h⟩ := bd_some h
      refine r_callS (As := [.int x4]) (rest := []) (st' := [.int q4]) X hw hl mwJ6_bitCount_0f7a4 wd_436 wd_435 (c_J6_bitCount_0f7a4 e5) rfl ⟨Nat.le_of_ble_eq_true rfl, Nat.le_of_ble_eq_true rfl⟩ ⟨Nat.le_refl _, Nat.le_refl _⟩ rfl rfl (Nat.le_of_ble_eq_true rfl) d_X11_sorts_63 (fun H locs hw => ?_)
      refine lv_iload_n hx hb d_X11_sorts_66 rfl (lv_at hl 3 rfl) ?_
      obtain ⟨q6, e7, h⟩ := bd_some h
      refine r_callS (As := [.int x2]) (rest := [.int q4]) (st' := [.int q6, .int q4]) X hw hl mwJ6_bitCount_0f7a4 wd_436 wd_435 (c_J6_bitCount_0f7a4 e7) rfl ⟨Nat.le_of_ble_eq_true rfl, Nat.le_of_ble_eq_true rfl⟩ ⟨Nat.le_refl _, Nat.le_refl _⟩ rfl rfl (Nat.le_of_ble_eq_true rfl) d_X11_sorts_67 (fun H locs hw => ?_)
      refine lv_icmp_le (tgt := 76) hx hb d_X11_sorts_70 (by decide) (fun hc => ?_) (fun hc => ?_)
      · simp only [if_pos hc] at h
        exact j76_6 τ (x1 + (1 : Int32)) x2 x3 o h hk _ _ _ hw (lv_sub hl [2, 0, 3, 4] rfl)
      · simp only [if_neg hc] at h
        refine lv_iload hx hb d_X11_sorts_73 (lv_at hl 5 rfl) ?_
        refine lv_istore_n (lv' := [(2, .int x4), (1, .int (x1 + (1 : Int32))), (5, .int s0), (0, .ref (ga G 0)), (3, .int x3), (4, .int x4)]) hx hb d_X11_sorts_75 rfl hl (Nat.le_of_ble_eq_true rfl) rfl (fun ls hl => ?_)
        exact j76_6 τ (x1 + (1 : Int32)) x4 x3 o h hk _ _ _ hw (lv_sub hl [3, 1, 0, 4] rfl)
  have b6 : ∀ (τ : St) (x1 : Int32) (x2 : Int32) (x3 : Int32) (o : (Int32 × Int32 × Int32) ⊕ (Int32 × Int32)), f_X11_sorts_s6 τ x1 x2 x3 = some o → Sum.elim (fun z : Int32 × Int32 × Int32 => Wat p l e (rmk 1 23) s m args below meth c Q G 6 6 [] [(1, .int z.1), (2, .int z.2.1), (3, .int z.2.2), (0, .ref (ga G 0))] τ σ) (fun z : Int32 × Int32 => Wat p l e (rmk 1 23) s m args below meth c Q G 6 82 [] [(0, .ref (ga G 0)), (1, .int z.1), (2, .int z.2)] τ σ) o → Wat p l e (rmk 1 23) s m args below meth c Q G 6 6 [] [(1, .int x1), (2, .int x2), (3, .int x3), (0, .ref (ga G 0))] τ σ := by
    intro τ x1 x2 x3 o h hk H locs ls hw hl
    unfold f_X11_sorts_s6 at h
    refine lv_iload_n hx hb d_X11_sorts_6 rfl (lv_at hl 2 rfl) ?_
    refine lv_aload_n hx hb d_X11_sorts_7 rfl (lv_at hl 3 rfl) ?_
    refine r_getr (j := 2) X hw ct7 (o_0 hf) rfl (Nat.le_of_ble_eq_true rfl) (q := 32) rfl wd_266 d_X11_sorts_8 ?_
    refine r_getiN (j := 5) X hw ct0 (o_32 hf) (Nat.le_of_ble_eq_true rfl) rfl (Nat.le_of_ble_eq_true rfl) nw_23 d_X11_sorts_11 ?_
    refine lv_icmp_ge (tgt := 82) hx hb d_X11_sorts_14 (by decide) (fun hc => ?_) (fun hc => ?_)
    · have h := ite_t h hc
      obtain rfl := Option.some.inj h
      dsimp only [Sum.elim_inr] at hk
      exact hk _ _ _ hw (lv_sub hl [3, 0, 1] rfl)
    · have h := ite_f h hc
      refine lv_aload_n hx hb d_X11_sorts_17 rfl (lv_at hl 3 rfl) ?_
      refine r_getr (j := 2) X hw ct7 (o_0 hf) rfl (Nat.le_of_ble_eq_true rfl) (q := 32) rfl wd_266 d_X11_sorts_18 ?_
      refine lv_aload_n hx hb d_X11_sorts_21 rfl (lv_at hl 3 rfl) ?_
      refine r_getr (j := 2) X hw ct7 (o_0 hf) rfl (Nat.le_of_ble_eq_true rfl) (q := 32) rfl wd_266 d_X11_sorts_22 ?_
      refine r_getrN (j := 2) X hw ct0 (o_32 hf) rfl (Nat.le_of_ble_eq_true rfl) (q := 35) rfl nw_14 d_X11_sorts_25 ?_
      refine lv_iload_n hx hb d_X11_sorts_28 rfl (lv_at hl 2 rfl) ?_
      obtain ⟨hi1, h⟩ := gd_some h
      refine r_iald X hw (o_35 hf) (Nat.le_of_ble_eq_true rfl) hi1 d_X11_sorts_29 ?_
      obtain ⟨q2, e3, h⟩ := bd_some h
      refine r_callS (As := [.ref (ga G 32), .int (cA τ 35 x3.toNatClampNeg)]) (rest := []) (st' := [.int q2]) X hw hl mwX10_onesWith wd_579 wd_578 (c_X10_onesWith hf b_32 e3) rfl ⟨Nat.le_of_ble_eq_true rfl, Nat.le_of_ble_eq_true rfl⟩ ⟨Nat.le_refl _, Nat.le_refl _⟩ rfl rfl (Nat.le_of_ble_eq_true rfl) d_X11_sorts_30 (fun H locs hw => ?_)
      refine lv_istore (lv' := [(4, .int q2), (1, .int x1), (2, .int x2), (3, .int x3), (0, .ref (ga G 0))]) hx hb d_X11_sorts_33 hl (Nat.le_of_ble_eq_true rfl) rfl (fun ls hl => ?_)
      refine lv_iload hx hb d_X11_sorts_35 (lv_at hl 0 rfl) ?_
      refine lv_iconst (v := (1 : Int32)) hx hb d_X11_sorts_37 (by decide) ?_
      refine lv_iload_n hx hb d_X11_sorts_38 rfl (lv_at hl 3 rfl) ?_
      refine lv_ishl hx hb d_X11_sorts_39 ?_
      refine lv_iconst (v := (1 : Int32)) hx hb d_X11_sorts_40 (by decide) ?_
      refine lv_isub hx hb d_X11_sorts_41 ?_
      refine lv_iand hx hb d_X11_sorts_42 ?_
      refine lv_if_ne (tgt := 50) hx hb d_X11_sorts_43 (by decide) (fun hc => ?_) (fun hc => ?_)
      · simp only [if_neg hc] at h
        refine lv_iconst (v := (0 : Int32)) hx hb d_X11_sorts_50 (by decide) ?_
        exact j51_6 τ x1 x2 x3 q2 (0 : Int32) o h hk _ _ _ hw (lv_sub hl [4, 1, 2, 3, 0] rfl)
      · simp only [if_pos hc] at h
        refine lv_iconst (v := (1 : Int32)) hx hb d_X11_sorts_46 (by decide) ?_
        refine lv_goto (tgt := 51) hx hb d_X11_sorts_47 (by decide) ?_
        exact j51_6 τ x1 x2 x3 q2 (1 : Int32) o h hk _ _ _ hw (lv_sub hl [4, 1, 2, 3, 0] rfl)
  intro H locs ls hw hl
  have hl : lv_has ls 6 [(0, .ref (ga G 0))] := hl
  unfold f_X11_sorts at h
  refine lv_iconst (v := (0 : Int32)) hx hb d_X11_sorts_0 (by decide) ?_
  refine lv_istore_n (lv' := [(1, .int (0 : Int32)), (0, .ref (ga G 0))]) hx hb d_X11_sorts_1 rfl hl (Nat.le_of_ble_eq_true rfl) rfl (fun ls hl => ?_)
  refine lv_iconst (v := (0 : Int32)) hx hb d_X11_sorts_2 (by decide) ?_
  refine lv_istore_n (lv' := [(2, .int (0 : Int32)), (1, .int (0 : Int32)), (0, .ref (ga G 0))]) hx hb d_X11_sorts_3 rfl hl (Nat.le_of_ble_eq_true rfl) rfl (fun ls hl => ?_)
  refine lv_iconst (v := (0 : Int32)) hx hb d_X11_sorts_4 (by decide) ?_
  refine lv_istore_n (lv' := [(3, .int (0 : Int32)), (2, .int (0 : Int32)), (1, .int (0 : Int32)), (0, .ref (ga G 0))]) hx hb d_X11_sorts_5 rfl hl (Nat.le_of_ble_eq_true rfl) rfl (fun ls hl => ?_)
  obtain ⟨z8, e9, h⟩ := bd_some h
  refine iter_w (Wh := fun z : Int32 × Int32 × Int32 => Wat p l e (rmk 1 23) s m args below meth c Q G 6 6 [] [(1, .int z.1), (2, .int z.2.1), (3, .int z.2.2), (0, .ref (ga G 0))] χ σ) (K := fun z : Int32 × Int32 => Wat p l e (rmk 1 23) s m args below meth c Q G 6 82 [] [(0, .ref (ga G 0)), (1, .int z.1), (2, .int z.2)] χ σ) (fun z o h1 h2 => b6 χ z.1 z.2.1 z.2.2 o h1 h2) FU _ _ e9 ?_ _ _ _ hw (lv_sub hl [2, 1, 0, 3] rfl)
  intro H locs ls hw hl
  refine lv_aload_n hx hb d_X11_sorts_82 rfl (lv_at hl 0 rfl) ?_
  refine r_getr (j := 1) X hw ct7 (o_0 hf) rfl (Nat.le_of_ble_eq_true rfl) (q := 3) rfl wd_265 d_X11_sorts_83 ?_
  obtain ⟨q11, e12, h⟩ := bd_some h
  refine r_callV (As := []) (rest := []) (st' := []) X hw hl mwX9_start wd_420 wd_421 wd_419 (c_X9_start hf e12) (r_recv X hw ct6 (o_3 hf)) rfl ⟨Nat.le_of_ble_eq_true rfl, Nat.le_of_ble_eq_true rfl⟩ ⟨Nat.le_refl _, Nat.le_refl _⟩ rfl rfl (Nat.le_of_ble_eq_true rfl) d_X11_sorts_86 (fun H locs hw => ?_)
  refine lv_iload_n hx hb d_X11_sorts_89 rfl (lv_at hl 1 rfl) ?_
  refine lv_if_le (tgt := 102) hx hb d_X11_sorts_90 (by decide) (fun hc => ?_) (fun hc => ?_)
  · have h := ite_t h hc
    refine lv_iload_n hx hb d_X11_sorts_102 rfl (lv_at hl 1 rfl) ?_
    obtain rfl := Option.some.inj h
    subst hQ
    exact r_iret X hr hlk hw d_X11_sorts_103
  · have h := ite_f h hc
    refine lv_aload_n hx hb d_X11_sorts_93 rfl (lv_at hl 0 rfl) ?_
    refine r_getr (j := 1) X hw ct7 (o_0 hf) rfl (Nat.le_of_ble_eq_true rfl) (q := 3) rfl wd_265 d_X11_sorts_94 ?_
    refine lv_iload_n hx hb d_X11_sorts_97 rfl (lv_at hl 2 rfl) ?_
    refine lv_i2l hx hb d_X11_sorts_98 rfl ?_
    obtain ⟨q13, e14, h⟩ := bd_some h
    refine r_callV (As := [.long (z8.2).toInt64]) (rest := []) (st' := []) X hw hl mwX9_add wd_424 wd_425 wd_423 (c_X9_add hf e14) (r_recv X hw ct6 (o_3 hf)) rfl ⟨Nat.le_of_ble_eq_true rfl, Nat.le_of_ble_eq_true rfl⟩ ⟨Nat.le_refl _, Nat.le_refl _⟩ rfl rfl (Nat.le_of_ble_eq_true rfl) d_X11_sorts_99 (fun H locs hw => ?_)
    refine lv_iload_n hx hb d_X11_sorts_102 rfl (lv_at hl 1 rfl) ?_
    obtain rfl := Option.some.inj h
    subst hQ
    exact r_iret X hr hlk hw d_X11_sorts_103
abbrev yX11_tells : MethodName := ⟨"OysterBeds", "tells", "()I"⟩
theorem mwX11_tells : MW yX11_tells prog_1_method_30_code 3 (some .int) 0 := ⟨wd_606, wd_1, by decide +kernel⟩
theorem d_X11_tells_0 : decode prog_1_method_30_code 0 = .ok (.bipush 15, 2) := by decide +kernel
theorem d_X11_tells_2 : decode prog_1_method_30_code 2 = .ok (.istore_n 1, 1) := by decide +kernel
theorem d_X11_tells_3 : decode prog_1_method_30_code 3 = .ok (.iconst 0, 1) := by decide +kernel
theorem d_X11_tells_4 : decode prog_1_method_30_code 4 = .ok (.istore_n 2, 1) := by decide +kernel
theorem d_X11_tells_5 : decode prog_1_method_30_code 5 = .ok (.iload_n 2, 1) := by decide +kernel
theorem d_X11_tells_6 : decode prog_1_method_30_code 6 = .ok (.bipush 16, 2) := by decide +kernel
theorem d_X11_tells_8 : decode prog_1_method_30_code 8 = .ok (.if_icmp .ge 33, 3) := by decide +kernel
theorem d_X11_tells_11 : decode prog_1_method_30_code 11 = .ok (.iload_n 2, 1) := by decide +kernel
theorem d_X11_tells_12 : decode prog_1_method_30_code 12 = .ok (.invokestatic 166, 3) := by decide +kernel
theorem d_X11_tells_15 : decode prog_1_method_30_code 15 = .ok (.iload_n 1, 1) := by decide +kernel
theorem d_X11_tells_16 : decode prog_1_method_30_code 16 = .ok (.invokestatic 166, 3) := by decide +kernel
theorem d_X11_tells_19 : decode prog_1_method_30_code 19 = .ok (.if_icmp .ge 16, 3) := by decide +kernel
theorem d_X11_tells_22 : decode prog_1_method_30_code 22 = .ok (.aload_n 0, 1) := by decide +kernel
theorem d_X11_tells_23 : decode prog_1_method_30_code 23 = .ok (.getfield 26, 3) := by decide +kernel
theorem d_X11_tells_26 : decode prog_1_method_30_code 26 = .ok (.iload_n 2, 1) := by decide +kernel
theorem d_X11_tells_27 : decode prog_1_method_30_code 27 = .ok (.invokestatic 252, 3) := by decide +kernel
theorem d_X11_tells_30 : decode prog_1_method_30_code 30 = .ok (.ifCond .eq 5, 3) := by decide +kernel
theorem d_X11_tells_33 : decode prog_1_method_30_code 33 = .ok (.iload_n 2, 1) := by decide +kernel
theorem d_X11_tells_34 : decode prog_1_method_30_code 34 = .ok (.istore_n 1, 1) := by decide +kernel
theorem d_X11_tells_35 : decode prog_1_method_30_code 35 = .ok (.iinc 2 1, 3) := by decide +kernel
theorem d_X11_tells_38 : decode prog_1_method_30_code 38 = .ok (.goto (-33), 3) := by decide +kernel
theorem d_X11_tells_41 : decode prog_1_method_30_code 41 = .ok (.aload_n 0, 1) := by decide +kernel
theorem d_X11_tells_42 : decode prog_1_method_30_code 42 = .ok (.getfield 19, 3) := by decide +kernel
theorem d_X11_tells_45 : decode prog_1_method_30_code 45 = .ok (.invokevirtual 156, 3) := by decide +kernel
theorem d_X11_tells_48 : decode prog_1_method_30_code 48 = .ok (.aload_n 0, 1) := by decide +kernel
theorem d_X11_tells_49 : decode prog_1_method_30_code 49 = .ok (.getfield 19, 3) := by decide +kernel
theorem d_X11_tells_52 : decode prog_1_method_30_code 52 = .ok (.iload_n 1, 1) := by decide +kernel
theorem d_X11_tells_53 : decode prog_1_method_30_code 53 = .ok (.i2l, 1) := by decide +kernel
theorem d_X11_tells_54 : decode prog_1_method_30_code 54 = .ok (.invokevirtual 159, 3) := by decide +kernel
theorem d_X11_tells_57 : decode prog_1_method_30_code 57 = .ok (.iload_n 1, 1) := by decide +kernel
theorem d_X11_tells_58 : decode prog_1_method_30_code 58 = .ok (.invokestatic 166, 3) := by decide +kernel
theorem d_X11_tells_61 : decode prog_1_method_30_code 61 = .ok (.ireturn, 1) := by decide +kernel
def f_X11_tells_j35_5 (τ : St) (x1 : Int32) (x2 : Int32) : Option ((Int32 × Int32) ⊕ (Int32)) := some (.inl (x1, (x2 + (1 : Int32))))
def f_X11_tells_s5 (τ : St) (x1 : Int32) (x2 : Int32) : Option ((Int32 × Int32) ⊕ (Int32)) := (if (16 : Int32) ≤ x2 then some (.inr x1) else (f_J6_bitCount_0f7a4 x2).bind (fun q1 => (f_J6_bitCount_0f7a4 x1).bind (fun q3 => (if q3 ≤ q1 then f_X11_tells_j35_5 τ x1 x2 else (f_X10_areToldBy τ 32 x2).bind (fun q5 => f_X11_tells_j35_5 τ (if q5 = 0 then x1 else x2) x2)))))
def f_X11_tells (χ : St) : Option (Int32 × St) := (iter (fun z => f_X11_tells_s5 χ z.1 z.2) FU ((15 : Int32), (0 : Int32))).bind (fun z7 => (f_X9_start χ).bind (fun q10 => (f_X9_add q10 z7.toInt64).bind (fun q12 => (f_J6_bitCount_0f7a4 z7).bind (fun q14 => some (q14, q12)))))
theorem c_X11_tells {l : Launch} {G : gT} {χ σ : St} (hf : FW G) {q : Int32 × St} (h : f_X11_tells χ = some q) : Ct l G yX11_tells prog_1_method_30_code 3 (some .int) 1 24 [.ref (ga G 0)] χ σ (some (.int q.1)) q.2 σ := by
  refine Ct.of (by decide) (Nat.le_of_ble_eq_true rfl) ?_
  intro p e s m args below meth c Q X hr hlk hQ
  have hx := X.1
  have hb := X.2.1
  have j35_5 : ∀ (τ : St) (x1 : Int32) (x2 : Int32) (o : (Int32 × Int32) ⊕ (Int32)), f_X11_tells_j35_5 τ x1 x2 = some o → Sum.elim (fun z : Int32 × Int32 => Wat p l e (rmk 1 24) s m args below meth c Q G 3 5 [] [(1, .int z.1), (2, .int z.2), (0, .ref (ga G 0))] τ σ) (fun z : Int32 => Wat p l e (rmk 1 24) s m args below meth c Q G 3 41 [] [(0, .ref (ga G 0)), (1, .int z)] τ σ) o → Wat p l e (rmk 1 24) s m args below meth c Q G 3 35 [] [(0, .ref (ga G 0)), (1, .int x1), (2, .int x2)] τ σ := by
    intro τ x1 x2 o h hk H locs ls hw hl
    unfold f_X11_tells_j35_5 at h
    refine lv_iinc (v := (x2 + (1 : Int32))) (k := 2) (lv' := [(2, .int (x2 + (1 : Int32))), (0, .ref (ga G 0)), (1, .int x1)]) hx hb d_X11_tells_35 hl rfl (by rfl) (Nat.le_of_ble_eq_true rfl) rfl (fun ls hl => ?_)
    refine lv_goto (tgt := 5) hx hb d_X11_tells_38 (by decide) ?_
    obtain rfl := Option.some.inj h
    dsimp only [Sum.elim_inl] at hk
    exact hk _ _ _ hw (lv_sub hl [2, 0, 1] rfl)
  have b5 : ∀ (τ : St) (x1 : Int32) (x2 : Int32) (o : (Int32 × Int32) ⊕ (Int32)), f_X11_tells_s5 τ x1 x2 = some o → Sum.elim (fun z : Int32 × Int32 => Wat p l e (rmk 1 24) s m args below meth c Q G 3 5 [] [(1, .int z.1), (2, .int z.2), (0, .ref (ga G 0))] τ σ) (fun z : Int32 => Wat p l e (rmk 1 24) s m args below meth c Q G 3 41 [] [(0, .ref (ga G 0)), (1, .int z)] τ σ) o → Wat p l e (rmk 1 24) s m args below meth c Q G 3 5 [] [(1, .int x1), (2, .int x2), (0, .ref (ga G 0))] τ σ := by
    intro τ x1 x2 o h hk H locs ls hw hl
    unfold f_X11_tells_s5 at h
    refine lv_iload_n hx hb d_X11_tells_5 rfl (lv_at hl 1 rfl) ?_
    refine lv_bipush (v := (16 : Int32)) hx hb d_X11_tells_6 (by decide) ?_
    refine lv_icmp_ge (tgt := 41) hx hb d_X11_tells_8 (by decide) (fun hc => ?_) (fun hc => ?_)
    · have h := ite_t h hc
      obtain rfl := Option.some.inj h
      dsimp only [Sum.elim_inr] at hk
      exact hk _ _ _ hw (lv_sub hl [2, 0] rfl)
    · have h := ite_f h hc
      refine lv_iload_n hx hb d_X11_tells_11 rfl (lv_at hl 1 rfl) ?_
      obtain ⟨q1, e2, h⟩ := bd_some h
      refine r_callS (As := [.int x2]) (rest := []) (st' := [.int q1]) X hw hl mwJ6_bitCount_0f7a4 wd_436 wd_435 (c_J6_bitCount_0f7a4 e2) rfl ⟨Nat.le_of_ble_eq_true rfl, Nat.le_of_ble_eq_true rfl⟩ ⟨Nat.le_refl _, Nat.le_refl _⟩ rfl rfl (Nat.le_of_ble_eq_true rfl) d_X11_tells_12 (fun H locs hw => ?_)
      refine lv_iload_n hx hb d_X11_tells_15 rfl (lv_at hl 0 rfl) ?_
      obtain ⟨q3, e4, h⟩ := bd_some h
      refine r_callS (As := [.int x1]) (rest := [.int q1]) (st' := [.int q3, .int q1]) X hw hl mwJ6_bitCount_0f7a4 wd_436 wd_435 (c_J6_bitCount_0f7a4 e4) rfl ⟨Nat.le_of_ble_eq_true rfl, Nat.le_of_ble_eq_true rfl⟩ ⟨Nat.le_refl _, Nat.le_refl _⟩ rfl rfl (Nat.le_of_ble_eq_true rfl) d_X11_tells_16 (fun H locs hw => ?_)
      refine lv_icmp_ge (tgt := 35) hx hb d_X11_tells_19 (by decide) (fun hc => ?_) (fun hc => ?_)
      · have h := ite_t h hc
        exact j35_5 τ x1 x2 o h hk _ _ _ hw (lv_sub hl [2, 0, 1] rfl)
      · have h := ite_f h hc
        refine lv_aload_n hx hb d_X11_tells_22 rfl (lv_at hl 2 rfl) ?_
        refine r_getr (j := 2) X hw ct7 (o_0 hf) rfl (Nat.le_of_ble_eq_true rfl) (q := 32) rfl wd_266 d_X11_tells_23 ?_
        refine lv_iload_n hx hb d_X11_tells_26 rfl (lv_at hl 1 rfl) ?_
        obtain ⟨q5, e6, h⟩ := bd_some h
        refine r_callS (As := [.ref (ga G 32), .int x2]) (rest := []) (st' := [.int q5]) X hw hl mwX10_areToldBy wd_608 wd_607 (c_X10_areToldBy hf b_32 e6) rfl ⟨Nat.le_of_ble_eq_true rfl, Nat.le_of_ble_eq_true rfl⟩ ⟨Nat.le_refl _, Nat.le_refl _⟩ rfl rfl (Nat.le_of_ble_eq_true rfl) d_X11_tells_27 (fun H locs hw => ?_)
        refine lv_if_eq (tgt := 35) hx hb d_X11_tells_30 (by decide) (fun hc => ?_) (fun hc => ?_)
        · simp only [if_pos hc] at h
          exact j35_5 τ x1 x2 o h hk _ _ _ hw (lv_sub hl [2, 0, 1] rfl)
        · simp only [if_neg hc] at h
          refine lv_iload_n hx hb d_X11_tells_33 rfl (lv_at hl 1 rfl) ?_
          refine lv_istore_n (lv' := [(1, .int x2), (2, .int x2), (0, .ref (ga G 0))]) hx hb d_X11_tells_34 rfl hl (Nat.le_of_ble_eq_true rfl) rfl (fun ls hl => ?_)
          exact j35_5 τ x2 x2 o h hk _ _ _ hw (lv_sub hl [2, 0, 1] rfl)
  intro H locs ls hw hl
  have hl : lv_has ls 3 [(0, .ref (ga G 0))] := hl
  unfold f_X11_tells at h
  refine lv_bipush (v := (15 : Int32)) hx hb d_X11_tells_0 (by decide) ?_
  refine lv_istore_n (lv' := [(1, .int (15 : Int32)), (0, .ref (ga G 0))]) hx hb d_X11_tells_2 rfl hl (Nat.le_of_ble_eq_true rfl) rfl (fun ls hl => ?_)
  refine lv_iconst (v := (0 : Int32)) hx hb d_X11_tells_3 (by decide) ?_
  refine lv_istore_n (lv' := [(2, .int (0 : Int32)), (1, .int (15 : Int32)), (0, .ref (ga G 0))]) hx hb d_X11_tells_4 rfl hl (Nat.le_of_ble_eq_true rfl) rfl (fun ls hl => ?_)
  obtain ⟨z7, e8, h⟩ := bd_some h
  refine iter_w (Wh := fun z : Int32 × Int32 => Wat p l e (rmk 1 24) s m args below meth c Q G 3 5 [] [(1, .int z.1), (2, .int z.2), (0, .ref (ga G 0))] χ σ) (K := fun z : Int32 => Wat p l e (rmk 1 24) s m args below meth c Q G 3 41 [] [(0, .ref (ga G 0)), (1, .int z)] χ σ) (fun z o h1 h2 => b5 χ z.1 z.2 o h1 h2) FU _ _ e8 ?_ _ _ _ hw (lv_sub hl [1, 0, 2] rfl)
  intro H locs ls hw hl
  refine lv_aload_n hx hb d_X11_tells_41 rfl (lv_at hl 0 rfl) ?_
  refine r_getr (j := 1) X hw ct7 (o_0 hf) rfl (Nat.le_of_ble_eq_true rfl) (q := 3) rfl wd_265 d_X11_tells_42 ?_
  obtain ⟨q10, e11, h⟩ := bd_some h
  refine r_callV (As := []) (rest := []) (st' := []) X hw hl mwX9_start wd_420 wd_421 wd_419 (c_X9_start hf e11) (r_recv X hw ct6 (o_3 hf)) rfl ⟨Nat.le_of_ble_eq_true rfl, Nat.le_of_ble_eq_true rfl⟩ ⟨Nat.le_refl _, Nat.le_refl _⟩ rfl rfl (Nat.le_of_ble_eq_true rfl) d_X11_tells_45 (fun H locs hw => ?_)
  refine lv_aload_n hx hb d_X11_tells_48 rfl (lv_at hl 0 rfl) ?_
  refine r_getr (j := 1) X hw ct7 (o_0 hf) rfl (Nat.le_of_ble_eq_true rfl) (q := 3) rfl wd_265 d_X11_tells_49 ?_
  refine lv_iload_n hx hb d_X11_tells_52 rfl (lv_at hl 1 rfl) ?_
  refine lv_i2l hx hb d_X11_tells_53 rfl ?_
  obtain ⟨q12, e13, h⟩ := bd_some h
  refine r_callV (As := [.long z7.toInt64]) (rest := []) (st' := []) X hw hl mwX9_add wd_424 wd_425 wd_423 (c_X9_add hf e13) (r_recv X hw ct6 (o_3 hf)) rfl ⟨Nat.le_of_ble_eq_true rfl, Nat.le_of_ble_eq_true rfl⟩ ⟨Nat.le_refl _, Nat.le_refl _⟩ rfl rfl (Nat.le_of_ble_eq_true rfl) d_X11_tells_54 (fun H locs hw => ?_)
  refine lv_iload_n hx hb d_X11_tells_57 rfl (lv_at hl 1 rfl) ?_
  obtain ⟨q14, e15, h⟩ := bd_some h
  refine r_callS (As := [.int z7]) (rest := []) (st' := [.int q14]) X hw hl mwJ6_bitCount_0f7a4 wd_436 wd_435 (c_J6_bitCount_0f7a4 e15) rfl ⟨Nat.le_of_ble_eq_true rfl, Nat.le_of_ble_eq_true rfl⟩ ⟨Nat.le_refl _, Nat.le_refl _⟩ rfl rfl (Nat.le_of_ble_eq_true rfl) d_X11_tells_58 (fun H locs hw => ?_)
  obtain rfl := Option.some.inj h
  subst hQ
  exact r_iret X hr hlk hw d_X11_tells_61
abbrev yX11_jury : MethodName := ⟨"OysterBeds", "jury", "()I"⟩
theorem mwX11_jury : MW yX11_jury prog_1_method_31_code 6 (some .int) 0 := ⟨wd_613, wd_1, by decide +kernel⟩
theorem d_X11_jury_0 : decode prog_1_method_31_code 0 = .ok (.aload_n 0, 1) := by decide +kernel
theorem d_X11_jury_1 : decode prog_1_method_31_code 1 = .ok (.getfield 26, 3) := by decide +kernel
theorem d_X11_jury_4 : decode prog_1_method_31_code 4 = .ok (.aload_n 0, 1) := by decide +kernel
theorem d_X11_jury_5 : decode prog_1_method_31_code 5 = .ok (.getfield 26, 3) := by decide +kernel
theorem d_X11_jury_8 : decode prog_1_method_31_code 8 = .ok (.invokevirtual 230, 3) := by decide +kernel
theorem d_X11_jury_11 : decode prog_1_method_31_code 11 = .ok (.invokestatic 233, 3) := by decide +kernel
theorem d_X11_jury_14 : decode prog_1_method_31_code 14 = .ok (.istore_n 1, 1) := by decide +kernel
theorem d_X11_jury_15 : decode prog_1_method_31_code 15 = .ok (.iconst 0, 1) := by decide +kernel
theorem d_X11_jury_16 : decode prog_1_method_31_code 16 = .ok (.istore_n 2, 1) := by decide +kernel
theorem d_X11_jury_17 : decode prog_1_method_31_code 17 = .ok (.iconst 1, 1) := by decide +kernel
theorem d_X11_jury_18 : decode prog_1_method_31_code 18 = .ok (.istore_n 3, 1) := by decide +kernel
theorem d_X11_jury_19 : decode prog_1_method_31_code 19 = .ok (.iload_n 3, 1) := by decide +kernel
theorem d_X11_jury_20 : decode prog_1_method_31_code 20 = .ok (.aload_n 0, 1) := by decide +kernel
theorem d_X11_jury_21 : decode prog_1_method_31_code 21 = .ok (.getfield 26, 3) := by decide +kernel
theorem d_X11_jury_24 : decode prog_1_method_31_code 24 = .ok (.invokevirtual 230, 3) := by decide +kernel
theorem d_X11_jury_27 : decode prog_1_method_31_code 27 = .ok (.if_icmp .gt 62, 3) := by decide +kernel
theorem d_X11_jury_30 : decode prog_1_method_31_code 30 = .ok (.iload_n 3, 1) := by decide +kernel
theorem d_X11_jury_31 : decode prog_1_method_31_code 31 = .ok (.invokestatic 166, 3) := by decide +kernel
theorem d_X11_jury_34 : decode prog_1_method_31_code 34 = .ok (.istore 4, 2) := by decide +kernel
theorem d_X11_jury_36 : decode prog_1_method_31_code 36 = .ok (.iload_n 2, 1) := by decide +kernel
theorem d_X11_jury_37 : decode prog_1_method_31_code 37 = .ok (.ifCond .eq 12, 3) := by decide +kernel
theorem d_X11_jury_40 : decode prog_1_method_31_code 40 = .ok (.iload 4, 2) := by decide +kernel
theorem d_X11_jury_42 : decode prog_1_method_31_code 42 = .ok (.iload_n 2, 1) := by decide +kernel
theorem d_X11_jury_43 : decode prog_1_method_31_code 43 = .ok (.invokestatic 166, 3) := by decide +kernel
theorem d_X11_jury_46 : decode prog_1_method_31_code 46 = .ok (.if_icmp .ge 7, 3) := by decide +kernel
theorem d_X11_jury_49 : decode prog_1_method_31_code 49 = .ok (.iconst 1, 1) := by decide +kernel
theorem d_X11_jury_50 : decode prog_1_method_31_code 50 = .ok (.goto 4, 3) := by decide +kernel
theorem d_X11_jury_53 : decode prog_1_method_31_code 53 = .ok (.iconst 0, 1) := by decide +kernel
theorem d_X11_jury_54 : decode prog_1_method_31_code 54 = .ok (.istore 5, 2) := by decide +kernel
theorem d_X11_jury_56 : decode prog_1_method_31_code 56 = .ok (.iload 4, 2) := by decide +kernel
theorem d_X11_jury_58 : decode prog_1_method_31_code 58 = .ok (.iconst 2, 1) := by decide +kernel
theorem d_X11_jury_59 : decode prog_1_method_31_code 59 = .ok (.irem, 1) := by decide +kernel
theorem d_X11_jury_60 : decode prog_1_method_31_code 60 = .ok (.iconst 1, 1) := by decide +kernel
theorem d_X11_jury_61 : decode prog_1_method_31_code 61 = .ok (.if_icmp .ne 22, 3) := by decide +kernel
theorem d_X11_jury_64 : decode prog_1_method_31_code 64 = .ok (.iload 5, 2) := by decide +kernel
theorem d_X11_jury_66 : decode prog_1_method_31_code 66 = .ok (.ifCond .eq 17, 3) := by decide +kernel
theorem d_X11_jury_69 : decode prog_1_method_31_code 69 = .ok (.aload_n 0, 1) := by decide +kernel
theorem d_X11_jury_70 : decode prog_1_method_31_code 70 = .ok (.getfield 26, 3) := by decide +kernel
theorem d_X11_jury_73 : decode prog_1_method_31_code 73 = .ok (.iload_n 3, 1) := by decide +kernel
theorem d_X11_jury_74 : decode prog_1_method_31_code 74 = .ok (.invokestatic 233, 3) := by decide +kernel
theorem d_X11_jury_77 : decode prog_1_method_31_code 77 = .ok (.iload_n 1, 1) := by decide +kernel
theorem d_X11_jury_78 : decode prog_1_method_31_code 78 = .ok (.if_icmp .ne 5, 3) := by decide +kernel
theorem d_X11_jury_81 : decode prog_1_method_31_code 81 = .ok (.iload_n 3, 1) := by decide +kernel
theorem d_X11_jury_82 : decode prog_1_method_31_code 82 = .ok (.istore_n 2, 1) := by decide +kernel
theorem d_X11_jury_83 : decode prog_1_method_31_code 83 = .ok (.iinc 3 1, 3) := by decide +kernel
theorem d_X11_jury_86 : decode prog_1_method_31_code 86 = .ok (.goto (-67), 3) := by decide +kernel
theorem d_X11_jury_89 : decode prog_1_method_31_code 89 = .ok (.iload_n 2, 1) := by decide +kernel
theorem d_X11_jury_90 : decode prog_1_method_31_code 90 = .ok (.ifCond .ne 6, 3) := by decide +kernel
theorem d_X11_jury_93 : decode prog_1_method_31_code 93 = .ok (.bipush (-2), 2) := by decide +kernel
theorem d_X11_jury_95 : decode prog_1_method_31_code 95 = .ok (.ireturn, 1) := by decide +kernel
theorem d_X11_jury_96 : decode prog_1_method_31_code 96 = .ok (.aload_n 0, 1) := by decide +kernel
theorem d_X11_jury_97 : decode prog_1_method_31_code 97 = .ok (.getfield 19, 3) := by decide +kernel
theorem d_X11_jury_100 : decode prog_1_method_31_code 100 = .ok (.invokevirtual 156, 3) := by decide +kernel
theorem d_X11_jury_103 : decode prog_1_method_31_code 103 = .ok (.aload_n 0, 1) := by decide +kernel
theorem d_X11_jury_104 : decode prog_1_method_31_code 104 = .ok (.getfield 19, 3) := by decide +kernel
theorem d_X11_jury_107 : decode prog_1_method_31_code 107 = .ok (.iload_n 2, 1) := by decide +kernel
theorem d_X11_jury_108 : decode prog_1_method_31_code 108 = .ok (.i2l, 1) := by decide +kernel
theorem d_X11_jury_109 : decode prog_1_method_31_code 109 = .ok (.invokevirtual 159, 3) := by decide +kernel
theorem d_X11_jury_112 : decode prog_1_method_31_code 112 = .ok (.iload_n 2, 1) := by decide +kernel
theorem d_X11_jury_113 : decode prog_1_method_31_code 113 = .ok (.invokestatic 166, 3) := by decide +kernel
theorem d_X11_jury_116 : decode prog_1_method_31_code 116 = .ok (.ireturn, 1) := by decide +kernel
def f_X11_jury_j83_19 (τ : St) (x1 : Int32) (x2 : Int32) (x3 : Int32) : Option ((Int32 × Int32) ⊕ (Int32)) := some (.inl (x2, (x3 + (1 : Int32))))
def f_X11_jury_j54_19 (τ : St) (x1 : Int32) (x2 : Int32) (x3 : Int32) (x4 : Int32) (s0 : Int32) : Option ((Int32 × Int32) ⊕ (Int32)) := (if (x4 - x4 / (2 : Int32) * (2 : Int32)) = (1 : Int32) then (if s0 = 0 then f_X11_jury_j83_19 τ x1 x2 x3 else (f_X10_ofMost τ 32 x3).bind (fun q9 => f_X11_jury_j83_19 τ x1 (if q9 = x1 then x3 else x2) x3)) else f_X11_jury_j83_19 τ x1 x2 x3)
def f_X11_jury_j49_19 (τ : St) (x1 : Int32) (x2 : Int32) (x3 : Int32) (x4 : Int32) : Option ((Int32 × Int32) ⊕ (Int32)) := f_X11_jury_j54_19 τ x1 x2 x3 x4 (1 : Int32)
def f_X11_jury_s19 (τ : St) (y1 : Int32) (x2 : Int32) (x3 : Int32) : Option ((Int32 × Int32) ⊕ (Int32)) := (f_X0_all τ 32).bind (fun q5 => (if q5 < x3 then some (.inr x2) else (f_J6_bitCount_0f7a4 x3).bind (fun q7 => (if x2 = 0 then f_X11_jury_j49_19 τ y1 x2 x3 q7 else (f_J6_bitCount_0f7a4 x2).bind (fun q11 => (if q11 ≤ q7 then f_X11_jury_j54_19 τ y1 x2 x3 q7 (0 : Int32) else f_X11_jury_j49_19 τ y1 x2 x3 q7))))))
def f_X11_jury (χ : St) : Option (Int32 × St) := (f_X0_all χ 32).bind (fun q1 => (f_X10_ofMost χ 32 q1).bind (fun q3 => (iter (fun z => f_X11_jury_s19 χ q3 z.1 z.2) FU ((0 : Int32), (1 : Int32))).bind (fun z13 => (if z13 = 0 then some ((-2 : Int32), χ) else (f_X9_start χ).bind (fun q16 => (f_X9_add q16 z13.toInt64).bind (fun q18 => (f_J6_bitCount_0f7a4 z13).bind (fun q20 => some (q20, q18))))))))
theorem c_X11_jury {l : Launch} {G : gT} {χ σ : St} (hf : FW G) {q : Int32 × St} (h : f_X11_jury χ = some q) : Ct l G yX11_jury prog_1_method_31_code 6 (some .int) 2 46 [.ref (ga G 0)] χ σ (some (.int q.1)) q.2 σ := by
  refine Ct.of (by decide) (Nat.le_of_ble_eq_true rfl) ?_
  intro p e s m args below meth c Q X hr hlk hQ
  have hx := X.1
  have hb := X.2.1
  have j83_19 : ∀ (τ : St) (x1 : Int32) (x2 : Int32) (x3 : Int32) (o : (Int32 × Int32) ⊕ (Int32)), f_X11_jury_j83_19 τ x1 x2 x3 = some o → Sum.elim (fun z : Int32 × Int32 => Wat p l e (rmk 2 46) s m args below meth c Q G 6 19 [] [(2, .int z.1), (3, .int z.2), (0, .ref (ga G 0)), (1, .int x1)] τ σ) (fun z : Int32 => Wat p l e (rmk 2 46) s m args below meth c Q G 6 89 [] [(0, .ref (ga G 0)), (2, .int z)] τ σ) o → Wat p l e (rmk 2 46) s m args below meth c Q G 6 83 [] [(0, .ref (ga G 0)), (1, .int x1), (2, .int x2), (3, .int x3)] τ σ := by
    intro τ x1 x2 x3 o h hk H locs ls hw hl
    unfold f_X11_jury_j83_19 at h
    refine lv_iinc (v := (x3 + (1 : Int32))) (k := 3) (lv' := [(3, .int (x3 + (1 : Int32))), (0, .ref (ga G 0)), (1, .int x1), (2, .int x2)]) hx hb d_X11_jury_83 hl rfl (by rfl) (Nat.le_of_ble_eq_true rfl) rfl (fun ls hl => ?_)
    refine lv_goto (tgt := 19) hx hb d_X11_jury_86 (by decide) ?_
    obtain rfl := Option.some.inj h
    dsimp only [Sum.elim_inl] at hk
    exact hk _ _ _ hw (lv_sub hl [3, 0, 1, 2] rfl)
  have j54_19 : ∀ (τ : St) (x1 : Int32) (x2 : Int32) (x3 : Int32) (x4 : Int32) (s0 : Int32) (o : (Int32 × Int32) ⊕ (Int32)), f_X11_jury_j54_19 τ x1 x2 x3 x4 s0 = some o → Sum.elim (fun z : Int32 × Int32 => Wat p l e (rmk 2 46) s m args below meth c Q G 6 19 [] [(2, .int z.1), (3, .int z.2), (0, .ref (ga G 0)), (1, .int x1)] τ σ) (fun z : Int32 => Wat p l e (rmk 2 46) s m args below meth c Q G 6 89 [] [(0, .ref (ga G 0)), (2, .int z)] τ σ) o → Wat p l e (rmk 2 46) s m args below meth c Q G 6 54 [.int s0] [(0, .ref (ga G 0)), (1, .int x1), (2, .int x2), (3, .int x3), (4, .int x4)] τ σ := by
    intro τ x1 x2 x3 x4 s0 o h hk H locs ls hw hl
    unfold f_X11_jury_j54_19 at h
    refine lv_istore (lv' := [(5, .int s0), (0, .ref (ga G 0)), (1, .int x1), (2, .int x2), (3, .int x3), (4, .int x4)]) hx hb d_X11_jury_54 hl (Nat.le_of_ble_eq_true rfl) rfl (fun ls hl => ?_)
    refine lv_iload hx hb d_X11_jury_56 (lv_at hl 5 rfl) ?_
    refine lv_iconst (v := (2 : Int32)) hx hb d_X11_jury_58 (by decide) ?_
    refine lv_irem hx hb d_X11_jury_59 (by decide) ?_
    refine lv_iconst (v := (1 : Int32)) hx hb d_X11_jury_60 (by decide) ?_
    refine lv_icmp_ne (tgt := 83) hx hb d_X11_jury_61 (by decide) (fun hc => ?_) (fun hc => ?_)
    · have h := ite_f h hc
      exact j83_19 τ x1 x2 x3 o h hk _ _ _ hw (lv_sub hl [1, 2, 3, 4] rfl)
    · have h := ite_t h hc
      refine lv_iload hx hb d_X11_jury_64 (lv_at hl 0 rfl) ?_
      refine lv_if_eq (tgt := 83) hx hb d_X11_jury_66 (by decide) (fun hc => ?_) (fun hc => ?_)
      · have h := ite_t h hc
        exact j83_19 τ x1 x2 x3 o h hk _ _ _ hw (lv_sub hl [1, 2, 3, 4] rfl)
      · have h := ite_f h hc
        refine lv_aload_n hx hb d_X11_jury_69 rfl (lv_at hl 1 rfl) ?_
        refine r_getr (j := 2) X hw ct7 (o_0 hf) rfl (Nat.le_of_ble_eq_true rfl) (q := 32) rfl wd_266 d_X11_jury_70 ?_
        refine lv_iload_n hx hb d_X11_jury_73 rfl (lv_at hl 4 rfl) ?_
        obtain ⟨q9, e10, h⟩ := bd_some h
        refine r_callS (As := [.ref (ga G 32), .int x3]) (rest := []) (st' := [.int q9]) X hw hl mwX10_ofMost wd_574 wd_573 (c_X10_ofMost hf b_32 e10) rfl ⟨Nat.le_of_ble_eq_true rfl, Nat.le_of_ble_eq_true rfl⟩ ⟨Nat.le_refl _, Nat.le_refl _⟩ rfl rfl (Nat.le_of_ble_eq_true rfl) d_X11_jury_74 (fun H locs hw => ?_)
        refine lv_iload_n hx hb d_X11_jury_77 rfl (lv_at hl 2 rfl) ?_
        refine lv_icmp_ne (tgt := 83) hx hb d_X11_jury_78 (by decide) (fun hc => ?_) (fun hc => ?_)
        · simp only [if_neg hc] at h
          exact j83_19 τ x1 x2 x3 o h hk _ _ _ hw (lv_sub hl [1, 2, 3, 4] rfl)
        · simp only [if_pos hc] at h
          refine lv_iload_n hx hb d_X11_jury_81 rfl (lv_at hl 4 rfl) ?_
          refine lv_istore_n (lv' := [(2, .int x3), (5, .int s0), (0, .ref (ga G 0)), (1, .int x1), (3, .int x3), (4, .int x4)]) hx hb d_X11_jury_82 rfl hl (Nat.le_of_ble_eq_true rfl) rfl (fun ls hl => ?_)
          exact j83_19 τ x1 x3 x3 o h hk _ _ _ hw (lv_sub hl [2, 3, 0, 4] rfl)
  have j49_19 : ∀ (τ : St) (x1 : Int32) (x2 : Int32) (x3 : Int32) (x4 : Int32) (o : (Int32 × Int32) ⊕ (Int32)), f_X11_jury_j49_19 τ x1 x2 x3 x4 = some o → Sum.elim (fun z : Int32 × Int32 => Wat p l e (rmk 2 46) s m args below meth c Q G 6 19 [] [(2, .int z.1), (3, .int z.2), (0, .ref (ga G 0)), (1, .int x1)] τ σ) (fun z : Int32 => Wat p l e (rmk 2 46) s m args below meth c Q G 6 89 [] [(0, .ref (ga G 0)), (2, .int z)] τ σ) o → Wat p l e (rmk 2 46) s m args below meth c Q G 6 49 [] [(0, .ref (ga G 0)), (1, .int x1), (2, .int x2), (3, .int x3), (4, .int x4)] τ σ := by
    intro τ x1 x2 x3 x4 o h hk H locs ls hw hl
    unfold f_X11_jury_j49_19 at h
    refine lv_iconst (v := (1 : Int32)) hx hb d_X11_jury_49 (by decide) ?_
    refine lv_goto (tgt := 54) hx hb d_X11_jury_50 (by decide) ?_
    exact j54_19 τ x1 x2 x3 x4 (1 : Int32) o h hk _ _ _ hw (lv_sub hl [0, 1, 2, 3, 4] rfl)
  have b19 : ∀ (τ : St) (y1 : Int32) (x2 : Int32) (x3 : Int32) (o : (Int32 × Int32) ⊕ (Int32)), f_X11_jury_s19 τ y1 x2 x3 = some o → Sum.elim (fun z : Int32 × Int32 => Wat p l e (rmk 2 46) s m args below meth c Q G 6 19 [] [(2, .int z.1), (3, .int z.2), (0, .ref (ga G 0)), (1, .int y1)] τ σ) (fun z : Int32 => Wat p l e (rmk 2 46) s m args below meth c Q G 6 89 [] [(0, .ref (ga G 0)), (2, .int z)] τ σ) o → Wat p l e (rmk 2 46) s m args below meth c Q G 6 19 [] [(2, .int x2), (3, .int x3), (0, .ref (ga G 0)), (1, .int y1)] τ σ := by
    intro τ y1 x2 x3 o h hk H locs ls hw hl
    unfold f_X11_jury_s19 at h
    refine lv_iload_n hx hb d_X11_jury_19 rfl (lv_at hl 1 rfl) ?_
    refine lv_aload_n hx hb d_X11_jury_20 rfl (lv_at hl 2 rfl) ?_
    refine r_getr (j := 2) X hw ct7 (o_0 hf) rfl (Nat.le_of_ble_eq_true rfl) (q := 32) rfl wd_266 d_X11_jury_21 ?_
    obtain ⟨q5, e6, h⟩ := bd_some h
    refine r_callV (As := []) (rest := [.int x3]) (st' := [.int q5, .int x3]) X hw hl mwX0_all wd_570 wd_571 wd_569 (c_X0_all hf b_32 e6) (r_recv X hw ct0 (o_32 hf)) rfl ⟨Nat.le_of_ble_eq_true rfl, Nat.le_of_ble_eq_true rfl⟩ ⟨Nat.le_refl _, Nat.le_refl _⟩ rfl rfl (Nat.le_of_ble_eq_true rfl) d_X11_jury_24 (fun H locs hw => ?_)
    refine lv_icmp_gt (tgt := 89) hx hb d_X11_jury_27 (by decide) (fun hc => ?_) (fun hc => ?_)
    · have h := ite_t h hc
      obtain rfl := Option.some.inj h
      dsimp only [Sum.elim_inr] at hk
      exact hk _ _ _ hw (lv_sub hl [2, 0] rfl)
    · have h := ite_f h hc
      refine lv_iload_n hx hb d_X11_jury_30 rfl (lv_at hl 1 rfl) ?_
      obtain ⟨q7, e8, h⟩ := bd_some h
      refine r_callS (As := [.int x3]) (rest := []) (st' := [.int q7]) X hw hl mwJ6_bitCount_0f7a4 wd_436 wd_435 (c_J6_bitCount_0f7a4 e8) rfl ⟨Nat.le_of_ble_eq_true rfl, Nat.le_of_ble_eq_true rfl⟩ ⟨Nat.le_refl _, Nat.le_refl _⟩ rfl rfl (Nat.le_of_ble_eq_true rfl) d_X11_jury_31 (fun H locs hw => ?_)
      refine lv_istore (lv' := [(4, .int q7), (2, .int x2), (3, .int x3), (0, .ref (ga G 0)), (1, .int y1)]) hx hb d_X11_jury_34 hl (Nat.le_of_ble_eq_true rfl) rfl (fun ls hl => ?_)
      refine lv_iload_n hx hb d_X11_jury_36 rfl (lv_at hl 1 rfl) ?_
      refine lv_if_eq (tgt := 49) hx hb d_X11_jury_37 (by decide) (fun hc => ?_) (fun hc => ?_)
      · have h := ite_t h hc
        exact j49_19 τ y1 x2 x3 q7 o h hk _ _ _ hw (lv_sub hl [3, 4, 1, 2, 0] rfl)
      · have h := ite_f h hc
        refine lv_iload hx hb d_X11_jury_40 (lv_at hl 0 rfl) ?_
        refine lv_iload_n hx hb d_X11_jury_42 rfl (lv_at hl 1 rfl) ?_
        obtain ⟨q11, e12, h⟩ := bd_some h
        refine r_callS (As := [.int x2]) (rest := [.int q7]) (st' := [.int q11, .int q7]) X hw hl mwJ6_bitCount_0f7a4 wd_436 wd_435 (c_J6_bitCount_0f7a4 e12) rfl ⟨Nat.le_of_ble_eq_true rfl, Nat.le_of_ble_eq_true rfl⟩ ⟨Nat.le_refl _, Nat.le_refl _⟩ rfl rfl (Nat.le_of_ble_eq_true rfl) d_X11_jury_43 (fun H locs hw => ?_)
        refine lv_icmp_ge (tgt := 53) hx hb d_X11_jury_46 (by decide) (fun hc => ?_) (fun hc => ?_)
        · have h := ite_t h hc
          refine lv_iconst (v := (0 : Int32)) hx hb d_X11_jury_53 (by decide) ?_
          exact j54_19 τ y1 x2 x3 q7 (0 : Int32) o h hk _ _ _ hw (lv_sub hl [3, 4, 1, 2, 0] rfl)
        · have h := ite_f h hc
          exact j49_19 τ y1 x2 x3 q7 o h hk _ _ _ hw (lv_sub hl [3, 4, 1, 2, 0] rfl)
  intro H locs ls hw hl
  have hl : lv_has ls 6 [(0, .ref (ga G 0))] := hl
  unfold f_X11_jury at h
  refine lv_aload_n hx hb d_X11_jury_0 rfl (lv_at hl 0 rfl) ?_
  refine r_getr (j := 2) X hw ct7 (o_0 hf) rfl (Nat.le_of_ble_eq_true rfl) (q := 32) rfl wd_266 d_X11_jury_1 ?_
  refine lv_aload_n hx hb d_X11_jury_4 rfl (lv_at hl 0 rfl) ?_
  refine r_getr (j := 2) X hw ct7 (o_0 hf) rfl (Nat.le_of_ble_eq_true rfl) (q := 32) rfl wd_266 d_X11_jury_5 ?_
  obtain ⟨q1, e2, h⟩ := bd_some h
  refine r_callV (As := []) (rest := [.ref (ga G 32)]) (st' := [.int q1, .ref (ga G 32)]) X hw hl mwX0_all wd_570 wd_571 wd_569 (c_X0_all hf b_32 e2) (r_recv X hw ct0 (o_32 hf)) rfl ⟨Nat.le_of_ble_eq_true rfl, Nat.le_of_ble_eq_true rfl⟩ ⟨Nat.le_refl _, Nat.le_refl _⟩ rfl rfl (Nat.le_of_ble_eq_true rfl) d_X11_jury_8 (fun H locs hw => ?_)
  obtain ⟨q3, e4, h⟩ := bd_some h
  refine r_callS (As := [.ref (ga G 32), .int q1]) (rest := []) (st' := [.int q3]) X hw hl mwX10_ofMost wd_574 wd_573 (c_X10_ofMost hf b_32 e4) rfl ⟨Nat.le_of_ble_eq_true rfl, Nat.le_of_ble_eq_true rfl⟩ ⟨Nat.le_refl _, Nat.le_refl _⟩ rfl rfl (Nat.le_of_ble_eq_true rfl) d_X11_jury_11 (fun H locs hw => ?_)
  refine lv_istore_n (lv' := [(1, .int q3), (0, .ref (ga G 0))]) hx hb d_X11_jury_14 rfl hl (Nat.le_of_ble_eq_true rfl) rfl (fun ls hl => ?_)
  refine lv_iconst (v := (0 : Int32)) hx hb d_X11_jury_15 (by decide) ?_
  refine lv_istore_n (lv' := [(2, .int (0 : Int32)), (1, .int q3), (0, .ref (ga G 0))]) hx hb d_X11_jury_16 rfl hl (Nat.le_of_ble_eq_true rfl) rfl (fun ls hl => ?_)
  refine lv_iconst (v := (1 : Int32)) hx hb d_X11_jury_17 (by decide) ?_
  refine lv_istore_n (lv' := [(3, .int (1 : Int32)), (2, .int (0 : Int32)), (1, .int q3), (0, .ref (ga G 0))]) hx hb d_X11_jury_18 rfl hl (Nat.le_of_ble_eq_true rfl) rfl (fun ls hl => ?_)
  obtain ⟨z13, e14, h⟩ := bd_some h
  refine iter_w (Wh := fun z : Int32 × Int32 => Wat p l e (rmk 2 46) s m args below meth c Q G 6 19 [] [(2, .int z.1), (3, .int z.2), (0, .ref (ga G 0)), (1, .int q3)] χ σ) (K := fun z : Int32 => Wat p l e (rmk 2 46) s m args below meth c Q G 6 89 [] [(0, .ref (ga G 0)), (2, .int z)] χ σ) (fun z o h1 h2 => b19 χ q3 z.1 z.2 o h1 h2) FU _ _ e14 ?_ _ _ _ hw (lv_sub hl [1, 0, 3, 2] rfl)
  intro H locs ls hw hl
  refine lv_iload_n hx hb d_X11_jury_89 rfl (lv_at hl 1 rfl) ?_
  refine lv_if_ne (tgt := 96) hx hb d_X11_jury_90 (by decide) (fun hc => ?_) (fun hc => ?_)
  · have h := ite_f h hc
    refine lv_aload_n hx hb d_X11_jury_96 rfl (lv_at hl 0 rfl) ?_
    refine r_getr (j := 1) X hw ct7 (o_0 hf) rfl (Nat.le_of_ble_eq_true rfl) (q := 3) rfl wd_265 d_X11_jury_97 ?_
    obtain ⟨q16, e17, h⟩ := bd_some h
    refine r_callV (As := []) (rest := []) (st' := []) X hw hl mwX9_start wd_420 wd_421 wd_419 (c_X9_start hf e17) (r_recv X hw ct6 (o_3 hf)) rfl ⟨Nat.le_of_ble_eq_true rfl, Nat.le_of_ble_eq_true rfl⟩ ⟨Nat.le_refl _, Nat.le_refl _⟩ rfl rfl (Nat.le_of_ble_eq_true rfl) d_X11_jury_100 (fun H locs hw => ?_)
    refine lv_aload_n hx hb d_X11_jury_103 rfl (lv_at hl 0 rfl) ?_
    refine r_getr (j := 1) X hw ct7 (o_0 hf) rfl (Nat.le_of_ble_eq_true rfl) (q := 3) rfl wd_265 d_X11_jury_104 ?_
    refine lv_iload_n hx hb d_X11_jury_107 rfl (lv_at hl 1 rfl) ?_
    refine lv_i2l hx hb d_X11_jury_108 rfl ?_
    obtain ⟨q18, e19, h⟩ := bd_some h
    refine r_callV (As := [.long z13.toInt64]) (rest := []) (st' := []) X hw hl mwX9_add wd_424 wd_425 wd_423 (c_X9_add hf e19) (r_recv X hw ct6 (o_3 hf)) rfl ⟨Nat.le_of_ble_eq_true rfl, Nat.le_of_ble_eq_true rfl⟩ ⟨Nat.le_refl _, Nat.le_refl _⟩ rfl rfl (Nat.le_of_ble_eq_true rfl) d_X11_jury_109 (fun H locs hw => ?_)
    refine lv_iload_n hx hb d_X11_jury_112 rfl (lv_at hl 1 rfl) ?_
    obtain ⟨q20, e21, h⟩ := bd_some h
    refine r_callS (As := [.int z13]) (rest := []) (st' := [.int q20]) X hw hl mwJ6_bitCount_0f7a4 wd_436 wd_435 (c_J6_bitCount_0f7a4 e21) rfl ⟨Nat.le_of_ble_eq_true rfl, Nat.le_of_ble_eq_true rfl⟩ ⟨Nat.le_refl _, Nat.le_refl _⟩ rfl rfl (Nat.le_of_ble_eq_true rfl) d_X11_jury_113 (fun H locs hw => ?_)
    obtain rfl := Option.some.inj h
    subst hQ
    exact r_iret X hr hlk hw d_X11_jury_116
  · have h := ite_t h hc
    refine lv_bipush (v := (-2 : Int32)) hx hb d_X11_jury_93 (by decide) ?_
    obtain rfl := Option.some.inj h
    subst hQ
    exact r_iret X hr hlk hw d_X11_jury_95
abbrev yX11_power : MethodName := ⟨"OysterBeds", "power", "(I)I"⟩
theorem mwX11_power : MW yX11_power prog_1_method_32_code 4 (some .int) 1 := ⟨wd_617, wd_1, by decide +kernel⟩
theorem d_X11_power_0 : decode prog_1_method_32_code 0 = .ok (.aload_n 0, 1) := by decide +kernel
theorem d_X11_power_1 : decode prog_1_method_32_code 1 = .ok (.getfield 26, 3) := by decide +kernel
theorem d_X11_power_4 : decode prog_1_method_32_code 4 = .ok (.iload_n 1, 1) := by decide +kernel
theorem d_X11_power_5 : decode prog_1_method_32_code 5 = .ok (.invokevirtual 108, 3) := by decide +kernel
theorem d_X11_power_8 : decode prog_1_method_32_code 8 = .ok (.ifCond .ne 5, 3) := by decide +kernel
theorem d_X11_power_11 : decode prog_1_method_32_code 11 = .ok (.iconst (-1), 1) := by decide +kernel
theorem d_X11_power_12 : decode prog_1_method_32_code 12 = .ok (.ireturn, 1) := by decide +kernel
theorem d_X11_power_13 : decode prog_1_method_32_code 13 = .ok (.iconst 0, 1) := by decide +kernel
theorem d_X11_power_14 : decode prog_1_method_32_code 14 = .ok (.istore_n 2, 1) := by decide +kernel
theorem d_X11_power_15 : decode prog_1_method_32_code 15 = .ok (.iconst 0, 1) := by decide +kernel
theorem d_X11_power_16 : decode prog_1_method_32_code 16 = .ok (.istore_n 3, 1) := by decide +kernel
theorem d_X11_power_17 : decode prog_1_method_32_code 17 = .ok (.iload_n 3, 1) := by decide +kernel
theorem d_X11_power_18 : decode prog_1_method_32_code 18 = .ok (.aload_n 0, 1) := by decide +kernel
theorem d_X11_power_19 : decode prog_1_method_32_code 19 = .ok (.getfield 26, 3) := by decide +kernel
theorem d_X11_power_22 : decode prog_1_method_32_code 22 = .ok (.invokevirtual 230, 3) := by decide +kernel
theorem d_X11_power_25 : decode prog_1_method_32_code 25 = .ok (.if_icmp .gt 24, 3) := by decide +kernel
theorem d_X11_power_28 : decode prog_1_method_32_code 28 = .ok (.aload_n 0, 1) := by decide +kernel
theorem d_X11_power_29 : decode prog_1_method_32_code 29 = .ok (.getfield 26, 3) := by decide +kernel
theorem d_X11_power_32 : decode prog_1_method_32_code 32 = .ok (.iload_n 3, 1) := by decide +kernel
theorem d_X11_power_33 : decode prog_1_method_32_code 33 = .ok (.iload_n 1, 1) := by decide +kernel
theorem d_X11_power_34 : decode prog_1_method_32_code 34 = .ok (.invokestatic 256, 3) := by decide +kernel
theorem d_X11_power_37 : decode prog_1_method_32_code 37 = .ok (.ifCond .eq 6, 3) := by decide +kernel
theorem d_X11_power_40 : decode prog_1_method_32_code 40 = .ok (.iinc 2 1, 3) := by decide +kernel
theorem d_X11_power_43 : decode prog_1_method_32_code 43 = .ok (.iinc 3 1, 3) := by decide +kernel
theorem d_X11_power_46 : decode prog_1_method_32_code 46 = .ok (.goto (-29), 3) := by decide +kernel
theorem d_X11_power_49 : decode prog_1_method_32_code 49 = .ok (.aload_n 0, 1) := by decide +kernel
theorem d_X11_power_50 : decode prog_1_method_32_code 50 = .ok (.getfield 19, 3) := by decide +kernel
theorem d_X11_power_53 : decode prog_1_method_32_code 53 = .ok (.invokevirtual 156, 3) := by decide +kernel
theorem d_X11_power_56 : decode prog_1_method_32_code 56 = .ok (.aload_n 0, 1) := by decide +kernel
theorem d_X11_power_57 : decode prog_1_method_32_code 57 = .ok (.getfield 19, 3) := by decide +kernel
theorem d_X11_power_60 : decode prog_1_method_32_code 60 = .ok (.iload_n 2, 1) := by decide +kernel
theorem d_X11_power_61 : decode prog_1_method_32_code 61 = .ok (.i2l, 1) := by decide +kernel
theorem d_X11_power_62 : decode prog_1_method_32_code 62 = .ok (.lconst 1, 1) := by decide +kernel
theorem d_X11_power_63 : decode prog_1_method_32_code 63 = .ok (.aload_n 0, 1) := by decide +kernel
theorem d_X11_power_64 : decode prog_1_method_32_code 64 = .ok (.getfield 26, 3) := by decide +kernel
theorem d_X11_power_67 : decode prog_1_method_32_code 67 = .ok (.getfield 76, 3) := by decide +kernel
theorem d_X11_power_70 : decode prog_1_method_32_code 70 = .ok (.iconst 1, 1) := by decide +kernel
theorem d_X11_power_71 : decode prog_1_method_32_code 71 = .ok (.isub, 1) := by decide +kernel
theorem d_X11_power_72 : decode prog_1_method_32_code 72 = .ok (.lshl, 1) := by decide +kernel
theorem d_X11_power_73 : decode prog_1_method_32_code 73 = .ok (.invokevirtual 262, 3) := by decide +kernel
theorem d_X11_power_76 : decode prog_1_method_32_code 76 = .ok (.iconst 0, 1) := by decide +kernel
theorem d_X11_power_77 : decode prog_1_method_32_code 77 = .ok (.ireturn, 1) := by decide +kernel
def f_X11_power_j43_17 (τ : St) (x1 : Int32) (x2 : Int32) (x3 : Int32) : Option ((Int32 × Int32) ⊕ (Int32)) := some (.inl (x2, (x3 + (1 : Int32))))
def f_X11_power_s17 (τ : St) (y1 : Int32) (x2 : Int32) (x3 : Int32) : Option ((Int32 × Int32) ⊕ (Int32)) := (f_X0_all τ 32).bind (fun q3 => (if q3 < x3 then some (.inr x2) else (f_X2_turnsBy τ 32 x3 y1).bind (fun q5 => f_X11_power_j43_17 τ y1 (if q5 = 0 then x2 else (x2 + (1 : Int32))) x3)))
def f_X11_power (χ : St) (a1 : Int32) : Option (Int32 × St) := (f_X0_has χ 32 a1).bind (fun q1 => (if q1 = 0 then some ((-1 : Int32), χ) else (iter (fun z => f_X11_power_s17 χ a1 z.1 z.2) FU ((0 : Int32), (0 : Int32))).bind (fun z7 => (f_X9_start χ).bind (fun q10 => (f_X9_addFraction q10 z7.toInt64 ((1 : Int64) <<< (((cF q10 32 5) - (1 : Int32)).toInt64 &&& 63))).bind (fun q12 => some ((0 : Int32), q12))))))
theorem c_X11_power {l : Launch} {G : gT} {χ σ : St} {a1 : Int32} (hf : FW G) {q : Int32 × St} (h : f_X11_power χ a1 = some q) : Ct l G yX11_power prog_1_method_32_code 4 (some .int) 3 67 [.ref (ga G 0), .int a1] χ σ (some (.int q.1)) q.2 σ := by
  refine Ct.of (by decide) (Nat.le_of_ble_eq_true rfl) ?_
  intro p e s m args below meth c Q X hr hlk hQ
  have hx := X.1
  have hb := X.2.1
  have j43_17 : ∀ (τ : St) (x1 : Int32) (x2 : Int32) (x3 : Int32) (o : (Int32 × Int32) ⊕ (Int32)), f_X11_power_j43_17 τ x1 x2 x3 = some o → Sum.elim (fun z : Int32 × Int32 => Wat p l e (rmk 3 67) s m args below meth c Q G 4 17 [] [(2, .int z.1), (3, .int z.2), (0, .ref (ga G 0)), (1, .int x1)] τ σ) (fun z : Int32 => Wat p l e (rmk 3 67) s m args below meth c Q G 4 49 [] [(0, .ref (ga G 0)), (2, .int z)] τ σ) o → Wat p l e (rmk 3 67) s m args below meth c Q G 4 43 [] [(0, .ref (ga G 0)), (1, .int x1), (2, .int x2), (3, .int x3)] τ σ := by
    intro τ x1 x2 x3 o h hk H locs ls hw hl
    unfold f_X11_power_j43_17 at h
    refine lv_iinc (v := (x3 + (1 : Int32))) (k := 3) (lv' := [(3, .int (x3 + (1 : Int32))), (0, .ref (ga G 0)), (1, .int x1), (2, .int x2)]) hx hb d_X11_power_43 hl rfl (by rfl) (Nat.le_of_ble_eq_true rfl) rfl (fun ls hl => ?_)
    refine lv_goto (tgt := 17) hx hb d_X11_power_46 (by decide) ?_
    obtain rfl := Option.some.inj h
    dsimp only [Sum.elim_inl] at hk
    exact hk _ _ _ hw (lv_sub hl [3, 0, 1, 2] rfl)
  have b17 : ∀ (τ : St) (y1 : Int32) (x2 : Int32) (x3 : Int32) (o : (Int32 × Int32) ⊕ (Int32)), f_X11_power_s17 τ y1 x2 x3 = some o → Sum.elim (fun z : Int32 × Int32 => Wat p l e (rmk 3 67) s m args below meth c Q G 4 17 [] [(2, .int z.1), (3, .int z.2), (0, .ref (ga G 0)), (1, .int y1)] τ σ) (fun z : Int32 => Wat p l e (rmk 3 67) s m args below meth c Q G 4 49 [] [(0, .ref (ga G 0)), (2, .int z)] τ σ) o → Wat p l e (rmk 3 67) s m args below meth c Q G 4 17 [] [(2, .int x2), (3, .int x3), (0, .ref (ga G 0)), (1, .int y1)] τ σ := by
    intro τ y1 x2 x3 o h hk H locs ls hw hl
    unfold f_X11_power_s17 at h
    refine lv_iload_n hx hb d_X11_power_17 rfl (lv_at hl 1 rfl) ?_
    refine lv_aload_n hx hb d_X11_power_18 rfl (lv_at hl 2 rfl) ?_
    refine r_getr (j := 2) X hw ct7 (o_0 hf) rfl (Nat.le_of_ble_eq_true rfl) (q := 32) rfl wd_266 d_X11_power_19 ?_
    obtain ⟨q3, e4, h⟩ := bd_some h
    refine r_callV (As := []) (rest := [.int x3]) (st' := [.int q3, .int x3]) X hw hl mwX0_all wd_570 wd_571 wd_569 (c_X0_all hf b_32 e4) (r_recv X hw ct0 (o_32 hf)) rfl ⟨Nat.le_of_ble_eq_true rfl, Nat.le_of_ble_eq_true rfl⟩ ⟨Nat.le_refl _, Nat.le_refl _⟩ rfl rfl (Nat.le_of_ble_eq_true rfl) d_X11_power_22 (fun H locs hw => ?_)
    refine lv_icmp_gt (tgt := 49) hx hb d_X11_power_25 (by decide) (fun hc => ?_) (fun hc => ?_)
    · have h := ite_t h hc
      obtain rfl := Option.some.inj h
      dsimp only [Sum.elim_inr] at hk
      exact hk _ _ _ hw (lv_sub hl [2, 0] rfl)
    · have h := ite_f h hc
      refine lv_aload_n hx hb d_X11_power_28 rfl (lv_at hl 2 rfl) ?_
      refine r_getr (j := 2) X hw ct7 (o_0 hf) rfl (Nat.le_of_ble_eq_true rfl) (q := 32) rfl wd_266 d_X11_power_29 ?_
      refine lv_iload_n hx hb d_X11_power_32 rfl (lv_at hl 1 rfl) ?_
      refine lv_iload_n hx hb d_X11_power_33 rfl (lv_at hl 3 rfl) ?_
      obtain ⟨q5, e6, h⟩ := bd_some h
      refine r_callS (As := [.ref (ga G 32), .int x3, .int y1]) (rest := []) (st' := [.int q5]) X hw hl mwX2_turnsBy wd_620 wd_619 (c_X2_turnsBy hf b_32 e6) rfl ⟨Nat.le_of_ble_eq_true rfl, Nat.le_of_ble_eq_true rfl⟩ ⟨Nat.le_refl _, Nat.le_refl _⟩ rfl rfl (Nat.le_of_ble_eq_true rfl) d_X11_power_34 (fun H locs hw => ?_)
      refine lv_if_eq (tgt := 43) hx hb d_X11_power_37 (by decide) (fun hc => ?_) (fun hc => ?_)
      · simp only [if_pos hc] at h
        exact j43_17 τ y1 x2 x3 o h hk _ _ _ hw (lv_sub hl [2, 3, 0, 1] rfl)
      · simp only [if_neg hc] at h
        refine lv_iinc (v := (x2 + (1 : Int32))) (k := 0) (lv' := [(2, .int (x2 + (1 : Int32))), (3, .int x3), (0, .ref (ga G 0)), (1, .int y1)]) hx hb d_X11_power_40 hl rfl (by rfl) (Nat.le_of_ble_eq_true rfl) rfl (fun ls hl => ?_)
        exact j43_17 τ y1 (x2 + (1 : Int32)) x3 o h hk _ _ _ hw (lv_sub hl [2, 3, 0, 1] rfl)
  intro H locs ls hw hl
  have hl : lv_has ls 4 [(0, .ref (ga G 0)), (1, .int a1)] := hl
  unfold f_X11_power at h
  refine lv_aload_n hx hb d_X11_power_0 rfl (lv_at hl 0 rfl) ?_
  refine r_getr (j := 2) X hw ct7 (o_0 hf) rfl (Nat.le_of_ble_eq_true rfl) (q := 32) rfl wd_266 d_X11_power_1 ?_
  refine lv_iload_n hx hb d_X11_power_4 rfl (lv_at hl 1 rfl) ?_
  obtain ⟨q1, e2, h⟩ := bd_some h
  refine r_callV (As := [.int a1]) (rest := []) (st' := [.int q1]) X hw hl mwX0_has wd_409 wd_410 wd_618 (c_X0_has hf b_32 e2) (r_recv X hw ct0 (o_32 hf)) rfl ⟨Nat.le_of_ble_eq_true rfl, Nat.le_of_ble_eq_true rfl⟩ ⟨Nat.le_refl _, Nat.le_refl _⟩ rfl rfl (Nat.le_of_ble_eq_true rfl) d_X11_power_5 (fun H locs hw => ?_)
  refine lv_if_ne (tgt := 13) hx hb d_X11_power_8 (by decide) (fun hc => ?_) (fun hc => ?_)
  · have h := ite_f h hc
    refine lv_iconst (v := (0 : Int32)) hx hb d_X11_power_13 (by decide) ?_
    refine lv_istore_n (lv' := [(2, .int (0 : Int32)), (0, .ref (ga G 0)), (1, .int a1)]) hx hb d_X11_power_14 rfl hl (Nat.le_of_ble_eq_true rfl) rfl (fun ls hl => ?_)
    refine lv_iconst (v := (0 : Int32)) hx hb d_X11_power_15 (by decide) ?_
    refine lv_istore_n (lv' := [(3, .int (0 : Int32)), (2, .int (0 : Int32)), (0, .ref (ga G 0)), (1, .int a1)]) hx hb d_X11_power_16 rfl hl (Nat.le_of_ble_eq_true rfl) rfl (fun ls hl => ?_)
    obtain ⟨z7, e8, h⟩ := bd_some h
    refine iter_w (Wh := fun z : Int32 × Int32 => Wat p l e (rmk 3 67) s m args below meth c Q G 4 17 [] [(2, .int z.1), (3, .int z.2), (0, .ref (ga G 0)), (1, .int a1)] χ σ) (K := fun z : Int32 => Wat p l e (rmk 3 67) s m args below meth c Q G 4 49 [] [(0, .ref (ga G 0)), (2, .int z)] χ σ) (fun z o h1 h2 => b17 χ a1 z.1 z.2 o h1 h2) FU _ _ e8 ?_ _ _ _ hw (lv_sub hl [1, 0, 2, 3] rfl)
    intro H locs ls hw hl
    refine lv_aload_n hx hb d_X11_power_49 rfl (lv_at hl 0 rfl) ?_
    refine r_getr (j := 1) X hw ct7 (o_0 hf) rfl (Nat.le_of_ble_eq_true rfl) (q := 3) rfl wd_265 d_X11_power_50 ?_
    obtain ⟨q10, e11, h⟩ := bd_some h
    refine r_callV (As := []) (rest := []) (st' := []) X hw hl mwX9_start wd_420 wd_421 wd_419 (c_X9_start hf e11) (r_recv X hw ct6 (o_3 hf)) rfl ⟨Nat.le_of_ble_eq_true rfl, Nat.le_of_ble_eq_true rfl⟩ ⟨Nat.le_refl _, Nat.le_refl _⟩ rfl rfl (Nat.le_of_ble_eq_true rfl) d_X11_power_53 (fun H locs hw => ?_)
    refine lv_aload_n hx hb d_X11_power_56 rfl (lv_at hl 0 rfl) ?_
    refine r_getr (j := 1) X hw ct7 (o_0 hf) rfl (Nat.le_of_ble_eq_true rfl) (q := 3) rfl wd_265 d_X11_power_57 ?_
    refine lv_iload_n hx hb d_X11_power_60 rfl (lv_at hl 1 rfl) ?_
    refine lv_i2l hx hb d_X11_power_61 rfl ?_
    refine lv_lconst (v := (1 : Int64)) hx hb d_X11_power_62 (by decide) ?_
    refine lv_aload_n hx hb d_X11_power_63 rfl (lv_at hl 0 rfl) ?_
    refine r_getr (j := 2) X hw ct7 (o_0 hf) rfl (Nat.le_of_ble_eq_true rfl) (q := 32) rfl wd_266 d_X11_power_64 ?_
    refine r_getiN (j := 5) X hw ct0 (o_32 hf) (Nat.le_of_ble_eq_true rfl) rfl (Nat.le_of_ble_eq_true rfl) nw_23 d_X11_power_67 ?_
    refine lv_iconst (v := (1 : Int32)) hx hb d_X11_power_70 (by decide) ?_
    refine lv_isub hx hb d_X11_power_71 ?_
    refine lv_lshl hx hb d_X11_power_72 rfl ?_
    obtain ⟨q12, e13, h⟩ := bd_some h
    refine r_callV (As := [.long z7.toInt64, .long ((1 : Int64) <<< (((cF q10 32 5) - (1 : Int32)).toInt64 &&& 63))]) (rest := []) (st' := []) X hw hl mwX9_addFraction wd_630 wd_631 wd_629 (c_X9_addFraction hf e13) (r_recv X hw ct6 (o_3 hf)) rfl ⟨Nat.le_of_ble_eq_true rfl, Nat.le_of_ble_eq_true rfl⟩ ⟨Nat.le_refl _, Nat.le_refl _⟩ rfl rfl (Nat.le_of_ble_eq_true rfl) d_X11_power_73 (fun H locs hw => ?_)
    refine lv_iconst (v := (0 : Int32)) hx hb d_X11_power_76 (by decide) ?_
    obtain rfl := Option.some.inj h
    subst hQ
    exact r_iret X hr hlk hw d_X11_power_77
  · have h := ite_t h hc
    refine lv_iconst (v := (-1 : Int32)) hx hb d_X11_power_11 (by decide) ?_
    obtain rfl := Option.some.inj h
    subst hQ
    exact r_iret X hr hlk hw d_X11_power_12
abbrev yX11_pivots : MethodName := ⟨"OysterBeds", "pivots", "(I)I"⟩
theorem mwX11_pivots : MW yX11_pivots prog_1_method_33_code 6 (some .int) 1 := ⟨wd_640, wd_1, by decide +kernel⟩
theorem d_X11_pivots_0 : decode prog_1_method_33_code 0 = .ok (.aload_n 0, 1) := by decide +kernel
theorem d_X11_pivots_1 : decode prog_1_method_33_code 1 = .ok (.getfield 26, 3) := by decide +kernel
theorem d_X11_pivots_4 : decode prog_1_method_33_code 4 = .ok (.iload_n 1, 1) := by decide +kernel
theorem d_X11_pivots_5 : decode prog_1_method_33_code 5 = .ok (.invokevirtual 108, 3) := by decide +kernel
theorem d_X11_pivots_8 : decode prog_1_method_33_code 8 = .ok (.ifCond .ne 5, 3) := by decide +kernel
theorem d_X11_pivots_11 : decode prog_1_method_33_code 11 = .ok (.iconst (-1), 1) := by decide +kernel
theorem d_X11_pivots_12 : decode prog_1_method_33_code 12 = .ok (.ireturn, 1) := by decide +kernel
theorem d_X11_pivots_13 : decode prog_1_method_33_code 13 = .ok (.lconst 0, 1) := by decide +kernel
theorem d_X11_pivots_14 : decode prog_1_method_33_code 14 = .ok (.lstore_n 2, 1) := by decide +kernel
theorem d_X11_pivots_15 : decode prog_1_method_33_code 15 = .ok (.iconst 0, 1) := by decide +kernel
theorem d_X11_pivots_16 : decode prog_1_method_33_code 16 = .ok (.istore 4, 2) := by decide +kernel
theorem d_X11_pivots_18 : decode prog_1_method_33_code 18 = .ok (.iload 4, 2) := by decide +kernel
theorem d_X11_pivots_20 : decode prog_1_method_33_code 20 = .ok (.aload_n 0, 1) := by decide +kernel
theorem d_X11_pivots_21 : decode prog_1_method_33_code 21 = .ok (.getfield 26, 3) := by decide +kernel
theorem d_X11_pivots_24 : decode prog_1_method_33_code 24 = .ok (.invokevirtual 230, 3) := by decide +kernel
theorem d_X11_pivots_27 : decode prog_1_method_33_code 27 = .ok (.if_icmp .gt 53, 3) := by decide +kernel
theorem d_X11_pivots_30 : decode prog_1_method_33_code 30 = .ok (.aload_n 0, 1) := by decide +kernel
theorem d_X11_pivots_31 : decode prog_1_method_33_code 31 = .ok (.getfield 26, 3) := by decide +kernel
theorem d_X11_pivots_34 : decode prog_1_method_33_code 34 = .ok (.iload 4, 2) := by decide +kernel
theorem d_X11_pivots_36 : decode prog_1_method_33_code 36 = .ok (.iload_n 1, 1) := by decide +kernel
theorem d_X11_pivots_37 : decode prog_1_method_33_code 37 = .ok (.invokestatic 256, 3) := by decide +kernel
theorem d_X11_pivots_40 : decode prog_1_method_33_code 40 = .ok (.ifCond .eq 34, 3) := by decide +kernel
theorem d_X11_pivots_43 : decode prog_1_method_33_code 43 = .ok (.iload 4, 2) := by decide +kernel
theorem d_X11_pivots_45 : decode prog_1_method_33_code 45 = .ok (.invokestatic 166, 3) := by decide +kernel
theorem d_X11_pivots_48 : decode prog_1_method_33_code 48 = .ok (.istore 5, 2) := by decide +kernel
theorem d_X11_pivots_50 : decode prog_1_method_33_code 50 = .ok (.lload_n 2, 1) := by decide +kernel
theorem d_X11_pivots_51 : decode prog_1_method_33_code 51 = .ok (.iload 5, 2) := by decide +kernel
theorem d_X11_pivots_53 : decode prog_1_method_33_code 53 = .ok (.invokestatic 266, 3) := by decide +kernel
theorem d_X11_pivots_56 : decode prog_1_method_33_code 56 = .ok (.aload_n 0, 1) := by decide +kernel
theorem d_X11_pivots_57 : decode prog_1_method_33_code 57 = .ok (.getfield 26, 3) := by decide +kernel
theorem d_X11_pivots_60 : decode prog_1_method_33_code 60 = .ok (.getfield 76, 3) := by decide +kernel
theorem d_X11_pivots_63 : decode prog_1_method_33_code 63 = .ok (.iconst 1, 1) := by decide +kernel
theorem d_X11_pivots_64 : decode prog_1_method_33_code 64 = .ok (.isub, 1) := by decide +kernel
theorem d_X11_pivots_65 : decode prog_1_method_33_code 65 = .ok (.iload 5, 2) := by decide +kernel
theorem d_X11_pivots_67 : decode prog_1_method_33_code 67 = .ok (.isub, 1) := by decide +kernel
theorem d_X11_pivots_68 : decode prog_1_method_33_code 68 = .ok (.invokestatic 266, 3) := by decide +kernel
theorem d_X11_pivots_71 : decode prog_1_method_33_code 71 = .ok (.lmul, 1) := by decide +kernel
theorem d_X11_pivots_72 : decode prog_1_method_33_code 72 = .ok (.ladd, 1) := by decide +kernel
theorem d_X11_pivots_73 : decode prog_1_method_33_code 73 = .ok (.lstore_n 2, 1) := by decide +kernel
theorem d_X11_pivots_74 : decode prog_1_method_33_code 74 = .ok (.iinc 4 1, 3) := by decide +kernel
theorem d_X11_pivots_77 : decode prog_1_method_33_code 77 = .ok (.goto (-59), 3) := by decide +kernel
theorem d_X11_pivots_80 : decode prog_1_method_33_code 80 = .ok (.aload_n 0, 1) := by decide +kernel
theorem d_X11_pivots_81 : decode prog_1_method_33_code 81 = .ok (.getfield 19, 3) := by decide +kernel
theorem d_X11_pivots_84 : decode prog_1_method_33_code 84 = .ok (.invokevirtual 156, 3) := by decide +kernel
theorem d_X11_pivots_87 : decode prog_1_method_33_code 87 = .ok (.aload_n 0, 1) := by decide +kernel
theorem d_X11_pivots_88 : decode prog_1_method_33_code 88 = .ok (.getfield 19, 3) := by decide +kernel
theorem d_X11_pivots_91 : decode prog_1_method_33_code 91 = .ok (.lload_n 2, 1) := by decide +kernel
theorem d_X11_pivots_92 : decode prog_1_method_33_code 92 = .ok (.aload_n 0, 1) := by decide +kernel
theorem d_X11_pivots_93 : decode prog_1_method_33_code 93 = .ok (.getfield 26, 3) := by decide +kernel
theorem d_X11_pivots_96 : decode prog_1_method_33_code 96 = .ok (.getfield 76, 3) := by decide +kernel
theorem d_X11_pivots_99 : decode prog_1_method_33_code 99 = .ok (.invokestatic 266, 3) := by decide +kernel
theorem d_X11_pivots_102 : decode prog_1_method_33_code 102 = .ok (.invokevirtual 262, 3) := by decide +kernel
theorem d_X11_pivots_105 : decode prog_1_method_33_code 105 = .ok (.iconst 0, 1) := by decide +kernel
theorem d_X11_pivots_106 : decode prog_1_method_33_code 106 = .ok (.ireturn, 1) := by decide +kernel
def f_X11_pivots_j74_18 (τ : St) (x1 : Int32) (x2 : Int64) (x4 : Int32) : Option ((Int64 × Int32) ⊕ (Int64)) := some (.inl (x2, (x4 + (1 : Int32))))
def f_X11_pivots_s18 (τ : St) (y1 : Int32) (x2 : Int64) (x4 : Int32) : Option ((Int64 × Int32) ⊕ (Int64)) := (f_X0_all τ 32).bind (fun q3 => (if q3 < x4 then some (.inr x2) else (f_X2_turnsBy τ 32 x4 y1).bind (fun q5 => (if q5 = 0 then f_X11_pivots_j74_18 τ y1 x2 x4 else (f_J6_bitCount_0f7a4 x4).bind (fun q7 => (f_X1_ordersOf q7).bind (fun q9 => (f_X1_ordersOf (((cF τ 32 5) - (1 : Int32)) - q7)).bind (fun q11 => f_X11_pivots_j74_18 τ y1 (x2 + (q9 * q11)) x4)))))))
def f_X11_pivots (χ : St) (a1 : Int32) : Option (Int32 × St) := (f_X0_has χ 32 a1).bind (fun q1 => (if q1 = 0 then some ((-1 : Int32), χ) else (iter (fun z => f_X11_pivots_s18 χ a1 z.1 z.2) FU ((0 : Int64), (0 : Int32))).bind (fun z13 => (f_X9_start χ).bind (fun q16 => (f_X1_ordersOf (cF q16 32 5)).bind (fun q18 => (f_X9_addFraction q16 z13 q18).bind (fun q20 => some ((0 : Int32), q20)))))))
theorem c_X11_pivots {l : Launch} {G : gT} {χ σ : St} {a1 : Int32} (hf : FW G) {q : Int32 × St} (h : f_X11_pivots χ a1 = some q) : Ct l G yX11_pivots prog_1_method_33_code 6 (some .int) 3 67 [.ref (ga G 0), .int a1] χ σ (some (.int q.1)) q.2 σ := by
  refine Ct.of (by decide) (Nat.le_of_ble_eq_true rfl) ?_
  intro p e s m args below meth c Q X hr hlk hQ
  have hx := X.1
  have hb := X.2.1
  have j74_18 : ∀ (τ : St) (x1 : Int32) (x2 : Int64) (x4 : Int32) (o : (Int64 × Int32) ⊕ (Int64)), f_X11_pivots_j74_18 τ x1 x2 x4 = some o → Sum.elim (fun z : Int64 × Int32 => Wat p l e (rmk 3 67) s m args below meth c Q G 6 18 [] [(2, .long z.1), (4, .int z.2), (0, .ref (ga G 0)), (1, .int x1)] τ σ) (fun z : Int64 => Wat p l e (rmk 3 67) s m args below meth c Q G 6 80 [] [(0, .ref (ga G 0)), (2, .long z)] τ σ) o → Wat p l e (rmk 3 67) s m args below meth c Q G 6 74 [] [(0, .ref (ga G 0)), (1, .int x1), (2, .long x2), (4, .int x4)] τ σ := by
    intro τ x1 x2 x4 o h hk H locs ls hw hl
    unfold f_X11_pivots_j74_18 at h
    refine lv_iinc (v := (x4 + (1 : Int32))) (k := 3) (lv' := [(4, .int (x4 + (1 : Int32))), (0, .ref (ga G 0)), (1, .int x1), (2, .long x2)]) hx hb d_X11_pivots_74 hl rfl (by rfl) (Nat.le_of_ble_eq_true rfl) rfl (fun ls hl => ?_)
    refine lv_goto (tgt := 18) hx hb d_X11_pivots_77 (by decide) ?_
    obtain rfl := Option.some.inj h
    dsimp only [Sum.elim_inl] at hk
    exact hk _ _ _ hw (lv_sub hl [3, 0, 1, 2] rfl)
  have b18 : ∀ (τ : St) (y1 : Int32) (x2 : Int64) (x4 : Int32) (o : (Int64 × Int32) ⊕ (Int64)), f_X11_pivots_s18 τ y1 x2 x4 = some o → Sum.elim (fun z : Int64 × Int32 => Wat p l e (rmk 3 67) s m args below meth c Q G 6 18 [] [(2, .long z.1), (4, .int z.2), (0, .ref (ga G 0)), (1, .int y1)] τ σ) (fun z : Int64 => Wat p l e (rmk 3 67) s m args below meth c Q G 6 80 [] [(0, .ref (ga G 0)), (2, .long z)] τ σ) o → Wat p l e (rmk 3 67) s m args below meth c Q G 6 18 [] [(2, .long x2), (4, .int x4), (0, .ref (ga G 0)), (1, .int y1)] τ σ := by
    intro τ y1 x2 x4 o h hk H locs ls hw hl
    unfold f_X11_pivots_s18 at h
    refine lv_iload hx hb d_X11_pivots_18 (lv_at hl 1 rfl) ?_
    refine lv_aload_n hx hb d_X11_pivots_20 rfl (lv_at hl 2 rfl) ?_
    refine r_getr (j := 2) X hw ct7 (o_0 hf) rfl (Nat.le_of_ble_eq_true rfl) (q := 32) rfl wd_266 d_X11_pivots_21 ?_
    obtain ⟨q3, e4, h⟩ := bd_some h
    refine r_callV (As := []) (rest := [.int x4]) (st' := [.int q3, .int x4]) X hw hl mwX0_all wd_570 wd_571 wd_569 (c_X0_all hf b_32 e4) (r_recv X hw ct0 (o_32 hf)) rfl ⟨Nat.le_of_ble_eq_true rfl, Nat.le_of_ble_eq_true rfl⟩ ⟨Nat.le_refl _, Nat.le_refl _⟩ rfl rfl (Nat.le_of_ble_eq_true rfl) d_X11_pivots_24 (fun H locs hw => ?_)
    refine lv_icmp_gt (tgt := 80) hx hb d_X11_pivots_27 (by decide) (fun hc => ?_) (fun hc => ?_)
    · have h := ite_t h hc
      obtain rfl := Option.some.inj h
      dsimp only [Sum.elim_inr] at hk
      exact hk _ _ _ hw (lv_sub hl [2, 0] rfl)
    · have h := ite_f h hc
      refine lv_aload_n hx hb d_X11_pivots_30 rfl (lv_at hl 2 rfl) ?_
      refine r_getr (j := 2) X hw ct7 (o_0 hf) rfl (Nat.le_of_ble_eq_true rfl) (q := 32) rfl wd_266 d_X11_pivots_31 ?_
      refine lv_iload hx hb d_X11_pivots_34 (lv_at hl 1 rfl) ?_
      refine lv_iload_n hx hb d_X11_pivots_36 rfl (lv_at hl 3 rfl) ?_
      obtain ⟨q5, e6, h⟩ := bd_some h
      refine r_callS (As := [.ref (ga G 32), .int x4, .int y1]) (rest := []) (st' := [.int q5]) X hw hl mwX2_turnsBy wd_620 wd_619 (c_X2_turnsBy hf b_32 e6) rfl ⟨Nat.le_of_ble_eq_true rfl, Nat.le_of_ble_eq_true rfl⟩ ⟨Nat.le_refl _, Nat.le_refl _⟩ rfl rfl (Nat.le_of_ble_eq_true rfl) d_X11_pivots_37 (fun H locs hw => ?_)
      refine lv_if_eq (tgt := 74) hx hb d_X11_pivots_40 (by decide) (fun hc => ?_) (fun hc => ?_)
      · have h := ite_t h hc
        exact j74_18 τ y1 x2 x4 o h hk _ _ _ hw (lv_sub hl [2, 3, 0, 1] rfl)
      · have h := ite_f h hc
        refine lv_iload hx hb d_X11_pivots_43 (lv_at hl 1 rfl) ?_
        obtain ⟨q7, e8, h⟩ := bd_some h
        refine r_callS (As := [.int x4]) (rest := []) (st' := [.int q7]) X hw hl mwJ6_bitCount_0f7a4 wd_436 wd_435 (c_J6_bitCount_0f7a4 e8) rfl ⟨Nat.le_of_ble_eq_true rfl, Nat.le_of_ble_eq_true rfl⟩ ⟨Nat.le_refl _, Nat.le_refl _⟩ rfl rfl (Nat.le_of_ble_eq_true rfl) d_X11_pivots_45 (fun H locs hw => ?_)
        refine lv_istore (lv' := [(5, .int q7), (2, .long x2), (4, .int x4), (0, .ref (ga G 0)), (1, .int y1)]) hx hb d_X11_pivots_48 hl (Nat.le_of_ble_eq_true rfl) rfl (fun ls hl => ?_)
        refine lv_lload_n hx hb d_X11_pivots_50 rfl (lv_at hl 1 rfl) ?_
        refine lv_iload hx hb d_X11_pivots_51 (lv_at hl 0 rfl) ?_
        obtain ⟨q9, e10, h⟩ := bd_some h
        refine r_callS (As := [.int q7]) (rest := [.long x2]) (st' := [.long q9, .long x2]) X hw hl mwX1_ordersOf wd_642 wd_641 (c_X1_ordersOf hf e10) rfl ⟨Nat.le_of_ble_eq_true rfl, Nat.le_of_ble_eq_true rfl⟩ ⟨Nat.le_refl _, Nat.le_refl _⟩ rfl rfl (Nat.le_of_ble_eq_true rfl) d_X11_pivots_53 (fun H locs hw => ?_)
        refine lv_aload_n hx hb d_X11_pivots_56 rfl (lv_at hl 3 rfl) ?_
        refine r_getr (j := 2) X hw ct7 (o_0 hf) rfl (Nat.le_of_ble_eq_true rfl) (q := 32) rfl wd_266 d_X11_pivots_57 ?_
        refine r_getiN (j := 5) X hw ct0 (o_32 hf) (Nat.le_of_ble_eq_true rfl) rfl (Nat.le_of_ble_eq_true rfl) nw_23 d_X11_pivots_60 ?_
        refine lv_iconst (v := (1 : Int32)) hx hb d_X11_pivots_63 (by decide) ?_
        refine lv_isub hx hb d_X11_pivots_64 ?_
        refine lv_iload hx hb d_X11_pivots_65 (lv_at hl 0 rfl) ?_
        refine lv_isub hx hb d_X11_pivots_67 ?_
        obtain ⟨q11, e12, h⟩ := bd_some h
        refine r_callS (As := [.int (((cF τ 32 5) - (1 : Int32)) - q7)]) (rest := [.long q9, .long x2]) (st' := [.long q11, .long q9, .long x2]) X hw hl mwX1_ordersOf wd_642 wd_641 (c_X1_ordersOf hf e12) rfl ⟨Nat.le_of_ble_eq_true rfl, Nat.le_of_ble_eq_true rfl⟩ ⟨Nat.le_refl _, Nat.le_refl _⟩ rfl rfl (Nat.le_of_ble_eq_true rfl) d_X11_pivots_68 (fun H locs hw => ?_)
        refine lv_lmul hx hb d_X11_pivots_71 ?_
        refine lv_ladd hx hb d_X11_pivots_72 ?_
        refine lv_lstore_n (lv' := [(2, .long (x2 + (q9 * q11))), (5, .int q7), (4, .int x4), (0, .ref (ga G 0)), (1, .int y1)]) hx hb d_X11_pivots_73 rfl hl (Nat.le_of_ble_eq_true rfl) rfl (fun ls hl => ?_)
        exact j74_18 τ y1 (x2 + (q9 * q11)) x4 o h hk _ _ _ hw (lv_sub hl [3, 4, 0, 2] rfl)
  intro H locs ls hw hl
  have hl : lv_has ls 6 [(0, .ref (ga G 0)), (1, .int a1)] := hl
  unfold f_X11_pivots at h
  refine lv_aload_n hx hb d_X11_pivots_0 rfl (lv_at hl 0 rfl) ?_
  refine r_getr (j := 2) X hw ct7 (o_0 hf) rfl (Nat.le_of_ble_eq_true rfl) (q := 32) rfl wd_266 d_X11_pivots_1 ?_
  refine lv_iload_n hx hb d_X11_pivots_4 rfl (lv_at hl 1 rfl) ?_
  obtain ⟨q1, e2, h⟩ := bd_some h
  refine r_callV (As := [.int a1]) (rest := []) (st' := [.int q1]) X hw hl mwX0_has wd_409 wd_410 wd_618 (c_X0_has hf b_32 e2) (r_recv X hw ct0 (o_32 hf)) rfl ⟨Nat.le_of_ble_eq_true rfl, Nat.le_of_ble_eq_true rfl⟩ ⟨Nat.le_refl _, Nat.le_refl _⟩ rfl rfl (Nat.le_of_ble_eq_true rfl) d_X11_pivots_5 (fun H locs hw => ?_)
  refine lv_if_ne (tgt := 13) hx hb d_X11_pivots_8 (by decide) (fun hc => ?_) (fun hc => ?_)
  · have h := ite_f h hc
    refine lv_lconst (v := (0 : Int64)) hx hb d_X11_pivots_13 (by decide) ?_
    refine lv_lstore_n (lv' := [(2, .long (0 : Int64)), (0, .ref (ga G 0)), (1, .int a1)]) hx hb d_X11_pivots_14 rfl hl (Nat.le_of_ble_eq_true rfl) rfl (fun ls hl => ?_)
    refine lv_iconst (v := (0 : Int32)) hx hb d_X11_pivots_15 (by decide) ?_
    refine lv_istore (lv' := [(4, .int (0 : Int32)), (2, .long (0 : Int64)), (0, .ref (ga G 0)), (1, .int a1)]) hx hb d_X11_pivots_16 hl (Nat.le_of_ble_eq_true rfl) rfl (fun ls hl => ?_)
    obtain ⟨z13, e14, h⟩ := bd_some h
    refine iter_w (Wh := fun z : Int64 × Int32 => Wat p l e (rmk 3 67) s m args below meth c Q G 6 18 [] [(2, .long z.1), (4, .int z.2), (0, .ref (ga G 0)), (1, .int a1)] χ σ) (K := fun z : Int64 => Wat p l e (rmk 3 67) s m args below meth c Q G 6 80 [] [(0, .ref (ga G 0)), (2, .long z)] χ σ) (fun z o h1 h2 => b18 χ a1 z.1 z.2 o h1 h2) FU _ _ e14 ?_ _ _ _ hw (lv_sub hl [1, 0, 2, 3] rfl)
    intro H locs ls hw hl
    refine lv_aload_n hx hb d_X11_pivots_80 rfl (lv_at hl 0 rfl) ?_
    refine r_getr (j := 1) X hw ct7 (o_0 hf) rfl (Nat.le_of_ble_eq_true rfl) (q := 3) rfl wd_265 d_X11_pivots_81 ?_
    obtain ⟨q16, e17, h⟩ := bd_some h
    refine r_callV (As := []) (rest := []) (st' := []) X hw hl mwX9_start wd_420 wd_421 wd_419 (c_X9_start hf e17) (r_recv X hw ct6 (o_3 hf)) rfl ⟨Nat.le_of_ble_eq_true rfl, Nat.le_of_ble_eq_true rfl⟩ ⟨Nat.le_refl _, Nat.le_refl _⟩ rfl rfl (Nat.le_of_ble_eq_true rfl) d_X11_pivots_84 (fun H locs hw => ?_)
    refine lv_aload_n hx hb d_X11_pivots_87 rfl (lv_at hl 0 rfl) ?_
    refine r_getr (j := 1) X hw ct7 (o_0 hf) rfl (Nat.le_of_ble_eq_true rfl) (q := 3) rfl wd_265 d_X11_pivots_88 ?_
    refine lv_lload_n hx hb d_X11_pivots_91 rfl (lv_at hl 1 rfl) ?_
    refine lv_aload_n hx hb d_X11_pivots_92 rfl (lv_at hl 0 rfl) ?_
    refine r_getr (j := 2) X hw ct7 (o_0 hf) rfl (Nat.le_of_ble_eq_true rfl) (q := 32) rfl wd_266 d_X11_pivots_93 ?_
    refine r_getiN (j := 5) X hw ct0 (o_32 hf) (Nat.le_of_ble_eq_true rfl) rfl (Nat.le_of_ble_eq_true rfl) nw_23 d_X11_pivots_96 ?_
    obtain ⟨q18, e19, h⟩ := bd_some h
    refine r_callS (As := [.int (cF q16 32 5)]) (rest := [.long z13, .ref (ga G 3)]) (st' := [.long q18, .long z13, .ref (ga G 3)]) X hw hl mwX1_ordersOf wd_642 wd_641 (c_X1_ordersOf hf e19) rfl ⟨Nat.le_of_ble_eq_true rfl, Nat.le_of_ble_eq_true rfl⟩ ⟨Nat.le_refl _, Nat.le_refl _⟩ rfl rfl (Nat.le_of_ble_eq_true rfl) d_X11_pivots_99 (fun H locs hw => ?_)
    obtain ⟨q20, e21, h⟩ := bd_some h
    refine r_callV (As := [.long z13, .long q18]) (rest := []) (st' := []) X hw hl mwX9_addFraction wd_630 wd_631 wd_629 (c_X9_addFraction hf e21) (r_recv X hw ct6 (o_3 hf)) rfl ⟨Nat.le_of_ble_eq_true rfl, Nat.le_of_ble_eq_true rfl⟩ ⟨Nat.le_refl _, Nat.le_refl _⟩ rfl rfl (Nat.le_of_ble_eq_true rfl) d_X11_pivots_102 (fun H locs hw => ?_)
    refine lv_iconst (v := (0 : Int32)) hx hb d_X11_pivots_105 (by decide) ?_
    obtain rfl := Option.some.inj h
    subst hQ
    exact r_iret X hr hlk hw d_X11_pivots_106
  · have h := ite_t h hc
    refine lv_iconst (v := (-1 : Int32)) hx hb d_X11_pivots_11 (by decide) ?_
    obtain rfl := Option.some.inj h
    subst hQ
    exact r_iret X hr hlk hw d_X11_pivots_12
abbrev yX11_rules : MethodName := ⟨"OysterBeds", "rules", "()I"⟩
theorem mwX11_rules : MW yX11_rules prog_1_method_34_code 3 (some .int) 0 := ⟨wd_647, wd_1, by decide +kernel⟩
theorem d_X11_rules_0 : decode prog_1_method_34_code 0 = .ok (.aload_n 0, 1) := by decide +kernel
theorem d_X11_rules_1 : decode prog_1_method_34_code 1 = .ok (.getfield 26, 3) := by decide +kernel
theorem d_X11_rules_4 : decode prog_1_method_34_code 4 = .ok (.getfield 76, 3) := by decide +kernel
theorem d_X11_rules_7 : decode prog_1_method_34_code 7 = .ok (.ifCond .ne 6, 3) := by decide +kernel
theorem d_X11_rules_10 : decode prog_1_method_34_code 10 = .ok (.bipush (-2), 2) := by decide +kernel
theorem d_X11_rules_12 : decode prog_1_method_34_code 12 = .ok (.ireturn, 1) := by decide +kernel
theorem d_X11_rules_13 : decode prog_1_method_34_code 13 = .ok (.aload_n 0, 1) := by decide +kernel
theorem d_X11_rules_14 : decode prog_1_method_34_code 14 = .ok (.getfield 26, 3) := by decide +kernel
theorem d_X11_rules_17 : decode prog_1_method_34_code 17 = .ok (.invokevirtual 230, 3) := by decide +kernel
theorem d_X11_rules_20 : decode prog_1_method_34_code 20 = .ok (.istore_n 1, 1) := by decide +kernel
theorem d_X11_rules_21 : decode prog_1_method_34_code 21 = .ok (.iconst 1, 1) := by decide +kernel
theorem d_X11_rules_22 : decode prog_1_method_34_code 22 = .ok (.istore_n 2, 1) := by decide +kernel
theorem d_X11_rules_23 : decode prog_1_method_34_code 23 = .ok (.iload_n 2, 1) := by decide +kernel
theorem d_X11_rules_24 : decode prog_1_method_34_code 24 = .ok (.aload_n 0, 1) := by decide +kernel
theorem d_X11_rules_25 : decode prog_1_method_34_code 25 = .ok (.getfield 26, 3) := by decide +kernel
theorem d_X11_rules_28 : decode prog_1_method_34_code 28 = .ok (.invokevirtual 230, 3) := by decide +kernel
theorem d_X11_rules_31 : decode prog_1_method_34_code 31 = .ok (.if_icmp .gt 33, 3) := by decide +kernel
theorem d_X11_rules_34 : decode prog_1_method_34_code 34 = .ok (.iload_n 2, 1) := by decide +kernel
theorem d_X11_rules_35 : decode prog_1_method_34_code 35 = .ok (.invokestatic 166, 3) := by decide +kernel
theorem d_X11_rules_38 : decode prog_1_method_34_code 38 = .ok (.iload_n 1, 1) := by decide +kernel
theorem d_X11_rules_39 : decode prog_1_method_34_code 39 = .ok (.invokestatic 166, 3) := by decide +kernel
theorem d_X11_rules_42 : decode prog_1_method_34_code 42 = .ok (.if_icmp .ge 16, 3) := by decide +kernel
theorem d_X11_rules_45 : decode prog_1_method_34_code 45 = .ok (.aload_n 0, 1) := by decide +kernel
theorem d_X11_rules_46 : decode prog_1_method_34_code 46 = .ok (.getfield 26, 3) := by decide +kernel
theorem d_X11_rules_49 : decode prog_1_method_34_code 49 = .ok (.iload_n 2, 1) := by decide +kernel
theorem d_X11_rules_50 : decode prog_1_method_34_code 50 = .ok (.invokestatic 272, 3) := by decide +kernel
theorem d_X11_rules_53 : decode prog_1_method_34_code 53 = .ok (.ifCond .eq 5, 3) := by decide +kernel
theorem d_X11_rules_56 : decode prog_1_method_34_code 56 = .ok (.iload_n 2, 1) := by decide +kernel
theorem d_X11_rules_57 : decode prog_1_method_34_code 57 = .ok (.istore_n 1, 1) := by decide +kernel
theorem d_X11_rules_58 : decode prog_1_method_34_code 58 = .ok (.iinc 2 1, 3) := by decide +kernel
theorem d_X11_rules_61 : decode prog_1_method_34_code 61 = .ok (.goto (-38), 3) := by decide +kernel
theorem d_X11_rules_64 : decode prog_1_method_34_code 64 = .ok (.aload_n 0, 1) := by decide +kernel
theorem d_X11_rules_65 : decode prog_1_method_34_code 65 = .ok (.getfield 19, 3) := by decide +kernel
theorem d_X11_rules_68 : decode prog_1_method_34_code 68 = .ok (.invokevirtual 156, 3) := by decide +kernel
theorem d_X11_rules_71 : decode prog_1_method_34_code 71 = .ok (.aload_n 0, 1) := by decide +kernel
theorem d_X11_rules_72 : decode prog_1_method_34_code 72 = .ok (.getfield 19, 3) := by decide +kernel
theorem d_X11_rules_75 : decode prog_1_method_34_code 75 = .ok (.iload_n 1, 1) := by decide +kernel
theorem d_X11_rules_76 : decode prog_1_method_34_code 76 = .ok (.i2l, 1) := by decide +kernel
theorem d_X11_rules_77 : decode prog_1_method_34_code 77 = .ok (.invokevirtual 159, 3) := by decide +kernel
theorem d_X11_rules_80 : decode prog_1_method_34_code 80 = .ok (.aload_n 0, 1) := by decide +kernel
theorem d_X11_rules_81 : decode prog_1_method_34_code 81 = .ok (.getfield 19, 3) := by decide +kernel
theorem d_X11_rules_84 : decode prog_1_method_34_code 84 = .ok (.aload_n 0, 1) := by decide +kernel
theorem d_X11_rules_85 : decode prog_1_method_34_code 85 = .ok (.getfield 26, 3) := by decide +kernel
theorem d_X11_rules_88 : decode prog_1_method_34_code 88 = .ok (.iload_n 1, 1) := by decide +kernel
theorem d_X11_rules_89 : decode prog_1_method_34_code 89 = .ok (.invokestatic 275, 3) := by decide +kernel
theorem d_X11_rules_92 : decode prog_1_method_34_code 92 = .ok (.i2l, 1) := by decide +kernel
theorem d_X11_rules_93 : decode prog_1_method_34_code 93 = .ok (.invokevirtual 159, 3) := by decide +kernel
theorem d_X11_rules_96 : decode prog_1_method_34_code 96 = .ok (.iload_n 1, 1) := by decide +kernel
theorem d_X11_rules_97 : decode prog_1_method_34_code 97 = .ok (.invokestatic 166, 3) := by decide +kernel
theorem d_X11_rules_100 : decode prog_1_method_34_code 100 = .ok (.ireturn, 1) := by decide +kernel
def f_X11_rules_j58_23 (τ : St) (x1 : Int32) (x2 : Int32) : Option ((Int32 × Int32) ⊕ (Int32)) := some (.inl (x1, (x2 + (1 : Int32))))
def f_X11_rules_s23 (τ : St) (x1 : Int32) (x2 : Int32) : Option ((Int32 × Int32) ⊕ (Int32)) := (f_X0_all τ 32).bind (fun q3 => (if q3 < x2 then some (.inr x1) else (f_J6_bitCount_0f7a4 x2).bind (fun q5 => (f_J6_bitCount_0f7a4 x1).bind (fun q7 => (if q7 ≤ q5 then f_X11_rules_j58_23 τ x1 x2 else (f_X2_decides τ 32 x2).bind (fun q9 => f_X11_rules_j58_23 τ (if q9 = 0 then x1 else x2) x2))))))
def f_X11_rules (χ : St) : Option (Int32 × St) := (if (cF χ 32 5) = 0 then some ((-2 : Int32), χ) else (f_X0_all χ 32).bind (fun q1 => (iter (fun z => f_X11_rules_s23 χ z.1 z.2) FU (q1, (1 : Int32))).bind (fun z11 => (f_X9_start χ).bind (fun q14 => (f_X9_add q14 z11.toInt64).bind (fun q16 => (f_X10_topicsAlike q16 32 z11).bind (fun q18 => (f_X9_add q16 q18.toInt64).bind (fun q20 => (f_J6_bitCount_0f7a4 z11).bind (fun q22 => some (q22, q20)))))))))
theorem c_X11_rules {l : Launch} {G : gT} {χ σ : St} (hf : FW G) {q : Int32 × St} (h : f_X11_rules χ = some q) : Ct l G yX11_rules prog_1_method_34_code 3 (some .int) 2 47 [.ref (ga G 0)] χ σ (some (.int q.1)) q.2 σ := by
  refine Ct.of (by decide) (Nat.le_of_ble_eq_true rfl) ?_
  intro p e s m args below meth c Q X hr hlk hQ
  have hx := X.1
  have hb := X.2.1
  have j58_23 : ∀ (τ : St) (x1 : Int32) (x2 : Int32) (o : (Int32 × Int32) ⊕ (Int32)), f_X11_rules_j58_23 τ x1 x2 = some o → Sum.elim (fun z : Int32 × Int32 => Wat p l e (rmk 2 47) s m args below meth c Q G 3 23 [] [(1, .int z.1), (2, .int z.2), (0, .ref (ga G 0))] τ σ) (fun z : Int32 => Wat p l e (rmk 2 47) s m args below meth c Q G 3 64 [] [(0, .ref (ga G 0)), (1, .int z)] τ σ) o → Wat p l e (rmk 2 47) s m args below meth c Q G 3 58 [] [(0, .ref (ga G 0)), (1, .int x1), (2, .int x2)] τ σ := by
    intro τ x1 x2 o h hk H locs ls hw hl
    unfold f_X11_rules_j58_23 at h
    refine lv_iinc (v := (x2 + (1 : Int32))) (k := 2) (lv' := [(2, .int (x2 + (1 : Int32))), (0, .ref (ga G 0)), (1, .int x1)]) hx hb d_X11_rules_58 hl rfl (by rfl) (Nat.le_of_ble_eq_true rfl) rfl (fun ls hl => ?_)
    refine lv_goto (tgt := 23) hx hb d_X11_rules_61 (by decide) ?_
    obtain rfl := Option.some.inj h
    dsimp only [Sum.elim_inl] at hk
    exact hk _ _ _ hw (lv_sub hl [2, 0, 1] rfl)
  have b23 : ∀ (τ : St) (x1 : Int32) (x2 : Int32) (o : (Int32 × Int32) ⊕ (Int32)), f_X11_rules_s23 τ x1 x2 = some o → Sum.elim (fun z : Int32 × Int32 => Wat p l e (rmk 2 47) s m args below meth c Q G 3 23 [] [(1, .int z.1), (2, .int z.2), (0, .ref (ga G 0))] τ σ) (fun z : Int32 => Wat p l e (rmk 2 47) s m args below meth c Q G 3 64 [] [(0, .ref (ga G 0)), (1, .int z)] τ σ) o → Wat p l e (rmk 2 47) s m args below meth c Q G 3 23 [] [(1, .int x1), (2, .int x2), (0, .ref (ga G 0))] τ σ := by
    intro τ x1 x2 o h hk H locs ls hw hl
    unfold f_X11_rules_s23 at h
    refine lv_iload_n hx hb d_X11_rules_23 rfl (lv_at hl 1 rfl) ?_
    refine lv_aload_n hx hb d_X11_rules_24 rfl (lv_at hl 2 rfl) ?_
    refine r_getr (j := 2) X hw ct7 (o_0 hf) rfl (Nat.le_of_ble_eq_true rfl) (q := 32) rfl wd_266 d_X11_rules_25 ?_
    obtain ⟨q3, e4, h⟩ := bd_some h
    refine r_callV (As := []) (rest := [.int x2]) (st' := [.int q3, .int x2]) X hw hl mwX0_all wd_570 wd_571 wd_569 (c_X0_all hf b_32 e4) (r_recv X hw ct0 (o_32 hf)) rfl ⟨Nat.le_of_ble_eq_true rfl, Nat.le_of_ble_eq_true rfl⟩ ⟨Nat.le_refl _, Nat.le_refl _⟩ rfl rfl (Nat.le_of_ble_eq_true rfl) d_X11_rules_28 (fun H locs hw => ?_)
    refine lv_icmp_gt (tgt := 64) hx hb d_X11_rules_31 (by decide) (fun hc => ?_) (fun hc => ?_)
    · have h := ite_t h hc
      obtain rfl := Option.some.inj h
      dsimp only [Sum.elim_inr] at hk
      exact hk _ _ _ hw (lv_sub hl [2, 0] rfl)
    · have h := ite_f h hc
      refine lv_iload_n hx hb d_X11_rules_34 rfl (lv_at hl 1 rfl) ?_
      obtain ⟨q5, e6, h⟩ := bd_some h
      refine r_callS (As := [.int x2]) (rest := []) (st' := [.int q5]) X hw hl mwJ6_bitCount_0f7a4 wd_436 wd_435 (c_J6_bitCount_0f7a4 e6) rfl ⟨Nat.le_of_ble_eq_true rfl, Nat.le_of_ble_eq_true rfl⟩ ⟨Nat.le_refl _, Nat.le_refl _⟩ rfl rfl (Nat.le_of_ble_eq_true rfl) d_X11_rules_35 (fun H locs hw => ?_)
      refine lv_iload_n hx hb d_X11_rules_38 rfl (lv_at hl 0 rfl) ?_
      obtain ⟨q7, e8, h⟩ := bd_some h
      refine r_callS (As := [.int x1]) (rest := [.int q5]) (st' := [.int q7, .int q5]) X hw hl mwJ6_bitCount_0f7a4 wd_436 wd_435 (c_J6_bitCount_0f7a4 e8) rfl ⟨Nat.le_of_ble_eq_true rfl, Nat.le_of_ble_eq_true rfl⟩ ⟨Nat.le_refl _, Nat.le_refl _⟩ rfl rfl (Nat.le_of_ble_eq_true rfl) d_X11_rules_39 (fun H locs hw => ?_)
      refine lv_icmp_ge (tgt := 58) hx hb d_X11_rules_42 (by decide) (fun hc => ?_) (fun hc => ?_)
      · have h := ite_t h hc
        exact j58_23 τ x1 x2 o h hk _ _ _ hw (lv_sub hl [2, 0, 1] rfl)
      · have h := ite_f h hc
        refine lv_aload_n hx hb d_X11_rules_45 rfl (lv_at hl 2 rfl) ?_
        refine r_getr (j := 2) X hw ct7 (o_0 hf) rfl (Nat.le_of_ble_eq_true rfl) (q := 32) rfl wd_266 d_X11_rules_46 ?_
        refine lv_iload_n hx hb d_X11_rules_49 rfl (lv_at hl 1 rfl) ?_
        obtain ⟨q9, e10, h⟩ := bd_some h
        refine r_callS (As := [.ref (ga G 32), .int x2]) (rest := []) (st' := [.int q9]) X hw hl mwX2_decides wd_623 wd_648 (c_X2_decides hf b_32 e10) rfl ⟨Nat.le_of_ble_eq_true rfl, Nat.le_of_ble_eq_true rfl⟩ ⟨Nat.le_refl _, Nat.le_refl _⟩ rfl rfl (Nat.le_of_ble_eq_true rfl) d_X11_rules_50 (fun H locs hw => ?_)
        refine lv_if_eq (tgt := 58) hx hb d_X11_rules_53 (by decide) (fun hc => ?_) (fun hc => ?_)
        · simp only [if_pos hc] at h
          exact j58_23 τ x1 x2 o h hk _ _ _ hw (lv_sub hl [2, 0, 1] rfl)
        · simp only [if_neg hc] at h
          refine lv_iload_n hx hb d_X11_rules_56 rfl (lv_at hl 1 rfl) ?_
          refine lv_istore_n (lv' := [(1, .int x2), (2, .int x2), (0, .ref (ga G 0))]) hx hb d_X11_rules_57 rfl hl (Nat.le_of_ble_eq_true rfl) rfl (fun ls hl => ?_)
          exact j58_23 τ x2 x2 o h hk _ _ _ hw (lv_sub hl [2, 0, 1] rfl)
  intro H locs ls hw hl
  have hl : lv_has ls 3 [(0, .ref (ga G 0))] := hl
  unfold f_X11_rules at h
  refine lv_aload_n hx hb d_X11_rules_0 rfl (lv_at hl 0 rfl) ?_
  refine r_getr (j := 2) X hw ct7 (o_0 hf) rfl (Nat.le_of_ble_eq_true rfl) (q := 32) rfl wd_266 d_X11_rules_1 ?_
  refine r_getiN (j := 5) X hw ct0 (o_32 hf) (Nat.le_of_ble_eq_true rfl) rfl (Nat.le_of_ble_eq_true rfl) nw_23 d_X11_rules_4 ?_
  refine lv_if_ne (tgt := 13) hx hb d_X11_rules_7 (by decide) (fun hc => ?_) (fun hc => ?_)
  · have h := ite_f h hc
    refine lv_aload_n hx hb d_X11_rules_13 rfl (lv_at hl 0 rfl) ?_
    refine r_getr (j := 2) X hw ct7 (o_0 hf) rfl (Nat.le_of_ble_eq_true rfl) (q := 32) rfl wd_266 d_X11_rules_14 ?_
    obtain ⟨q1, e2, h⟩ := bd_some h
    refine r_callV (As := []) (rest := []) (st' := [.int q1]) X hw hl mwX0_all wd_570 wd_571 wd_569 (c_X0_all hf b_32 e2) (r_recv X hw ct0 (o_32 hf)) rfl ⟨Nat.le_of_ble_eq_true rfl, Nat.le_of_ble_eq_true rfl⟩ ⟨Nat.le_refl _, Nat.le_refl _⟩ rfl rfl (Nat.le_of_ble_eq_true rfl) d_X11_rules_17 (fun H locs hw => ?_)
    refine lv_istore_n (lv' := [(1, .int q1), (0, .ref (ga G 0))]) hx hb d_X11_rules_20 rfl hl (Nat.le_of_ble_eq_true rfl) rfl (fun ls hl => ?_)
    refine lv_iconst (v := (1 : Int32)) hx hb d_X11_rules_21 (by decide) ?_
    refine lv_istore_n (lv' := [(2, .int (1 : Int32)), (1, .int q1), (0, .ref (ga G 0))]) hx hb d_X11_rules_22 rfl hl (Nat.le_of_ble_eq_true rfl) rfl (fun ls hl => ?_)
    obtain ⟨z11, e12, h⟩ := bd_some h
    refine iter_w (Wh := fun z : Int32 × Int32 => Wat p l e (rmk 2 47) s m args below meth c Q G 3 23 [] [(1, .int z.1), (2, .int z.2), (0, .ref (ga G 0))] χ σ) (K := fun z : Int32 => Wat p l e (rmk 2 47) s m args below meth c Q G 3 64 [] [(0, .ref (ga G 0)), (1, .int z)] χ σ) (fun z o h1 h2 => b23 χ z.1 z.2 o h1 h2) FU _ _ e12 ?_ _ _ _ hw (lv_sub hl [1, 0, 2] rfl)
    intro H locs ls hw hl
    refine lv_aload_n hx hb d_X11_rules_64 rfl (lv_at hl 0 rfl) ?_
    refine r_getr (j := 1) X hw ct7 (o_0 hf) rfl (Nat.le_of_ble_eq_true rfl) (q := 3) rfl wd_265 d_X11_rules_65 ?_
    obtain ⟨q14, e15, h⟩ := bd_some h
    refine r_callV (As := []) (rest := []) (st' := []) X hw hl mwX9_start wd_420 wd_421 wd_419 (c_X9_start hf e15) (r_recv X hw ct6 (o_3 hf)) rfl ⟨Nat.le_of_ble_eq_true rfl, Nat.le_of_ble_eq_true rfl⟩ ⟨Nat.le_refl _, Nat.le_refl _⟩ rfl rfl (Nat.le_of_ble_eq_true rfl) d_X11_rules_68 (fun H locs hw => ?_)
    refine lv_aload_n hx hb d_X11_rules_71 rfl (lv_at hl 0 rfl) ?_
    refine r_getr (j := 1) X hw ct7 (o_0 hf) rfl (Nat.le_of_ble_eq_true rfl) (q := 3) rfl wd_265 d_X11_rules_72 ?_
    refine lv_iload_n hx hb d_X11_rules_75 rfl (lv_at hl 1 rfl) ?_
    refine lv_i2l hx hb d_X11_rules_76 rfl ?_
    obtain ⟨q16, e17, h⟩ := bd_some h
    refine r_callV (As := [.long z11.toInt64]) (rest := []) (st' := []) X hw hl mwX9_add wd_424 wd_425 wd_423 (c_X9_add hf e17) (r_recv X hw ct6 (o_3 hf)) rfl ⟨Nat.le_of_ble_eq_true rfl, Nat.le_of_ble_eq_true rfl⟩ ⟨Nat.le_refl _, Nat.le_refl _⟩ rfl rfl (Nat.le_of_ble_eq_true rfl) d_X11_rules_77 (fun H locs hw => ?_)
    refine lv_aload_n hx hb d_X11_rules_80 rfl (lv_at hl 0 rfl) ?_
    refine r_getr (j := 1) X hw ct7 (o_0 hf) rfl (Nat.le_of_ble_eq_true rfl) (q := 3) rfl wd_265 d_X11_rules_81 ?_
    refine lv_aload_n hx hb d_X11_rules_84 rfl (lv_at hl 0 rfl) ?_
    refine r_getr (j := 2) X hw ct7 (o_0 hf) rfl (Nat.le_of_ble_eq_true rfl) (q := 32) rfl wd_266 d_X11_rules_85 ?_
    refine lv_iload_n hx hb d_X11_rules_88 rfl (lv_at hl 1 rfl) ?_
    obtain ⟨q18, e19, h⟩ := bd_some h
    refine r_callS (As := [.ref (ga G 32), .int z11]) (rest := [.ref (ga G 3)]) (st' := [.int q18, .ref (ga G 3)]) X hw hl mwX10_topicsAlike wd_650 wd_649 (c_X10_topicsAlike hf b_32 e19) rfl ⟨Nat.le_of_ble_eq_true rfl, Nat.le_of_ble_eq_true rfl⟩ ⟨Nat.le_refl _, Nat.le_refl _⟩ rfl rfl (Nat.le_of_ble_eq_true rfl) d_X11_rules_89 (fun H locs hw => ?_)
    refine lv_i2l hx hb d_X11_rules_92 rfl ?_
    obtain ⟨q20, e21, h⟩ := bd_some h
    refine r_callV (As := [.long q18.toInt64]) (rest := []) (st' := []) X hw hl mwX9_add wd_424 wd_425 wd_423 (c_X9_add hf e21) (r_recv X hw ct6 (o_3 hf)) rfl ⟨Nat.le_of_ble_eq_true rfl, Nat.le_of_ble_eq_true rfl⟩ ⟨Nat.le_refl _, Nat.le_refl _⟩ rfl rfl (Nat.le_of_ble_eq_true rfl) d_X11_rules_93 (fun H locs hw => ?_)
    refine lv_iload_n hx hb d_X11_rules_96 rfl (lv_at hl 1 rfl) ?_
    obtain ⟨q22, e23, h⟩ := bd_some h
    refine r_callS (As := [.int z11]) (rest := []) (st' := [.int q22]) X hw hl mwJ6_bitCount_0f7a4 wd_436 wd_435 (c_J6_bitCount_0f7a4 e23) rfl ⟨Nat.le_of_ble_eq_true rfl, Nat.le_of_ble_eq_true rfl⟩ ⟨Nat.le_refl _, Nat.le_refl _⟩ rfl rfl (Nat.le_of_ble_eq_true rfl) d_X11_rules_97 (fun H locs hw => ?_)
    obtain rfl := Option.some.inj h
    subst hQ
    exact r_iret X hr hlk hw d_X11_rules_100
  · have h := ite_t h hc
    refine lv_bipush (v := (-2 : Int32)) hx hb d_X11_rules_10 (by decide) ?_
    obtain rfl := Option.some.inj h
    subst hQ
    exact r_iret X hr hlk hw d_X11_rules_12
abbrev yX11_parties : MethodName := ⟨"OysterBeds", "parties", "()I"⟩
theorem mwX11_parties : MW yX11_parties prog_1_method_35_code 3 (some .int) 0 := ⟨wd_655, wd_1, by decide +kernel⟩
theorem d_X11_parties_0 : decode prog_1_method_35_code 0 = .ok (.iconst 0, 1) := by decide +kernel
theorem d_X11_parties_1 : decode prog_1_method_35_code 1 = .ok (.istore_n 1, 1) := by decide +kernel
theorem d_X11_parties_2 : decode prog_1_method_35_code 2 = .ok (.iconst 1, 1) := by decide +kernel
theorem d_X11_parties_3 : decode prog_1_method_35_code 3 = .ok (.istore_n 2, 1) := by decide +kernel
theorem d_X11_parties_4 : decode prog_1_method_35_code 4 = .ok (.iload_n 2, 1) := by decide +kernel
theorem d_X11_parties_5 : decode prog_1_method_35_code 5 = .ok (.aload_n 0, 1) := by decide +kernel
theorem d_X11_parties_6 : decode prog_1_method_35_code 6 = .ok (.getfield 26, 3) := by decide +kernel
theorem d_X11_parties_9 : decode prog_1_method_35_code 9 = .ok (.invokevirtual 230, 3) := by decide +kernel
theorem d_X11_parties_12 : decode prog_1_method_35_code 12 = .ok (.if_icmp .gt 30, 3) := by decide +kernel
theorem d_X11_parties_15 : decode prog_1_method_35_code 15 = .ok (.aload_n 0, 1) := by decide +kernel
theorem d_X11_parties_16 : decode prog_1_method_35_code 16 = .ok (.getfield 26, 3) := by decide +kernel
theorem d_X11_parties_19 : decode prog_1_method_35_code 19 = .ok (.iload_n 2, 1) := by decide +kernel
theorem d_X11_parties_20 : decode prog_1_method_35_code 20 = .ok (.invokestatic 278, 3) := by decide +kernel
theorem d_X11_parties_23 : decode prog_1_method_35_code 23 = .ok (.aload_n 0, 1) := by decide +kernel
theorem d_X11_parties_24 : decode prog_1_method_35_code 24 = .ok (.getfield 26, 3) := by decide +kernel
theorem d_X11_parties_27 : decode prog_1_method_35_code 27 = .ok (.iload_n 1, 1) := by decide +kernel
theorem d_X11_parties_28 : decode prog_1_method_35_code 28 = .ok (.invokestatic 278, 3) := by decide +kernel
theorem d_X11_parties_31 : decode prog_1_method_35_code 31 = .ok (.if_icmp .ge 5, 3) := by decide +kernel
theorem d_X11_parties_34 : decode prog_1_method_35_code 34 = .ok (.iload_n 2, 1) := by decide +kernel
theorem d_X11_parties_35 : decode prog_1_method_35_code 35 = .ok (.istore_n 1, 1) := by decide +kernel
theorem d_X11_parties_36 : decode prog_1_method_35_code 36 = .ok (.iinc 2 1, 3) := by decide +kernel
theorem d_X11_parties_39 : decode prog_1_method_35_code 39 = .ok (.goto (-35), 3) := by decide +kernel
theorem d_X11_parties_42 : decode prog_1_method_35_code 42 = .ok (.aload_n 0, 1) := by decide +kernel
theorem d_X11_parties_43 : decode prog_1_method_35_code 43 = .ok (.getfield 19, 3) := by decide +kernel
theorem d_X11_parties_46 : decode prog_1_method_35_code 46 = .ok (.invokevirtual 156, 3) := by decide +kernel
theorem d_X11_parties_49 : decode prog_1_method_35_code 49 = .ok (.aload_n 0, 1) := by decide +kernel
theorem d_X11_parties_50 : decode prog_1_method_35_code 50 = .ok (.getfield 19, 3) := by decide +kernel
theorem d_X11_parties_53 : decode prog_1_method_35_code 53 = .ok (.iload_n 1, 1) := by decide +kernel
theorem d_X11_parties_54 : decode prog_1_method_35_code 54 = .ok (.i2l, 1) := by decide +kernel
theorem d_X11_parties_55 : decode prog_1_method_35_code 55 = .ok (.invokevirtual 159, 3) := by decide +kernel
theorem d_X11_parties_58 : decode prog_1_method_35_code 58 = .ok (.aload_n 0, 1) := by decide +kernel
theorem d_X11_parties_59 : decode prog_1_method_35_code 59 = .ok (.getfield 19, 3) := by decide +kernel
theorem d_X11_parties_62 : decode prog_1_method_35_code 62 = .ok (.aload_n 0, 1) := by decide +kernel
theorem d_X11_parties_63 : decode prog_1_method_35_code 63 = .ok (.getfield 26, 3) := by decide +kernel
theorem d_X11_parties_66 : decode prog_1_method_35_code 66 = .ok (.iload_n 1, 1) := by decide +kernel
theorem d_X11_parties_67 : decode prog_1_method_35_code 67 = .ok (.invokestatic 281, 3) := by decide +kernel
theorem d_X11_parties_70 : decode prog_1_method_35_code 70 = .ok (.i2l, 1) := by decide +kernel
theorem d_X11_parties_71 : decode prog_1_method_35_code 71 = .ok (.invokevirtual 159, 3) := by decide +kernel
theorem d_X11_parties_74 : decode prog_1_method_35_code 74 = .ok (.aload_n 0, 1) := by decide +kernel
theorem d_X11_parties_75 : decode prog_1_method_35_code 75 = .ok (.getfield 26, 3) := by decide +kernel
theorem d_X11_parties_78 : decode prog_1_method_35_code 78 = .ok (.iload_n 1, 1) := by decide +kernel
theorem d_X11_parties_79 : decode prog_1_method_35_code 79 = .ok (.invokestatic 278, 3) := by decide +kernel
theorem d_X11_parties_82 : decode prog_1_method_35_code 82 = .ok (.ireturn, 1) := by decide +kernel
def f_X11_parties_j36_4 (τ : St) (x1 : Int32) (x2 : Int32) : Option ((Int32 × Int32) ⊕ (Int32)) := some (.inl (x1, (x2 + (1 : Int32))))
def f_X11_parties_s4 (τ : St) (x1 : Int32) (x2 : Int32) : Option ((Int32 × Int32) ⊕ (Int32)) := (f_X0_all τ 32).bind (fun q1 => (if q1 < x2 then some (.inr x1) else (f_X2_apart τ 32 x2).bind (fun q3 => (f_X2_apart τ 32 x1).bind (fun q5 => f_X11_parties_j36_4 τ (if q5 ≤ q3 then x1 else x2) x2))))
def f_X11_parties (χ : St) : Option (Int32 × St) := (iter (fun z => f_X11_parties_s4 χ z.1 z.2) FU ((0 : Int32), (1 : Int32))).bind (fun z7 => (f_X9_start χ).bind (fun q10 => (f_X9_add q10 z7.toInt64).bind (fun q12 => (f_X2_weight q12 32 z7).bind (fun q14 => (f_X9_add q12 q14.toInt64).bind (fun q16 => (f_X2_apart q16 32 z7).bind (fun q18 => some (q18, q16)))))))
theorem c_X11_parties {l : Launch} {G : gT} {χ σ : St} (hf : FW G) {q : Int32 × St} (h : f_X11_parties χ = some q) : Ct l G yX11_parties prog_1_method_35_code 3 (some .int) 2 45 [.ref (ga G 0)] χ σ (some (.int q.1)) q.2 σ := by
  refine Ct.of (by decide) (Nat.le_of_ble_eq_true rfl) ?_
  intro p e s m args below meth c Q X hr hlk hQ
  have hx := X.1
  have hb := X.2.1
  have j36_4 : ∀ (τ : St) (x1 : Int32) (x2 : Int32) (o : (Int32 × Int32) ⊕ (Int32)), f_X11_parties_j36_4 τ x1 x2 = some o → Sum.elim (fun z : Int32 × Int32 => Wat p l e (rmk 2 45) s m args below meth c Q G 3 4 [] [(1, .int z.1), (2, .int z.2), (0, .ref (ga G 0))] τ σ) (fun z : Int32 => Wat p l e (rmk 2 45) s m args below meth c Q G 3 42 [] [(0, .ref (ga G 0)), (1, .int z)] τ σ) o → Wat p l e (rmk 2 45) s m args below meth c Q G 3 36 [] [(0, .ref (ga G 0)), (1, .int x1), (2, .int x2)] τ σ := by
    intro τ x1 x2 o h hk H locs ls hw hl
    unfold f_X11_parties_j36_4 at h
    refine lv_iinc (v := (x2 + (1 : Int32))) (k := 2) (lv' := [(2, .int (x2 + (1 : Int32))), (0, .ref (ga G 0)), (1, .int x1)]) hx hb d_X11_parties_36 hl rfl (by rfl) (Nat.le_of_ble_eq_true rfl) rfl (fun ls hl => ?_)
    refine lv_goto (tgt := 4) hx hb d_X11_parties_39 (by decide) ?_
    obtain rfl := Option.some.inj h
    dsimp only [Sum.elim_inl] at hk
    exact hk _ _ _ hw (lv_sub hl [2, 0, 1] rfl)
  have b4 : ∀ (τ : St) (x1 : Int32) (x2 : Int32) (o : (Int32 × Int32) ⊕ (Int32)), f_X11_parties_s4 τ x1 x2 = some o → Sum.elim (fun z : Int32 × Int32 => Wat p l e (rmk 2 45) s m args below meth c Q G 3 4 [] [(1, .int z.1), (2, .int z.2), (0, .ref (ga G 0))] τ σ) (fun z : Int32 => Wat p l e (rmk 2 45) s m args below meth c Q G 3 42 [] [(0, .ref (ga G 0)), (1, .int z)] τ σ) o → Wat p l e (rmk 2 45) s m args below meth c Q G 3 4 [] [(1, .int x1), (2, .int x2), (0, .ref (ga G 0))] τ σ := by
    intro τ x1 x2 o h hk H locs ls hw hl
    unfold f_X11_parties_s4 at h
    refine lv_iload_n hx hb d_X11_parties_4 rfl (lv_at hl 1 rfl) ?_
    refine lv_aload_n hx hb d_X11_parties_5 rfl (lv_at hl 2 rfl) ?_
    refine r_getr (j := 2) X hw ct7 (o_0 hf) rfl (Nat.le_of_ble_eq_true rfl) (q := 32) rfl wd_266 d_X11_parties_6 ?_
    obtain ⟨q1, e2, h⟩ := bd_some h
    refine r_callV (As := []) (rest := [.int x2]) (st' := [.int q1, .int x2]) X hw hl mwX0_all wd_570 wd_571 wd_569 (c_X0_all hf b_32 e2) (r_recv X hw ct0 (o_32 hf)) rfl ⟨Nat.le_of_ble_eq_true rfl, Nat.le_of_ble_eq_true rfl⟩ ⟨Nat.le_refl _, Nat.le_refl _⟩ rfl rfl (Nat.le_of_ble_eq_true rfl) d_X11_parties_9 (fun H locs hw => ?_)
    refine lv_icmp_gt (tgt := 42) hx hb d_X11_parties_12 (by decide) (fun hc => ?_) (fun hc => ?_)
    · have h := ite_t h hc
      obtain rfl := Option.some.inj h
      dsimp only [Sum.elim_inr] at hk
      exact hk _ _ _ hw (lv_sub hl [2, 0] rfl)
    · have h := ite_f h hc
      refine lv_aload_n hx hb d_X11_parties_15 rfl (lv_at hl 2 rfl) ?_
      refine r_getr (j := 2) X hw ct7 (o_0 hf) rfl (Nat.le_of_ble_eq_true rfl) (q := 32) rfl wd_266 d_X11_parties_16 ?_
      refine lv_iload_n hx hb d_X11_parties_19 rfl (lv_at hl 1 rfl) ?_
      obtain ⟨q3, e4, h⟩ := bd_some h
      refine r_callS (As := [.ref (ga G 32), .int x2]) (rest := []) (st' := [.int q3]) X hw hl mwX2_apart wd_657 wd_656 (c_X2_apart hf b_32 e4) rfl ⟨Nat.le_of_ble_eq_true rfl, Nat.le_of_ble_eq_true rfl⟩ ⟨Nat.le_refl _, Nat.le_refl _⟩ rfl rfl (Nat.le_of_ble_eq_true rfl) d_X11_parties_20 (fun H locs hw => ?_)
      refine lv_aload_n hx hb d_X11_parties_23 rfl (lv_at hl 2 rfl) ?_
      refine r_getr (j := 2) X hw ct7 (o_0 hf) rfl (Nat.le_of_ble_eq_true rfl) (q := 32) rfl wd_266 d_X11_parties_24 ?_
      refine lv_iload_n hx hb d_X11_parties_27 rfl (lv_at hl 0 rfl) ?_
      obtain ⟨q5, e6, h⟩ := bd_some h
      refine r_callS (As := [.ref (ga G 32), .int x1]) (rest := [.int q3]) (st' := [.int q5, .int q3]) X hw hl mwX2_apart wd_657 wd_656 (c_X2_apart hf b_32 e6) rfl ⟨Nat.le_of_ble_eq_true rfl, Nat.le_of_ble_eq_true rfl⟩ ⟨Nat.le_refl _, Nat.le_refl _⟩ rfl rfl (Nat.le_of_ble_eq_true rfl) d_X11_parties_28 (fun H locs hw => ?_)
      refine lv_icmp_ge (tgt := 36) hx hb d_X11_parties_31 (by decide) (fun hc => ?_) (fun hc => ?_)
      · simp only [if_pos hc] at h
        exact j36_4 τ x1 x2 o h hk _ _ _ hw (lv_sub hl [2, 0, 1] rfl)
      · simp only [if_neg hc] at h
        refine lv_iload_n hx hb d_X11_parties_34 rfl (lv_at hl 1 rfl) ?_
        refine lv_istore_n (lv' := [(1, .int x2), (2, .int x2), (0, .ref (ga G 0))]) hx hb d_X11_parties_35 rfl hl (Nat.le_of_ble_eq_true rfl) rfl (fun ls hl => ?_)
        exact j36_4 τ x2 x2 o h hk _ _ _ hw (lv_sub hl [2, 0, 1] rfl)
  intro H locs ls hw hl
  have hl : lv_has ls 3 [(0, .ref (ga G 0))] := hl
  unfold f_X11_parties at h
  refine lv_iconst (v := (0 : Int32)) hx hb d_X11_parties_0 (by decide) ?_
  refine lv_istore_n (lv' := [(1, .int (0 : Int32)), (0, .ref (ga G 0))]) hx hb d_X11_parties_1 rfl hl (Nat.le_of_ble_eq_true rfl) rfl (fun ls hl => ?_)
  refine lv_iconst (v := (1 : Int32)) hx hb d_X11_parties_2 (by decide) ?_
  refine lv_istore_n (lv' := [(2, .int (1 : Int32)), (1, .int (0 : Int32)), (0, .ref (ga G 0))]) hx hb d_X11_parties_3 rfl hl (Nat.le_of_ble_eq_true rfl) rfl (fun ls hl => ?_)
  obtain ⟨z7, e8, h⟩ := bd_some h
  refine iter_w (Wh := fun z : Int32 × Int32 => Wat p l e (rmk 2 45) s m args below meth c Q G 3 4 [] [(1, .int z.1), (2, .int z.2), (0, .ref (ga G 0))] χ σ) (K := fun z : Int32 => Wat p l e (rmk 2 45) s m args below meth c Q G 3 42 [] [(0, .ref (ga G 0)), (1, .int z)] χ σ) (fun z o h1 h2 => b4 χ z.1 z.2 o h1 h2) FU _ _ e8 ?_ _ _ _ hw (lv_sub hl [1, 0, 2] rfl)
  intro H locs ls hw hl
  refine lv_aload_n hx hb d_X11_parties_42 rfl (lv_at hl 0 rfl) ?_
  refine r_getr (j := 1) X hw ct7 (o_0 hf) rfl (Nat.le_of_ble_eq_true rfl) (q := 3) rfl wd_265 d_X11_parties_43 ?_
  obtain ⟨q10, e11, h⟩ := bd_some h
  refine r_callV (As := []) (rest := []) (st' := []) X hw hl mwX9_start wd_420 wd_421 wd_419 (c_X9_start hf e11) (r_recv X hw ct6 (o_3 hf)) rfl ⟨Nat.le_of_ble_eq_true rfl, Nat.le_of_ble_eq_true rfl⟩ ⟨Nat.le_refl _, Nat.le_refl _⟩ rfl rfl (Nat.le_of_ble_eq_true rfl) d_X11_parties_46 (fun H locs hw => ?_)
  refine lv_aload_n hx hb d_X11_parties_49 rfl (lv_at hl 0 rfl) ?_
  refine r_getr (j := 1) X hw ct7 (o_0 hf) rfl (Nat.le_of_ble_eq_true rfl) (q := 3) rfl wd_265 d_X11_parties_50 ?_
  refine lv_iload_n hx hb d_X11_parties_53 rfl (lv_at hl 1 rfl) ?_
  refine lv_i2l hx hb d_X11_parties_54 rfl ?_
  obtain ⟨q12, e13, h⟩ := bd_some h
  refine r_callV (As := [.long z7.toInt64]) (rest := []) (st' := []) X hw hl mwX9_add wd_424 wd_425 wd_423 (c_X9_add hf e13) (r_recv X hw ct6 (o_3 hf)) rfl ⟨Nat.le_of_ble_eq_true rfl, Nat.le_of_ble_eq_true rfl⟩ ⟨Nat.le_refl _, Nat.le_refl _⟩ rfl rfl (Nat.le_of_ble_eq_true rfl) d_X11_parties_55 (fun H locs hw => ?_)
  refine lv_aload_n hx hb d_X11_parties_58 rfl (lv_at hl 0 rfl) ?_
  refine r_getr (j := 1) X hw ct7 (o_0 hf) rfl (Nat.le_of_ble_eq_true rfl) (q := 3) rfl wd_265 d_X11_parties_59 ?_
  refine lv_aload_n hx hb d_X11_parties_62 rfl (lv_at hl 0 rfl) ?_
  refine r_getr (j := 2) X hw ct7 (o_0 hf) rfl (Nat.le_of_ble_eq_true rfl) (q := 32) rfl wd_266 d_X11_parties_63 ?_
  refine lv_iload_n hx hb d_X11_parties_66 rfl (lv_at hl 1 rfl) ?_
  obtain ⟨q14, e15, h⟩ := bd_some h
  refine r_callS (As := [.ref (ga G 32), .int z7]) (rest := [.ref (ga G 3)]) (st' := [.int q14, .ref (ga G 3)]) X hw hl mwX2_weight wd_626 wd_662 (c_X2_weight hf b_32 e15) rfl ⟨Nat.le_of_ble_eq_true rfl, Nat.le_of_ble_eq_true rfl⟩ ⟨Nat.le_refl _, Nat.le_refl _⟩ rfl rfl (Nat.le_of_ble_eq_true rfl) d_X11_parties_67 (fun H locs hw => ?_)
  refine lv_i2l hx hb d_X11_parties_70 rfl ?_
  obtain ⟨q16, e17, h⟩ := bd_some h
  refine r_callV (As := [.long q14.toInt64]) (rest := []) (st' := []) X hw hl mwX9_add wd_424 wd_425 wd_423 (c_X9_add hf e17) (r_recv X hw ct6 (o_3 hf)) rfl ⟨Nat.le_of_ble_eq_true rfl, Nat.le_of_ble_eq_true rfl⟩ ⟨Nat.le_refl _, Nat.le_refl _⟩ rfl rfl (Nat.le_of_ble_eq_true rfl) d_X11_parties_71 (fun H locs hw => ?_)
  refine lv_aload_n hx hb d_X11_parties_74 rfl (lv_at hl 0 rfl) ?_
  refine r_getr (j := 2) X hw ct7 (o_0 hf) rfl (Nat.le_of_ble_eq_true rfl) (q := 32) rfl wd_266 d_X11_parties_75 ?_
  refine lv_iload_n hx hb d_X11_parties_78 rfl (lv_at hl 1 rfl) ?_
  obtain ⟨q18, e19, h⟩ := bd_some h
  refine r_callS (As := [.ref (ga G 32), .int z7]) (rest := []) (st' := [.int q18]) X hw hl mwX2_apart wd_657 wd_656 (c_X2_apart hf b_32 e19) rfl ⟨Nat.le_of_ble_eq_true rfl, Nat.le_of_ble_eq_true rfl⟩ ⟨Nat.le_refl _, Nat.le_refl _⟩ rfl rfl (Nat.le_of_ble_eq_true rfl) d_X11_parties_79 (fun H locs hw => ?_)
  obtain rfl := Option.some.inj h
  subst hQ
  exact r_iret X hr hlk hw d_X11_parties_82
abbrev yX11_seen : MethodName := ⟨"OysterBeds", "seen", "(III)I"⟩
theorem mwX11_seen : MW yX11_seen prog_1_method_36_code 4 (some .int) 3 := ⟨wd_666, wd_1, by decide +kernel⟩
theorem d_X11_seen_0 : decode prog_1_method_36_code 0 = .ok (.iload_n 1, 1) := by decide +kernel
theorem d_X11_seen_1 : decode prog_1_method_36_code 1 = .ok (.iload_n 2, 1) := by decide +kernel
theorem d_X11_seen_2 : decode prog_1_method_36_code 2 = .ok (.invokestatic 144, 3) := by decide +kernel
theorem d_X11_seen_5 : decode prog_1_method_36_code 5 = .ok (.ifCond .eq 23, 3) := by decide +kernel
theorem d_X11_seen_8 : decode prog_1_method_36_code 8 = .ok (.iload_n 3, 1) := by decide +kernel
theorem d_X11_seen_9 : decode prog_1_method_36_code 9 = .ok (.ifCond .lt 19, 3) := by decide +kernel
theorem d_X11_seen_12 : decode prog_1_method_36_code 12 = .ok (.iload_n 3, 1) := by decide +kernel
theorem d_X11_seen_13 : decode prog_1_method_36_code 13 = .ok (.bipush 8, 2) := by decide +kernel
theorem d_X11_seen_15 : decode prog_1_method_36_code 15 = .ok (.if_icmp .gt 13, 3) := by decide +kernel
theorem d_X11_seen_18 : decode prog_1_method_36_code 18 = .ok (.aload_n 0, 1) := by decide +kernel
theorem d_X11_seen_19 : decode prog_1_method_36_code 19 = .ok (.getfield 43, 3) := by decide +kernel
theorem d_X11_seen_22 : decode prog_1_method_36_code 22 = .ok (.invokevirtual 284, 3) := by decide +kernel
theorem d_X11_seen_25 : decode prog_1_method_36_code 25 = .ok (.ifCond .ne 5, 3) := by decide +kernel
theorem d_X11_seen_28 : decode prog_1_method_36_code 28 = .ok (.iconst (-1), 1) := by decide +kernel
theorem d_X11_seen_29 : decode prog_1_method_36_code 29 = .ok (.ireturn, 1) := by decide +kernel
theorem d_X11_seen_30 : decode prog_1_method_36_code 30 = .ok (.aload_n 0, 1) := by decide +kernel
theorem d_X11_seen_31 : decode prog_1_method_36_code 31 = .ok (.getfield 43, 3) := by decide +kernel
theorem d_X11_seen_34 : decode prog_1_method_36_code 34 = .ok (.iload_n 1, 1) := by decide +kernel
theorem d_X11_seen_35 : decode prog_1_method_36_code 35 = .ok (.iload_n 2, 1) := by decide +kernel
theorem d_X11_seen_36 : decode prog_1_method_36_code 36 = .ok (.iload_n 3, 1) := by decide +kernel
theorem d_X11_seen_37 : decode prog_1_method_36_code 37 = .ok (.invokevirtual 288, 3) := by decide +kernel
theorem d_X11_seen_40 : decode prog_1_method_36_code 40 = .ok (.ireturn, 1) := by decide +kernel
def f_X11_seen (χ : St) (a1 : Int32) (a2 : Int32) (a3 : Int32) : Option (Int32 × St) := (f_X11_isQuestion a1 a2).bind (fun q1 => (if q1 = 0 then some ((-1 : Int32), χ) else (if a3 < 0 then some ((-1 : Int32), χ) else (if (8 : Int32) < a3 then some ((-1 : Int32), χ) else (f_X7_hasRoom χ).bind (fun q3 => (if q3 = 0 then some ((-1 : Int32), χ) else (f_X7_note χ a1 a2 a3).bind (fun q5 => some (q5.1, q5.2))))))))
theorem c_X11_seen {l : Launch} {G : gT} {χ σ : St} {a1 : Int32} {a2 : Int32} {a3 : Int32} (hf : FW G) {q : Int32 × St} (h : f_X11_seen χ a1 a2 a3 = some q) : Ct l G yX11_seen prog_1_method_36_code 4 (some .int) 2 43 [.ref (ga G 0), .int a1, .int a2, .int a3] χ σ (some (.int q.1)) q.2 σ := by
  refine Ct.of (by decide) (Nat.le_of_ble_eq_true rfl) ?_
  intro p e s m args below meth c Q X hr hlk hQ
  have hx := X.1
  have hb := X.2.1
  intro H locs ls hw hl
  have hl : lv_has ls 4 [(0, .ref (ga G 0)), (1, .int a1), (2, .int a2), (3, .int a3)] := hl
  unfold f_X11_seen at h
  refine lv_iload_n hx hb d_X11_seen_0 rfl (lv_at hl 1 rfl) ?_
  refine lv_iload_n hx hb d_X11_seen_1 rfl (lv_at hl 2 rfl) ?_
  obtain ⟨q1, e2, h⟩ := bd_some h
  refine r_callS (As := [.int a1, .int a2]) (rest := []) (st' := [.int q1]) X hw hl mwX11_isQuestion wd_382 wd_381 (c_X11_isQuestion hf e2) rfl ⟨Nat.le_of_ble_eq_true rfl, Nat.le_of_ble_eq_true rfl⟩ ⟨Nat.le_refl _, Nat.le_refl _⟩ rfl rfl (Nat.le_of_ble_eq_true rfl) d_X11_seen_2 (fun H locs hw => ?_)
  refine lv_if_eq (tgt := 28) hx hb d_X11_seen_5 (by decide) (fun hc => ?_) (fun hc => ?_)
  · have h := ite_t h hc
    refine lv_iconst (v := (-1 : Int32)) hx hb d_X11_seen_28 (by decide) ?_
    obtain rfl := Option.some.inj h
    subst hQ
    exact r_iret X hr hlk hw d_X11_seen_29
  · have h := ite_f h hc
    refine lv_iload_n hx hb d_X11_seen_8 rfl (lv_at hl 3 rfl) ?_
    refine lv_if_lt (tgt := 28) hx hb d_X11_seen_9 (by decide) (fun hc => ?_) (fun hc => ?_)
    · have h := ite_t h hc
      refine lv_iconst (v := (-1 : Int32)) hx hb d_X11_seen_28 (by decide) ?_
      obtain rfl := Option.some.inj h
      subst hQ
      exact r_iret X hr hlk hw d_X11_seen_29
    · have h := ite_f h hc
      refine lv_iload_n hx hb d_X11_seen_12 rfl (lv_at hl 3 rfl) ?_
      refine lv_bipush (v := (8 : Int32)) hx hb d_X11_seen_13 (by decide) ?_
      refine lv_icmp_gt (tgt := 28) hx hb d_X11_seen_15 (by decide) (fun hc => ?_) (fun hc => ?_)
      · have h := ite_t h hc
        refine lv_iconst (v := (-1 : Int32)) hx hb d_X11_seen_28 (by decide) ?_
        obtain rfl := Option.some.inj h
        subst hQ
        exact r_iret X hr hlk hw d_X11_seen_29
      · have h := ite_f h hc
        refine lv_aload_n hx hb d_X11_seen_18 rfl (lv_at hl 0 rfl) ?_
        refine r_getr (j := 5) X hw ct7 (o_0 hf) rfl (Nat.le_of_ble_eq_true rfl) (q := 9) rfl wd_269 d_X11_seen_19 ?_
        obtain ⟨q3, e4, h⟩ := bd_some h
        refine r_callV (As := []) (rest := []) (st' := [.int q3]) X hw hl mwX7_hasRoom wd_668 wd_669 wd_667 (c_X7_hasRoom hf e4) (r_recv X hw ct4 (o_9 hf)) rfl ⟨Nat.le_of_ble_eq_true rfl, Nat.le_of_ble_eq_true rfl⟩ ⟨Nat.le_refl _, Nat.le_refl _⟩ rfl rfl (Nat.le_of_ble_eq_true rfl) d_X11_seen_22 (fun H locs hw => ?_)
        refine lv_if_ne (tgt := 30) hx hb d_X11_seen_25 (by decide) (fun hc => ?_) (fun hc => ?_)
        · have h := ite_f h hc
          refine lv_aload_n hx hb d_X11_seen_30 rfl (lv_at hl 0 rfl) ?_
          refine r_getr (j := 5) X hw ct7 (o_0 hf) rfl (Nat.le_of_ble_eq_true rfl) (q := 9) rfl wd_269 d_X11_seen_31 ?_
          refine lv_iload_n hx hb d_X11_seen_34 rfl (lv_at hl 1 rfl) ?_
          refine lv_iload_n hx hb d_X11_seen_35 rfl (lv_at hl 2 rfl) ?_
          refine lv_iload_n hx hb d_X11_seen_36 rfl (lv_at hl 3 rfl) ?_
          obtain ⟨q5, e6, h⟩ := bd_some h
          refine r_callV (As := [.int a1, .int a2, .int a3]) (rest := []) (st' := [.int q5.1]) X hw hl mwX7_note wd_672 wd_673 wd_671 (c_X7_note hf e6) (r_recv X hw ct4 (o_9 hf)) rfl ⟨Nat.le_of_ble_eq_true rfl, Nat.le_of_ble_eq_true rfl⟩ ⟨Nat.le_refl _, Nat.le_refl _⟩ rfl rfl (Nat.le_of_ble_eq_true rfl) d_X11_seen_37 (fun H locs hw => ?_)
          obtain rfl := Option.some.inj h
          subst hQ
          exact r_iret X hr hlk hw d_X11_seen_40
        · have h := ite_t h hc
          refine lv_iconst (v := (-1 : Int32)) hx hb d_X11_seen_28 (by decide) ?_
          obtain rfl := Option.some.inj h
          subst hQ
          exact r_iret X hr hlk hw d_X11_seen_29
abbrev yX11_forget : MethodName := ⟨"OysterBeds", "forget", "()I"⟩
theorem mwX11_forget : MW yX11_forget prog_1_method_37_code 1 (some .int) 0 := ⟨wd_679, wd_1, by decide +kernel⟩
theorem d_X11_forget_0 : decode prog_1_method_37_code 0 = .ok (.aload_n 0, 1) := by decide +kernel
theorem d_X11_forget_1 : decode prog_1_method_37_code 1 = .ok (.getfield 43, 3) := by decide +kernel
theorem d_X11_forget_4 : decode prog_1_method_37_code 4 = .ok (.invokevirtual 292, 3) := by decide +kernel
theorem d_X11_forget_7 : decode prog_1_method_37_code 7 = .ok (.ireturn, 1) := by decide +kernel
def f_X11_forget (χ : St) : Option (Int32 × St) := (f_X7_clear χ).bind (fun q1 => some (q1.1, q1.2))
theorem c_X11_forget {l : Launch} {G : gT} {χ σ : St} (hf : FW G) {q : Int32 × St} (h : f_X11_forget χ = some q) : Ct l G yX11_forget prog_1_method_37_code 1 (some .int) 1 21 [.ref (ga G 0)] χ σ (some (.int q.1)) q.2 σ := by
  refine Ct.of (by decide) (Nat.le_of_ble_eq_true rfl) ?_
  intro p e s m args below meth c Q X hr hlk hQ
  have hx := X.1
  have hb := X.2.1
  intro H locs ls hw hl
  have hl : lv_has ls 1 [(0, .ref (ga G 0))] := hl
  unfold f_X11_forget at h
  refine lv_aload_n hx hb d_X11_forget_0 rfl (lv_at hl 0 rfl) ?_
  refine r_getr (j := 5) X hw ct7 (o_0 hf) rfl (Nat.le_of_ble_eq_true rfl) (q := 9) rfl wd_269 d_X11_forget_1 ?_
  obtain ⟨q1, e2, h⟩ := bd_some h
  refine r_callV (As := []) (rest := []) (st' := [.int q1.1]) X hw hl mwX7_clear wd_681 wd_682 wd_680 (c_X7_clear hf e2) (r_recv X hw ct4 (o_9 hf)) rfl ⟨Nat.le_of_ble_eq_true rfl, Nat.le_of_ble_eq_true rfl⟩ ⟨Nat.le_refl _, Nat.le_refl _⟩ rfl rfl (Nat.le_of_ble_eq_true rfl) d_X11_forget_4 (fun H locs hw => ?_)
  obtain rfl := Option.some.inj h
  subst hQ
  exact r_iret X hr hlk hw d_X11_forget_7
abbrev yX11_cares : MethodName := ⟨"OysterBeds", "cares", "(I)I"⟩
theorem mwX11_cares : MW yX11_cares prog_1_method_38_code 3 (some .int) 1 := ⟨wd_687, wd_1, by decide +kernel⟩
theorem d_X11_cares_0 : decode prog_1_method_38_code 0 = .ok (.aload_n 0, 1) := by decide +kernel
theorem d_X11_cares_1 : decode prog_1_method_38_code 1 = .ok (.getfield 26, 3) := by decide +kernel
theorem d_X11_cares_4 : decode prog_1_method_38_code 4 = .ok (.iload_n 1, 1) := by decide +kernel
theorem d_X11_cares_5 : decode prog_1_method_38_code 5 = .ok (.invokevirtual 108, 3) := by decide +kernel
theorem d_X11_cares_8 : decode prog_1_method_38_code 8 = .ok (.ifCond .ne 5, 3) := by decide +kernel
theorem d_X11_cares_11 : decode prog_1_method_38_code 11 = .ok (.iconst (-1), 1) := by decide +kernel
theorem d_X11_cares_12 : decode prog_1_method_38_code 12 = .ok (.ireturn, 1) := by decide +kernel
theorem d_X11_cares_13 : decode prog_1_method_38_code 13 = .ok (.aload_n 0, 1) := by decide +kernel
theorem d_X11_cares_14 : decode prog_1_method_38_code 14 = .ok (.getfield 43, 3) := by decide +kernel
theorem d_X11_cares_17 : decode prog_1_method_38_code 17 = .ok (.aload_n 0, 1) := by decide +kernel
theorem d_X11_cares_18 : decode prog_1_method_38_code 18 = .ok (.getfield 26, 3) := by decide +kernel
theorem d_X11_cares_21 : decode prog_1_method_38_code 21 = .ok (.aload_n 0, 1) := by decide +kernel
theorem d_X11_cares_22 : decode prog_1_method_38_code 22 = .ok (.getfield 57, 3) := by decide +kernel
theorem d_X11_cares_25 : decode prog_1_method_38_code 25 = .ok (.iload_n 1, 1) := by decide +kernel
theorem d_X11_cares_26 : decode prog_1_method_38_code 26 = .ok (.invokevirtual 294, 3) := by decide +kernel
theorem d_X11_cares_29 : decode prog_1_method_38_code 29 = .ok (.istore_n 2, 1) := by decide +kernel
theorem d_X11_cares_30 : decode prog_1_method_38_code 30 = .ok (.aload_n 0, 1) := by decide +kernel
theorem d_X11_cares_31 : decode prog_1_method_38_code 31 = .ok (.getfield 19, 3) := by decide +kernel
theorem d_X11_cares_34 : decode prog_1_method_38_code 34 = .ok (.invokevirtual 156, 3) := by decide +kernel
theorem d_X11_cares_37 : decode prog_1_method_38_code 37 = .ok (.aload_n 0, 1) := by decide +kernel
theorem d_X11_cares_38 : decode prog_1_method_38_code 38 = .ok (.getfield 19, 3) := by decide +kernel
theorem d_X11_cares_41 : decode prog_1_method_38_code 41 = .ok (.iload_n 2, 1) := by decide +kernel
theorem d_X11_cares_42 : decode prog_1_method_38_code 42 = .ok (.invokestatic 166, 3) := by decide +kernel
theorem d_X11_cares_45 : decode prog_1_method_38_code 45 = .ok (.i2l, 1) := by decide +kernel
theorem d_X11_cares_46 : decode prog_1_method_38_code 46 = .ok (.invokevirtual 159, 3) := by decide +kernel
theorem d_X11_cares_49 : decode prog_1_method_38_code 49 = .ok (.iload_n 2, 1) := by decide +kernel
theorem d_X11_cares_50 : decode prog_1_method_38_code 50 = .ok (.ifCond .eq 27, 3) := by decide +kernel
theorem d_X11_cares_53 : decode prog_1_method_38_code 53 = .ok (.aload_n 0, 1) := by decide +kernel
theorem d_X11_cares_54 : decode prog_1_method_38_code 54 = .ok (.getfield 19, 3) := by decide +kernel
theorem d_X11_cares_57 : decode prog_1_method_38_code 57 = .ok (.iload_n 2, 1) := by decide +kernel
theorem d_X11_cares_58 : decode prog_1_method_38_code 58 = .ok (.invokestatic 298, 3) := by decide +kernel
theorem d_X11_cares_61 : decode prog_1_method_38_code 61 = .ok (.i2l, 1) := by decide +kernel
theorem d_X11_cares_62 : decode prog_1_method_38_code 62 = .ok (.invokevirtual 159, 3) := by decide +kernel
theorem d_X11_cares_65 : decode prog_1_method_38_code 65 = .ok (.aload_n 0, 1) := by decide +kernel
theorem d_X11_cares_66 : decode prog_1_method_38_code 66 = .ok (.getfield 19, 3) := by decide +kernel
theorem d_X11_cares_69 : decode prog_1_method_38_code 69 = .ok (.iload_n 2, 1) := by decide +kernel
theorem d_X11_cares_70 : decode prog_1_method_38_code 70 = .ok (.invokestatic 301, 3) := by decide +kernel
theorem d_X11_cares_73 : decode prog_1_method_38_code 73 = .ok (.i2l, 1) := by decide +kernel
theorem d_X11_cares_74 : decode prog_1_method_38_code 74 = .ok (.invokevirtual 159, 3) := by decide +kernel
theorem d_X11_cares_77 : decode prog_1_method_38_code 77 = .ok (.iload_n 2, 1) := by decide +kernel
theorem d_X11_cares_78 : decode prog_1_method_38_code 78 = .ok (.ireturn, 1) := by decide +kernel
def f_X11_cares (χ : St) (a1 : Int32) : Option (Int32 × St) := (f_X0_has χ 32 a1).bind (fun q1 => (if q1 = 0 then some ((-1 : Int32), χ) else gd (isLaw (cW χ).1) ((f_X7_viewsOf χ 32 (cW χ).1 a1).bind (fun q4 => (f_X9_start q4.2).bind (fun q6 => (f_J6_bitCount_0f7a4 q4.1).bind (fun q8 => (f_X9_add q6 q8.toInt64).bind (fun q10 => (if q4.1 = 0 then some (q4.1, q10) else (f_X10_leastIn q4.1).bind (fun q12 => (f_X9_add q10 q12.toInt64).bind (fun q14 => (f_X10_greatestIn q4.1).bind (fun q16 => (f_X9_add q14 q16.toInt64).bind (fun q18 => some (q4.1, q18)))))))))))))
theorem c_X11_cares {l : Launch} {G : gT} {χ σ : St} {a1 : Int32} (hf : FW G) {q : Int32 × St} (h : f_X11_cares χ a1 = some q) : Ct l G yX11_cares prog_1_method_38_code 3 (some .int) 5 127 [.ref (ga G 0), .int a1] χ σ (some (.int q.1)) q.2 σ := by
  refine Ct.of (by decide) (Nat.le_of_ble_eq_true rfl) ?_
  intro p e s m args below meth c Q X hr hlk hQ
  have hx := X.1
  have hb := X.2.1
  intro H locs ls hw hl
  have hl : lv_has ls 3 [(0, .ref (ga G 0)), (1, .int a1)] := hl
  unfold f_X11_cares at h
  refine lv_aload_n hx hb d_X11_cares_0 rfl (lv_at hl 0 rfl) ?_
  refine r_getr (j := 2) X hw ct7 (o_0 hf) rfl (Nat.le_of_ble_eq_true rfl) (q := 32) rfl wd_266 d_X11_cares_1 ?_
  refine lv_iload_n hx hb d_X11_cares_4 rfl (lv_at hl 1 rfl) ?_
  obtain ⟨q1, e2, h⟩ := bd_some h
  refine r_callV (As := [.int a1]) (rest := []) (st' := [.int q1]) X hw hl mwX0_has wd_409 wd_410 wd_618 (c_X0_has hf b_32 e2) (r_recv X hw ct0 (o_32 hf)) rfl ⟨Nat.le_of_ble_eq_true rfl, Nat.le_of_ble_eq_true rfl⟩ ⟨Nat.le_refl _, Nat.le_refl _⟩ rfl rfl (Nat.le_of_ble_eq_true rfl) d_X11_cares_5 (fun H locs hw => ?_)
  refine lv_if_ne (tgt := 13) hx hb d_X11_cares_8 (by decide) (fun hc => ?_) (fun hc => ?_)
  · have h := ite_f h hc
    refine lv_aload_n hx hb d_X11_cares_13 rfl (lv_at hl 0 rfl) ?_
    refine r_getr (j := 5) X hw ct7 (o_0 hf) rfl (Nat.le_of_ble_eq_true rfl) (q := 9) rfl wd_269 d_X11_cares_14 ?_
    refine lv_aload_n hx hb d_X11_cares_17 rfl (lv_at hl 0 rfl) ?_
    refine r_getr (j := 2) X hw ct7 (o_0 hf) rfl (Nat.le_of_ble_eq_true rfl) (q := 32) rfl wd_266 d_X11_cares_18 ?_
    refine lv_aload_n hx hb d_X11_cares_21 rfl (lv_at hl 0 rfl) ?_
    obtain ⟨hw3, h⟩ := gd_some h
    refine r_getr (j := 7) X hw ct7 (o_0 hf) rfl (Nat.le_of_ble_eq_true rfl) (q := (cW χ).1) rfl wd_271 d_X11_cares_22 ?_
    refine lv_iload_n hx hb d_X11_cares_25 rfl (lv_at hl 1 rfl) ?_
    obtain ⟨q4, e5, h⟩ := bd_some h
    refine r_callV (As := [.ref (ga G 32), .ref (ga G (cW χ).1), .int a1]) (rest := []) (st' := [.int q4.1]) X hw hl mwX7_viewsOf wd_689 wd_690 wd_688 (c_X7_viewsOf hf b_32 (LW.of hf hw3) e5) (r_recv X hw ct4 (o_9 hf)) rfl ⟨Nat.le_of_ble_eq_true rfl, Nat.le_of_ble_eq_true rfl⟩ ⟨Nat.le_refl _, Nat.le_refl _⟩ rfl rfl (Nat.le_of_ble_eq_true rfl) d_X11_cares_26 (fun H locs hw => ?_)
    refine lv_istore_n (lv' := [(2, .int q4.1), (0, .ref (ga G 0)), (1, .int a1)]) hx hb d_X11_cares_29 rfl hl (Nat.le_of_ble_eq_true rfl) rfl (fun ls hl => ?_)
    refine lv_aload_n hx hb d_X11_cares_30 rfl (lv_at hl 1 rfl) ?_
    refine r_getr (j := 1) X hw ct7 (o_0 hf) rfl (Nat.le_of_ble_eq_true rfl) (q := 3) rfl wd_265 d_X11_cares_31 ?_
    obtain ⟨q6, e7, h⟩ := bd_some h
    refine r_callV (As := []) (rest := []) (st' := []) X hw hl mwX9_start wd_420 wd_421 wd_419 (c_X9_start hf e7) (r_recv X hw ct6 (o_3 hf)) rfl ⟨Nat.le_of_ble_eq_true rfl, Nat.le_of_ble_eq_true rfl⟩ ⟨Nat.le_refl _, Nat.le_refl _⟩ rfl rfl (Nat.le_of_ble_eq_true rfl) d_X11_cares_34 (fun H locs hw => ?_)
    refine lv_aload_n hx hb d_X11_cares_37 rfl (lv_at hl 1 rfl) ?_
    refine r_getr (j := 1) X hw ct7 (o_0 hf) rfl (Nat.le_of_ble_eq_true rfl) (q := 3) rfl wd_265 d_X11_cares_38 ?_
    refine lv_iload_n hx hb d_X11_cares_41 rfl (lv_at hl 0 rfl) ?_
    obtain ⟨q8, e9, h⟩ := bd_some h
    refine r_callS (As := [.int q4.1]) (rest := [.ref (ga G 3)]) (st' := [.int q8, .ref (ga G 3)]) X hw hl mwJ6_bitCount_0f7a4 wd_436 wd_435 (c_J6_bitCount_0f7a4 e9) rfl ⟨Nat.le_of_ble_eq_true rfl, Nat.le_of_ble_eq_true rfl⟩ ⟨Nat.le_refl _, Nat.le_refl _⟩ rfl rfl (Nat.le_of_ble_eq_true rfl) d_X11_cares_42 (fun H locs hw => ?_)
    refine lv_i2l hx hb d_X11_cares_45 rfl ?_
    obtain ⟨q10, e11, h⟩ := bd_some h
    refine r_callV (As := [.long q8.toInt64]) (rest := []) (st' := []) X hw hl mwX9_add wd_424 wd_425 wd_423 (c_X9_add hf e11) (r_recv X hw ct6 (o_3 hf)) rfl ⟨Nat.le_of_ble_eq_true rfl, Nat.le_of_ble_eq_true rfl⟩ ⟨Nat.le_refl _, Nat.le_refl _⟩ rfl rfl (Nat.le_of_ble_eq_true rfl) d_X11_cares_46 (fun H locs hw => ?_)
    refine lv_iload_n hx hb d_X11_cares_49 rfl (lv_at hl 0 rfl) ?_
    refine lv_if_eq (tgt := 77) hx hb d_X11_cares_50 (by decide) (fun hc => ?_) (fun hc => ?_)
    · have h := ite_t h hc
      refine lv_iload_n hx hb d_X11_cares_77 rfl (lv_at hl 0 rfl) ?_
      obtain rfl := Option.some.inj h
      subst hQ
      exact r_iret X hr hlk hw d_X11_cares_78
    · have h := ite_f h hc
      refine lv_aload_n hx hb d_X11_cares_53 rfl (lv_at hl 1 rfl) ?_
      refine r_getr (j := 1) X hw ct7 (o_0 hf) rfl (Nat.le_of_ble_eq_true rfl) (q := 3) rfl wd_265 d_X11_cares_54 ?_
      refine lv_iload_n hx hb d_X11_cares_57 rfl (lv_at hl 0 rfl) ?_
      obtain ⟨q12, e13, h⟩ := bd_some h
      refine r_callS (As := [.int q4.1]) (rest := [.ref (ga G 3)]) (st' := [.int q12, .ref (ga G 3)]) X hw hl mwX10_leastIn wd_705 wd_704 (c_X10_leastIn hf e13) rfl ⟨Nat.le_of_ble_eq_true rfl, Nat.le_of_ble_eq_true rfl⟩ ⟨Nat.le_refl _, Nat.le_refl _⟩ rfl rfl (Nat.le_of_ble_eq_true rfl) d_X11_cares_58 (fun H locs hw => ?_)
      refine lv_i2l hx hb d_X11_cares_61 rfl ?_
      obtain ⟨q14, e15, h⟩ := bd_some h
      refine r_callV (As := [.long q12.toInt64]) (rest := []) (st' := []) X hw hl mwX9_add wd_424 wd_425 wd_423 (c_X9_add hf e15) (r_recv X hw ct6 (o_3 hf)) rfl ⟨Nat.le_of_ble_eq_true rfl, Nat.le_of_ble_eq_true rfl⟩ ⟨Nat.le_refl _, Nat.le_refl _⟩ rfl rfl (Nat.le_of_ble_eq_true rfl) d_X11_cares_62 (fun H locs hw => ?_)
      refine lv_aload_n hx hb d_X11_cares_65 rfl (lv_at hl 1 rfl) ?_
      refine r_getr (j := 1) X hw ct7 (o_0 hf) rfl (Nat.le_of_ble_eq_true rfl) (q := 3) rfl wd_265 d_X11_cares_66 ?_
      refine lv_iload_n hx hb d_X11_cares_69 rfl (lv_at hl 0 rfl) ?_
      obtain ⟨q16, e17, h⟩ := bd_some h
      refine r_callS (As := [.int q4.1]) (rest := [.ref (ga G 3)]) (st' := [.int q16, .ref (ga G 3)]) X hw hl mwX10_greatestIn wd_708 wd_707 (c_X10_greatestIn hf e17) rfl ⟨Nat.le_of_ble_eq_true rfl, Nat.le_of_ble_eq_true rfl⟩ ⟨Nat.le_refl _, Nat.le_refl _⟩ rfl rfl (Nat.le_of_ble_eq_true rfl) d_X11_cares_70 (fun H locs hw => ?_)
      refine lv_i2l hx hb d_X11_cares_73 rfl ?_
      obtain ⟨q18, e19, h⟩ := bd_some h
      refine r_callV (As := [.long q16.toInt64]) (rest := []) (st' := []) X hw hl mwX9_add wd_424 wd_425 wd_423 (c_X9_add hf e19) (r_recv X hw ct6 (o_3 hf)) rfl ⟨Nat.le_of_ble_eq_true rfl, Nat.le_of_ble_eq_true rfl⟩ ⟨Nat.le_refl _, Nat.le_refl _⟩ rfl rfl (Nat.le_of_ble_eq_true rfl) d_X11_cares_74 (fun H locs hw => ?_)
      refine lv_iload_n hx hb d_X11_cares_77 rfl (lv_at hl 0 rfl) ?_
      obtain rfl := Option.some.inj h
      subst hQ
      exact r_iret X hr hlk hw d_X11_cares_78
  · have h := ite_t h hc
    refine lv_iconst (v := (-1 : Int32)) hx hb d_X11_cares_11 (by decide) ?_
    obtain rfl := Option.some.inj h
    subst hQ
    exact r_iret X hr hlk hw d_X11_cares_12
abbrev yX11_mostLeft : MethodName := ⟨"OysterBeds", "mostLeft", "(IIII)I"⟩
theorem mwX11_mostLeft : MW yX11_mostLeft prog_1_method_60_code 7 (some .int) 4 := ⟨wd_717, wd_1, by decide +kernel⟩
theorem d_X11_mostLeft_0 : decode prog_1_method_60_code 0 = .ok (.iload_n 1, 1) := by decide +kernel
theorem d_X11_mostLeft_1 : decode prog_1_method_60_code 1 = .ok (.invokestatic 166, 3) := by decide +kernel
theorem d_X11_mostLeft_4 : decode prog_1_method_60_code 4 = .ok (.istore 5, 2) := by decide +kernel
theorem d_X11_mostLeft_6 : decode prog_1_method_60_code 6 = .ok (.aload_n 0, 1) := by decide +kernel
theorem d_X11_mostLeft_7 : decode prog_1_method_60_code 7 = .ok (.getfield 26, 3) := by decide +kernel
theorem d_X11_mostLeft_10 : decode prog_1_method_60_code 10 = .ok (.aload_n 0, 1) := by decide +kernel
theorem d_X11_mostLeft_11 : decode prog_1_method_60_code 11 = .ok (.getfield 57, 3) := by decide +kernel
theorem d_X11_mostLeft_14 : decode prog_1_method_60_code 14 = .ok (.iload_n 2, 1) := by decide +kernel
theorem d_X11_mostLeft_15 : decode prog_1_method_60_code 15 = .ok (.iconst 0, 1) := by decide +kernel
theorem d_X11_mostLeft_16 : decode prog_1_method_60_code 16 = .ok (.iload 4, 2) := by decide +kernel
theorem d_X11_mostLeft_18 : decode prog_1_method_60_code 18 = .ok (.invokevirtual 382, 3) := by decide +kernel
theorem d_X11_mostLeft_21 : decode prog_1_method_60_code 21 = .ok (.aload_n 0, 1) := by decide +kernel
theorem d_X11_mostLeft_22 : decode prog_1_method_60_code 22 = .ok (.getfield 26, 3) := by decide +kernel
theorem d_X11_mostLeft_25 : decode prog_1_method_60_code 25 = .ok (.aload_n 0, 1) := by decide +kernel
theorem d_X11_mostLeft_26 : decode prog_1_method_60_code 26 = .ok (.getfield 57, 3) := by decide +kernel
theorem d_X11_mostLeft_29 : decode prog_1_method_60_code 29 = .ok (.iload_n 2, 1) := by decide +kernel
theorem d_X11_mostLeft_30 : decode prog_1_method_60_code 30 = .ok (.iconst 1, 1) := by decide +kernel
theorem d_X11_mostLeft_31 : decode prog_1_method_60_code 31 = .ok (.iload 4, 2) := by decide +kernel
theorem d_X11_mostLeft_33 : decode prog_1_method_60_code 33 = .ok (.invokevirtual 382, 3) := by decide +kernel
theorem d_X11_mostLeft_36 : decode prog_1_method_60_code 36 = .ok (.if_icmp .ne 6, 3) := by decide +kernel
theorem d_X11_mostLeft_39 : decode prog_1_method_60_code 39 = .ok (.iload 5, 2) := by decide +kernel
theorem d_X11_mostLeft_41 : decode prog_1_method_60_code 41 = .ok (.ireturn, 1) := by decide +kernel
theorem d_X11_mostLeft_42 : decode prog_1_method_60_code 42 = .ok (.iload_n 1, 1) := by decide +kernel
theorem d_X11_mostLeft_43 : decode prog_1_method_60_code 43 = .ok (.iload_n 3, 1) := by decide +kernel
theorem d_X11_mostLeft_44 : decode prog_1_method_60_code 44 = .ok (.invokestatic 386, 3) := by decide +kernel
theorem d_X11_mostLeft_47 : decode prog_1_method_60_code 47 = .ok (.iand, 1) := by decide +kernel
theorem d_X11_mostLeft_48 : decode prog_1_method_60_code 48 = .ok (.invokestatic 166, 3) := by decide +kernel
theorem d_X11_mostLeft_51 : decode prog_1_method_60_code 51 = .ok (.istore 6, 2) := by decide +kernel
theorem d_X11_mostLeft_53 : decode prog_1_method_60_code 53 = .ok (.iload 6, 2) := by decide +kernel
theorem d_X11_mostLeft_55 : decode prog_1_method_60_code 55 = .ok (.iload 5, 2) := by decide +kernel
theorem d_X11_mostLeft_57 : decode prog_1_method_60_code 57 = .ok (.iload 6, 2) := by decide +kernel
theorem d_X11_mostLeft_59 : decode prog_1_method_60_code 59 = .ok (.isub, 1) := by decide +kernel
theorem d_X11_mostLeft_60 : decode prog_1_method_60_code 60 = .ok (.invokestatic 224, 3) := by decide +kernel
theorem d_X11_mostLeft_63 : decode prog_1_method_60_code 63 = .ok (.ireturn, 1) := by decide +kernel
def f_X11_mostLeft (χ : St) (a1 : Int32) (a2 : Int32) (a3 : Int32) (a4 : Int32) : Option (Int32 × St) := (f_J6_bitCount_0f7a4 a1).bind (fun q1 => gd (isLaw (cW χ).1) ((f_X0_closes χ 32 (cW χ).1 a2 (0 : Int32) a4).bind (fun q4 => gd (isLaw (cW q4.2).1) ((f_X0_closes q4.2 32 (cW q4.2).1 a2 (1 : Int32) a4).bind (fun q7 => (if q4.1 = q7.1 then some (q1, q7.2) else (f_X10_withYes a3).bind (fun q9 => (f_J6_bitCount_0f7a4 (a1 &&& q9)).bind (fun q11 => some ((if q11 < (q1 - q11) then (q1 - q11) else q11), q7.2)))))))))
theorem c_X11_mostLeft {l : Launch} {G : gT} {χ σ : St} {a1 : Int32} {a2 : Int32} {a3 : Int32} {a4 : Int32} (hf : FW G) {q : Int32 × St} (h : f_X11_mostLeft χ a1 a2 a3 a4 = some q) : Ct l G yX11_mostLeft prog_1_method_60_code 7 (some .int) 4 98 [.ref (ga G 0), .int a1, .int a2, .int a3, .int a4] χ σ (some (.int q.1)) q.2 σ := by
  refine Ct.of (by decide) (Nat.le_of_ble_eq_true rfl) ?_
  intro p e s m args below meth c Q X hr hlk hQ
  have hx := X.1
  have hb := X.2.1
  intro H locs ls hw hl
  have hl : lv_has ls 7 [(0, .ref (ga G 0)), (1, .int a1), (2, .int a2), (3, .int a3), (4, .int a4)] := hl
  unfold f_X11_mostLeft at h
  refine lv_iload_n hx hb d_X11_mostLeft_0 rfl (lv_at hl 1 rfl) ?_
  obtain ⟨q1, e2, h⟩ := bd_some h
  refine r_callS (As := [.int a1]) (rest := []) (st' := [.int q1]) X hw hl mwJ6_bitCount_0f7a4 wd_436 wd_435 (c_J6_bitCount_0f7a4 e2) rfl ⟨Nat.le_of_ble_eq_true rfl, Nat.le_of_ble_eq_true rfl⟩ ⟨Nat.le_refl _, Nat.le_refl _⟩ rfl rfl (Nat.le_of_ble_eq_true rfl) d_X11_mostLeft_1 (fun H locs hw => ?_)
  refine lv_istore (lv' := [(5, .int q1), (0, .ref (ga G 0)), (1, .int a1), (2, .int a2), (3, .int a3), (4, .int a4)]) hx hb d_X11_mostLeft_4 hl (Nat.le_of_ble_eq_true rfl) rfl (fun ls hl => ?_)
  refine lv_aload_n hx hb d_X11_mostLeft_6 rfl (lv_at hl 1 rfl) ?_
  refine r_getr (j := 2) X hw ct7 (o_0 hf) rfl (Nat.le_of_ble_eq_true rfl) (q := 32) rfl wd_266 d_X11_mostLeft_7 ?_
  refine lv_aload_n hx hb d_X11_mostLeft_10 rfl (lv_at hl 1 rfl) ?_
  obtain ⟨hw3, h⟩ := gd_some h
  refine r_getr (j := 7) X hw ct7 (o_0 hf) rfl (Nat.le_of_ble_eq_true rfl) (q := (cW χ).1) rfl wd_271 d_X11_mostLeft_11 ?_
  refine lv_iload_n hx hb d_X11_mostLeft_14 rfl (lv_at hl 3 rfl) ?_
  refine lv_iconst (v := (0 : Int32)) hx hb d_X11_mostLeft_15 (by decide) ?_
  refine lv_iload hx hb d_X11_mostLeft_16 (lv_at hl 5 rfl) ?_
  obtain ⟨q4, e5, h⟩ := bd_some h
  refine r_callV (As := [.ref (ga G (cW χ).1), .int a2, .int (0 : Int32), .int a4]) (rest := []) (st' := [.int q4.1]) X hw hl mwX0_closes wd_701 wd_702 wd_718 (c_X0_closes hf b_32 (LW.of hf hw3) e5) (r_recv X hw ct0 (o_32 hf)) rfl ⟨Nat.le_of_ble_eq_true rfl, Nat.le_of_ble_eq_true rfl⟩ ⟨Nat.le_refl _, Nat.le_refl _⟩ rfl rfl (Nat.le_of_ble_eq_true rfl) d_X11_mostLeft_18 (fun H locs hw => ?_)
  refine lv_aload_n hx hb d_X11_mostLeft_21 rfl (lv_at hl 1 rfl) ?_
  refine r_getr (j := 2) X hw ct7 (o_0 hf) rfl (Nat.le_of_ble_eq_true rfl) (q := 32) rfl wd_266 d_X11_mostLeft_22 ?_
  refine lv_aload_n hx hb d_X11_mostLeft_25 rfl (lv_at hl 1 rfl) ?_
  obtain ⟨hw6, h⟩ := gd_some h
  refine r_getr (j := 7) X hw ct7 (o_0 hf) rfl (Nat.le_of_ble_eq_true rfl) (q := (cW q4.2).1) rfl wd_271 d_X11_mostLeft_26 ?_
  refine lv_iload_n hx hb d_X11_mostLeft_29 rfl (lv_at hl 3 rfl) ?_
  refine lv_iconst (v := (1 : Int32)) hx hb d_X11_mostLeft_30 (by decide) ?_
  refine lv_iload hx hb d_X11_mostLeft_31 (lv_at hl 5 rfl) ?_
  obtain ⟨q7, e8, h⟩ := bd_some h
  refine r_callV (As := [.ref (ga G (cW q4.2).1), .int a2, .int (1 : Int32), .int a4]) (rest := [.int q4.1]) (st' := [.int q7.1, .int q4.1]) X hw hl mwX0_closes wd_701 wd_702 wd_718 (c_X0_closes hf b_32 (LW.of hf hw6) e8) (r_recv X hw ct0 (o_32 hf)) rfl ⟨Nat.le_of_ble_eq_true rfl, Nat.le_of_ble_eq_true rfl⟩ ⟨Nat.le_refl _, Nat.le_refl _⟩ rfl rfl (Nat.le_of_ble_eq_true rfl) d_X11_mostLeft_33 (fun H locs hw => ?_)
  refine lv_icmp_ne (tgt := 42) hx hb d_X11_mostLeft_36 (by decide) (fun hc => ?_) (fun hc => ?_)
  · have h := ite_f h hc
    refine lv_iload_n hx hb d_X11_mostLeft_42 rfl (lv_at hl 2 rfl) ?_
    refine lv_iload_n hx hb d_X11_mostLeft_43 rfl (lv_at hl 4 rfl) ?_
    obtain ⟨q9, e10, h⟩ := bd_some h
    refine r_callS (As := [.int a3]) (rest := [.int a1]) (st' := [.int q9, .int a1]) X hw hl mwX10_withYes wd_696 wd_719 (c_X10_withYes hf e10) rfl ⟨Nat.le_of_ble_eq_true rfl, Nat.le_of_ble_eq_true rfl⟩ ⟨Nat.le_refl _, Nat.le_refl _⟩ rfl rfl (Nat.le_of_ble_eq_true rfl) d_X11_mostLeft_44 (fun H locs hw => ?_)
    refine lv_iand hx hb d_X11_mostLeft_47 ?_
    obtain ⟨q11, e12, h⟩ := bd_some h
    refine r_callS (As := [.int (a1 &&& q9)]) (rest := []) (st' := [.int q11]) X hw hl mwJ6_bitCount_0f7a4 wd_436 wd_435 (c_J6_bitCount_0f7a4 e12) rfl ⟨Nat.le_of_ble_eq_true rfl, Nat.le_of_ble_eq_true rfl⟩ ⟨Nat.le_refl _, Nat.le_refl _⟩ rfl rfl (Nat.le_of_ble_eq_true rfl) d_X11_mostLeft_48 (fun H locs hw => ?_)
    refine lv_istore (lv' := [(6, .int q11), (5, .int q1), (0, .ref (ga G 0)), (1, .int a1), (2, .int a2), (3, .int a3), (4, .int a4)]) hx hb d_X11_mostLeft_51 hl (Nat.le_of_ble_eq_true rfl) rfl (fun ls hl => ?_)
    refine lv_iload hx hb d_X11_mostLeft_53 (lv_at hl 0 rfl) ?_
    refine lv_iload hx hb d_X11_mostLeft_55 (lv_at hl 1 rfl) ?_
    refine lv_iload hx hb d_X11_mostLeft_57 (lv_at hl 0 rfl) ?_
    refine lv_isub hx hb d_X11_mostLeft_59 ?_
    refine r_max X hl wd_551 ⟨Nat.le_of_ble_eq_true rfl, Nat.le_of_ble_eq_true rfl⟩ ⟨Nat.le_refl _, Nat.le_refl _⟩ d_X11_mostLeft_60 ?_
    obtain rfl := Option.some.inj h
    subst hQ
    exact r_iret X hr hlk hw d_X11_mostLeft_63
  · have h := ite_t h hc
    refine lv_iload hx hb d_X11_mostLeft_39 (lv_at hl 0 rfl) ?_
    obtain rfl := Option.some.inj h
    subst hQ
    exact r_iret X hr hlk hw d_X11_mostLeft_41
abbrev yX11_next : MethodName := ⟨"OysterBeds", "next", "(I)I"⟩
theorem mwX11_next : MW yX11_next prog_1_method_39_code 7 (some .int) 1 := ⟨wd_713, wd_1, by decide +kernel⟩
theorem d_X11_next_0 : decode prog_1_method_39_code 0 = .ok (.aload_n 0, 1) := by decide +kernel
theorem d_X11_next_1 : decode prog_1_method_39_code 1 = .ok (.getfield 26, 3) := by decide +kernel
theorem d_X11_next_4 : decode prog_1_method_39_code 4 = .ok (.iload_n 1, 1) := by decide +kernel
theorem d_X11_next_5 : decode prog_1_method_39_code 5 = .ok (.invokevirtual 108, 3) := by decide +kernel
theorem d_X11_next_8 : decode prog_1_method_39_code 8 = .ok (.ifCond .ne 5, 3) := by decide +kernel
theorem d_X11_next_11 : decode prog_1_method_39_code 11 = .ok (.iconst (-1), 1) := by decide +kernel
theorem d_X11_next_12 : decode prog_1_method_39_code 12 = .ok (.ireturn, 1) := by decide +kernel
theorem d_X11_next_13 : decode prog_1_method_39_code 13 = .ok (.aload_n 0, 1) := by decide +kernel
theorem d_X11_next_14 : decode prog_1_method_39_code 14 = .ok (.getfield 43, 3) := by decide +kernel
theorem d_X11_next_17 : decode prog_1_method_39_code 17 = .ok (.aload_n 0, 1) := by decide +kernel
theorem d_X11_next_18 : decode prog_1_method_39_code 18 = .ok (.getfield 26, 3) := by decide +kernel
theorem d_X11_next_21 : decode prog_1_method_39_code 21 = .ok (.aload_n 0, 1) := by decide +kernel
theorem d_X11_next_22 : decode prog_1_method_39_code 22 = .ok (.getfield 57, 3) := by decide +kernel
theorem d_X11_next_25 : decode prog_1_method_39_code 25 = .ok (.iload_n 1, 1) := by decide +kernel
theorem d_X11_next_26 : decode prog_1_method_39_code 26 = .ok (.invokevirtual 294, 3) := by decide +kernel
theorem d_X11_next_29 : decode prog_1_method_39_code 29 = .ok (.istore_n 2, 1) := by decide +kernel
theorem d_X11_next_30 : decode prog_1_method_39_code 30 = .ok (.iload_n 2, 1) := by decide +kernel
theorem d_X11_next_31 : decode prog_1_method_39_code 31 = .ok (.ifCond .ne 6, 3) := by decide +kernel
theorem d_X11_next_34 : decode prog_1_method_39_code 34 = .ok (.bipush (-2), 2) := by decide +kernel
theorem d_X11_next_36 : decode prog_1_method_39_code 36 = .ok (.ireturn, 1) := by decide +kernel
theorem d_X11_next_37 : decode prog_1_method_39_code 37 = .ok (.iconst 0, 1) := by decide +kernel
theorem d_X11_next_38 : decode prog_1_method_39_code 38 = .ok (.istore_n 3, 1) := by decide +kernel
theorem d_X11_next_39 : decode prog_1_method_39_code 39 = .ok (.bipush 17, 2) := by decide +kernel
theorem d_X11_next_41 : decode prog_1_method_39_code 41 = .ok (.istore 4, 2) := by decide +kernel
theorem d_X11_next_43 : decode prog_1_method_39_code 43 = .ok (.iconst 0, 1) := by decide +kernel
theorem d_X11_next_44 : decode prog_1_method_39_code 44 = .ok (.istore 5, 2) := by decide +kernel
theorem d_X11_next_46 : decode prog_1_method_39_code 46 = .ok (.iload 5, 2) := by decide +kernel
theorem d_X11_next_48 : decode prog_1_method_39_code 48 = .ok (.bipush 40, 2) := by decide +kernel
theorem d_X11_next_50 : decode prog_1_method_39_code 50 = .ok (.if_icmp .ge 41, 3) := by decide +kernel
theorem d_X11_next_53 : decode prog_1_method_39_code 53 = .ok (.aload_n 0, 1) := by decide +kernel
theorem d_X11_next_54 : decode prog_1_method_39_code 54 = .ok (.iload_n 2, 1) := by decide +kernel
theorem d_X11_next_55 : decode prog_1_method_39_code 55 = .ok (.iload_n 1, 1) := by decide +kernel
theorem d_X11_next_56 : decode prog_1_method_39_code 56 = .ok (.iload 5, 2) := by decide +kernel
theorem d_X11_next_58 : decode prog_1_method_39_code 58 = .ok (.bipush 10, 2) := by decide +kernel
theorem d_X11_next_60 : decode prog_1_method_39_code 60 = .ok (.idiv, 1) := by decide +kernel
theorem d_X11_next_61 : decode prog_1_method_39_code 61 = .ok (.iload 5, 2) := by decide +kernel
theorem d_X11_next_63 : decode prog_1_method_39_code 63 = .ok (.bipush 10, 2) := by decide +kernel
theorem d_X11_next_65 : decode prog_1_method_39_code 65 = .ok (.irem, 1) := by decide +kernel
theorem d_X11_next_66 : decode prog_1_method_39_code 66 = .ok (.invokevirtual 304, 3) := by decide +kernel
theorem d_X11_next_69 : decode prog_1_method_39_code 69 = .ok (.istore 6, 2) := by decide +kernel
theorem d_X11_next_71 : decode prog_1_method_39_code 71 = .ok (.iload 6, 2) := by decide +kernel
theorem d_X11_next_73 : decode prog_1_method_39_code 73 = .ok (.iload 4, 2) := by decide +kernel
theorem d_X11_next_75 : decode prog_1_method_39_code 75 = .ok (.if_icmp .ge 10, 3) := by decide +kernel
theorem d_X11_next_78 : decode prog_1_method_39_code 78 = .ok (.iload 6, 2) := by decide +kernel
theorem d_X11_next_80 : decode prog_1_method_39_code 80 = .ok (.istore 4, 2) := by decide +kernel
theorem d_X11_next_82 : decode prog_1_method_39_code 82 = .ok (.iload 5, 2) := by decide +kernel
theorem d_X11_next_84 : decode prog_1_method_39_code 84 = .ok (.istore_n 3, 1) := by decide +kernel
theorem d_X11_next_85 : decode prog_1_method_39_code 85 = .ok (.iinc 5 1, 3) := by decide +kernel
theorem d_X11_next_88 : decode prog_1_method_39_code 88 = .ok (.goto (-42), 3) := by decide +kernel
theorem d_X11_next_91 : decode prog_1_method_39_code 91 = .ok (.aload_n 0, 1) := by decide +kernel
theorem d_X11_next_92 : decode prog_1_method_39_code 92 = .ok (.getfield 19, 3) := by decide +kernel
theorem d_X11_next_95 : decode prog_1_method_39_code 95 = .ok (.invokevirtual 156, 3) := by decide +kernel
theorem d_X11_next_98 : decode prog_1_method_39_code 98 = .ok (.aload_n 0, 1) := by decide +kernel
theorem d_X11_next_99 : decode prog_1_method_39_code 99 = .ok (.getfield 19, 3) := by decide +kernel
theorem d_X11_next_102 : decode prog_1_method_39_code 102 = .ok (.iload 4, 2) := by decide +kernel
theorem d_X11_next_104 : decode prog_1_method_39_code 104 = .ok (.i2l, 1) := by decide +kernel
theorem d_X11_next_105 : decode prog_1_method_39_code 105 = .ok (.invokevirtual 159, 3) := by decide +kernel
theorem d_X11_next_108 : decode prog_1_method_39_code 108 = .ok (.iload_n 3, 1) := by decide +kernel
theorem d_X11_next_109 : decode prog_1_method_39_code 109 = .ok (.ireturn, 1) := by decide +kernel
def f_X11_next_j85_46 (τ : St) (x1 : Int32) (x2 : Int32) (x3 : Int32) (x4 : Int32) (x5 : Int32) : Option ((Int32 × Int32 × Int32 × St) ⊕ (Int32 × Int32 × St)) := some (.inl (x3, x4, (x5 + (1 : Int32)), τ))
def f_X11_next_s46 (τ : St) (y1 : Int32) (y2 : Int32) (x3 : Int32) (x4 : Int32) (x5 : Int32) : Option ((Int32 × Int32 × Int32 × St) ⊕ (Int32 × Int32 × St)) := (if (40 : Int32) ≤ x5 then some (.inr (x3, x4, τ)) else (f_X11_mostLeft τ y2 y1 (x5 / (10 : Int32)) (x5 - x5 / (10 : Int32) * (10 : Int32))).bind (fun q6 => f_X11_next_j85_46 q6.2 y1 y2 (if x4 ≤ q6.1 then x3 else x5) (if x4 ≤ q6.1 then x4 else q6.1) x5))
def f_X11_next (χ : St) (a1 : Int32) : Option (Int32 × St) := (f_X0_has χ 32 a1).bind (fun q1 => (if q1 = 0 then some ((-1 : Int32), χ) else gd (isLaw (cW χ).1) ((f_X7_viewsOf χ 32 (cW χ).1 a1).bind (fun q4 => (if q4.1 = 0 then some ((-2 : Int32), q4.2) else (iter (fun z => f_X11_next_s46 z.2.2.2 a1 q4.1 z.1 z.2.1 z.2.2.1) FU ((0 : Int32), (17 : Int32), (0 : Int32), q4.2)).bind (fun z8 => (f_X9_start z8.2.2).bind (fun q11 => (f_X9_add q11 (z8.2.1).toInt64).bind (fun q13 => some (z8.1, q13)))))))))
theorem c_X11_next {l : Launch} {G : gT} {χ σ : St} {a1 : Int32} (hf : FW G) {q : Int32 × St} (h : f_X11_next χ a1 = some q) : Ct l G yX11_next prog_1_method_39_code 7 (some .int) 5 127 [.ref (ga G 0), .int a1] χ σ (some (.int q.1)) q.2 σ := by
  refine Ct.of (by decide) (Nat.le_of_ble_eq_true rfl) ?_
  intro p e s m args below meth c Q X hr hlk hQ
  have hx := X.1
  have hb := X.2.1
  have j85_46 : ∀ (τ : St) (x1 : Int32) (x2 : Int32) (x3 : Int32) (x4 : Int32) (x5 : Int32) (o : (Int32 × Int32 × Int32 × St) ⊕ (Int32 × Int32 × St)), f_X11_next_j85_46 τ x1 x2 x3 x4 x5 = some o → Sum.elim (fun z : Int32 × Int32 × Int32 × St => Wat p l e (rmk 5 127) s m args below meth c Q G 7 46 [] [(3, .int z.1), (4, .int z.2.1), (5, .int z.2.2.1), (0, .ref (ga G 0)), (1, .int x1), (2, .int x2)] z.2.2.2 σ) (fun z : Int32 × Int32 × St => Wat p l e (rmk 5 127) s m args below meth c Q G 7 91 [] [(0, .ref (ga G 0)), (3, .int z.1), (4, .int z.2.1)] z.2.2 σ) o → Wat p l e (rmk 5 127) s m args below meth c Q G 7 85 [] [(0, .ref (ga G 0)), (1, .int x1), (2, .int x2), (3, .int x3), (4, .int x4), (5, .int x5)] τ σ := by
    intro τ x1 x2 x3 x4 x5 o h hk H locs ls hw hl
    unfold f_X11_next_j85_46 at h
    refine lv_iinc (v := (x5 + (1 : Int32))) (k := 5) (lv' := [(5, .int (x5 + (1 : Int32))), (0, .ref (ga G 0)), (1, .int x1), (2, .int x2), (3, .int x3), (4, .int x4)]) hx hb d_X11_next_85 hl rfl (by rfl) (Nat.le_of_ble_eq_true rfl) rfl (fun ls hl => ?_)
    refine lv_goto (tgt := 46) hx hb d_X11_next_88 (by decide) ?_
    obtain rfl := Option.some.inj h
    dsimp only [Sum.elim_inl] at hk
    exact hk _ _ _ hw (lv_sub hl [4, 5, 0, 1, 2, 3] rfl)
  have b46 : ∀ (τ : St) (y1 : Int32) (y2 : Int32) (x3 : Int32) (x4 : Int32) (x5 : Int32) (o : (Int32 × Int32 × Int32 × St) ⊕ (Int32 × Int32 × St)), f_X11_next_s46 τ y1 y2 x3 x4 x5 = some o → Sum.elim (fun z : Int32 × Int32 × Int32 × St => Wat p l e (rmk 5 127) s m args below meth c Q G 7 46 [] [(3, .int z.1), (4, .int z.2.1), (5, .int z.2.2.1), (0, .ref (ga G 0)), (1, .int y1), (2, .int y2)] z.2.2.2 σ) (fun z : Int32 × Int32 × St => Wat p l e (rmk 5 127) s m args below meth c Q G 7 91 [] [(0, .ref (ga G 0)), (3, .int z.1), (4, .int z.2.1)] z.2.2 σ) o → Wat p l e (rmk 5 127) s m args below meth c Q G 7 46 [] [(3, .int x3), (4, .int x4), (5, .int x5), (0, .ref (ga G 0)), (1, .int y1), (2, .int y2)] τ σ := by
    intro τ y1 y2 x3 x4 x5 o h hk H locs ls hw hl
    unfold f_X11_next_s46 at h
    refine lv_iload hx hb d_X11_next_46 (lv_at hl 2 rfl) ?_
    refine lv_bipush (v := (40 : Int32)) hx hb d_X11_next_48 (by decide) ?_
    refine lv_icmp_ge (tgt := 91) hx hb d_X11_next_50 (by decide) (fun hc => ?_) (fun hc => ?_)
    · have h := ite_t h hc
      obtain rfl := Option.some.inj h
      dsimp only [Sum.elim_inr] at hk
      exact hk _ _ _ hw (lv_sub hl [3, 0, 1] rfl)
    · have h := ite_f h hc
      refine lv_aload_n hx hb d_X11_next_53 rfl (lv_at hl 3 rfl) ?_
      refine lv_iload_n hx hb d_X11_next_54 rfl (lv_at hl 5 rfl) ?_
      refine lv_iload_n hx hb d_X11_next_55 rfl (lv_at hl 4 rfl) ?_
      refine lv_iload hx hb d_X11_next_56 (lv_at hl 2 rfl) ?_
      refine lv_bipush (v := (10 : Int32)) hx hb d_X11_next_58 (by decide) ?_
      refine lv_idiv hx hb d_X11_next_60 (by decide) ?_
      refine lv_iload hx hb d_X11_next_61 (lv_at hl 2 rfl) ?_
      refine lv_bipush (v := (10 : Int32)) hx hb d_X11_next_63 (by decide) ?_
      refine lv_irem hx hb d_X11_next_65 (by decide) ?_
      obtain ⟨q6, e7, h⟩ := bd_some h
      refine r_callV (As := [.int y2, .int y1, .int (x5 / (10 : Int32)), .int (x5 - x5 / (10 : Int32) * (10 : Int32))]) (rest := []) (st' := [.int q6.1]) X hw hl mwX11_mostLeft wd_716 wp_14 wd_714 (c_X11_mostLeft hf e7) (r_recv X hw ct7 (o_0 hf)) rfl ⟨Nat.le_of_ble_eq_true rfl, Nat.le_of_ble_eq_true rfl⟩ ⟨Nat.le_refl _, Nat.le_refl _⟩ rfl rfl (Nat.le_of_ble_eq_true rfl) d_X11_next_66 (fun H locs hw => ?_)
      refine lv_istore (lv' := [(6, .int q6.1), (3, .int x3), (4, .int x4), (5, .int x5), (0, .ref (ga G 0)), (1, .int y1), (2, .int y2)]) hx hb d_X11_next_69 hl (Nat.le_of_ble_eq_true rfl) rfl (fun ls hl => ?_)
      refine lv_iload hx hb d_X11_next_71 (lv_at hl 0 rfl) ?_
      refine lv_iload hx hb d_X11_next_73 (lv_at hl 2 rfl) ?_
      refine lv_icmp_ge (tgt := 85) hx hb d_X11_next_75 (by decide) (fun hc => ?_) (fun hc => ?_)
      · simp only [if_pos hc] at h
        exact j85_46 q6.2 y1 y2 x3 x4 x5 o h hk _ _ _ hw (lv_sub hl [4, 5, 6, 1, 2, 3] rfl)
      · simp only [if_neg hc] at h
        refine lv_iload hx hb d_X11_next_78 (lv_at hl 0 rfl) ?_
        refine lv_istore (lv' := [(4, .int q6.1), (6, .int q6.1), (3, .int x3), (5, .int x5), (0, .ref (ga G 0)), (1, .int y1), (2, .int y2)]) hx hb d_X11_next_80 hl (Nat.le_of_ble_eq_true rfl) rfl (fun ls hl => ?_)
        refine lv_iload hx hb d_X11_next_82 (lv_at hl 3 rfl) ?_
        refine lv_istore_n (lv' := [(3, .int x5), (4, .int q6.1), (6, .int q6.1), (5, .int x5), (0, .ref (ga G 0)), (1, .int y1), (2, .int y2)]) hx hb d_X11_next_84 rfl hl (Nat.le_of_ble_eq_true rfl) rfl (fun ls hl => ?_)
        exact j85_46 q6.2 y1 y2 x5 q6.1 x5 o h hk _ _ _ hw (lv_sub hl [4, 5, 6, 0, 1, 3] rfl)
  intro H locs ls hw hl
  have hl : lv_has ls 7 [(0, .ref (ga G 0)), (1, .int a1)] := hl
  unfold f_X11_next at h
  refine lv_aload_n hx hb d_X11_next_0 rfl (lv_at hl 0 rfl) ?_
  refine r_getr (j := 2) X hw ct7 (o_0 hf) rfl (Nat.le_of_ble_eq_true rfl) (q := 32) rfl wd_266 d_X11_next_1 ?_
  refine lv_iload_n hx hb d_X11_next_4 rfl (lv_at hl 1 rfl) ?_
  obtain ⟨q1, e2, h⟩ := bd_some h
  refine r_callV (As := [.int a1]) (rest := []) (st' := [.int q1]) X hw hl mwX0_has wd_409 wd_410 wd_618 (c_X0_has hf b_32 e2) (r_recv X hw ct0 (o_32 hf)) rfl ⟨Nat.le_of_ble_eq_true rfl, Nat.le_of_ble_eq_true rfl⟩ ⟨Nat.le_refl _, Nat.le_refl _⟩ rfl rfl (Nat.le_of_ble_eq_true rfl) d_X11_next_5 (fun H locs hw => ?_)
  refine lv_if_ne (tgt := 13) hx hb d_X11_next_8 (by decide) (fun hc => ?_) (fun hc => ?_)
  · have h := ite_f h hc
    refine lv_aload_n hx hb d_X11_next_13 rfl (lv_at hl 0 rfl) ?_
    refine r_getr (j := 5) X hw ct7 (o_0 hf) rfl (Nat.le_of_ble_eq_true rfl) (q := 9) rfl wd_269 d_X11_next_14 ?_
    refine lv_aload_n hx hb d_X11_next_17 rfl (lv_at hl 0 rfl) ?_
    refine r_getr (j := 2) X hw ct7 (o_0 hf) rfl (Nat.le_of_ble_eq_true rfl) (q := 32) rfl wd_266 d_X11_next_18 ?_
    refine lv_aload_n hx hb d_X11_next_21 rfl (lv_at hl 0 rfl) ?_
    obtain ⟨hw3, h⟩ := gd_some h
    refine r_getr (j := 7) X hw ct7 (o_0 hf) rfl (Nat.le_of_ble_eq_true rfl) (q := (cW χ).1) rfl wd_271 d_X11_next_22 ?_
    refine lv_iload_n hx hb d_X11_next_25 rfl (lv_at hl 1 rfl) ?_
    obtain ⟨q4, e5, h⟩ := bd_some h
    refine r_callV (As := [.ref (ga G 32), .ref (ga G (cW χ).1), .int a1]) (rest := []) (st' := [.int q4.1]) X hw hl mwX7_viewsOf wd_689 wd_690 wd_688 (c_X7_viewsOf hf b_32 (LW.of hf hw3) e5) (r_recv X hw ct4 (o_9 hf)) rfl ⟨Nat.le_of_ble_eq_true rfl, Nat.le_of_ble_eq_true rfl⟩ ⟨Nat.le_refl _, Nat.le_refl _⟩ rfl rfl (Nat.le_of_ble_eq_true rfl) d_X11_next_26 (fun H locs hw => ?_)
    refine lv_istore_n (lv' := [(2, .int q4.1), (0, .ref (ga G 0)), (1, .int a1)]) hx hb d_X11_next_29 rfl hl (Nat.le_of_ble_eq_true rfl) rfl (fun ls hl => ?_)
    refine lv_iload_n hx hb d_X11_next_30 rfl (lv_at hl 0 rfl) ?_
    refine lv_if_ne (tgt := 37) hx hb d_X11_next_31 (by decide) (fun hc => ?_) (fun hc => ?_)
    · have h := ite_f h hc
      refine lv_iconst (v := (0 : Int32)) hx hb d_X11_next_37 (by decide) ?_
      refine lv_istore_n (lv' := [(3, .int (0 : Int32)), (2, .int q4.1), (0, .ref (ga G 0)), (1, .int a1)]) hx hb d_X11_next_38 rfl hl (Nat.le_of_ble_eq_true rfl) rfl (fun ls hl => ?_)
      refine lv_bipush (v := (17 : Int32)) hx hb d_X11_next_39 (by decide) ?_
      refine lv_istore (lv' := [(4, .int (17 : Int32)), (3, .int (0 : Int32)), (2, .int q4.1), (0, .ref (ga G 0)), (1, .int a1)]) hx hb d_X11_next_41 hl (Nat.le_of_ble_eq_true rfl) rfl (fun ls hl => ?_)
      refine lv_iconst (v := (0 : Int32)) hx hb d_X11_next_43 (by decide) ?_
      refine lv_istore (lv' := [(5, .int (0 : Int32)), (4, .int (17 : Int32)), (3, .int (0 : Int32)), (2, .int q4.1), (0, .ref (ga G 0)), (1, .int a1)]) hx hb d_X11_next_44 hl (Nat.le_of_ble_eq_true rfl) rfl (fun ls hl => ?_)
      obtain ⟨z8, e9, h⟩ := bd_some h
      refine iter_w (Wh := fun z : Int32 × Int32 × Int32 × St => Wat p l e (rmk 5 127) s m args below meth c Q G 7 46 [] [(3, .int z.1), (4, .int z.2.1), (5, .int z.2.2.1), (0, .ref (ga G 0)), (1, .int a1), (2, .int q4.1)] z.2.2.2 σ) (K := fun z : Int32 × Int32 × St => Wat p l e (rmk 5 127) s m args below meth c Q G 7 91 [] [(0, .ref (ga G 0)), (3, .int z.1), (4, .int z.2.1)] z.2.2 σ) (fun z o h1 h2 => b46 z.2.2.2 a1 q4.1 z.1 z.2.1 z.2.2.1 o h1 h2) FU _ _ e9 ?_ _ _ _ hw (lv_sub hl [2, 1, 0, 4, 5, 3] rfl)
      intro H locs ls hw hl
      refine lv_aload_n hx hb d_X11_next_91 rfl (lv_at hl 0 rfl) ?_
      refine r_getr (j := 1) X hw ct7 (o_0 hf) rfl (Nat.le_of_ble_eq_true rfl) (q := 3) rfl wd_265 d_X11_next_92 ?_
      obtain ⟨q11, e12, h⟩ := bd_some h
      refine r_callV (As := []) (rest := []) (st' := []) X hw hl mwX9_start wd_420 wd_421 wd_419 (c_X9_start hf e12) (r_recv X hw ct6 (o_3 hf)) rfl ⟨Nat.le_of_ble_eq_true rfl, Nat.le_of_ble_eq_true rfl⟩ ⟨Nat.le_refl _, Nat.le_refl _⟩ rfl rfl (Nat.le_of_ble_eq_true rfl) d_X11_next_95 (fun H locs hw => ?_)
      refine lv_aload_n hx hb d_X11_next_98 rfl (lv_at hl 0 rfl) ?_
      refine r_getr (j := 1) X hw ct7 (o_0 hf) rfl (Nat.le_of_ble_eq_true rfl) (q := 3) rfl wd_265 d_X11_next_99 ?_
      refine lv_iload hx hb d_X11_next_102 (lv_at hl 2 rfl) ?_
      refine lv_i2l hx hb d_X11_next_104 rfl ?_
      obtain ⟨q13, e14, h⟩ := bd_some h
      refine r_callV (As := [.long (z8.2.1).toInt64]) (rest := []) (st' := []) X hw hl mwX9_add wd_424 wd_425 wd_423 (c_X9_add hf e14) (r_recv X hw ct6 (o_3 hf)) rfl ⟨Nat.le_of_ble_eq_true rfl, Nat.le_of_ble_eq_true rfl⟩ ⟨Nat.le_refl _, Nat.le_refl _⟩ rfl rfl (Nat.le_of_ble_eq_true rfl) d_X11_next_105 (fun H locs hw => ?_)
      refine lv_iload_n hx hb d_X11_next_108 rfl (lv_at hl 1 rfl) ?_
      obtain rfl := Option.some.inj h
      subst hQ
      exact r_iret X hr hlk hw d_X11_next_109
    · have h := ite_t h hc
      refine lv_bipush (v := (-2 : Int32)) hx hb d_X11_next_34 (by decide) ?_
      obtain rfl := Option.some.inj h
      subst hQ
      exact r_iret X hr hlk hw d_X11_next_36
  · have h := ite_t h hc
    refine lv_iconst (v := (-1 : Int32)) hx hb d_X11_next_11 (by decide) ?_
    obtain rfl := Option.some.inj h
    subst hQ
    exact r_iret X hr hlk hw d_X11_next_12
abbrev yX11_heard : MethodName := ⟨"OysterBeds", "heard", "(II)I"⟩
theorem mwX11_heard : MW yX11_heard prog_1_method_40_code 3 (some .int) 2 := ⟨wd_723, wd_1, by decide +kernel⟩
theorem d_X11_heard_0 : decode prog_1_method_40_code 0 = .ok (.iload_n 1, 1) := by decide +kernel
theorem d_X11_heard_1 : decode prog_1_method_40_code 1 = .ok (.iload_n 2, 1) := by decide +kernel
theorem d_X11_heard_2 : decode prog_1_method_40_code 2 = .ok (.invokestatic 308, 3) := by decide +kernel
theorem d_X11_heard_5 : decode prog_1_method_40_code 5 = .ok (.ifCond .eq 13, 3) := by decide +kernel
theorem d_X11_heard_8 : decode prog_1_method_40_code 8 = .ok (.aload_n 0, 1) := by decide +kernel
theorem d_X11_heard_9 : decode prog_1_method_40_code 9 = .ok (.getfield 50, 3) := by decide +kernel
theorem d_X11_heard_12 : decode prog_1_method_40_code 12 = .ok (.invokevirtual 311, 3) := by decide +kernel
theorem d_X11_heard_15 : decode prog_1_method_40_code 15 = .ok (.ifCond .ne 5, 3) := by decide +kernel
theorem d_X11_heard_18 : decode prog_1_method_40_code 18 = .ok (.iconst (-1), 1) := by decide +kernel
theorem d_X11_heard_19 : decode prog_1_method_40_code 19 = .ok (.ireturn, 1) := by decide +kernel
theorem d_X11_heard_20 : decode prog_1_method_40_code 20 = .ok (.aload_n 0, 1) := by decide +kernel
theorem d_X11_heard_21 : decode prog_1_method_40_code 21 = .ok (.getfield 50, 3) := by decide +kernel
theorem d_X11_heard_24 : decode prog_1_method_40_code 24 = .ok (.iload_n 1, 1) := by decide +kernel
theorem d_X11_heard_25 : decode prog_1_method_40_code 25 = .ok (.iload_n 2, 1) := by decide +kernel
theorem d_X11_heard_26 : decode prog_1_method_40_code 26 = .ok (.invokevirtual 312, 3) := by decide +kernel
theorem d_X11_heard_29 : decode prog_1_method_40_code 29 = .ok (.ireturn, 1) := by decide +kernel
def f_X11_heard (χ : St) (a1 : Int32) (a2 : Int32) : Option (Int32 × St) := (f_X4_canBe a1 a2).bind (fun q1 => (if q1 = 0 then some ((-1 : Int32), χ) else (f_X4_hasRoom χ).bind (fun q3 => (if q3 = 0 then some ((-1 : Int32), χ) else (f_X4_note χ a1 a2).bind (fun q5 => some (q5.1, q5.2))))))
theorem c_X11_heard {l : Launch} {G : gT} {χ σ : St} {a1 : Int32} {a2 : Int32} (hf : FW G) {q : Int32 × St} (h : f_X11_heard χ a1 a2 = some q) : Ct l G yX11_heard prog_1_method_40_code 3 (some .int) 2 42 [.ref (ga G 0), .int a1, .int a2] χ σ (some (.int q.1)) q.2 σ := by
  refine Ct.of (by decide) (Nat.le_of_ble_eq_true rfl) ?_
  intro p e s m args below meth c Q X hr hlk hQ
  have hx := X.1
  have hb := X.2.1
  intro H locs ls hw hl
  have hl : lv_has ls 3 [(0, .ref (ga G 0)), (1, .int a1), (2, .int a2)] := hl
  unfold f_X11_heard at h
  refine lv_iload_n hx hb d_X11_heard_0 rfl (lv_at hl 1 rfl) ?_
  refine lv_iload_n hx hb d_X11_heard_1 rfl (lv_at hl 2 rfl) ?_
  obtain ⟨q1, e2, h⟩ := bd_some h
  refine r_callS (As := [.int a1, .int a2]) (rest := []) (st' := [.int q1]) X hw hl mwX4_canBe wd_725 wd_724 (c_X4_canBe hf e2) rfl ⟨Nat.le_of_ble_eq_true rfl, Nat.le_of_ble_eq_true rfl⟩ ⟨Nat.le_refl _, Nat.le_refl _⟩ rfl rfl (Nat.le_of_ble_eq_true rfl) d_X11_heard_2 (fun H locs hw => ?_)
  refine lv_if_eq (tgt := 18) hx hb d_X11_heard_5 (by decide) (fun hc => ?_) (fun hc => ?_)
  · have h := ite_t h hc
    refine lv_iconst (v := (-1 : Int32)) hx hb d_X11_heard_18 (by decide) ?_
    obtain rfl := Option.some.inj h
    subst hQ
    exact r_iret X hr hlk hw d_X11_heard_19
  · have h := ite_f h hc
    refine lv_aload_n hx hb d_X11_heard_8 rfl (lv_at hl 0 rfl) ?_
    refine r_getr (j := 6) X hw ct7 (o_0 hf) rfl (Nat.le_of_ble_eq_true rfl) (q := 13) rfl wd_270 d_X11_heard_9 ?_
    obtain ⟨q3, e4, h⟩ := bd_some h
    refine r_callV (As := []) (rest := []) (st' := [.int q3]) X hw hl mwX4_hasRoom wd_730 wd_731 wd_729 (c_X4_hasRoom hf e4) (r_recv X hw ct1 (o_13 hf)) rfl ⟨Nat.le_of_ble_eq_true rfl, Nat.le_of_ble_eq_true rfl⟩ ⟨Nat.le_refl _, Nat.le_refl _⟩ rfl rfl (Nat.le_of_ble_eq_true rfl) d_X11_heard_12 (fun H locs hw => ?_)
    refine lv_if_ne (tgt := 20) hx hb d_X11_heard_15 (by decide) (fun hc => ?_) (fun hc => ?_)
    · have h := ite_f h hc
      refine lv_aload_n hx hb d_X11_heard_20 rfl (lv_at hl 0 rfl) ?_
      refine r_getr (j := 6) X hw ct7 (o_0 hf) rfl (Nat.le_of_ble_eq_true rfl) (q := 13) rfl wd_270 d_X11_heard_21 ?_
      refine lv_iload_n hx hb d_X11_heard_24 rfl (lv_at hl 1 rfl) ?_
      refine lv_iload_n hx hb d_X11_heard_25 rfl (lv_at hl 2 rfl) ?_
      obtain ⟨q5, e6, h⟩ := bd_some h
      refine r_callV (As := [.int a1, .int a2]) (rest := []) (st' := [.int q5.1]) X hw hl mwX4_note wd_734 wd_735 wd_733 (c_X4_note hf e6) (r_recv X hw ct1 (o_13 hf)) rfl ⟨Nat.le_of_ble_eq_true rfl, Nat.le_of_ble_eq_true rfl⟩ ⟨Nat.le_refl _, Nat.le_refl _⟩ rfl rfl (Nat.le_of_ble_eq_true rfl) d_X11_heard_26 (fun H locs hw => ?_)
      obtain rfl := Option.some.inj h
      subst hQ
      exact r_iret X hr hlk hw d_X11_heard_29
    · have h := ite_t h hc
      refine lv_iconst (v := (-1 : Int32)) hx hb d_X11_heard_18 (by decide) ?_
      obtain rfl := Option.some.inj h
      subst hQ
      exact r_iret X hr hlk hw d_X11_heard_19
abbrev yX11_denies : MethodName := ⟨"OysterBeds", "denies", "()I"⟩
theorem mwX11_denies : MW yX11_denies prog_1_method_41_code 1 (some .int) 0 := ⟨wd_741, wd_1, by decide +kernel⟩
theorem d_X11_denies_0 : decode prog_1_method_41_code 0 = .ok (.aload_n 0, 1) := by decide +kernel
theorem d_X11_denies_1 : decode prog_1_method_41_code 1 = .ok (.getfield 50, 3) := by decide +kernel
theorem d_X11_denies_4 : decode prog_1_method_41_code 4 = .ok (.invokevirtual 314, 3) := by decide +kernel
theorem d_X11_denies_7 : decode prog_1_method_41_code 7 = .ok (.ireturn, 1) := by decide +kernel
def f_X11_denies (χ : St) : Option (Int32 × St) := (f_X4_clear χ).bind (fun q1 => some (q1.1, q1.2))
theorem c_X11_denies {l : Launch} {G : gT} {χ σ : St} (hf : FW G) {q : Int32 × St} (h : f_X11_denies χ = some q) : Ct l G yX11_denies prog_1_method_41_code 1 (some .int) 1 21 [.ref (ga G 0)] χ σ (some (.int q.1)) q.2 σ := by
  refine Ct.of (by decide) (Nat.le_of_ble_eq_true rfl) ?_
  intro p e s m args below meth c Q X hr hlk hQ
  have hx := X.1
  have hb := X.2.1
  intro H locs ls hw hl
  have hl : lv_has ls 1 [(0, .ref (ga G 0))] := hl
  unfold f_X11_denies at h
  refine lv_aload_n hx hb d_X11_denies_0 rfl (lv_at hl 0 rfl) ?_
  refine r_getr (j := 6) X hw ct7 (o_0 hf) rfl (Nat.le_of_ble_eq_true rfl) (q := 13) rfl wd_270 d_X11_denies_1 ?_
  obtain ⟨q1, e2, h⟩ := bd_some h
  refine r_callV (As := []) (rest := []) (st' := [.int q1.1]) X hw hl mwX4_clear wd_743 wd_744 wd_742 (c_X4_clear hf e2) (r_recv X hw ct1 (o_13 hf)) rfl ⟨Nat.le_of_ble_eq_true rfl, Nat.le_of_ble_eq_true rfl⟩ ⟨Nat.le_refl _, Nat.le_refl _⟩ rfl rfl (Nat.le_of_ble_eq_true rfl) d_X11_denies_4 (fun H locs hw => ?_)
  obtain rfl := Option.some.inj h
  subst hQ
  exact r_iret X hr hlk hw d_X11_denies_7
abbrev yX11_fits : MethodName := ⟨"OysterBeds", "fits", "()I"⟩
theorem mwX11_fits : MW yX11_fits prog_1_method_42_code 2 (some .int) 0 := ⟨wd_749, wd_1, by decide +kernel⟩
theorem d_X11_fits_0 : decode prog_1_method_42_code 0 = .ok (.aload_n 0, 1) := by decide +kernel
theorem d_X11_fits_1 : decode prog_1_method_42_code 1 = .ok (.getfield 50, 3) := by decide +kernel
theorem d_X11_fits_4 : decode prog_1_method_42_code 4 = .ok (.aload_n 0, 1) := by decide +kernel
theorem d_X11_fits_5 : decode prog_1_method_42_code 5 = .ok (.getfield 26, 3) := by decide +kernel
theorem d_X11_fits_8 : decode prog_1_method_42_code 8 = .ok (.invokevirtual 315, 3) := by decide +kernel
theorem d_X11_fits_11 : decode prog_1_method_42_code 11 = .ok (.istore_n 1, 1) := by decide +kernel
theorem d_X11_fits_12 : decode prog_1_method_42_code 12 = .ok (.aload_n 0, 1) := by decide +kernel
theorem d_X11_fits_13 : decode prog_1_method_42_code 13 = .ok (.getfield 19, 3) := by decide +kernel
theorem d_X11_fits_16 : decode prog_1_method_42_code 16 = .ok (.invokevirtual 156, 3) := by decide +kernel
theorem d_X11_fits_19 : decode prog_1_method_42_code 19 = .ok (.aload_n 0, 1) := by decide +kernel
theorem d_X11_fits_20 : decode prog_1_method_42_code 20 = .ok (.getfield 19, 3) := by decide +kernel
theorem d_X11_fits_23 : decode prog_1_method_42_code 23 = .ok (.iload_n 1, 1) := by decide +kernel
theorem d_X11_fits_24 : decode prog_1_method_42_code 24 = .ok (.invokestatic 166, 3) := by decide +kernel
theorem d_X11_fits_27 : decode prog_1_method_42_code 27 = .ok (.i2l, 1) := by decide +kernel
theorem d_X11_fits_28 : decode prog_1_method_42_code 28 = .ok (.invokevirtual 159, 3) := by decide +kernel
theorem d_X11_fits_31 : decode prog_1_method_42_code 31 = .ok (.iload_n 1, 1) := by decide +kernel
theorem d_X11_fits_32 : decode prog_1_method_42_code 32 = .ok (.ireturn, 1) := by decide +kernel
def f_X11_fits (χ : St) : Option (Int32 × St) := (f_X4_onesOf χ 32).bind (fun q1 => (f_X9_start χ).bind (fun q3 => (f_J6_bitCount_0f7a4 q1).bind (fun q5 => (f_X9_add q3 q5.toInt64).bind (fun q7 => some (q1, q7)))))
theorem c_X11_fits {l : Launch} {G : gT} {χ σ : St} (hf : FW G) {q : Int32 × St} (h : f_X11_fits χ = some q) : Ct l G yX11_fits prog_1_method_42_code 2 (some .int) 3 70 [.ref (ga G 0)] χ σ (some (.int q.1)) q.2 σ := by
  refine Ct.of (by decide) (Nat.le_of_ble_eq_true rfl) ?_
  intro p e s m args below meth c Q X hr hlk hQ
  have hx := X.1
  have hb := X.2.1
  intro H locs ls hw hl
  have hl : lv_has ls 2 [(0, .ref (ga G 0))] := hl
  unfold f_X11_fits at h
  refine lv_aload_n hx hb d_X11_fits_0 rfl (lv_at hl 0 rfl) ?_
  refine r_getr (j := 6) X hw ct7 (o_0 hf) rfl (Nat.le_of_ble_eq_true rfl) (q := 13) rfl wd_270 d_X11_fits_1 ?_
  refine lv_aload_n hx hb d_X11_fits_4 rfl (lv_at hl 0 rfl) ?_
  refine r_getr (j := 2) X hw ct7 (o_0 hf) rfl (Nat.le_of_ble_eq_true rfl) (q := 32) rfl wd_266 d_X11_fits_5 ?_
  obtain ⟨q1, e2, h⟩ := bd_some h
  refine r_callV (As := [.ref (ga G 32)]) (rest := []) (st' := [.int q1]) X hw hl mwX4_onesOf wd_751 wd_752 wd_750 (c_X4_onesOf hf b_32 e2) (r_recv X hw ct1 (o_13 hf)) rfl ⟨Nat.le_of_ble_eq_true rfl, Nat.le_of_ble_eq_true rfl⟩ ⟨Nat.le_refl _, Nat.le_refl _⟩ rfl rfl (Nat.le_of_ble_eq_true rfl) d_X11_fits_8 (fun H locs hw => ?_)
  refine lv_istore_n (lv' := [(1, .int q1), (0, .ref (ga G 0))]) hx hb d_X11_fits_11 rfl hl (Nat.le_of_ble_eq_true rfl) rfl (fun ls hl => ?_)
  refine lv_aload_n hx hb d_X11_fits_12 rfl (lv_at hl 1 rfl) ?_
  refine r_getr (j := 1) X hw ct7 (o_0 hf) rfl (Nat.le_of_ble_eq_true rfl) (q := 3) rfl wd_265 d_X11_fits_13 ?_
  obtain ⟨q3, e4, h⟩ := bd_some h
  refine r_callV (As := []) (rest := []) (st' := []) X hw hl mwX9_start wd_420 wd_421 wd_419 (c_X9_start hf e4) (r_recv X hw ct6 (o_3 hf)) rfl ⟨Nat.le_of_ble_eq_true rfl, Nat.le_of_ble_eq_true rfl⟩ ⟨Nat.le_refl _, Nat.le_refl _⟩ rfl rfl (Nat.le_of_ble_eq_true rfl) d_X11_fits_16 (fun H locs hw => ?_)
  refine lv_aload_n hx hb d_X11_fits_19 rfl (lv_at hl 1 rfl) ?_
  refine r_getr (j := 1) X hw ct7 (o_0 hf) rfl (Nat.le_of_ble_eq_true rfl) (q := 3) rfl wd_265 d_X11_fits_20 ?_
  refine lv_iload_n hx hb d_X11_fits_23 rfl (lv_at hl 0 rfl) ?_
  obtain ⟨q5, e6, h⟩ := bd_some h
  refine r_callS (As := [.int q1]) (rest := [.ref (ga G 3)]) (st' := [.int q5, .ref (ga G 3)]) X hw hl mwJ6_bitCount_0f7a4 wd_436 wd_435 (c_J6_bitCount_0f7a4 e6) rfl ⟨Nat.le_of_ble_eq_true rfl, Nat.le_of_ble_eq_true rfl⟩ ⟨Nat.le_refl _, Nat.le_refl _⟩ rfl rfl (Nat.le_of_ble_eq_true rfl) d_X11_fits_24 (fun H locs hw => ?_)
  refine lv_i2l hx hb d_X11_fits_27 rfl ?_
  obtain ⟨q7, e8, h⟩ := bd_some h
  refine r_callV (As := [.long q5.toInt64]) (rest := []) (st' := []) X hw hl mwX9_add wd_424 wd_425 wd_423 (c_X9_add hf e8) (r_recv X hw ct6 (o_3 hf)) rfl ⟨Nat.le_of_ble_eq_true rfl, Nat.le_of_ble_eq_true rfl⟩ ⟨Nat.le_refl _, Nat.le_refl _⟩ rfl rfl (Nat.le_of_ble_eq_true rfl) d_X11_fits_28 (fun H locs hw => ?_)
  refine lv_iload_n hx hb d_X11_fits_31 rfl (lv_at hl 0 rfl) ?_
  obtain rfl := Option.some.inj h
  subst hQ
  exact r_iret X hr hlk hw d_X11_fits_32
abbrev yX11_asks : MethodName := ⟨"OysterBeds", "asks", "()I"⟩
theorem mwX11_asks : MW yX11_asks prog_1_method_43_code 7 (some .int) 0 := ⟨wd_764, wd_1, by decide +kernel⟩
theorem d_X11_asks_0 : decode prog_1_method_43_code 0 = .ok (.aload_n 0, 1) := by decide +kernel
theorem d_X11_asks_1 : decode prog_1_method_43_code 1 = .ok (.getfield 50, 3) := by decide +kernel
theorem d_X11_asks_4 : decode prog_1_method_43_code 4 = .ok (.aload_n 0, 1) := by decide +kernel
theorem d_X11_asks_5 : decode prog_1_method_43_code 5 = .ok (.getfield 26, 3) := by decide +kernel
theorem d_X11_asks_8 : decode prog_1_method_43_code 8 = .ok (.invokevirtual 315, 3) := by decide +kernel
theorem d_X11_asks_11 : decode prog_1_method_43_code 11 = .ok (.istore_n 1, 1) := by decide +kernel
theorem d_X11_asks_12 : decode prog_1_method_43_code 12 = .ok (.iload_n 1, 1) := by decide +kernel
theorem d_X11_asks_13 : decode prog_1_method_43_code 13 = .ok (.ifCond .ne 6, 3) := by decide +kernel
theorem d_X11_asks_16 : decode prog_1_method_43_code 16 = .ok (.bipush (-2), 2) := by decide +kernel
theorem d_X11_asks_18 : decode prog_1_method_43_code 18 = .ok (.ireturn, 1) := by decide +kernel
theorem d_X11_asks_19 : decode prog_1_method_43_code 19 = .ok (.iconst 0, 1) := by decide +kernel
theorem d_X11_asks_20 : decode prog_1_method_43_code 20 = .ok (.istore_n 2, 1) := by decide +kernel
theorem d_X11_asks_21 : decode prog_1_method_43_code 21 = .ok (.bipush 9, 2) := by decide +kernel
theorem d_X11_asks_23 : decode prog_1_method_43_code 23 = .ok (.istore_n 3, 1) := by decide +kernel
theorem d_X11_asks_24 : decode prog_1_method_43_code 24 = .ok (.iconst 0, 1) := by decide +kernel
theorem d_X11_asks_25 : decode prog_1_method_43_code 25 = .ok (.istore 4, 2) := by decide +kernel
theorem d_X11_asks_27 : decode prog_1_method_43_code 27 = .ok (.iload 4, 2) := by decide +kernel
theorem d_X11_asks_29 : decode prog_1_method_43_code 29 = .ok (.bipush 50, 2) := by decide +kernel
theorem d_X11_asks_31 : decode prog_1_method_43_code 31 = .ok (.if_icmp .ge 75, 3) := by decide +kernel
theorem d_X11_asks_34 : decode prog_1_method_43_code 34 = .ok (.iload 4, 2) := by decide +kernel
theorem d_X11_asks_36 : decode prog_1_method_43_code 36 = .ok (.bipush 10, 2) := by decide +kernel
theorem d_X11_asks_38 : decode prog_1_method_43_code 38 = .ok (.idiv, 1) := by decide +kernel
theorem d_X11_asks_39 : decode prog_1_method_43_code 39 = .ok (.iload 4, 2) := by decide +kernel
theorem d_X11_asks_41 : decode prog_1_method_43_code 41 = .ok (.bipush 10, 2) := by decide +kernel
theorem d_X11_asks_43 : decode prog_1_method_43_code 43 = .ok (.irem, 1) := by decide +kernel
theorem d_X11_asks_44 : decode prog_1_method_43_code 44 = .ok (.invokestatic 308, 3) := by decide +kernel
theorem d_X11_asks_47 : decode prog_1_method_43_code 47 = .ok (.ifCond .eq 53, 3) := by decide +kernel
theorem d_X11_asks_50 : decode prog_1_method_43_code 50 = .ok (.iload_n 1, 1) := by decide +kernel
theorem d_X11_asks_51 : decode prog_1_method_43_code 51 = .ok (.aload_n 0, 1) := by decide +kernel
theorem d_X11_asks_52 : decode prog_1_method_43_code 52 = .ok (.getfield 26, 3) := by decide +kernel
theorem d_X11_asks_55 : decode prog_1_method_43_code 55 = .ok (.iload 4, 2) := by decide +kernel
theorem d_X11_asks_57 : decode prog_1_method_43_code 57 = .ok (.bipush 10, 2) := by decide +kernel
theorem d_X11_asks_59 : decode prog_1_method_43_code 59 = .ok (.idiv, 1) := by decide +kernel
theorem d_X11_asks_60 : decode prog_1_method_43_code 60 = .ok (.iload 4, 2) := by decide +kernel
theorem d_X11_asks_62 : decode prog_1_method_43_code 62 = .ok (.bipush 10, 2) := by decide +kernel
theorem d_X11_asks_64 : decode prog_1_method_43_code 64 = .ok (.irem, 1) := by decide +kernel
theorem d_X11_asks_65 : decode prog_1_method_43_code 65 = .ok (.invokestatic 318, 3) := by decide +kernel
theorem d_X11_asks_68 : decode prog_1_method_43_code 68 = .ok (.iand, 1) := by decide +kernel
theorem d_X11_asks_69 : decode prog_1_method_43_code 69 = .ok (.invokestatic 166, 3) := by decide +kernel
theorem d_X11_asks_72 : decode prog_1_method_43_code 72 = .ok (.istore 5, 2) := by decide +kernel
theorem d_X11_asks_74 : decode prog_1_method_43_code 74 = .ok (.iload 5, 2) := by decide +kernel
theorem d_X11_asks_76 : decode prog_1_method_43_code 76 = .ok (.iload_n 1, 1) := by decide +kernel
theorem d_X11_asks_77 : decode prog_1_method_43_code 77 = .ok (.invokestatic 166, 3) := by decide +kernel
theorem d_X11_asks_80 : decode prog_1_method_43_code 80 = .ok (.iload 5, 2) := by decide +kernel
theorem d_X11_asks_82 : decode prog_1_method_43_code 82 = .ok (.isub, 1) := by decide +kernel
theorem d_X11_asks_83 : decode prog_1_method_43_code 83 = .ok (.invokestatic 224, 3) := by decide +kernel
theorem d_X11_asks_86 : decode prog_1_method_43_code 86 = .ok (.istore 6, 2) := by decide +kernel
theorem d_X11_asks_88 : decode prog_1_method_43_code 88 = .ok (.iload 6, 2) := by decide +kernel
theorem d_X11_asks_90 : decode prog_1_method_43_code 90 = .ok (.iload_n 3, 1) := by decide +kernel
theorem d_X11_asks_91 : decode prog_1_method_43_code 91 = .ok (.if_icmp .ge 9, 3) := by decide +kernel
theorem d_X11_asks_94 : decode prog_1_method_43_code 94 = .ok (.iload 6, 2) := by decide +kernel
theorem d_X11_asks_96 : decode prog_1_method_43_code 96 = .ok (.istore_n 3, 1) := by decide +kernel
theorem d_X11_asks_97 : decode prog_1_method_43_code 97 = .ok (.iload 4, 2) := by decide +kernel
theorem d_X11_asks_99 : decode prog_1_method_43_code 99 = .ok (.istore_n 2, 1) := by decide +kernel
theorem d_X11_asks_100 : decode prog_1_method_43_code 100 = .ok (.iinc 4 1, 3) := by decide +kernel
theorem d_X11_asks_103 : decode prog_1_method_43_code 103 = .ok (.goto (-76), 3) := by decide +kernel
theorem d_X11_asks_106 : decode prog_1_method_43_code 106 = .ok (.aload_n 0, 1) := by decide +kernel
theorem d_X11_asks_107 : decode prog_1_method_43_code 107 = .ok (.getfield 19, 3) := by decide +kernel
theorem d_X11_asks_110 : decode prog_1_method_43_code 110 = .ok (.invokevirtual 156, 3) := by decide +kernel
theorem d_X11_asks_113 : decode prog_1_method_43_code 113 = .ok (.aload_n 0, 1) := by decide +kernel
theorem d_X11_asks_114 : decode prog_1_method_43_code 114 = .ok (.getfield 19, 3) := by decide +kernel
theorem d_X11_asks_117 : decode prog_1_method_43_code 117 = .ok (.iload_n 3, 1) := by decide +kernel
theorem d_X11_asks_118 : decode prog_1_method_43_code 118 = .ok (.i2l, 1) := by decide +kernel
theorem d_X11_asks_119 : decode prog_1_method_43_code 119 = .ok (.invokevirtual 159, 3) := by decide +kernel
theorem d_X11_asks_122 : decode prog_1_method_43_code 122 = .ok (.iload_n 2, 1) := by decide +kernel
theorem d_X11_asks_123 : decode prog_1_method_43_code 123 = .ok (.ireturn, 1) := by decide +kernel
def f_X11_asks_j100_27 (τ : St) (x1 : Int32) (x2 : Int32) (x3 : Int32) (x4 : Int32) : Option ((Int32 × Int32 × Int32) ⊕ (Int32 × Int32)) := some (.inl (x2, x3, (x4 + (1 : Int32))))
def f_X11_asks_s27 (τ : St) (y1 : Int32) (x2 : Int32) (x3 : Int32) (x4 : Int32) : Option ((Int32 × Int32 × Int32) ⊕ (Int32 × Int32)) := (if (50 : Int32) ≤ x4 then some (.inr (x2, x3)) else (f_X4_canBe (x4 / (10 : Int32)) (x4 - x4 / (10 : Int32) * (10 : Int32))).bind (fun q3 => (if q3 = 0 then f_X11_asks_j100_27 τ y1 x2 x3 x4 else (f_X4_onesSuch τ 32 (x4 / (10 : Int32)) (x4 - x4 / (10 : Int32) * (10 : Int32))).bind (fun q5 => (f_J6_bitCount_0f7a4 (y1 &&& q5)).bind (fun q7 => (f_J6_bitCount_0f7a4 y1).bind (fun q9 => f_X11_asks_j100_27 τ y1 (if x3 ≤ (if q7 < (q9 - q7) then (q9 - q7) else q7) then x2 else x4) (if x3 ≤ (if q7 < (q9 - q7) then (q9 - q7) else q7) then x3 else (if q7 < (q9 - q7) then (q9 - q7) else q7)) x4))))))
def f_X11_asks (χ : St) : Option (Int32 × St) := (f_X4_onesOf χ 32).bind (fun q1 => (if q1 = 0 then some ((-2 : Int32), χ) else (iter (fun z => f_X11_asks_s27 χ q1 z.1 z.2.1 z.2.2) FU ((0 : Int32), (9 : Int32), (0 : Int32))).bind (fun z11 => (f_X9_start χ).bind (fun q14 => (f_X9_add q14 (z11.2).toInt64).bind (fun q16 => some (z11.1, q16))))))
theorem c_X11_asks {l : Launch} {G : gT} {χ σ : St} (hf : FW G) {q : Int32 × St} (h : f_X11_asks χ = some q) : Ct l G yX11_asks prog_1_method_43_code 7 (some .int) 3 70 [.ref (ga G 0)] χ σ (some (.int q.1)) q.2 σ := by
  refine Ct.of (by decide) (Nat.le_of_ble_eq_true rfl) ?_
  intro p e s m args below meth c Q X hr hlk hQ
  have hx := X.1
  have hb := X.2.1
  have j100_27 : ∀ (τ : St) (x1 : Int32) (x2 : Int32) (x3 : Int32) (x4 : Int32) (o : (Int32 × Int32 × Int32) ⊕ (Int32 × Int32)), f_X11_asks_j100_27 τ x1 x2 x3 x4 = some o → Sum.elim (fun z : Int32 × Int32 × Int32 => Wat p l e (rmk 3 70) s m args below meth c Q G 7 27 [] [(2, .int z.1), (3, .int z.2.1), (4, .int z.2.2), (0, .ref (ga G 0)), (1, .int x1)] τ σ) (fun z : Int32 × Int32 => Wat p l e (rmk 3 70) s m args below meth c Q G 7 106 [] [(0, .ref (ga G 0)), (2, .int z.1), (3, .int z.2)] τ σ) o → Wat p l e (rmk 3 70) s m args below meth c Q G 7 100 [] [(0, .ref (ga G 0)), (1, .int x1), (2, .int x2), (3, .int x3), (4, .int x4)] τ σ := by
    intro τ x1 x2 x3 x4 o h hk H locs ls hw hl
    unfold f_X11_asks_j100_27 at h
    refine lv_iinc (v := (x4 + (1 : Int32))) (k := 4) (lv' := [(4, .int (x4 + (1 : Int32))), (0, .ref (ga G 0)), (1, .int x1), (2, .int x2), (3, .int x3)]) hx hb d_X11_asks_100 hl rfl (by rfl) (Nat.le_of_ble_eq_true rfl) rfl (fun ls hl => ?_)
    refine lv_goto (tgt := 27) hx hb d_X11_asks_103 (by decide) ?_
    obtain rfl := Option.some.inj h
    dsimp only [Sum.elim_inl] at hk
    exact hk _ _ _ hw (lv_sub hl [3, 4, 0, 1, 2] rfl)
  have b27 : ∀ (τ : St) (y1 : Int32) (x2 : Int32) (x3 : Int32) (x4 : Int32) (o : (Int32 × Int32 × Int32) ⊕ (Int32 × Int32)), f_X11_asks_s27 τ y1 x2 x3 x4 = some o → Sum.elim (fun z : Int32 × Int32 × Int32 => Wat p l e (rmk 3 70) s m args below meth c Q G 7 27 [] [(2, .int z.1), (3, .int z.2.1), (4, .int z.2.2), (0, .ref (ga G 0)), (1, .int y1)] τ σ) (fun z : Int32 × Int32 => Wat p l e (rmk 3 70) s m args below meth c Q G 7 106 [] [(0, .ref (ga G 0)), (2, .int z.1), (3, .int z.2)] τ σ) o → Wat p l e (rmk 3 70) s m args below meth c Q G 7 27 [] [(2, .int x2), (3, .int x3), (4, .int x4), (0, .ref (ga G 0)), (1, .int y1)] τ σ := by
    intro τ y1 x2 x3 x4 o h hk H locs ls hw hl
    unfold f_X11_asks_s27 at h
    refine lv_iload hx hb d_X11_asks_27 (lv_at hl 2 rfl) ?_
    refine lv_bipush (v := (50 : Int32)) hx hb d_X11_asks_29 (by decide) ?_
    refine lv_icmp_ge (tgt := 106) hx hb d_X11_asks_31 (by decide) (fun hc => ?_) (fun hc => ?_)
    · have h := ite_t h hc
      obtain rfl := Option.some.inj h
      dsimp only [Sum.elim_inr] at hk
      exact hk _ _ _ hw (lv_sub hl [3, 0, 1] rfl)
    · have h := ite_f h hc
      refine lv_iload hx hb d_X11_asks_34 (lv_at hl 2 rfl) ?_
      refine lv_bipush (v := (10 : Int32)) hx hb d_X11_asks_36 (by decide) ?_
      refine lv_idiv hx hb d_X11_asks_38 (by decide) ?_
      refine lv_iload hx hb d_X11_asks_39 (lv_at hl 2 rfl) ?_
      refine lv_bipush (v := (10 : Int32)) hx hb d_X11_asks_41 (by decide) ?_
      refine lv_irem hx hb d_X11_asks_43 (by decide) ?_
      obtain ⟨q3, e4, h⟩ := bd_some h
      refine r_callS (As := [.int (x4 / (10 : Int32)), .int (x4 - x4 / (10 : Int32) * (10 : Int32))]) (rest := []) (st' := [.int q3]) X hw hl mwX4_canBe wd_725 wd_724 (c_X4_canBe hf e4) rfl ⟨Nat.le_of_ble_eq_true rfl, Nat.le_of_ble_eq_true rfl⟩ ⟨Nat.le_refl _, Nat.le_refl _⟩ rfl rfl (Nat.le_of_ble_eq_true rfl) d_X11_asks_44 (fun H locs hw => ?_)
      refine lv_if_eq (tgt := 100) hx hb d_X11_asks_47 (by decide) (fun hc => ?_) (fun hc => ?_)
      · have h := ite_t h hc
        exact j100_27 τ y1 x2 x3 x4 o h hk _ _ _ hw (lv_sub hl [3, 4, 0, 1, 2] rfl)
      · have h := ite_f h hc
        refine lv_iload_n hx hb d_X11_asks_50 rfl (lv_at hl 4 rfl) ?_
        refine lv_aload_n hx hb d_X11_asks_51 rfl (lv_at hl 3 rfl) ?_
        refine r_getr (j := 2) X hw ct7 (o_0 hf) rfl (Nat.le_of_ble_eq_true rfl) (q := 32) rfl wd_266 d_X11_asks_52 ?_
        refine lv_iload hx hb d_X11_asks_55 (lv_at hl 2 rfl) ?_
        refine lv_bipush (v := (10 : Int32)) hx hb d_X11_asks_57 (by decide) ?_
        refine lv_idiv hx hb d_X11_asks_59 (by decide) ?_
        refine lv_iload hx hb d_X11_asks_60 (lv_at hl 2 rfl) ?_
        refine lv_bipush (v := (10 : Int32)) hx hb d_X11_asks_62 (by decide) ?_
        refine lv_irem hx hb d_X11_asks_64 (by decide) ?_
        obtain ⟨q5, e6, h⟩ := bd_some h
        refine r_callS (As := [.ref (ga G 32), .int (x4 / (10 : Int32)), .int (x4 - x4 / (10 : Int32) * (10 : Int32))]) (rest := [.int y1]) (st' := [.int q5, .int y1]) X hw hl mwX4_onesSuch wd_756 wd_765 (c_X4_onesSuch hf b_32 e6) rfl ⟨Nat.le_of_ble_eq_true rfl, Nat.le_of_ble_eq_true rfl⟩ ⟨Nat.le_refl _, Nat.le_refl _⟩ rfl rfl (Nat.le_of_ble_eq_true rfl) d_X11_asks_65 (fun H locs hw => ?_)
        refine lv_iand hx hb d_X11_asks_68 ?_
        obtain ⟨q7, e8, h⟩ := bd_some h
        refine r_callS (As := [.int (y1 &&& q5)]) (rest := []) (st' := [.int q7]) X hw hl mwJ6_bitCount_0f7a4 wd_436 wd_435 (c_J6_bitCount_0f7a4 e8) rfl ⟨Nat.le_of_ble_eq_true rfl, Nat.le_of_ble_eq_true rfl⟩ ⟨Nat.le_refl _, Nat.le_refl _⟩ rfl rfl (Nat.le_of_ble_eq_true rfl) d_X11_asks_69 (fun H locs hw => ?_)
        refine lv_istore (lv' := [(5, .int q7), (2, .int x2), (3, .int x3), (4, .int x4), (0, .ref (ga G 0)), (1, .int y1)]) hx hb d_X11_asks_72 hl (Nat.le_of_ble_eq_true rfl) rfl (fun ls hl => ?_)
        refine lv_iload hx hb d_X11_asks_74 (lv_at hl 0 rfl) ?_
        refine lv_iload_n hx hb d_X11_asks_76 rfl (lv_at hl 5 rfl) ?_
        obtain ⟨q9, e10, h⟩ := bd_some h
        refine r_callS (As := [.int y1]) (rest := [.int q7]) (st' := [.int q9, .int q7]) X hw hl mwJ6_bitCount_0f7a4 wd_436 wd_435 (c_J6_bitCount_0f7a4 e10) rfl ⟨Nat.le_of_ble_eq_true rfl, Nat.le_of_ble_eq_true rfl⟩ ⟨Nat.le_refl _, Nat.le_refl _⟩ rfl rfl (Nat.le_of_ble_eq_true rfl) d_X11_asks_77 (fun H locs hw => ?_)
        refine lv_iload hx hb d_X11_asks_80 (lv_at hl 0 rfl) ?_
        refine lv_isub hx hb d_X11_asks_82 ?_
        refine r_max X hl wd_551 ⟨Nat.le_of_ble_eq_true rfl, Nat.le_of_ble_eq_true rfl⟩ ⟨Nat.le_refl _, Nat.le_refl _⟩ d_X11_asks_83 ?_
        refine lv_istore (lv' := [(6, .int (if q7 < (q9 - q7) then (q9 - q7) else q7)), (5, .int q7), (2, .int x2), (3, .int x3), (4, .int x4), (0, .ref (ga G 0)), (1, .int y1)]) hx hb d_X11_asks_86 hl (Nat.le_of_ble_eq_true rfl) rfl (fun ls hl => ?_)
        refine lv_iload hx hb d_X11_asks_88 (lv_at hl 0 rfl) ?_
        refine lv_iload_n hx hb d_X11_asks_90 rfl (lv_at hl 3 rfl) ?_
        refine lv_icmp_ge (tgt := 100) hx hb d_X11_asks_91 (by decide) (fun hc => ?_) (fun hc => ?_)
        · simp only [if_pos hc] at h
          exact j100_27 τ y1 x2 x3 x4 o h hk _ _ _ hw (lv_sub hl [5, 6, 2, 3, 4] rfl)
        · simp only [if_neg hc] at h
          refine lv_iload hx hb d_X11_asks_94 (lv_at hl 0 rfl) ?_
          refine lv_istore_n (lv' := [(3, .int (if q7 < (q9 - q7) then (q9 - q7) else q7)), (6, .int (if q7 < (q9 - q7) then (q9 - q7) else q7)), (5, .int q7), (2, .int x2), (4, .int x4), (0, .ref (ga G 0)), (1, .int y1)]) hx hb d_X11_asks_96 rfl hl (Nat.le_of_ble_eq_true rfl) rfl (fun ls hl => ?_)
          refine lv_iload hx hb d_X11_asks_97 (lv_at hl 4 rfl) ?_
          refine lv_istore_n (lv' := [(2, .int x4), (3, .int (if q7 < (q9 - q7) then (q9 - q7) else q7)), (6, .int (if q7 < (q9 - q7) then (q9 - q7) else q7)), (5, .int q7), (4, .int x4), (0, .ref (ga G 0)), (1, .int y1)]) hx hb d_X11_asks_99 rfl hl (Nat.le_of_ble_eq_true rfl) rfl (fun ls hl => ?_)
          exact j100_27 τ y1 x4 (if q7 < (q9 - q7) then (q9 - q7) else q7) x4 o h hk _ _ _ hw (lv_sub hl [5, 6, 0, 1, 4] rfl)
  intro H locs ls hw hl
  have hl : lv_has ls 7 [(0, .ref (ga G 0))] := hl
  unfold f_X11_asks at h
  refine lv_aload_n hx hb d_X11_asks_0 rfl (lv_at hl 0 rfl) ?_
  refine r_getr (j := 6) X hw ct7 (o_0 hf) rfl (Nat.le_of_ble_eq_true rfl) (q := 13) rfl wd_270 d_X11_asks_1 ?_
  refine lv_aload_n hx hb d_X11_asks_4 rfl (lv_at hl 0 rfl) ?_
  refine r_getr (j := 2) X hw ct7 (o_0 hf) rfl (Nat.le_of_ble_eq_true rfl) (q := 32) rfl wd_266 d_X11_asks_5 ?_
  obtain ⟨q1, e2, h⟩ := bd_some h
  refine r_callV (As := [.ref (ga G 32)]) (rest := []) (st' := [.int q1]) X hw hl mwX4_onesOf wd_751 wd_752 wd_750 (c_X4_onesOf hf b_32 e2) (r_recv X hw ct1 (o_13 hf)) rfl ⟨Nat.le_of_ble_eq_true rfl, Nat.le_of_ble_eq_true rfl⟩ ⟨Nat.le_refl _, Nat.le_refl _⟩ rfl rfl (Nat.le_of_ble_eq_true rfl) d_X11_asks_8 (fun H locs hw => ?_)
  refine lv_istore_n (lv' := [(1, .int q1), (0, .ref (ga G 0))]) hx hb d_X11_asks_11 rfl hl (Nat.le_of_ble_eq_true rfl) rfl (fun ls hl => ?_)
  refine lv_iload_n hx hb d_X11_asks_12 rfl (lv_at hl 0 rfl) ?_
  refine lv_if_ne (tgt := 19) hx hb d_X11_asks_13 (by decide) (fun hc => ?_) (fun hc => ?_)
  · have h := ite_f h hc
    refine lv_iconst (v := (0 : Int32)) hx hb d_X11_asks_19 (by decide) ?_
    refine lv_istore_n (lv' := [(2, .int (0 : Int32)), (1, .int q1), (0, .ref (ga G 0))]) hx hb d_X11_asks_20 rfl hl (Nat.le_of_ble_eq_true rfl) rfl (fun ls hl => ?_)
    refine lv_bipush (v := (9 : Int32)) hx hb d_X11_asks_21 (by decide) ?_
    refine lv_istore_n (lv' := [(3, .int (9 : Int32)), (2, .int (0 : Int32)), (1, .int q1), (0, .ref (ga G 0))]) hx hb d_X11_asks_23 rfl hl (Nat.le_of_ble_eq_true rfl) rfl (fun ls hl => ?_)
    refine lv_iconst (v := (0 : Int32)) hx hb d_X11_asks_24 (by decide) ?_
    refine lv_istore (lv' := [(4, .int (0 : Int32)), (3, .int (9 : Int32)), (2, .int (0 : Int32)), (1, .int q1), (0, .ref (ga G 0))]) hx hb d_X11_asks_25 hl (Nat.le_of_ble_eq_true rfl) rfl (fun ls hl => ?_)
    obtain ⟨z11, e12, h⟩ := bd_some h
    refine iter_w (Wh := fun z : Int32 × Int32 × Int32 => Wat p l e (rmk 3 70) s m args below meth c Q G 7 27 [] [(2, .int z.1), (3, .int z.2.1), (4, .int z.2.2), (0, .ref (ga G 0)), (1, .int q1)] χ σ) (K := fun z : Int32 × Int32 => Wat p l e (rmk 3 70) s m args below meth c Q G 7 106 [] [(0, .ref (ga G 0)), (2, .int z.1), (3, .int z.2)] χ σ) (fun z o h1 h2 => b27 χ q1 z.1 z.2.1 z.2.2 o h1 h2) FU _ _ e12 ?_ _ _ _ hw (lv_sub hl [2, 1, 0, 4, 3] rfl)
    intro H locs ls hw hl
    refine lv_aload_n hx hb d_X11_asks_106 rfl (lv_at hl 0 rfl) ?_
    refine r_getr (j := 1) X hw ct7 (o_0 hf) rfl (Nat.le_of_ble_eq_true rfl) (q := 3) rfl wd_265 d_X11_asks_107 ?_
    obtain ⟨q14, e15, h⟩ := bd_some h
    refine r_callV (As := []) (rest := []) (st' := []) X hw hl mwX9_start wd_420 wd_421 wd_419 (c_X9_start hf e15) (r_recv X hw ct6 (o_3 hf)) rfl ⟨Nat.le_of_ble_eq_true rfl, Nat.le_of_ble_eq_true rfl⟩ ⟨Nat.le_refl _, Nat.le_refl _⟩ rfl rfl (Nat.le_of_ble_eq_true rfl) d_X11_asks_110 (fun H locs hw => ?_)
    refine lv_aload_n hx hb d_X11_asks_113 rfl (lv_at hl 0 rfl) ?_
    refine r_getr (j := 1) X hw ct7 (o_0 hf) rfl (Nat.le_of_ble_eq_true rfl) (q := 3) rfl wd_265 d_X11_asks_114 ?_
    refine lv_iload_n hx hb d_X11_asks_117 rfl (lv_at hl 2 rfl) ?_
    refine lv_i2l hx hb d_X11_asks_118 rfl ?_
    obtain ⟨q16, e17, h⟩ := bd_some h
    refine r_callV (As := [.long (z11.2).toInt64]) (rest := []) (st' := []) X hw hl mwX9_add wd_424 wd_425 wd_423 (c_X9_add hf e17) (r_recv X hw ct6 (o_3 hf)) rfl ⟨Nat.le_of_ble_eq_true rfl, Nat.le_of_ble_eq_true rfl⟩ ⟨Nat.le_refl _, Nat.le_refl _⟩ rfl rfl (Nat.le_of_ble_eq_true rfl) d_X11_asks_119 (fun H locs hw => ?_)
    refine lv_iload_n hx hb d_X11_asks_122 rfl (lv_at hl 1 rfl) ?_
    obtain rfl := Option.some.inj h
    subst hQ
    exact r_iret X hr hlk hw d_X11_asks_123
  · have h := ite_t h hc
    refine lv_bipush (v := (-2 : Int32)) hx hb d_X11_asks_16 (by decide) ?_
    obtain rfl := Option.some.inj h
    subst hQ
    exact r_iret X hr hlk hw d_X11_asks_18
abbrev yX11_slips : MethodName := ⟨"OysterBeds", "slips", "(IIII)I"⟩
theorem mwX11_slips : MW yX11_slips prog_1_method_44_code 7 (some .int) 4 := ⟨wd_769, wd_1, by decide +kernel⟩
theorem d_X11_slips_0 : decode prog_1_method_44_code 0 = .ok (.iload_n 1, 1) := by decide +kernel
theorem d_X11_slips_1 : decode prog_1_method_44_code 1 = .ok (.iload_n 2, 1) := by decide +kernel
theorem d_X11_slips_2 : decode prog_1_method_44_code 2 = .ok (.invokestatic 144, 3) := by decide +kernel
theorem d_X11_slips_5 : decode prog_1_method_44_code 5 = .ok (.ifCond .eq 25, 3) := by decide +kernel
theorem d_X11_slips_8 : decode prog_1_method_44_code 8 = .ok (.iload_n 3, 1) := by decide +kernel
theorem d_X11_slips_9 : decode prog_1_method_44_code 9 = .ok (.ifCond .lt 21, 3) := by decide +kernel
theorem d_X11_slips_12 : decode prog_1_method_44_code 12 = .ok (.iload_n 3, 1) := by decide +kernel
theorem d_X11_slips_13 : decode prog_1_method_44_code 13 = .ok (.bipush 10, 2) := by decide +kernel
theorem d_X11_slips_15 : decode prog_1_method_44_code 15 = .ok (.if_icmp .gt 15, 3) := by decide +kernel
theorem d_X11_slips_18 : decode prog_1_method_44_code 18 = .ok (.iload 4, 2) := by decide +kernel
theorem d_X11_slips_20 : decode prog_1_method_44_code 20 = .ok (.ifCond .lt 10, 3) := by decide +kernel
theorem d_X11_slips_23 : decode prog_1_method_44_code 23 = .ok (.iload 4, 2) := by decide +kernel
theorem d_X11_slips_25 : decode prog_1_method_44_code 25 = .ok (.bipush 8, 2) := by decide +kernel
theorem d_X11_slips_27 : decode prog_1_method_44_code 27 = .ok (.if_icmp .le 5, 3) := by decide +kernel
theorem d_X11_slips_30 : decode prog_1_method_44_code 30 = .ok (.iconst (-1), 1) := by decide +kernel
theorem d_X11_slips_31 : decode prog_1_method_44_code 31 = .ok (.ireturn, 1) := by decide +kernel
theorem d_X11_slips_32 : decode prog_1_method_44_code 32 = .ok (.aload_n 0, 1) := by decide +kernel
theorem d_X11_slips_33 : decode prog_1_method_44_code 33 = .ok (.getfield 26, 3) := by decide +kernel
theorem d_X11_slips_36 : decode prog_1_method_44_code 36 = .ok (.aload_n 0, 1) := by decide +kernel
theorem d_X11_slips_37 : decode prog_1_method_44_code 37 = .ok (.getfield 57, 3) := by decide +kernel
theorem d_X11_slips_40 : decode prog_1_method_44_code 40 = .ok (.iload_n 1, 1) := by decide +kernel
theorem d_X11_slips_41 : decode prog_1_method_44_code 41 = .ok (.iload_n 2, 1) := by decide +kernel
theorem d_X11_slips_42 : decode prog_1_method_44_code 42 = .ok (.invokevirtual 204, 3) := by decide +kernel
theorem d_X11_slips_45 : decode prog_1_method_44_code 45 = .ok (.invokestatic 166, 3) := by decide +kernel
theorem d_X11_slips_48 : decode prog_1_method_44_code 48 = .ok (.istore 5, 2) := by decide +kernel
theorem d_X11_slips_50 : decode prog_1_method_44_code 50 = .ok (.aload_n 0, 1) := by decide +kernel
theorem d_X11_slips_51 : decode prog_1_method_44_code 51 = .ok (.getfield 26, 3) := by decide +kernel
theorem d_X11_slips_54 : decode prog_1_method_44_code 54 = .ok (.invokevirtual 163, 3) := by decide +kernel
theorem d_X11_slips_57 : decode prog_1_method_44_code 57 = .ok (.invokestatic 166, 3) := by decide +kernel
theorem d_X11_slips_60 : decode prog_1_method_44_code 60 = .ok (.istore 6, 2) := by decide +kernel
theorem d_X11_slips_62 : decode prog_1_method_44_code 62 = .ok (.aload_n 0, 1) := by decide +kernel
theorem d_X11_slips_63 : decode prog_1_method_44_code 63 = .ok (.getfield 19, 3) := by decide +kernel
theorem d_X11_slips_66 : decode prog_1_method_44_code 66 = .ok (.invokevirtual 156, 3) := by decide +kernel
theorem d_X11_slips_69 : decode prog_1_method_44_code 69 = .ok (.aload_n 0, 1) := by decide +kernel
theorem d_X11_slips_70 : decode prog_1_method_44_code 70 = .ok (.getfield 19, 3) := by decide +kernel
theorem d_X11_slips_73 : decode prog_1_method_44_code 73 = .ok (.iload 4, 2) := by decide +kernel
theorem d_X11_slips_75 : decode prog_1_method_44_code 75 = .ok (.iload 5, 2) := by decide +kernel
theorem d_X11_slips_77 : decode prog_1_method_44_code 77 = .ok (.iload 6, 2) := by decide +kernel
theorem d_X11_slips_79 : decode prog_1_method_44_code 79 = .ok (.iload 5, 2) := by decide +kernel
theorem d_X11_slips_81 : decode prog_1_method_44_code 81 = .ok (.isub, 1) := by decide +kernel
theorem d_X11_slips_82 : decode prog_1_method_44_code 82 = .ok (.iload_n 3, 1) := by decide +kernel
theorem d_X11_slips_83 : decode prog_1_method_44_code 83 = .ok (.invokestatic 322, 3) := by decide +kernel
theorem d_X11_slips_86 : decode prog_1_method_44_code 86 = .ok (.bipush 10, 2) := by decide +kernel
theorem d_X11_slips_88 : decode prog_1_method_44_code 88 = .ok (.iload 6, 2) := by decide +kernel
theorem d_X11_slips_90 : decode prog_1_method_44_code 90 = .ok (.invokestatic 326, 3) := by decide +kernel
theorem d_X11_slips_93 : decode prog_1_method_44_code 93 = .ok (.invokevirtual 262, 3) := by decide +kernel
theorem d_X11_slips_96 : decode prog_1_method_44_code 96 = .ok (.iconst 0, 1) := by decide +kernel
theorem d_X11_slips_97 : decode prog_1_method_44_code 97 = .ok (.ireturn, 1) := by decide +kernel
def f_X11_slips (χ : St) (a1 : Int32) (a2 : Int32) (a3 : Int32) (a4 : Int32) : Option (Int32 × St) := (f_X11_isQuestion a1 a2).bind (fun q1 => (if q1 = 0 then some ((-1 : Int32), χ) else (if a3 < 0 then some ((-1 : Int32), χ) else (if (10 : Int32) < a3 then some ((-1 : Int32), χ) else (if a4 < 0 then some ((-1 : Int32), χ) else (if a4 ≤ (8 : Int32) then gd (isLaw (cW χ).1) ((f_X0_closing χ 32 (cW χ).1 a1 a2).bind (fun q4 => (f_J6_bitCount_0f7a4 q4.1).bind (fun q6 => (f_X0_openOnes q4.2 32).bind (fun q8 => (f_J6_bitCount_0f7a4 q8).bind (fun q10 => (f_X9_start q4.2).bind (fun q12 => (f_X1_slipsTo a4 q6 (q10 - q6) a3).bind (fun q14 => (f_X1_raised (10 : Int32) q10).bind (fun q16 => (f_X9_addFraction q12 q14 q16).bind (fun q18 => some ((0 : Int32), q18)))))))))) else some ((-1 : Int32), χ)))))))
theorem c_X11_slips {l : Launch} {G : gT} {χ σ : St} {a1 : Int32} {a2 : Int32} {a3 : Int32} {a4 : Int32} (hf : FW G) {q : Int32 × St} (h : f_X11_slips χ a1 a2 a3 a4 = some q) : Ct l G yX11_slips prog_1_method_44_code 7 (some .int) 4 99 [.ref (ga G 0), .int a1, .int a2, .int a3, .int a4] χ σ (some (.int q.1)) q.2 σ := by
  refine Ct.of (by decide) (Nat.le_of_ble_eq_true rfl) ?_
  intro p e s m args below meth c Q X hr hlk hQ
  have hx := X.1
  have hb := X.2.1
  intro H locs ls hw hl
  have hl : lv_has ls 7 [(0, .ref (ga G 0)), (1, .int a1), (2, .int a2), (3, .int a3), (4, .int a4)] := hl
  unfold f_X11_slips at h
  refine lv_iload_n hx hb d_X11_slips_0 rfl (lv_at hl 1 rfl) ?_
  refine lv_iload_n hx hb d_X11_slips_1 rfl (lv_at hl 2 rfl) ?_
  obtain ⟨q1, e2, h⟩ := bd_some h
  refine r_callS (As := [.int a1, .int a2]) (rest := []) (st' := [.int q1]) X hw hl mwX11_isQuestion wd_382 wd_381 (c_X11_isQuestion hf e2) rfl ⟨Nat.le_of_ble_eq_true rfl, Nat.le_of_ble_eq_true rfl⟩ ⟨Nat.le_refl _, Nat.le_refl _⟩ rfl rfl (Nat.le_of_ble_eq_true rfl) d_X11_slips_2 (fun H locs hw => ?_)
  refine lv_if_eq (tgt := 30) hx hb d_X11_slips_5 (by decide) (fun hc => ?_) (fun hc => ?_)
  · have h := ite_t h hc
    refine lv_iconst (v := (-1 : Int32)) hx hb d_X11_slips_30 (by decide) ?_
    obtain rfl := Option.some.inj h
    subst hQ
    exact r_iret X hr hlk hw d_X11_slips_31
  · have h := ite_f h hc
    refine lv_iload_n hx hb d_X11_slips_8 rfl (lv_at hl 3 rfl) ?_
    refine lv_if_lt (tgt := 30) hx hb d_X11_slips_9 (by decide) (fun hc => ?_) (fun hc => ?_)
    · have h := ite_t h hc
      refine lv_iconst (v := (-1 : Int32)) hx hb d_X11_slips_30 (by decide) ?_
      obtain rfl := Option.some.inj h
      subst hQ
      exact r_iret X hr hlk hw d_X11_slips_31
    · have h := ite_f h hc
      refine lv_iload_n hx hb d_X11_slips_12 rfl (lv_at hl 3 rfl) ?_
      refine lv_bipush (v := (10 : Int32)) hx hb d_X11_slips_13 (by decide) ?_
      refine lv_icmp_gt (tgt := 30) hx hb d_X11_slips_15 (by decide) (fun hc => ?_) (fun hc => ?_)
      · have h := ite_t h hc
        refine lv_iconst (v := (-1 : Int32)) hx hb d_X11_slips_30 (by decide) ?_
        obtain rfl := Option.some.inj h
        subst hQ
        exact r_iret X hr hlk hw d_X11_slips_31
      · have h := ite_f h hc
        refine lv_iload hx hb d_X11_slips_18 (lv_at hl 4 rfl) ?_
        refine lv_if_lt (tgt := 30) hx hb d_X11_slips_20 (by decide) (fun hc => ?_) (fun hc => ?_)
        · have h := ite_t h hc
          refine lv_iconst (v := (-1 : Int32)) hx hb d_X11_slips_30 (by decide) ?_
          obtain rfl := Option.some.inj h
          subst hQ
          exact r_iret X hr hlk hw d_X11_slips_31
        · have h := ite_f h hc
          refine lv_iload hx hb d_X11_slips_23 (lv_at hl 4 rfl) ?_
          refine lv_bipush (v := (8 : Int32)) hx hb d_X11_slips_25 (by decide) ?_
          refine lv_icmp_le (tgt := 32) hx hb d_X11_slips_27 (by decide) (fun hc => ?_) (fun hc => ?_)
          · have h := ite_t h hc
            refine lv_aload_n hx hb d_X11_slips_32 rfl (lv_at hl 0 rfl) ?_
            refine r_getr (j := 2) X hw ct7 (o_0 hf) rfl (Nat.le_of_ble_eq_true rfl) (q := 32) rfl wd_266 d_X11_slips_33 ?_
            refine lv_aload_n hx hb d_X11_slips_36 rfl (lv_at hl 0 rfl) ?_
            obtain ⟨hw3, h⟩ := gd_some h
            refine r_getr (j := 7) X hw ct7 (o_0 hf) rfl (Nat.le_of_ble_eq_true rfl) (q := (cW χ).1) rfl wd_271 d_X11_slips_37 ?_
            refine lv_iload_n hx hb d_X11_slips_40 rfl (lv_at hl 1 rfl) ?_
            refine lv_iload_n hx hb d_X11_slips_41 rfl (lv_at hl 2 rfl) ?_
            obtain ⟨q4, e5, h⟩ := bd_some h
            refine r_callV (As := [.ref (ga G (cW χ).1), .int a1, .int a2]) (rest := []) (st' := [.int q4.1]) X hw hl mwX0_closing wd_398 wd_399 wd_508 (c_X0_closing hf b_32 (LW.of hf hw3) e5) (r_recv X hw ct0 (o_32 hf)) rfl ⟨Nat.le_of_ble_eq_true rfl, Nat.le_of_ble_eq_true rfl⟩ ⟨Nat.le_refl _, Nat.le_refl _⟩ rfl rfl (Nat.le_of_ble_eq_true rfl) d_X11_slips_42 (fun H locs hw => ?_)
            obtain ⟨q6, e7, h⟩ := bd_some h
            refine r_callS (As := [.int q4.1]) (rest := []) (st' := [.int q6]) X hw hl mwJ6_bitCount_0f7a4 wd_436 wd_435 (c_J6_bitCount_0f7a4 e7) rfl ⟨Nat.le_of_ble_eq_true rfl, Nat.le_of_ble_eq_true rfl⟩ ⟨Nat.le_refl _, Nat.le_refl _⟩ rfl rfl (Nat.le_of_ble_eq_true rfl) d_X11_slips_45 (fun H locs hw => ?_)
            refine lv_istore (lv' := [(5, .int q6), (0, .ref (ga G 0)), (1, .int a1), (2, .int a2), (3, .int a3), (4, .int a4)]) hx hb d_X11_slips_48 hl (Nat.le_of_ble_eq_true rfl) rfl (fun ls hl => ?_)
            refine lv_aload_n hx hb d_X11_slips_50 rfl (lv_at hl 1 rfl) ?_
            refine r_getr (j := 2) X hw ct7 (o_0 hf) rfl (Nat.le_of_ble_eq_true rfl) (q := 32) rfl wd_266 d_X11_slips_51 ?_
            obtain ⟨q8, e9, h⟩ := bd_some h
            refine r_callV (As := []) (rest := []) (st' := [.int q8]) X hw hl mwX0_openOnes wd_428 wd_429 wd_427 (c_X0_openOnes hf b_32 e9) (r_recv X hw ct0 (o_32 hf)) rfl ⟨Nat.le_of_ble_eq_true rfl, Nat.le_of_ble_eq_true rfl⟩ ⟨Nat.le_refl _, Nat.le_refl _⟩ rfl rfl (Nat.le_of_ble_eq_true rfl) d_X11_slips_54 (fun H locs hw => ?_)
            obtain ⟨q10, e11, h⟩ := bd_some h
            refine r_callS (As := [.int q8]) (rest := []) (st' := [.int q10]) X hw hl mwJ6_bitCount_0f7a4 wd_436 wd_435 (c_J6_bitCount_0f7a4 e11) rfl ⟨Nat.le_of_ble_eq_true rfl, Nat.le_of_ble_eq_true rfl⟩ ⟨Nat.le_refl _, Nat.le_refl _⟩ rfl rfl (Nat.le_of_ble_eq_true rfl) d_X11_slips_57 (fun H locs hw => ?_)
            refine lv_istore (lv' := [(6, .int q10), (5, .int q6), (0, .ref (ga G 0)), (1, .int a1), (2, .int a2), (3, .int a3), (4, .int a4)]) hx hb d_X11_slips_60 hl (Nat.le_of_ble_eq_true rfl) rfl (fun ls hl => ?_)
            refine lv_aload_n hx hb d_X11_slips_62 rfl (lv_at hl 2 rfl) ?_
            refine r_getr (j := 1) X hw ct7 (o_0 hf) rfl (Nat.le_of_ble_eq_true rfl) (q := 3) rfl wd_265 d_X11_slips_63 ?_
            obtain ⟨q12, e13, h⟩ := bd_some h
            refine r_callV (As := []) (rest := []) (st' := []) X hw hl mwX9_start wd_420 wd_421 wd_419 (c_X9_start hf e13) (r_recv X hw ct6 (o_3 hf)) rfl ⟨Nat.le_of_ble_eq_true rfl, Nat.le_of_ble_eq_true rfl⟩ ⟨Nat.le_refl _, Nat.le_refl _⟩ rfl rfl (Nat.le_of_ble_eq_true rfl) d_X11_slips_66 (fun H locs hw => ?_)
            refine lv_aload_n hx hb d_X11_slips_69 rfl (lv_at hl 2 rfl) ?_
            refine r_getr (j := 1) X hw ct7 (o_0 hf) rfl (Nat.le_of_ble_eq_true rfl) (q := 3) rfl wd_265 d_X11_slips_70 ?_
            refine lv_iload hx hb d_X11_slips_73 (lv_at hl 6 rfl) ?_
            refine lv_iload hx hb d_X11_slips_75 (lv_at hl 1 rfl) ?_
            refine lv_iload hx hb d_X11_slips_77 (lv_at hl 0 rfl) ?_
            refine lv_iload hx hb d_X11_slips_79 (lv_at hl 1 rfl) ?_
            refine lv_isub hx hb d_X11_slips_81 ?_
            refine lv_iload_n hx hb d_X11_slips_82 rfl (lv_at hl 5 rfl) ?_
            obtain ⟨q14, e15, h⟩ := bd_some h
            refine r_callS (As := [.int a4, .int q6, .int (q10 - q6), .int a3]) (rest := [.ref (ga G 3)]) (st' := [.long q14, .ref (ga G 3)]) X hw hl mwX1_slipsTo wd_771 wd_770 (c_X1_slipsTo hf e15) rfl ⟨Nat.le_of_ble_eq_true rfl, Nat.le_of_ble_eq_true rfl⟩ ⟨Nat.le_refl _, Nat.le_refl _⟩ rfl rfl (Nat.le_of_ble_eq_true rfl) d_X11_slips_83 (fun H locs hw => ?_)
            refine lv_bipush (v := (10 : Int32)) hx hb d_X11_slips_86 (by decide) ?_
            refine lv_iload hx hb d_X11_slips_88 (lv_at hl 0 rfl) ?_
            obtain ⟨q16, e17, h⟩ := bd_some h
            refine r_callS (As := [.int (10 : Int32), .int q10]) (rest := [.long q14, .ref (ga G 3)]) (st' := [.long q16, .long q14, .ref (ga G 3)]) X hw hl mwX1_raised wd_783 wd_785 (c_X1_raised hf e17) rfl ⟨Nat.le_of_ble_eq_true rfl, Nat.le_of_ble_eq_true rfl⟩ ⟨Nat.le_refl _, Nat.le_refl _⟩ rfl rfl (Nat.le_of_ble_eq_true rfl) d_X11_slips_90 (fun H locs hw => ?_)
            obtain ⟨q18, e19, h⟩ := bd_some h
            refine r_callV (As := [.long q14, .long q16]) (rest := []) (st' := []) X hw hl mwX9_addFraction wd_630 wd_631 wd_629 (c_X9_addFraction hf e19) (r_recv X hw ct6 (o_3 hf)) rfl ⟨Nat.le_of_ble_eq_true rfl, Nat.le_of_ble_eq_true rfl⟩ ⟨Nat.le_refl _, Nat.le_refl _⟩ rfl rfl (Nat.le_of_ble_eq_true rfl) d_X11_slips_93 (fun H locs hw => ?_)
            refine lv_iconst (v := (0 : Int32)) hx hb d_X11_slips_96 (by decide) ?_
            obtain rfl := Option.some.inj h
            subst hQ
            exact r_iret X hr hlk hw d_X11_slips_97
          · have h := ite_f h hc
            refine lv_iconst (v := (-1 : Int32)) hx hb d_X11_slips_30 (by decide) ?_
            obtain rfl := Option.some.inj h
            subst hQ
            exact r_iret X hr hlk hw d_X11_slips_31
abbrev yX11_isTenths : MethodName := ⟨"OysterBeds", "isTenths", "(I)Z"⟩
theorem mwX11_isTenths : MW yX11_isTenths prog_1_method_55_code 1 (some .boolean) 1 := ⟨wd_792, wd_1, by decide +kernel⟩
theorem d_X11_isTenths_0 : decode prog_1_method_55_code 0 = .ok (.iload_n 0, 1) := by decide +kernel
theorem d_X11_isTenths_1 : decode prog_1_method_55_code 1 = .ok (.ifCond .lt 13, 3) := by decide +kernel
theorem d_X11_isTenths_4 : decode prog_1_method_55_code 4 = .ok (.iload_n 0, 1) := by decide +kernel
theorem d_X11_isTenths_5 : decode prog_1_method_55_code 5 = .ok (.bipush 10, 2) := by decide +kernel
theorem d_X11_isTenths_7 : decode prog_1_method_55_code 7 = .ok (.if_icmp .gt 7, 3) := by decide +kernel
theorem d_X11_isTenths_10 : decode prog_1_method_55_code 10 = .ok (.iconst 1, 1) := by decide +kernel
theorem d_X11_isTenths_11 : decode prog_1_method_55_code 11 = .ok (.goto 4, 3) := by decide +kernel
theorem d_X11_isTenths_14 : decode prog_1_method_55_code 14 = .ok (.iconst 0, 1) := by decide +kernel
theorem d_X11_isTenths_15 : decode prog_1_method_55_code 15 = .ok (.ireturn, 1) := by decide +kernel
def f_X11_isTenths (a0 : Int32) : Option (Int32) := some (if a0 < 0 then (0 : Int32) else (if (10 : Int32) < a0 then (0 : Int32) else (1 : Int32)))
theorem c_X11_isTenths {l : Launch} {G : gT} {χ σ : St} {a0 : Int32} (hf : FW G) {q : Int32} (h : f_X11_isTenths a0 = some q) : Ct l G yX11_isTenths prog_1_method_55_code 1 (some .boolean) 0 0 [.int a0] χ σ (some (.int q)) χ σ := by
  refine Ct.of (by decide) (Nat.le_of_ble_eq_true rfl) ?_
  intro p e s m args below meth c Q X hr hlk hQ
  have hx := X.1
  have hb := X.2.1
  intro H locs ls hw hl
  have hl : lv_has ls 1 [(0, .int a0)] := hl
  unfold f_X11_isTenths at h
  refine lv_iload_n hx hb d_X11_isTenths_0 rfl (lv_at hl 0 rfl) ?_
  refine lv_if_lt (tgt := 14) hx hb d_X11_isTenths_1 (by decide) (fun hc => ?_) (fun hc => ?_)
  · simp only [if_pos hc] at h
    refine lv_iconst (v := (0 : Int32)) hx hb d_X11_isTenths_14 (by decide) ?_
    obtain rfl := Option.some.inj h
    subst hQ
    exact r_zret X hr nbz0 hlk hw d_X11_isTenths_15
  · simp only [if_neg hc] at h
    refine lv_iload_n hx hb d_X11_isTenths_4 rfl (lv_at hl 0 rfl) ?_
    refine lv_bipush (v := (10 : Int32)) hx hb d_X11_isTenths_5 (by decide) ?_
    refine lv_icmp_gt (tgt := 14) hx hb d_X11_isTenths_7 (by decide) (fun hc => ?_) (fun hc => ?_)
    · simp only [if_pos hc] at h
      refine lv_iconst (v := (0 : Int32)) hx hb d_X11_isTenths_14 (by decide) ?_
      obtain rfl := Option.some.inj h
      subst hQ
      exact r_zret X hr nbz0 hlk hw d_X11_isTenths_15
    · simp only [if_neg hc] at h
      refine lv_iconst (v := (1 : Int32)) hx hb d_X11_isTenths_10 (by decide) ?_
      refine lv_goto (tgt := 15) hx hb d_X11_isTenths_11 (by decide) ?_
      obtain rfl := Option.some.inj h
      subst hQ
      exact r_zret X hr nbz1 hlk hw d_X11_isTenths_15
abbrev yX11_sound : MethodName := ⟨"OysterBeds", "sound", "(IIIII)I"⟩
theorem mwX11_sound : MW yX11_sound prog_1_method_45_code 10 (some .int) 5 := ⟨wd_789, wd_1, by decide +kernel⟩
theorem d_X11_sound_0 : decode prog_1_method_45_code 0 = .ok (.iload_n 1, 1) := by decide +kernel
theorem d_X11_sound_1 : decode prog_1_method_45_code 1 = .ok (.invokestatic 330, 3) := by decide +kernel
theorem d_X11_sound_4 : decode prog_1_method_45_code 4 = .ok (.ifCond .eq 41, 3) := by decide +kernel
theorem d_X11_sound_7 : decode prog_1_method_45_code 7 = .ok (.iload_n 2, 1) := by decide +kernel
theorem d_X11_sound_8 : decode prog_1_method_45_code 8 = .ok (.invokestatic 330, 3) := by decide +kernel
theorem d_X11_sound_11 : decode prog_1_method_45_code 11 = .ok (.ifCond .eq 34, 3) := by decide +kernel
theorem d_X11_sound_14 : decode prog_1_method_45_code 14 = .ok (.iload_n 3, 1) := by decide +kernel
theorem d_X11_sound_15 : decode prog_1_method_45_code 15 = .ok (.invokestatic 330, 3) := by decide +kernel
theorem d_X11_sound_18 : decode prog_1_method_45_code 18 = .ok (.ifCond .eq 27, 3) := by decide +kernel
theorem d_X11_sound_21 : decode prog_1_method_45_code 21 = .ok (.iload 4, 2) := by decide +kernel
theorem d_X11_sound_23 : decode prog_1_method_45_code 23 = .ok (.ifCond .lt 22, 3) := by decide +kernel
theorem d_X11_sound_26 : decode prog_1_method_45_code 26 = .ok (.iload 4, 2) := by decide +kernel
theorem d_X11_sound_28 : decode prog_1_method_45_code 28 = .ok (.bipush 8, 2) := by decide +kernel
theorem d_X11_sound_30 : decode prog_1_method_45_code 30 = .ok (.if_icmp .gt 15, 3) := by decide +kernel
theorem d_X11_sound_33 : decode prog_1_method_45_code 33 = .ok (.iload 5, 2) := by decide +kernel
theorem d_X11_sound_35 : decode prog_1_method_45_code 35 = .ok (.ifCond .lt 10, 3) := by decide +kernel
theorem d_X11_sound_38 : decode prog_1_method_45_code 38 = .ok (.iload 5, 2) := by decide +kernel
theorem d_X11_sound_40 : decode prog_1_method_45_code 40 = .ok (.iload 4, 2) := by decide +kernel
theorem d_X11_sound_42 : decode prog_1_method_45_code 42 = .ok (.if_icmp .le 5, 3) := by decide +kernel
theorem d_X11_sound_45 : decode prog_1_method_45_code 45 = .ok (.iconst (-1), 1) := by decide +kernel
theorem d_X11_sound_46 : decode prog_1_method_45_code 46 = .ok (.ireturn, 1) := by decide +kernel
theorem d_X11_sound_47 : decode prog_1_method_45_code 47 = .ok (.iload_n 1, 1) := by decide +kernel
theorem d_X11_sound_48 : decode prog_1_method_45_code 48 = .ok (.i2l, 1) := by decide +kernel
theorem d_X11_sound_49 : decode prog_1_method_45_code 49 = .ok (.iload_n 2, 1) := by decide +kernel
theorem d_X11_sound_50 : decode prog_1_method_45_code 50 = .ok (.iload 4, 2) := by decide +kernel
theorem d_X11_sound_52 : decode prog_1_method_45_code 52 = .ok (.iload 5, 2) := by decide +kernel
theorem d_X11_sound_54 : decode prog_1_method_45_code 54 = .ok (.invokestatic 333, 3) := by decide +kernel
theorem d_X11_sound_57 : decode prog_1_method_45_code 57 = .ok (.lmul, 1) := by decide +kernel
theorem d_X11_sound_58 : decode prog_1_method_45_code 58 = .ok (.lstore 6, 2) := by decide +kernel
theorem d_X11_sound_60 : decode prog_1_method_45_code 60 = .ok (.lload 6, 2) := by decide +kernel
theorem d_X11_sound_62 : decode prog_1_method_45_code 62 = .ok (.bipush 10, 2) := by decide +kernel
theorem d_X11_sound_64 : decode prog_1_method_45_code 64 = .ok (.iload_n 1, 1) := by decide +kernel
theorem d_X11_sound_65 : decode prog_1_method_45_code 65 = .ok (.isub, 1) := by decide +kernel
theorem d_X11_sound_66 : decode prog_1_method_45_code 66 = .ok (.i2l, 1) := by decide +kernel
theorem d_X11_sound_67 : decode prog_1_method_45_code 67 = .ok (.iload_n 3, 1) := by decide +kernel
theorem d_X11_sound_68 : decode prog_1_method_45_code 68 = .ok (.iload 4, 2) := by decide +kernel
theorem d_X11_sound_70 : decode prog_1_method_45_code 70 = .ok (.iload 5, 2) := by decide +kernel
theorem d_X11_sound_72 : decode prog_1_method_45_code 72 = .ok (.invokestatic 333, 3) := by decide +kernel
theorem d_X11_sound_75 : decode prog_1_method_45_code 75 = .ok (.lmul, 1) := by decide +kernel
theorem d_X11_sound_76 : decode prog_1_method_45_code 76 = .ok (.ladd, 1) := by decide +kernel
theorem d_X11_sound_77 : decode prog_1_method_45_code 77 = .ok (.lstore 8, 2) := by decide +kernel
theorem d_X11_sound_79 : decode prog_1_method_45_code 79 = .ok (.lload 8, 2) := by decide +kernel
theorem d_X11_sound_81 : decode prog_1_method_45_code 81 = .ok (.lconst 0, 1) := by decide +kernel
theorem d_X11_sound_82 : decode prog_1_method_45_code 82 = .ok (.lcmp, 1) := by decide +kernel
theorem d_X11_sound_83 : decode prog_1_method_45_code 83 = .ok (.ifCond .ne 6, 3) := by decide +kernel
theorem d_X11_sound_86 : decode prog_1_method_45_code 86 = .ok (.bipush (-2), 2) := by decide +kernel
theorem d_X11_sound_88 : decode prog_1_method_45_code 88 = .ok (.ireturn, 1) := by decide +kernel
theorem d_X11_sound_89 : decode prog_1_method_45_code 89 = .ok (.aload_n 0, 1) := by decide +kernel
theorem d_X11_sound_90 : decode prog_1_method_45_code 90 = .ok (.getfield 19, 3) := by decide +kernel
theorem d_X11_sound_93 : decode prog_1_method_45_code 93 = .ok (.invokevirtual 156, 3) := by decide +kernel
theorem d_X11_sound_96 : decode prog_1_method_45_code 96 = .ok (.aload_n 0, 1) := by decide +kernel
theorem d_X11_sound_97 : decode prog_1_method_45_code 97 = .ok (.getfield 19, 3) := by decide +kernel
theorem d_X11_sound_100 : decode prog_1_method_45_code 100 = .ok (.lload 6, 2) := by decide +kernel
theorem d_X11_sound_102 : decode prog_1_method_45_code 102 = .ok (.lload 8, 2) := by decide +kernel
theorem d_X11_sound_104 : decode prog_1_method_45_code 104 = .ok (.invokevirtual 262, 3) := by decide +kernel
theorem d_X11_sound_107 : decode prog_1_method_45_code 107 = .ok (.iconst 0, 1) := by decide +kernel
theorem d_X11_sound_108 : decode prog_1_method_45_code 108 = .ok (.ireturn, 1) := by decide +kernel
def f_X11_sound (χ : St) (a1 : Int32) (a2 : Int32) (a3 : Int32) (a4 : Int32) (a5 : Int32) : Option (Int32 × St) := (f_X11_isTenths a1).bind (fun q1 => (if q1 = 0 then some ((-1 : Int32), χ) else (f_X11_isTenths a2).bind (fun q3 => (if q3 = 0 then some ((-1 : Int32), χ) else (f_X11_isTenths a3).bind (fun q5 => (if q5 = 0 then some ((-1 : Int32), χ) else (if a4 < 0 then some ((-1 : Int32), χ) else (if (8 : Int32) < a4 then some ((-1 : Int32), χ) else (if a5 < 0 then some ((-1 : Int32), χ) else (if a5 ≤ a4 then (f_X1_justThese a2 a4 a5).bind (fun q7 => (f_X1_justThese a3 a4 a5).bind (fun q9 => (if (lg_cmp ((a1.toInt64 * q7) + (((10 : Int32) - a1).toInt64 * q9)) (0 : Int64)) = 0 then some ((-2 : Int32), χ) else (f_X9_start χ).bind (fun q11 => (f_X9_addFraction q11 (a1.toInt64 * q7) ((a1.toInt64 * q7) + (((10 : Int32) - a1).toInt64 * q9))).bind (fun q13 => some ((0 : Int32), q13)))))) else some ((-1 : Int32), χ)))))))))))
theorem c_X11_sound {l : Launch} {G : gT} {χ σ : St} {a1 : Int32} {a2 : Int32} {a3 : Int32} {a4 : Int32} {a5 : Int32} (hf : FW G) {q : Int32 × St} (h : f_X11_sound χ a1 a2 a3 a4 a5 = some q) : Ct l G yX11_sound prog_1_method_45_code 10 (some .int) 2 56 [.ref (ga G 0), .int a1, .int a2, .int a3, .int a4, .int a5] χ σ (some (.int q.1)) q.2 σ := by
  refine Ct.of (by decide) (Nat.le_of_ble_eq_true rfl) ?_
  intro p e s m args below meth c Q X hr hlk hQ
  have hx := X.1
  have hb := X.2.1
  intro H locs ls hw hl
  have hl : lv_has ls 10 [(0, .ref (ga G 0)), (1, .int a1), (2, .int a2), (3, .int a3), (4, .int a4), (5, .int a5)] := hl
  unfold f_X11_sound at h
  refine lv_iload_n hx hb d_X11_sound_0 rfl (lv_at hl 1 rfl) ?_
  obtain ⟨q1, e2, h⟩ := bd_some h
  refine r_callS (As := [.int a1]) (rest := []) (st' := [.int q1]) X hw hl mwX11_isTenths wd_791 wd_790 (c_X11_isTenths hf e2) rfl ⟨Nat.le_of_ble_eq_true rfl, Nat.le_of_ble_eq_true rfl⟩ ⟨Nat.le_refl _, Nat.le_refl _⟩ rfl rfl (Nat.le_of_ble_eq_true rfl) d_X11_sound_1 (fun H locs hw => ?_)
  refine lv_if_eq (tgt := 45) hx hb d_X11_sound_4 (by decide) (fun hc => ?_) (fun hc => ?_)
  · have h := ite_t h hc
    refine lv_iconst (v := (-1 : Int32)) hx hb d_X11_sound_45 (by decide) ?_
    obtain rfl := Option.some.inj h
    subst hQ
    exact r_iret X hr hlk hw d_X11_sound_46
  · have h := ite_f h hc
    refine lv_iload_n hx hb d_X11_sound_7 rfl (lv_at hl 2 rfl) ?_
    obtain ⟨q3, e4, h⟩ := bd_some h
    refine r_callS (As := [.int a2]) (rest := []) (st' := [.int q3]) X hw hl mwX11_isTenths wd_791 wd_790 (c_X11_isTenths hf e4) rfl ⟨Nat.le_of_ble_eq_true rfl, Nat.le_of_ble_eq_true rfl⟩ ⟨Nat.le_refl _, Nat.le_refl _⟩ rfl rfl (Nat.le_of_ble_eq_true rfl) d_X11_sound_8 (fun H locs hw => ?_)
    refine lv_if_eq (tgt := 45) hx hb d_X11_sound_11 (by decide) (fun hc => ?_) (fun hc => ?_)
    · have h := ite_t h hc
      refine lv_iconst (v := (-1 : Int32)) hx hb d_X11_sound_45 (by decide) ?_
      obtain rfl := Option.some.inj h
      subst hQ
      exact r_iret X hr hlk hw d_X11_sound_46
    · have h := ite_f h hc
      refine lv_iload_n hx hb d_X11_sound_14 rfl (lv_at hl 3 rfl) ?_
      obtain ⟨q5, e6, h⟩ := bd_some h
      refine r_callS (As := [.int a3]) (rest := []) (st' := [.int q5]) X hw hl mwX11_isTenths wd_791 wd_790 (c_X11_isTenths hf e6) rfl ⟨Nat.le_of_ble_eq_true rfl, Nat.le_of_ble_eq_true rfl⟩ ⟨Nat.le_refl _, Nat.le_refl _⟩ rfl rfl (Nat.le_of_ble_eq_true rfl) d_X11_sound_15 (fun H locs hw => ?_)
      refine lv_if_eq (tgt := 45) hx hb d_X11_sound_18 (by decide) (fun hc => ?_) (fun hc => ?_)
      · have h := ite_t h hc
        refine lv_iconst (v := (-1 : Int32)) hx hb d_X11_sound_45 (by decide) ?_
        obtain rfl := Option.some.inj h
        subst hQ
        exact r_iret X hr hlk hw d_X11_sound_46
      · have h := ite_f h hc
        refine lv_iload hx hb d_X11_sound_21 (lv_at hl 4 rfl) ?_
        refine lv_if_lt (tgt := 45) hx hb d_X11_sound_23 (by decide) (fun hc => ?_) (fun hc => ?_)
        · have h := ite_t h hc
          refine lv_iconst (v := (-1 : Int32)) hx hb d_X11_sound_45 (by decide) ?_
          obtain rfl := Option.some.inj h
          subst hQ
          exact r_iret X hr hlk hw d_X11_sound_46
        · have h := ite_f h hc
          refine lv_iload hx hb d_X11_sound_26 (lv_at hl 4 rfl) ?_
          refine lv_bipush (v := (8 : Int32)) hx hb d_X11_sound_28 (by decide) ?_
          refine lv_icmp_gt (tgt := 45) hx hb d_X11_sound_30 (by decide) (fun hc => ?_) (fun hc => ?_)
          · have h := ite_t h hc
            refine lv_iconst (v := (-1 : Int32)) hx hb d_X11_sound_45 (by decide) ?_
            obtain rfl := Option.some.inj h
            subst hQ
            exact r_iret X hr hlk hw d_X11_sound_46
          · have h := ite_f h hc
            refine lv_iload hx hb d_X11_sound_33 (lv_at hl 5 rfl) ?_
            refine lv_if_lt (tgt := 45) hx hb d_X11_sound_35 (by decide) (fun hc => ?_) (fun hc => ?_)
            · have h := ite_t h hc
              refine lv_iconst (v := (-1 : Int32)) hx hb d_X11_sound_45 (by decide) ?_
              obtain rfl := Option.some.inj h
              subst hQ
              exact r_iret X hr hlk hw d_X11_sound_46
            · have h := ite_f h hc
              refine lv_iload hx hb d_X11_sound_38 (lv_at hl 5 rfl) ?_
              refine lv_iload hx hb d_X11_sound_40 (lv_at hl 4 rfl) ?_
              refine lv_icmp_le (tgt := 47) hx hb d_X11_sound_42 (by decide) (fun hc => ?_) (fun hc => ?_)
              · have h := ite_t h hc
                refine lv_iload_n hx hb d_X11_sound_47 rfl (lv_at hl 1 rfl) ?_
                refine lv_i2l hx hb d_X11_sound_48 rfl ?_
                refine lv_iload_n hx hb d_X11_sound_49 rfl (lv_at hl 2 rfl) ?_
                refine lv_iload hx hb d_X11_sound_50 (lv_at hl 4 rfl) ?_
                refine lv_iload hx hb d_X11_sound_52 (lv_at hl 5 rfl) ?_
                obtain ⟨q7, e8, h⟩ := bd_some h
                refine r_callS (As := [.int a2, .int a4, .int a5]) (rest := [.long a1.toInt64]) (st' := [.long q7, .long a1.toInt64]) X hw hl mwX1_justThese wd_780 wd_793 (c_X1_justThese hf e8) rfl ⟨Nat.le_of_ble_eq_true rfl, Nat.le_of_ble_eq_true rfl⟩ ⟨Nat.le_refl _, Nat.le_refl _⟩ rfl rfl (Nat.le_of_ble_eq_true rfl) d_X11_sound_54 (fun H locs hw => ?_)
                refine lv_lmul hx hb d_X11_sound_57 ?_
                refine lv_lstore (lv' := [(6, .long (a1.toInt64 * q7)), (0, .ref (ga G 0)), (1, .int a1), (2, .int a2), (3, .int a3), (4, .int a4), (5, .int a5)]) hx hb d_X11_sound_58 hl (Nat.le_of_ble_eq_true rfl) rfl (fun ls hl => ?_)
                refine lv_lload hx hb d_X11_sound_60 (lv_at hl 0 rfl) ?_
                refine lv_bipush (v := (10 : Int32)) hx hb d_X11_sound_62 (by decide) ?_
                refine lv_iload_n hx hb d_X11_sound_64 rfl (lv_at hl 2 rfl) ?_
                refine lv_isub hx hb d_X11_sound_65 ?_
                refine lv_i2l hx hb d_X11_sound_66 rfl ?_
                refine lv_iload_n hx hb d_X11_sound_67 rfl (lv_at hl 4 rfl) ?_
                refine lv_iload hx hb d_X11_sound_68 (lv_at hl 5 rfl) ?_
                refine lv_iload hx hb d_X11_sound_70 (lv_at hl 6 rfl) ?_
                obtain ⟨q9, e10, h⟩ := bd_some h
                refine r_callS (As := [.int a3, .int a4, .int a5]) (rest := [.long ((10 : Int32) - a1).toInt64, .long (a1.toInt64 * q7)]) (st' := [.long q9, .long ((10 : Int32) - a1).toInt64, .long (a1.toInt64 * q7)]) X hw hl mwX1_justThese wd_780 wd_793 (c_X1_justThese hf e10) rfl ⟨Nat.le_of_ble_eq_true rfl, Nat.le_of_ble_eq_true rfl⟩ ⟨Nat.le_refl _, Nat.le_refl _⟩ rfl rfl (Nat.le_of_ble_eq_true rfl) d_X11_sound_72 (fun H locs hw => ?_)
                refine lv_lmul hx hb d_X11_sound_75 ?_
                refine lv_ladd hx hb d_X11_sound_76 ?_
                refine lv_lstore (lv' := [(8, .long ((a1.toInt64 * q7) + (((10 : Int32) - a1).toInt64 * q9))), (6, .long (a1.toInt64 * q7)), (0, .ref (ga G 0)), (1, .int a1), (2, .int a2), (3, .int a3), (4, .int a4), (5, .int a5)]) hx hb d_X11_sound_77 hl (Nat.le_of_ble_eq_true rfl) rfl (fun ls hl => ?_)
                refine lv_lload hx hb d_X11_sound_79 (lv_at hl 0 rfl) ?_
                refine lv_lconst (v := (0 : Int64)) hx hb d_X11_sound_81 (by decide) ?_
                refine W.lcmp hx hb d_X11_sound_82 ?_
                refine lv_if_ne (tgt := 89) hx hb d_X11_sound_83 (by decide) (fun hc => ?_) (fun hc => ?_)
                · have h := ite_f h hc
                  refine lv_aload_n hx hb d_X11_sound_89 rfl (lv_at hl 2 rfl) ?_
                  refine r_getr (j := 1) X hw ct7 (o_0 hf) rfl (Nat.le_of_ble_eq_true rfl) (q := 3) rfl wd_265 d_X11_sound_90 ?_
                  obtain ⟨q11, e12, h⟩ := bd_some h
                  refine r_callV (As := []) (rest := []) (st' := []) X hw hl mwX9_start wd_420 wd_421 wd_419 (c_X9_start hf e12) (r_recv X hw ct6 (o_3 hf)) rfl ⟨Nat.le_of_ble_eq_true rfl, Nat.le_of_ble_eq_true rfl⟩ ⟨Nat.le_refl _, Nat.le_refl _⟩ rfl rfl (Nat.le_of_ble_eq_true rfl) d_X11_sound_93 (fun H locs hw => ?_)
                  refine lv_aload_n hx hb d_X11_sound_96 rfl (lv_at hl 2 rfl) ?_
                  refine r_getr (j := 1) X hw ct7 (o_0 hf) rfl (Nat.le_of_ble_eq_true rfl) (q := 3) rfl wd_265 d_X11_sound_97 ?_
                  refine lv_lload hx hb d_X11_sound_100 (lv_at hl 1 rfl) ?_
                  refine lv_lload hx hb d_X11_sound_102 (lv_at hl 0 rfl) ?_
                  obtain ⟨q13, e14, h⟩ := bd_some h
                  refine r_callV (As := [.long (a1.toInt64 * q7), .long ((a1.toInt64 * q7) + (((10 : Int32) - a1).toInt64 * q9))]) (rest := []) (st' := []) X hw hl mwX9_addFraction wd_630 wd_631 wd_629 (c_X9_addFraction hf e14) (r_recv X hw ct6 (o_3 hf)) rfl ⟨Nat.le_of_ble_eq_true rfl, Nat.le_of_ble_eq_true rfl⟩ ⟨Nat.le_refl _, Nat.le_refl _⟩ rfl rfl (Nat.le_of_ble_eq_true rfl) d_X11_sound_104 (fun H locs hw => ?_)
                  refine lv_iconst (v := (0 : Int32)) hx hb d_X11_sound_107 (by decide) ?_
                  obtain rfl := Option.some.inj h
                  subst hQ
                  exact r_iret X hr hlk hw d_X11_sound_108
                · have h := ite_t h hc
                  refine lv_bipush (v := (-2 : Int32)) hx hb d_X11_sound_86 (by decide) ?_
                  obtain rfl := Option.some.inj h
                  subst hQ
                  exact r_iret X hr hlk hw d_X11_sound_88
              · have h := ite_f h hc
                refine lv_iconst (v := (-1 : Int32)) hx hb d_X11_sound_45 (by decide) ?_
                obtain rfl := Option.some.inj h
                subst hQ
                exact r_iret X hr hlk hw d_X11_sound_46
abbrev yX11_firm : MethodName := ⟨"OysterBeds", "firm", "(II)I"⟩
theorem mwX11_firm : MW yX11_firm prog_1_method_46_code 3 (some .int) 2 := ⟨wd_797, wd_1, by decide +kernel⟩
theorem d_X11_firm_0 : decode prog_1_method_46_code 0 = .ok (.iload_n 1, 1) := by decide +kernel
theorem d_X11_firm_1 : decode prog_1_method_46_code 1 = .ok (.ifCond .lt 20, 3) := by decide +kernel
theorem d_X11_firm_4 : decode prog_1_method_46_code 4 = .ok (.iload_n 1, 1) := by decide +kernel
theorem d_X11_firm_5 : decode prog_1_method_46_code 5 = .ok (.bipush 60, 2) := by decide +kernel
theorem d_X11_firm_7 : decode prog_1_method_46_code 7 = .ok (.if_icmp .gt 14, 3) := by decide +kernel
theorem d_X11_firm_10 : decode prog_1_method_46_code 10 = .ok (.iload_n 2, 1) := by decide +kernel
theorem d_X11_firm_11 : decode prog_1_method_46_code 11 = .ok (.iconst 2, 1) := by decide +kernel
theorem d_X11_firm_12 : decode prog_1_method_46_code 12 = .ok (.if_icmp .lt 9, 3) := by decide +kernel
theorem d_X11_firm_15 : decode prog_1_method_46_code 15 = .ok (.iload_n 2, 1) := by decide +kernel
theorem d_X11_firm_16 : decode prog_1_method_46_code 16 = .ok (.bipush 30, 2) := by decide +kernel
theorem d_X11_firm_18 : decode prog_1_method_46_code 18 = .ok (.if_icmp .le 5, 3) := by decide +kernel
theorem d_X11_firm_21 : decode prog_1_method_46_code 21 = .ok (.iconst (-1), 1) := by decide +kernel
theorem d_X11_firm_22 : decode prog_1_method_46_code 22 = .ok (.ireturn, 1) := by decide +kernel
theorem d_X11_firm_23 : decode prog_1_method_46_code 23 = .ok (.iload_n 1, 1) := by decide +kernel
theorem d_X11_firm_24 : decode prog_1_method_46_code 24 = .ok (.iload_n 2, 1) := by decide +kernel
theorem d_X11_firm_25 : decode prog_1_method_46_code 25 = .ok (.invokestatic 337, 3) := by decide +kernel
theorem d_X11_firm_28 : decode prog_1_method_46_code 28 = .ok (.ireturn, 1) := by decide +kernel
def f_X11_firm (a1 : Int32) (a2 : Int32) : Option (Int32) := (if a1 < 0 then some (-1 : Int32) else (if (60 : Int32) < a1 then some (-1 : Int32) else (if a2 < (2 : Int32) then some (-1 : Int32) else (if a2 ≤ (30 : Int32) then (f_X3_firstTake a1 a2).bind (fun q1 => some q1) else some (-1 : Int32)))))
theorem c_X11_firm {l : Launch} {G : gT} {χ σ : St} {a1 : Int32} {a2 : Int32} (hf : FW G) {q : Int32} (h : f_X11_firm a1 a2 = some q) : Ct l G yX11_firm prog_1_method_46_code 3 (some .int) 3 69 [.ref (ga G 0), .int a1, .int a2] χ σ (some (.int q)) χ σ := by
  refine Ct.of (by decide) (Nat.le_of_ble_eq_true rfl) ?_
  intro p e s m args below meth c Q X hr hlk hQ
  have hx := X.1
  have hb := X.2.1
  intro H locs ls hw hl
  have hl : lv_has ls 3 [(0, .ref (ga G 0)), (1, .int a1), (2, .int a2)] := hl
  unfold f_X11_firm at h
  refine lv_iload_n hx hb d_X11_firm_0 rfl (lv_at hl 1 rfl) ?_
  refine lv_if_lt (tgt := 21) hx hb d_X11_firm_1 (by decide) (fun hc => ?_) (fun hc => ?_)
  · have h := ite_t h hc
    refine lv_iconst (v := (-1 : Int32)) hx hb d_X11_firm_21 (by decide) ?_
    obtain rfl := Option.some.inj h
    subst hQ
    exact r_iret X hr hlk hw d_X11_firm_22
  · have h := ite_f h hc
    refine lv_iload_n hx hb d_X11_firm_4 rfl (lv_at hl 1 rfl) ?_
    refine lv_bipush (v := (60 : Int32)) hx hb d_X11_firm_5 (by decide) ?_
    refine lv_icmp_gt (tgt := 21) hx hb d_X11_firm_7 (by decide) (fun hc => ?_) (fun hc => ?_)
    · have h := ite_t h hc
      refine lv_iconst (v := (-1 : Int32)) hx hb d_X11_firm_21 (by decide) ?_
      obtain rfl := Option.some.inj h
      subst hQ
      exact r_iret X hr hlk hw d_X11_firm_22
    · have h := ite_f h hc
      refine lv_iload_n hx hb d_X11_firm_10 rfl (lv_at hl 2 rfl) ?_
      refine lv_iconst (v := (2 : Int32)) hx hb d_X11_firm_11 (by decide) ?_
      refine lv_icmp_lt (tgt := 21) hx hb d_X11_firm_12 (by decide) (fun hc => ?_) (fun hc => ?_)
      · have h := ite_t h hc
        refine lv_iconst (v := (-1 : Int32)) hx hb d_X11_firm_21 (by decide) ?_
        obtain rfl := Option.some.inj h
        subst hQ
        exact r_iret X hr hlk hw d_X11_firm_22
      · have h := ite_f h hc
        refine lv_iload_n hx hb d_X11_firm_15 rfl (lv_at hl 2 rfl) ?_
        refine lv_bipush (v := (30 : Int32)) hx hb d_X11_firm_16 (by decide) ?_
        refine lv_icmp_le (tgt := 23) hx hb d_X11_firm_18 (by decide) (fun hc => ?_) (fun hc => ?_)
        · have h := ite_t h hc
          refine lv_iload_n hx hb d_X11_firm_23 rfl (lv_at hl 1 rfl) ?_
          refine lv_iload_n hx hb d_X11_firm_24 rfl (lv_at hl 2 rfl) ?_
          obtain ⟨q1, e2, h⟩ := bd_some h
          refine r_callS (As := [.int a1, .int a2]) (rest := []) (st' := [.int q1]) X hw hl mwX3_firstTake wd_799 wd_798 (c_X3_firstTake hf e2) rfl ⟨Nat.le_of_ble_eq_true rfl, Nat.le_of_ble_eq_true rfl⟩ ⟨Nat.le_refl _, Nat.le_refl _⟩ rfl rfl (Nat.le_of_ble_eq_true rfl) d_X11_firm_25 (fun H locs hw => ?_)
          obtain rfl := Option.some.inj h
          subst hQ
          exact r_iret X hr hlk hw d_X11_firm_28
        · have h := ite_f h hc
          refine lv_iconst (v := (-1 : Int32)) hx hb d_X11_firm_21 (by decide) ?_
          obtain rfl := Option.some.inj h
          subst hQ
          exact r_iret X hr hlk hw d_X11_firm_22
abbrev yX11_law : MethodName := ⟨"OysterBeds", "law", "()I"⟩
theorem mwX11_law : MW yX11_law prog_1_method_47_code 4 (some .int) 0 := ⟨wd_810, wd_1, by decide +kernel⟩
theorem d_X11_law_0 : decode prog_1_method_47_code 0 = .ok (.aload_n 0, 1) := by decide +kernel
theorem d_X11_law_1 : decode prog_1_method_47_code 1 = .ok (.getfield 61, 3) := by decide +kernel
theorem d_X11_law_4 : decode prog_1_method_47_code 4 = .ok (.aload_n 0, 1) := by decide +kernel
theorem d_X11_law_5 : decode prog_1_method_47_code 5 = .ok (.getfield 12, 3) := by decide +kernel
theorem d_X11_law_8 : decode prog_1_method_47_code 8 = .ok (.invokevirtual 104, 3) := by decide +kernel
theorem d_X11_law_11 : decode prog_1_method_47_code 11 = .ok (.istore_n 1, 1) := by decide +kernel
theorem d_X11_law_12 : decode prog_1_method_47_code 12 = .ok (.aload_n 0, 1) := by decide +kernel
theorem d_X11_law_13 : decode prog_1_method_47_code 13 = .ok (.getfield 12, 3) := by decide +kernel
theorem d_X11_law_16 : decode prog_1_method_47_code 16 = .ok (.iconst 0, 1) := by decide +kernel
theorem d_X11_law_17 : decode prog_1_method_47_code 17 = .ok (.invokevirtual 72, 3) := by decide +kernel
theorem d_X11_law_20 : decode prog_1_method_47_code 20 = .ok (.pop, 1) := by decide +kernel
theorem d_X11_law_21 : decode prog_1_method_47_code 21 = .ok (.iload_n 1, 1) := by decide +kernel
theorem d_X11_law_22 : decode prog_1_method_47_code 22 = .ok (.iconst (-1), 1) := by decide +kernel
theorem d_X11_law_23 : decode prog_1_method_47_code 23 = .ok (.if_icmp .eq 9, 3) := by decide +kernel
theorem d_X11_law_26 : decode prog_1_method_47_code 26 = .ok (.ldc_w 342, 3) := by decide +kernel
theorem d_X11_law_29 : decode prog_1_method_47_code 29 = .ok (.iload_n 1, 1) := by decide +kernel
theorem d_X11_law_30 : decode prog_1_method_47_code 30 = .ok (.isub, 1) := by decide +kernel
theorem d_X11_law_31 : decode prog_1_method_47_code 31 = .ok (.ireturn, 1) := by decide +kernel
theorem d_X11_law_32 : decode prog_1_method_47_code 32 = .ok (.aload_n 0, 1) := by decide +kernel
theorem d_X11_law_33 : decode prog_1_method_47_code 33 = .ok (.getfield 26, 3) := by decide +kernel
theorem d_X11_law_36 : decode prog_1_method_47_code 36 = .ok (.aload_n 0, 1) := by decide +kernel
theorem d_X11_law_37 : decode prog_1_method_47_code 37 = .ok (.getfield 61, 3) := by decide +kernel
theorem d_X11_law_40 : decode prog_1_method_47_code 40 = .ok (.invokevirtual 343, 3) := by decide +kernel
theorem d_X11_law_43 : decode prog_1_method_47_code 43 = .ok (.istore_n 2, 1) := by decide +kernel
theorem d_X11_law_44 : decode prog_1_method_47_code 44 = .ok (.aload_n 0, 1) := by decide +kernel
theorem d_X11_law_45 : decode prog_1_method_47_code 45 = .ok (.getfield 26, 3) := by decide +kernel
theorem d_X11_law_48 : decode prog_1_method_47_code 48 = .ok (.aload_n 0, 1) := by decide +kernel
theorem d_X11_law_49 : decode prog_1_method_47_code 49 = .ok (.getfield 57, 3) := by decide +kernel
theorem d_X11_law_52 : decode prog_1_method_47_code 52 = .ok (.invokevirtual 343, 3) := by decide +kernel
theorem d_X11_law_55 : decode prog_1_method_47_code 55 = .ok (.istore_n 3, 1) := by decide +kernel
theorem d_X11_law_56 : decode prog_1_method_47_code 56 = .ok (.aload_n 0, 1) := by decide +kernel
theorem d_X11_law_57 : decode prog_1_method_47_code 57 = .ok (.getfield 19, 3) := by decide +kernel
theorem d_X11_law_60 : decode prog_1_method_47_code 60 = .ok (.invokevirtual 156, 3) := by decide +kernel
theorem d_X11_law_63 : decode prog_1_method_47_code 63 = .ok (.aload_n 0, 1) := by decide +kernel
theorem d_X11_law_64 : decode prog_1_method_47_code 64 = .ok (.getfield 19, 3) := by decide +kernel
theorem d_X11_law_67 : decode prog_1_method_47_code 67 = .ok (.iload_n 2, 1) := by decide +kernel
theorem d_X11_law_68 : decode prog_1_method_47_code 68 = .ok (.i2l, 1) := by decide +kernel
theorem d_X11_law_69 : decode prog_1_method_47_code 69 = .ok (.invokevirtual 159, 3) := by decide +kernel
theorem d_X11_law_72 : decode prog_1_method_47_code 72 = .ok (.aload_n 0, 1) := by decide +kernel
theorem d_X11_law_73 : decode prog_1_method_47_code 73 = .ok (.getfield 19, 3) := by decide +kernel
theorem d_X11_law_76 : decode prog_1_method_47_code 76 = .ok (.iload_n 3, 1) := by decide +kernel
theorem d_X11_law_77 : decode prog_1_method_47_code 77 = .ok (.i2l, 1) := by decide +kernel
theorem d_X11_law_78 : decode prog_1_method_47_code 78 = .ok (.invokevirtual 159, 3) := by decide +kernel
theorem d_X11_law_81 : decode prog_1_method_47_code 81 = .ok (.iload_n 2, 1) := by decide +kernel
theorem d_X11_law_82 : decode prog_1_method_47_code 82 = .ok (.iload_n 3, 1) := by decide +kernel
theorem d_X11_law_83 : decode prog_1_method_47_code 83 = .ok (.isub, 1) := by decide +kernel
theorem d_X11_law_84 : decode prog_1_method_47_code 84 = .ok (.ireturn, 1) := by decide +kernel
def f_X11_law (χ : St) : Option (Int32 × St) := gd (isLaw (cW χ).2) ((f_X5_read χ (cW χ).2).bind (fun q2 => (f_X8_cutTo q2.2 (0 : Int32)).bind (fun q4 => (if q2.1 = (-1 : Int32) then gd (isLaw (cW q4.2).2) ((f_X0_closings q4.2 32 (cW q4.2).2).bind (fun q7 => gd (isLaw (cW q7.2).1) ((f_X0_closings q7.2 32 (cW q7.2).1).bind (fun q10 => (f_X9_start q10.2).bind (fun q12 => (f_X9_add q12 (q7.1).toInt64).bind (fun q14 => (f_X9_add q14 (q10.1).toInt64).bind (fun q16 => some ((q7.1 - q10.1), q16)))))))) else some (((-100000 : Int32) - q2.1), q4.2)))))
theorem c_X11_law {l : Launch} {G : gT} {χ σ : St} (hf : FW G) {q : Int32 × St} (h : f_X11_law χ = some q) : Ct l G yX11_law prog_1_method_47_code 4 (some .int) 6 130 [.ref (ga G 0)] χ σ (some (.int q.1)) q.2 σ := by
  refine Ct.of (by decide) (Nat.le_of_ble_eq_true rfl) ?_
  intro p e s m args below meth c Q X hr hlk hQ
  have hx := X.1
  have hb := X.2.1
  intro H locs ls hw hl
  have hl : lv_has ls 4 [(0, .ref (ga G 0))] := hl
  unfold f_X11_law at h
  refine lv_aload_n hx hb d_X11_law_0 rfl (lv_at hl 0 rfl) ?_
  obtain ⟨hw1, h⟩ := gd_some h
  refine r_getr (j := 8) X hw ct7 (o_0 hf) rfl (Nat.le_of_ble_eq_true rfl) (q := (cW χ).2) rfl wd_272 d_X11_law_1 ?_
  refine lv_aload_n hx hb d_X11_law_4 rfl (lv_at hl 0 rfl) ?_
  refine r_getr (j := 0) X hw ct7 (o_0 hf) rfl (Nat.le_of_ble_eq_true rfl) (q := 1) rfl wd_264 d_X11_law_5 ?_
  obtain ⟨q2, e3, h⟩ := bd_some h
  refine r_callV (As := [.ref (ga G 1)]) (rest := []) (st' := [.int q2.1]) X hw hl mwX5_read wd_354 wd_355 wd_353 (c_X5_read hf (LW.of hf hw1) e3) (r_recv X hw ct2 (law_at (LW.of hf hw1)).1) rfl ⟨Nat.le_of_ble_eq_true rfl, Nat.le_of_ble_eq_true rfl⟩ ⟨Nat.le_refl _, Nat.le_refl _⟩ rfl rfl (Nat.le_of_ble_eq_true rfl) d_X11_law_8 (fun H locs hw => ?_)
  refine lv_istore_n (lv' := [(1, .int q2.1), (0, .ref (ga G 0))]) hx hb d_X11_law_11 rfl hl (Nat.le_of_ble_eq_true rfl) rfl (fun ls hl => ?_)
  refine lv_aload_n hx hb d_X11_law_12 rfl (lv_at hl 1 rfl) ?_
  refine r_getr (j := 0) X hw ct7 (o_0 hf) rfl (Nat.le_of_ble_eq_true rfl) (q := 1) rfl wd_264 d_X11_law_13 ?_
  refine lv_iconst (v := (0 : Int32)) hx hb d_X11_law_16 (by decide) ?_
  obtain ⟨q4, e5, h⟩ := bd_some h
  refine r_callV (As := [.int (0 : Int32)]) (rest := []) (st' := [.int q4.1]) X hw hl mwX8_cutTo wd_305 wd_306 wd_304 (c_X8_cutTo hf e5) (r_recv X hw ct5 (o_1 hf)) rfl ⟨Nat.le_of_ble_eq_true rfl, Nat.le_of_ble_eq_true rfl⟩ ⟨Nat.le_refl _, Nat.le_refl _⟩ rfl rfl (Nat.le_of_ble_eq_true rfl) d_X11_law_17 (fun H locs hw => ?_)
  refine lv_pop hx hb d_X11_law_20 rfl ?_
  refine lv_iload_n hx hb d_X11_law_21 rfl (lv_at hl 0 rfl) ?_
  refine lv_iconst (v := (-1 : Int32)) hx hb d_X11_law_22 (by decide) ?_
  refine lv_icmp_eq (tgt := 32) hx hb d_X11_law_23 (by decide) (fun hc => ?_) (fun hc => ?_)
  · have h := ite_t h hc
    refine lv_aload_n hx hb d_X11_law_32 rfl (lv_at hl 1 rfl) ?_
    refine r_getr (j := 2) X hw ct7 (o_0 hf) rfl (Nat.le_of_ble_eq_true rfl) (q := 32) rfl wd_266 d_X11_law_33 ?_
    refine lv_aload_n hx hb d_X11_law_36 rfl (lv_at hl 1 rfl) ?_
    obtain ⟨hw6, h⟩ := gd_some h
    refine r_getr (j := 8) X hw ct7 (o_0 hf) rfl (Nat.le_of_ble_eq_true rfl) (q := (cW q4.2).2) rfl wd_272 d_X11_law_37 ?_
    obtain ⟨q7, e8, h⟩ := bd_some h
    refine r_callV (As := [.ref (ga G (cW q4.2).2)]) (rest := []) (st' := [.int q7.1]) X hw hl mwX0_closings wd_813 wd_814 wd_812 (c_X0_closings hf b_32 (LW.of hf hw6) e8) (r_recv X hw ct0 (o_32 hf)) rfl ⟨Nat.le_of_ble_eq_true rfl, Nat.le_of_ble_eq_true rfl⟩ ⟨Nat.le_refl _, Nat.le_refl _⟩ rfl rfl (Nat.le_of_ble_eq_true rfl) d_X11_law_40 (fun H locs hw => ?_)
    refine lv_istore_n (lv' := [(2, .int q7.1), (1, .int q2.1), (0, .ref (ga G 0))]) hx hb d_X11_law_43 rfl hl (Nat.le_of_ble_eq_true rfl) rfl (fun ls hl => ?_)
    refine lv_aload_n hx hb d_X11_law_44 rfl (lv_at hl 2 rfl) ?_
    refine r_getr (j := 2) X hw ct7 (o_0 hf) rfl (Nat.le_of_ble_eq_true rfl) (q := 32) rfl wd_266 d_X11_law_45 ?_
    refine lv_aload_n hx hb d_X11_law_48 rfl (lv_at hl 2 rfl) ?_
    obtain ⟨hw9, h⟩ := gd_some h
    refine r_getr (j := 7) X hw ct7 (o_0 hf) rfl (Nat.le_of_ble_eq_true rfl) (q := (cW q7.2).1) rfl wd_271 d_X11_law_49 ?_
    obtain ⟨q10, e11, h⟩ := bd_some h
    refine r_callV (As := [.ref (ga G (cW q7.2).1)]) (rest := []) (st' := [.int q10.1]) X hw hl mwX0_closings wd_813 wd_814 wd_812 (c_X0_closings hf b_32 (LW.of hf hw9) e11) (r_recv X hw ct0 (o_32 hf)) rfl ⟨Nat.le_of_ble_eq_true rfl, Nat.le_of_ble_eq_true rfl⟩ ⟨Nat.le_refl _, Nat.le_refl _⟩ rfl rfl (Nat.le_of_ble_eq_true rfl) d_X11_law_52 (fun H locs hw => ?_)
    refine lv_istore_n (lv' := [(3, .int q10.1), (2, .int q7.1), (1, .int q2.1), (0, .ref (ga G 0))]) hx hb d_X11_law_55 rfl hl (Nat.le_of_ble_eq_true rfl) rfl (fun ls hl => ?_)
    refine lv_aload_n hx hb d_X11_law_56 rfl (lv_at hl 3 rfl) ?_
    refine r_getr (j := 1) X hw ct7 (o_0 hf) rfl (Nat.le_of_ble_eq_true rfl) (q := 3) rfl wd_265 d_X11_law_57 ?_
    obtain ⟨q12, e13, h⟩ := bd_some h
    refine r_callV (As := []) (rest := []) (st' := []) X hw hl mwX9_start wd_420 wd_421 wd_419 (c_X9_start hf e13) (r_recv X hw ct6 (o_3 hf)) rfl ⟨Nat.le_of_ble_eq_true rfl, Nat.le_of_ble_eq_true rfl⟩ ⟨Nat.le_refl _, Nat.le_refl _⟩ rfl rfl (Nat.le_of_ble_eq_true rfl) d_X11_law_60 (fun H locs hw => ?_)
    refine lv_aload_n hx hb d_X11_law_63 rfl (lv_at hl 3 rfl) ?_
    refine r_getr (j := 1) X hw ct7 (o_0 hf) rfl (Nat.le_of_ble_eq_true rfl) (q := 3) rfl wd_265 d_X11_law_64 ?_
    refine lv_iload_n hx hb d_X11_law_67 rfl (lv_at hl 1 rfl) ?_
    refine lv_i2l hx hb d_X11_law_68 rfl ?_
    obtain ⟨q14, e15, h⟩ := bd_some h
    refine r_callV (As := [.long (q7.1).toInt64]) (rest := []) (st' := []) X hw hl mwX9_add wd_424 wd_425 wd_423 (c_X9_add hf e15) (r_recv X hw ct6 (o_3 hf)) rfl ⟨Nat.le_of_ble_eq_true rfl, Nat.le_of_ble_eq_true rfl⟩ ⟨Nat.le_refl _, Nat.le_refl _⟩ rfl rfl (Nat.le_of_ble_eq_true rfl) d_X11_law_69 (fun H locs hw => ?_)
    refine lv_aload_n hx hb d_X11_law_72 rfl (lv_at hl 3 rfl) ?_
    refine r_getr (j := 1) X hw ct7 (o_0 hf) rfl (Nat.le_of_ble_eq_true rfl) (q := 3) rfl wd_265 d_X11_law_73 ?_
    refine lv_iload_n hx hb d_X11_law_76 rfl (lv_at hl 0 rfl) ?_
    refine lv_i2l hx hb d_X11_law_77 rfl ?_
    obtain ⟨q16, e17, h⟩ := bd_some h
    refine r_callV (As := [.long (q10.1).toInt64]) (rest := []) (st' := []) X hw hl mwX9_add wd_424 wd_425 wd_423 (c_X9_add hf e17) (r_recv X hw ct6 (o_3 hf)) rfl ⟨Nat.le_of_ble_eq_true rfl, Nat.le_of_ble_eq_true rfl⟩ ⟨Nat.le_refl _, Nat.le_refl _⟩ rfl rfl (Nat.le_of_ble_eq_true rfl) d_X11_law_78 (fun H locs hw => ?_)
    refine lv_iload_n hx hb d_X11_law_81 rfl (lv_at hl 1 rfl) ?_
    refine lv_iload_n hx hb d_X11_law_82 rfl (lv_at hl 0 rfl) ?_
    refine lv_isub hx hb d_X11_law_83 ?_
    obtain rfl := Option.some.inj h
    subst hQ
    exact r_iret X hr hlk hw d_X11_law_84
  · have h := ite_f h hc
    refine r_ldcw X wd_811 d_X11_law_26 ?_
    refine lv_iload_n hx hb d_X11_law_29 rfl (lv_at hl 0 rfl) ?_
    refine lv_isub hx hb d_X11_law_30 ?_
    obtain rfl := Option.some.inj h
    subst hQ
    exact r_iret X hr hlk hw d_X11_law_31
abbrev yX11_wordings : MethodName := ⟨"OysterBeds", "wordings", "(I)I"⟩
theorem mwX11_wordings : MW yX11_wordings prog_1_method_48_code 5 (some .int) 1 := ⟨wd_820, wd_1, by decide +kernel⟩
theorem d_X11_wordings_0 : decode prog_1_method_48_code 0 = .ok (.iload_n 1, 1) := by decide +kernel
theorem d_X11_wordings_1 : decode prog_1_method_48_code 1 = .ok (.ifCond .lt 9, 3) := by decide +kernel
theorem d_X11_wordings_4 : decode prog_1_method_48_code 4 = .ok (.iload_n 1, 1) := by decide +kernel
theorem d_X11_wordings_5 : decode prog_1_method_48_code 5 = .ok (.bipush 20, 2) := by decide +kernel
theorem d_X11_wordings_7 : decode prog_1_method_48_code 7 = .ok (.if_icmp .le 5, 3) := by decide +kernel
theorem d_X11_wordings_10 : decode prog_1_method_48_code 10 = .ok (.iconst (-1), 1) := by decide +kernel
theorem d_X11_wordings_11 : decode prog_1_method_48_code 11 = .ok (.ireturn, 1) := by decide +kernel
theorem d_X11_wordings_12 : decode prog_1_method_48_code 12 = .ok (.iconst 0, 1) := by decide +kernel
theorem d_X11_wordings_13 : decode prog_1_method_48_code 13 = .ok (.istore_n 2, 1) := by decide +kernel
theorem d_X11_wordings_14 : decode prog_1_method_48_code 14 = .ok (.aload_n 0, 1) := by decide +kernel
theorem d_X11_wordings_15 : decode prog_1_method_48_code 15 = .ok (.getfield 19, 3) := by decide +kernel
theorem d_X11_wordings_18 : decode prog_1_method_48_code 18 = .ok (.invokevirtual 156, 3) := by decide +kernel
theorem d_X11_wordings_21 : decode prog_1_method_48_code 21 = .ok (.iconst 0, 1) := by decide +kernel
theorem d_X11_wordings_22 : decode prog_1_method_48_code 22 = .ok (.istore_n 3, 1) := by decide +kernel
theorem d_X11_wordings_23 : decode prog_1_method_48_code 23 = .ok (.iload_n 3, 1) := by decide +kernel
theorem d_X11_wordings_24 : decode prog_1_method_48_code 24 = .ok (.bipush 10, 2) := by decide +kernel
theorem d_X11_wordings_26 : decode prog_1_method_48_code 26 = .ok (.if_icmp .ge 62, 3) := by decide +kernel
theorem d_X11_wordings_29 : decode prog_1_method_48_code 29 = .ok (.iconst 0, 1) := by decide +kernel
theorem d_X11_wordings_30 : decode prog_1_method_48_code 30 = .ok (.istore 4, 2) := by decide +kernel
theorem d_X11_wordings_32 : decode prog_1_method_48_code 32 = .ok (.iload 4, 2) := by decide +kernel
theorem d_X11_wordings_34 : decode prog_1_method_48_code 34 = .ok (.bipush 10, 2) := by decide +kernel
theorem d_X11_wordings_36 : decode prog_1_method_48_code 36 = .ok (.if_icmp .ge 46, 3) := by decide +kernel
theorem d_X11_wordings_39 : decode prog_1_method_48_code 39 = .ok (.iload_n 1, 1) := by decide +kernel
theorem d_X11_wordings_40 : decode prog_1_method_48_code 40 = .ok (.iload_n 3, 1) := by decide +kernel
theorem d_X11_wordings_41 : decode prog_1_method_48_code 41 = .ok (.iload 4, 2) := by decide +kernel
theorem d_X11_wordings_43 : decode prog_1_method_48_code 43 = .ok (.invokestatic 347, 3) := by decide +kernel
theorem d_X11_wordings_46 : decode prog_1_method_48_code 46 = .ok (.ifCond .eq 30, 3) := by decide +kernel
theorem d_X11_wordings_49 : decode prog_1_method_48_code 49 = .ok (.iinc 2 1, 3) := by decide +kernel
theorem d_X11_wordings_52 : decode prog_1_method_48_code 52 = .ok (.iload_n 2, 1) := by decide +kernel
theorem d_X11_wordings_53 : decode prog_1_method_48_code 53 = .ok (.iconst 1, 1) := by decide +kernel
theorem d_X11_wordings_54 : decode prog_1_method_48_code 54 = .ok (.if_icmp .ne 22, 3) := by decide +kernel
theorem d_X11_wordings_57 : decode prog_1_method_48_code 57 = .ok (.aload_n 0, 1) := by decide +kernel
theorem d_X11_wordings_58 : decode prog_1_method_48_code 58 = .ok (.getfield 19, 3) := by decide +kernel
theorem d_X11_wordings_61 : decode prog_1_method_48_code 61 = .ok (.iload_n 3, 1) := by decide +kernel
theorem d_X11_wordings_62 : decode prog_1_method_48_code 62 = .ok (.i2l, 1) := by decide +kernel
theorem d_X11_wordings_63 : decode prog_1_method_48_code 63 = .ok (.invokevirtual 159, 3) := by decide +kernel
theorem d_X11_wordings_66 : decode prog_1_method_48_code 66 = .ok (.aload_n 0, 1) := by decide +kernel
theorem d_X11_wordings_67 : decode prog_1_method_48_code 67 = .ok (.getfield 19, 3) := by decide +kernel
theorem d_X11_wordings_70 : decode prog_1_method_48_code 70 = .ok (.iload 4, 2) := by decide +kernel
theorem d_X11_wordings_72 : decode prog_1_method_48_code 72 = .ok (.i2l, 1) := by decide +kernel
theorem d_X11_wordings_73 : decode prog_1_method_48_code 73 = .ok (.invokevirtual 159, 3) := by decide +kernel
theorem d_X11_wordings_76 : decode prog_1_method_48_code 76 = .ok (.iinc 4 1, 3) := by decide +kernel
theorem d_X11_wordings_79 : decode prog_1_method_48_code 79 = .ok (.goto (-47), 3) := by decide +kernel
theorem d_X11_wordings_82 : decode prog_1_method_48_code 82 = .ok (.iinc 3 1, 3) := by decide +kernel
theorem d_X11_wordings_85 : decode prog_1_method_48_code 85 = .ok (.goto (-62), 3) := by decide +kernel
theorem d_X11_wordings_88 : decode prog_1_method_48_code 88 = .ok (.iload_n 2, 1) := by decide +kernel
theorem d_X11_wordings_89 : decode prog_1_method_48_code 89 = .ok (.ireturn, 1) := by decide +kernel
def f_X11_wordings_j76_32 (τ : St) (x1 : Int32) (x2 : Int32) (x3 : Int32) (x4 : Int32) : Option ((Int32 × Int32 × St) ⊕ (Int32 × St)) := some (.inl (x2, (x4 + (1 : Int32)), τ))
def f_X11_wordings_s32 (τ : St) (y1 : Int32) (y3 : Int32) (x2 : Int32) (x4 : Int32) : Option ((Int32 × Int32 × St) ⊕ (Int32 × St)) := (if (10 : Int32) ≤ x4 then some (.inr (x2, τ)) else (f_X3_isAtRest y1 y3 x4).bind (fun q3 => (if q3 = 0 then f_X11_wordings_j76_32 τ y1 x2 y3 x4 else (if (x2 + (1 : Int32)) = (1 : Int32) then (f_X9_add τ y3.toInt64).bind (fun q5 => (f_X9_add q5 x4.toInt64).bind (fun q7 => f_X11_wordings_j76_32 q7 y1 (x2 + (1 : Int32)) y3 x4)) else f_X11_wordings_j76_32 τ y1 (x2 + (1 : Int32)) y3 x4))))
def f_X11_wordings_s23 (τ : St) (y1 : Int32) (x2 : Int32) (x3 : Int32) : Option ((Int32 × Int32 × St) ⊕ (Int32 × St)) := (if (10 : Int32) ≤ x3 then some (.inr (x2, τ)) else (iter (fun z => f_X11_wordings_s32 z.2.2 y1 x3 z.1 z.2.1) FU (x2, (0 : Int32), τ)).bind (fun z9 => some (.inl (z9.1, (x3 + (1 : Int32)), z9.2))))
def f_X11_wordings (χ : St) (a1 : Int32) : Option (Int32 × St) := (if a1 < 0 then some ((-1 : Int32), χ) else (if a1 ≤ (20 : Int32) then (f_X9_start χ).bind (fun q1 => (iter (fun z => f_X11_wordings_s23 z.2.2 a1 z.1 z.2.1) FU ((0 : Int32), (0 : Int32), q1)).bind (fun z12 => some (z12.1, z12.2))) else some ((-1 : Int32), χ)))
theorem c_X11_wordings {l : Launch} {G : gT} {χ σ : St} {a1 : Int32} (hf : FW G) {q : Int32 × St} (h : f_X11_wordings χ a1 = some q) : Ct l G yX11_wordings prog_1_method_48_code 5 (some .int) 3 67 [.ref (ga G 0), .int a1] χ σ (some (.int q.1)) q.2 σ := by
  refine Ct.of (by decide) (Nat.le_of_ble_eq_true rfl) ?_
  intro p e s m args below meth c Q X hr hlk hQ
  have hx := X.1
  have hb := X.2.1
  have j76_32 : ∀ (τ : St) (x1 : Int32) (x2 : Int32) (x3 : Int32) (x4 : Int32) (o : (Int32 × Int32 × St) ⊕ (Int32 × St)), f_X11_wordings_j76_32 τ x1 x2 x3 x4 = some o → Sum.elim (fun z : Int32 × Int32 × St => Wat p l e (rmk 3 67) s m args below meth c Q G 5 32 [] [(2, .int z.1), (4, .int z.2.1), (0, .ref (ga G 0)), (1, .int x1), (3, .int x3)] z.2.2 σ) (fun z : Int32 × St => Wat p l e (rmk 3 67) s m args below meth c Q G 5 82 [] [(0, .ref (ga G 0)), (1, .int x1), (2, .int z.1), (3, .int x3)] z.2 σ) o → Wat p l e (rmk 3 67) s m args below meth c Q G 5 76 [] [(0, .ref (ga G 0)), (1, .int x1), (2, .int x2), (3, .int x3), (4, .int x4)] τ σ := by
    intro τ x1 x2 x3 x4 o h hk H locs ls hw hl
    unfold f_X11_wordings_j76_32 at h
    refine lv_iinc (v := (x4 + (1 : Int32))) (k := 4) (lv' := [(4, .int (x4 + (1 : Int32))), (0, .ref (ga G 0)), (1, .int x1), (2, .int x2), (3, .int x3)]) hx hb d_X11_wordings_76 hl rfl (by rfl) (Nat.le_of_ble_eq_true rfl) rfl (fun ls hl => ?_)
    refine lv_goto (tgt := 32) hx hb d_X11_wordings_79 (by decide) ?_
    obtain rfl := Option.some.inj h
    dsimp only [Sum.elim_inl] at hk
    exact hk _ _ _ hw (lv_sub hl [3, 0, 1, 2, 4] rfl)
  have b32 : ∀ (τ : St) (y1 : Int32) (y3 : Int32) (x2 : Int32) (x4 : Int32) (o : (Int32 × Int32 × St) ⊕ (Int32 × St)), f_X11_wordings_s32 τ y1 y3 x2 x4 = some o → Sum.elim (fun z : Int32 × Int32 × St => Wat p l e (rmk 3 67) s m args below meth c Q G 5 32 [] [(2, .int z.1), (4, .int z.2.1), (0, .ref (ga G 0)), (1, .int y1), (3, .int y3)] z.2.2 σ) (fun z : Int32 × St => Wat p l e (rmk 3 67) s m args below meth c Q G 5 82 [] [(0, .ref (ga G 0)), (1, .int y1), (2, .int z.1), (3, .int y3)] z.2 σ) o → Wat p l e (rmk 3 67) s m args below meth c Q G 5 32 [] [(2, .int x2), (4, .int x4), (0, .ref (ga G 0)), (1, .int y1), (3, .int y3)] τ σ := by
    intro τ y1 y3 x2 x4 o h hk H locs ls hw hl
    unfold f_X11_wordings_s32 at h
    refine lv_iload hx hb d_X11_wordings_32 (lv_at hl 1 rfl) ?_
    refine lv_bipush (v := (10 : Int32)) hx hb d_X11_wordings_34 (by decide) ?_
    refine lv_icmp_ge (tgt := 82) hx hb d_X11_wordings_36 (by decide) (fun hc => ?_) (fun hc => ?_)
    · have h := ite_t h hc
      obtain rfl := Option.some.inj h
      dsimp only [Sum.elim_inr] at hk
      exact hk _ _ _ hw (lv_sub hl [2, 3, 0, 4] rfl)
    · have h := ite_f h hc
      refine lv_iload_n hx hb d_X11_wordings_39 rfl (lv_at hl 3 rfl) ?_
      refine lv_iload_n hx hb d_X11_wordings_40 rfl (lv_at hl 4 rfl) ?_
      refine lv_iload hx hb d_X11_wordings_41 (lv_at hl 1 rfl) ?_
      obtain ⟨q3, e4, h⟩ := bd_some h
      refine r_callS (As := [.int y1, .int y3, .int x4]) (rest := []) (st' := [.int q3]) X hw hl mwX3_isAtRest wd_822 wd_821 (c_X3_isAtRest hf e4) rfl ⟨Nat.le_of_ble_eq_true rfl, Nat.le_of_ble_eq_true rfl⟩ ⟨Nat.le_refl _, Nat.le_refl _⟩ rfl rfl (Nat.le_of_ble_eq_true rfl) d_X11_wordings_43 (fun H locs hw => ?_)
      refine lv_if_eq (tgt := 76) hx hb d_X11_wordings_46 (by decide) (fun hc => ?_) (fun hc => ?_)
      · have h := ite_t h hc
        exact j76_32 τ y1 x2 y3 x4 o h hk _ _ _ hw (lv_sub hl [2, 3, 0, 4, 1] rfl)
      · have h := ite_f h hc
        refine lv_iinc (v := (x2 + (1 : Int32))) (k := 0) (lv' := [(2, .int (x2 + (1 : Int32))), (4, .int x4), (0, .ref (ga G 0)), (1, .int y1), (3, .int y3)]) hx hb d_X11_wordings_49 hl rfl (by rfl) (Nat.le_of_ble_eq_true rfl) rfl (fun ls hl => ?_)
        refine lv_iload_n hx hb d_X11_wordings_52 rfl (lv_at hl 0 rfl) ?_
        refine lv_iconst (v := (1 : Int32)) hx hb d_X11_wordings_53 (by decide) ?_
        refine lv_icmp_ne (tgt := 76) hx hb d_X11_wordings_54 (by decide) (fun hc => ?_) (fun hc => ?_)
        · have h := ite_f h hc
          exact j76_32 τ y1 (x2 + (1 : Int32)) y3 x4 o h hk _ _ _ hw (lv_sub hl [2, 3, 0, 4, 1] rfl)
        · have h := ite_t h hc
          refine lv_aload_n hx hb d_X11_wordings_57 rfl (lv_at hl 2 rfl) ?_
          refine r_getr (j := 1) X hw ct7 (o_0 hf) rfl (Nat.le_of_ble_eq_true rfl) (q := 3) rfl wd_265 d_X11_wordings_58 ?_
          refine lv_iload_n hx hb d_X11_wordings_61 rfl (lv_at hl 4 rfl) ?_
          refine lv_i2l hx hb d_X11_wordings_62 rfl ?_
          obtain ⟨q5, e6, h⟩ := bd_some h
          refine r_callV (As := [.long y3.toInt64]) (rest := []) (st' := []) X hw hl mwX9_add wd_424 wd_425 wd_423 (c_X9_add hf e6) (r_recv X hw ct6 (o_3 hf)) rfl ⟨Nat.le_of_ble_eq_true rfl, Nat.le_of_ble_eq_true rfl⟩ ⟨Nat.le_refl _, Nat.le_refl _⟩ rfl rfl (Nat.le_of_ble_eq_true rfl) d_X11_wordings_63 (fun H locs hw => ?_)
          refine lv_aload_n hx hb d_X11_wordings_66 rfl (lv_at hl 2 rfl) ?_
          refine r_getr (j := 1) X hw ct7 (o_0 hf) rfl (Nat.le_of_ble_eq_true rfl) (q := 3) rfl wd_265 d_X11_wordings_67 ?_
          refine lv_iload hx hb d_X11_wordings_70 (lv_at hl 1 rfl) ?_
          refine lv_i2l hx hb d_X11_wordings_72 rfl ?_
          obtain ⟨q7, e8, h⟩ := bd_some h
          refine r_callV (As := [.long x4.toInt64]) (rest := []) (st' := []) X hw hl mwX9_add wd_424 wd_425 wd_423 (c_X9_add hf e8) (r_recv X hw ct6 (o_3 hf)) rfl ⟨Nat.le_of_ble_eq_true rfl, Nat.le_of_ble_eq_true rfl⟩ ⟨Nat.le_refl _, Nat.le_refl _⟩ rfl rfl (Nat.le_of_ble_eq_true rfl) d_X11_wordings_73 (fun H locs hw => ?_)
          exact j76_32 q7 y1 (x2 + (1 : Int32)) y3 x4 o h hk _ _ _ hw (lv_sub hl [2, 3, 0, 4, 1] rfl)
  have b23 : ∀ (τ : St) (y1 : Int32) (x2 : Int32) (x3 : Int32) (o : (Int32 × Int32 × St) ⊕ (Int32 × St)), f_X11_wordings_s23 τ y1 x2 x3 = some o → Sum.elim (fun z : Int32 × Int32 × St => Wat p l e (rmk 3 67) s m args below meth c Q G 5 23 [] [(2, .int z.1), (3, .int z.2.1), (0, .ref (ga G 0)), (1, .int y1)] z.2.2 σ) (fun z : Int32 × St => Wat p l e (rmk 3 67) s m args below meth c Q G 5 88 [] [(2, .int z.1)] z.2 σ) o → Wat p l e (rmk 3 67) s m args below meth c Q G 5 23 [] [(2, .int x2), (3, .int x3), (0, .ref (ga G 0)), (1, .int y1)] τ σ := by
    intro τ y1 x2 x3 o h hk H locs ls hw hl
    unfold f_X11_wordings_s23 at h
    refine lv_iload_n hx hb d_X11_wordings_23 rfl (lv_at hl 1 rfl) ?_
    refine lv_bipush (v := (10 : Int32)) hx hb d_X11_wordings_24 (by decide) ?_
    refine lv_icmp_ge (tgt := 88) hx hb d_X11_wordings_26 (by decide) (fun hc => ?_) (fun hc => ?_)
    · have h := ite_t h hc
      obtain rfl := Option.some.inj h
      dsimp only [Sum.elim_inr] at hk
      exact hk _ _ _ hw (lv_sub hl [0] rfl)
    · have h := ite_f h hc
      refine lv_iconst (v := (0 : Int32)) hx hb d_X11_wordings_29 (by decide) ?_
      refine lv_istore (lv' := [(4, .int (0 : Int32)), (2, .int x2), (3, .int x3), (0, .ref (ga G 0)), (1, .int y1)]) hx hb d_X11_wordings_30 hl (Nat.le_of_ble_eq_true rfl) rfl (fun ls hl => ?_)
      obtain ⟨z9, e10, h⟩ := bd_some h
      refine iter_w (Wh := fun z : Int32 × Int32 × St => Wat p l e (rmk 3 67) s m args below meth c Q G 5 32 [] [(2, .int z.1), (4, .int z.2.1), (0, .ref (ga G 0)), (1, .int y1), (3, .int x3)] z.2.2 σ) (K := fun z : Int32 × St => Wat p l e (rmk 3 67) s m args below meth c Q G 5 82 [] [(0, .ref (ga G 0)), (1, .int y1), (2, .int z.1), (3, .int x3)] z.2 σ) (fun z o h1 h2 => b32 z.2.2 y1 x3 z.1 z.2.1 o h1 h2) FU _ _ e10 ?_ _ _ _ hw (lv_sub hl [1, 0, 3, 4, 2] rfl)
      intro H locs ls hw hl
      refine lv_iinc (v := (x3 + (1 : Int32))) (k := 3) (lv' := [(3, .int (x3 + (1 : Int32))), (0, .ref (ga G 0)), (1, .int y1), (2, .int z9.1)]) hx hb d_X11_wordings_82 hl rfl (by rfl) (Nat.le_of_ble_eq_true rfl) rfl (fun ls hl => ?_)
      refine lv_goto (tgt := 23) hx hb d_X11_wordings_85 (by decide) ?_
      obtain rfl := Option.some.inj h
      dsimp only [Sum.elim_inl] at hk
      exact hk _ _ _ hw (lv_sub hl [3, 0, 1, 2] rfl)
  intro H locs ls hw hl
  have hl : lv_has ls 5 [(0, .ref (ga G 0)), (1, .int a1)] := hl
  unfold f_X11_wordings at h
  refine lv_iload_n hx hb d_X11_wordings_0 rfl (lv_at hl 1 rfl) ?_
  refine lv_if_lt (tgt := 10) hx hb d_X11_wordings_1 (by decide) (fun hc => ?_) (fun hc => ?_)
  · have h := ite_t h hc
    refine lv_iconst (v := (-1 : Int32)) hx hb d_X11_wordings_10 (by decide) ?_
    obtain rfl := Option.some.inj h
    subst hQ
    exact r_iret X hr hlk hw d_X11_wordings_11
  · have h := ite_f h hc
    refine lv_iload_n hx hb d_X11_wordings_4 rfl (lv_at hl 1 rfl) ?_
    refine lv_bipush (v := (20 : Int32)) hx hb d_X11_wordings_5 (by decide) ?_
    refine lv_icmp_le (tgt := 12) hx hb d_X11_wordings_7 (by decide) (fun hc => ?_) (fun hc => ?_)
    · have h := ite_t h hc
      refine lv_iconst (v := (0 : Int32)) hx hb d_X11_wordings_12 (by decide) ?_
      refine lv_istore_n (lv' := [(2, .int (0 : Int32)), (0, .ref (ga G 0)), (1, .int a1)]) hx hb d_X11_wordings_13 rfl hl (Nat.le_of_ble_eq_true rfl) rfl (fun ls hl => ?_)
      refine lv_aload_n hx hb d_X11_wordings_14 rfl (lv_at hl 1 rfl) ?_
      refine r_getr (j := 1) X hw ct7 (o_0 hf) rfl (Nat.le_of_ble_eq_true rfl) (q := 3) rfl wd_265 d_X11_wordings_15 ?_
      obtain ⟨q1, e2, h⟩ := bd_some h
      refine r_callV (As := []) (rest := []) (st' := []) X hw hl mwX9_start wd_420 wd_421 wd_419 (c_X9_start hf e2) (r_recv X hw ct6 (o_3 hf)) rfl ⟨Nat.le_of_ble_eq_true rfl, Nat.le_of_ble_eq_true rfl⟩ ⟨Nat.le_refl _, Nat.le_refl _⟩ rfl rfl (Nat.le_of_ble_eq_true rfl) d_X11_wordings_18 (fun H locs hw => ?_)
      refine lv_iconst (v := (0 : Int32)) hx hb d_X11_wordings_21 (by decide) ?_
      refine lv_istore_n (lv' := [(3, .int (0 : Int32)), (2, .int (0 : Int32)), (0, .ref (ga G 0)), (1, .int a1)]) hx hb d_X11_wordings_22 rfl hl (Nat.le_of_ble_eq_true rfl) rfl (fun ls hl => ?_)
      obtain ⟨z12, e13, h⟩ := bd_some h
      refine iter_w (Wh := fun z : Int32 × Int32 × St => Wat p l e (rmk 3 67) s m args below meth c Q G 5 23 [] [(2, .int z.1), (3, .int z.2.1), (0, .ref (ga G 0)), (1, .int a1)] z.2.2 σ) (K := fun z : Int32 × St => Wat p l e (rmk 3 67) s m args below meth c Q G 5 88 [] [(2, .int z.1)] z.2 σ) (fun z o h1 h2 => b23 z.2.2 a1 z.1 z.2.1 o h1 h2) FU _ _ e13 ?_ _ _ _ hw (lv_sub hl [1, 0, 2, 3] rfl)
      intro H locs ls hw hl
      refine lv_iload_n hx hb d_X11_wordings_88 rfl (lv_at hl 0 rfl) ?_
      obtain rfl := Option.some.inj h
      subst hQ
      exact r_iret X hr hlk hw d_X11_wordings_89
    · have h := ite_f h hc
      refine lv_iconst (v := (-1 : Int32)) hx hb d_X11_wordings_10 (by decide) ?_
      obtain rfl := Option.some.inj h
      subst hQ
      exact r_iret X hr hlk hw d_X11_wordings_11
abbrev yX11_years : MethodName := ⟨"OysterBeds", "years", "(II)I"⟩
theorem mwX11_years : MW yX11_years prog_1_method_49_code 10 (some .int) 2 := ⟨wd_834, wd_1, by decide +kernel⟩
theorem d_X11_years_0 : decode prog_1_method_49_code 0 = .ok (.iload_n 2, 1) := by decide +kernel
theorem d_X11_years_1 : decode prog_1_method_49_code 1 = .ok (.iconst 1, 1) := by decide +kernel
theorem d_X11_years_2 : decode prog_1_method_49_code 2 = .ok (.if_icmp .lt 9, 3) := by decide +kernel
theorem d_X11_years_5 : decode prog_1_method_49_code 5 = .ok (.iload_n 2, 1) := by decide +kernel
theorem d_X11_years_6 : decode prog_1_method_49_code 6 = .ok (.bipush 60, 2) := by decide +kernel
theorem d_X11_years_8 : decode prog_1_method_49_code 8 = .ok (.if_icmp .le 5, 3) := by decide +kernel
theorem d_X11_years_11 : decode prog_1_method_49_code 11 = .ok (.iconst (-1), 1) := by decide +kernel
theorem d_X11_years_12 : decode prog_1_method_49_code 12 = .ok (.ireturn, 1) := by decide +kernel
theorem d_X11_years_13 : decode prog_1_method_49_code 13 = .ok (.aload_n 0, 1) := by decide +kernel
theorem d_X11_years_14 : decode prog_1_method_49_code 14 = .ok (.getfield 30, 3) := by decide +kernel
theorem d_X11_years_17 : decode prog_1_method_49_code 17 = .ok (.aload_n 0, 1) := by decide +kernel
theorem d_X11_years_18 : decode prog_1_method_49_code 18 = .ok (.getfield 26, 3) := by decide +kernel
theorem d_X11_years_21 : decode prog_1_method_49_code 21 = .ok (.invokevirtual 174, 3) := by decide +kernel
theorem d_X11_years_24 : decode prog_1_method_49_code 24 = .ok (.iconst 0, 1) := by decide +kernel
theorem d_X11_years_25 : decode prog_1_method_49_code 25 = .ok (.istore_n 3, 1) := by decide +kernel
theorem d_X11_years_26 : decode prog_1_method_49_code 26 = .ok (.iload_n 1, 1) := by decide +kernel
theorem d_X11_years_27 : decode prog_1_method_49_code 27 = .ok (.istore 4, 2) := by decide +kernel
theorem d_X11_years_29 : decode prog_1_method_49_code 29 = .ok (.iconst 0, 1) := by decide +kernel
theorem d_X11_years_30 : decode prog_1_method_49_code 30 = .ok (.istore 5, 2) := by decide +kernel
theorem d_X11_years_32 : decode prog_1_method_49_code 32 = .ok (.iload 5, 2) := by decide +kernel
theorem d_X11_years_34 : decode prog_1_method_49_code 34 = .ok (.iload_n 2, 1) := by decide +kernel
theorem d_X11_years_35 : decode prog_1_method_49_code 35 = .ok (.if_icmp .ge 146, 3) := by decide +kernel
theorem d_X11_years_38 : decode prog_1_method_49_code 38 = .ok (.iload 4, 2) := by decide +kernel
theorem d_X11_years_40 : decode prog_1_method_49_code 40 = .ok (.invokestatic 351, 3) := by decide +kernel
theorem d_X11_years_43 : decode prog_1_method_49_code 43 = .ok (.istore 4, 2) := by decide +kernel
theorem d_X11_years_45 : decode prog_1_method_49_code 45 = .ok (.iload 4, 2) := by decide +kernel
theorem d_X11_years_47 : decode prog_1_method_49_code 47 = .ok (.iconst 4, 1) := by decide +kernel
theorem d_X11_years_48 : decode prog_1_method_49_code 48 = .ok (.invokestatic 354, 3) := by decide +kernel
theorem d_X11_years_51 : decode prog_1_method_49_code 51 = .ok (.istore 6, 2) := by decide +kernel
theorem d_X11_years_53 : decode prog_1_method_49_code 53 = .ok (.iload 6, 2) := by decide +kernel
theorem d_X11_years_55 : decode prog_1_method_49_code 55 = .ok (.iconst 2, 1) := by decide +kernel
theorem d_X11_years_56 : decode prog_1_method_49_code 56 = .ok (.if_icmp .ge 15, 3) := by decide +kernel
theorem d_X11_years_59 : decode prog_1_method_49_code 59 = .ok (.aload_n 0, 1) := by decide +kernel
theorem d_X11_years_60 : decode prog_1_method_49_code 60 = .ok (.getfield 30, 3) := by decide +kernel
theorem d_X11_years_63 : decode prog_1_method_49_code 63 = .ok (.iconst 1, 1) := by decide +kernel
theorem d_X11_years_64 : decode prog_1_method_49_code 64 = .ok (.invokevirtual 171, 3) := by decide +kernel
theorem d_X11_years_67 : decode prog_1_method_49_code 67 = .ok (.pop, 1) := by decide +kernel
theorem d_X11_years_68 : decode prog_1_method_49_code 68 = .ok (.goto 107, 3) := by decide +kernel
theorem d_X11_years_71 : decode prog_1_method_49_code 71 = .ok (.iload 6, 2) := by decide +kernel
theorem d_X11_years_73 : decode prog_1_method_49_code 73 = .ok (.iconst 2, 1) := by decide +kernel
theorem d_X11_years_74 : decode prog_1_method_49_code 74 = .ok (.if_icmp .eq 13, 3) := by decide +kernel
theorem d_X11_years_77 : decode prog_1_method_49_code 77 = .ok (.aload_n 0, 1) := by decide +kernel
theorem d_X11_years_78 : decode prog_1_method_49_code 78 = .ok (.getfield 30, 3) := by decide +kernel
theorem d_X11_years_81 : decode prog_1_method_49_code 81 = .ok (.getfield 76, 3) := by decide +kernel
theorem d_X11_years_84 : decode prog_1_method_49_code 84 = .ok (.ifCond .le 91, 3) := by decide +kernel
theorem d_X11_years_87 : decode prog_1_method_49_code 87 = .ok (.iload 4, 2) := by decide +kernel
theorem d_X11_years_89 : decode prog_1_method_49_code 89 = .ok (.invokestatic 351, 3) := by decide +kernel
theorem d_X11_years_92 : decode prog_1_method_49_code 92 = .ok (.istore 7, 2) := by decide +kernel
theorem d_X11_years_94 : decode prog_1_method_49_code 94 = .ok (.iload 7, 2) := by decide +kernel
theorem d_X11_years_96 : decode prog_1_method_49_code 96 = .ok (.invokestatic 351, 3) := by decide +kernel
theorem d_X11_years_99 : decode prog_1_method_49_code 99 = .ok (.istore 4, 2) := by decide +kernel
theorem d_X11_years_101 : decode prog_1_method_49_code 101 = .ok (.iload 6, 2) := by decide +kernel
theorem d_X11_years_103 : decode prog_1_method_49_code 103 = .ok (.iconst 2, 1) := by decide +kernel
theorem d_X11_years_104 : decode prog_1_method_49_code 104 = .ok (.if_icmp .ne 44, 3) := by decide +kernel
theorem d_X11_years_107 : decode prog_1_method_49_code 107 = .ok (.iload 7, 2) := by decide +kernel
theorem d_X11_years_109 : decode prog_1_method_49_code 109 = .ok (.iconst 4, 1) := by decide +kernel
theorem d_X11_years_110 : decode prog_1_method_49_code 110 = .ok (.invokestatic 354, 3) := by decide +kernel
theorem d_X11_years_113 : decode prog_1_method_49_code 113 = .ok (.istore 8, 2) := by decide +kernel
theorem d_X11_years_115 : decode prog_1_method_49_code 115 = .ok (.iload 4, 2) := by decide +kernel
theorem d_X11_years_117 : decode prog_1_method_49_code 117 = .ok (.bipush 10, 2) := by decide +kernel
theorem d_X11_years_119 : decode prog_1_method_49_code 119 = .ok (.invokestatic 354, 3) := by decide +kernel
theorem d_X11_years_122 : decode prog_1_method_49_code 122 = .ok (.istore 9, 2) := by decide +kernel
theorem d_X11_years_124 : decode prog_1_method_49_code 124 = .ok (.iload_n 3, 1) := by decide +kernel
theorem d_X11_years_125 : decode prog_1_method_49_code 125 = .ok (.aload_n 0, 1) := by decide +kernel
theorem d_X11_years_126 : decode prog_1_method_49_code 126 = .ok (.getfield 30, 3) := by decide +kernel
theorem d_X11_years_129 : decode prog_1_method_49_code 129 = .ok (.aload_n 0, 1) := by decide +kernel
theorem d_X11_years_130 : decode prog_1_method_49_code 130 = .ok (.getfield 57, 3) := by decide +kernel
theorem d_X11_years_133 : decode prog_1_method_49_code 133 = .ok (.iload 8, 2) := by decide +kernel
theorem d_X11_years_135 : decode prog_1_method_49_code 135 = .ok (.iload 9, 2) := by decide +kernel
theorem d_X11_years_137 : decode prog_1_method_49_code 137 = .ok (.invokevirtual 152, 3) := by decide +kernel
theorem d_X11_years_140 : decode prog_1_method_49_code 140 = .ok (.invokestatic 166, 3) := by decide +kernel
theorem d_X11_years_143 : decode prog_1_method_49_code 143 = .ok (.iadd, 1) := by decide +kernel
theorem d_X11_years_144 : decode prog_1_method_49_code 144 = .ok (.istore_n 3, 1) := by decide +kernel
theorem d_X11_years_145 : decode prog_1_method_49_code 145 = .ok (.goto 30, 3) := by decide +kernel
theorem d_X11_years_148 : decode prog_1_method_49_code 148 = .ok (.aload_n 0, 1) := by decide +kernel
theorem d_X11_years_149 : decode prog_1_method_49_code 149 = .ok (.getfield 30, 3) := by decide +kernel
theorem d_X11_years_152 : decode prog_1_method_49_code 152 = .ok (.iload 7, 2) := by decide +kernel
theorem d_X11_years_154 : decode prog_1_method_49_code 154 = .ok (.aload_n 0, 1) := by decide +kernel
theorem d_X11_years_155 : decode prog_1_method_49_code 155 = .ok (.getfield 30, 3) := by decide +kernel
theorem d_X11_years_158 : decode prog_1_method_49_code 158 = .ok (.getfield 76, 3) := by decide +kernel
theorem d_X11_years_161 : decode prog_1_method_49_code 161 = .ok (.invokestatic 354, 3) := by decide +kernel
theorem d_X11_years_164 : decode prog_1_method_49_code 164 = .ok (.iload 4, 2) := by decide +kernel
theorem d_X11_years_166 : decode prog_1_method_49_code 166 = .ok (.bipush 16, 2) := by decide +kernel
theorem d_X11_years_168 : decode prog_1_method_49_code 168 = .ok (.invokestatic 354, 3) := by decide +kernel
theorem d_X11_years_171 : decode prog_1_method_49_code 171 = .ok (.invokevirtual 184, 3) := by decide +kernel
theorem d_X11_years_174 : decode prog_1_method_49_code 174 = .ok (.pop, 1) := by decide +kernel
theorem d_X11_years_175 : decode prog_1_method_49_code 175 = .ok (.iinc 5 1, 3) := by decide +kernel
theorem d_X11_years_178 : decode prog_1_method_49_code 178 = .ok (.goto (-146), 3) := by decide +kernel
theorem d_X11_years_181 : decode prog_1_method_49_code 181 = .ok (.aload_n 0, 1) := by decide +kernel
theorem d_X11_years_182 : decode prog_1_method_49_code 182 = .ok (.getfield 19, 3) := by decide +kernel
theorem d_X11_years_185 : decode prog_1_method_49_code 185 = .ok (.invokevirtual 156, 3) := by decide +kernel
theorem d_X11_years_188 : decode prog_1_method_49_code 188 = .ok (.aload_n 0, 1) := by decide +kernel
theorem d_X11_years_189 : decode prog_1_method_49_code 189 = .ok (.getfield 19, 3) := by decide +kernel
theorem d_X11_years_192 : decode prog_1_method_49_code 192 = .ok (.aload_n 0, 1) := by decide +kernel
theorem d_X11_years_193 : decode prog_1_method_49_code 193 = .ok (.getfield 30, 3) := by decide +kernel
theorem d_X11_years_196 : decode prog_1_method_49_code 196 = .ok (.invokevirtual 163, 3) := by decide +kernel
theorem d_X11_years_199 : decode prog_1_method_49_code 199 = .ok (.i2l, 1) := by decide +kernel
theorem d_X11_years_200 : decode prog_1_method_49_code 200 = .ok (.invokevirtual 159, 3) := by decide +kernel
theorem d_X11_years_203 : decode prog_1_method_49_code 203 = .ok (.aload_n 0, 1) := by decide +kernel
theorem d_X11_years_204 : decode prog_1_method_49_code 204 = .ok (.getfield 19, 3) := by decide +kernel
theorem d_X11_years_207 : decode prog_1_method_49_code 207 = .ok (.aload_n 0, 1) := by decide +kernel
theorem d_X11_years_208 : decode prog_1_method_49_code 208 = .ok (.getfield 30, 3) := by decide +kernel
theorem d_X11_years_211 : decode prog_1_method_49_code 211 = .ok (.invokevirtual 357, 3) := by decide +kernel
theorem d_X11_years_214 : decode prog_1_method_49_code 214 = .ok (.i2l, 1) := by decide +kernel
theorem d_X11_years_215 : decode prog_1_method_49_code 215 = .ok (.invokevirtual 159, 3) := by decide +kernel
theorem d_X11_years_218 : decode prog_1_method_49_code 218 = .ok (.iload_n 3, 1) := by decide +kernel
theorem d_X11_years_219 : decode prog_1_method_49_code 219 = .ok (.ireturn, 1) := by decide +kernel
def f_X11_years_j175_32 (τ : St) (x2 : Int32) (x3 : Int32) (x4 : Int32) (x5 : Int32) : Option ((Int32 × Int32 × Int32 × St) ⊕ (Int32 × St)) := some (.inl (x3, x4, (x5 + (1 : Int32)), τ))
def f_X11_years_j87_32 (τ : St) (x2 : Int32) (x3 : Int32) (x4 : Int32) (x5 : Int32) (x6 : Int32) : Option ((Int32 × Int32 × Int32 × St) ⊕ (Int32 × St)) := (f_X3_stirred x4).bind (fun q7 => (f_X3_stirred q7).bind (fun q9 => (if x6 = (2 : Int32) then (f_X3_drawn q7 (4 : Int32)).bind (fun q17 => (f_X3_drawn q9 (10 : Int32)).bind (fun q19 => gd (isLaw (cW τ).1) ((f_X0_ask τ 40 (cW τ).1 q17 q19).bind (fun q22 => (f_J6_bitCount_0f7a4 q22.1).bind (fun q24 => f_X11_years_j175_32 q22.2 x2 (x3 + q24) q9 x5))))) else (f_X3_drawn q7 (cF τ 40 5)).bind (fun q11 => (f_X3_drawn q9 (16 : Int32)).bind (fun q13 => (f_X0_persuade τ 40 q11 q13).bind (fun q15 => f_X11_years_j175_32 q15.2 x2 x3 q9 x5))))))
def f_X11_years_s32 (τ : St) (y2 : Int32) (x3 : Int32) (x4 : Int32) (x5 : Int32) : Option ((Int32 × Int32 × Int32 × St) ⊕ (Int32 × St)) := (if y2 ≤ x5 then some (.inr (x3, τ)) else (f_X3_stirred x4).bind (fun q3 => (f_X3_drawn q3 (4 : Int32)).bind (fun q5 => (if (2 : Int32) ≤ q5 then (if q5 = (2 : Int32) then f_X11_years_j87_32 τ y2 x3 q3 x5 q5 else (if (cF τ 40 5) ≤ 0 then f_X11_years_j175_32 τ y2 x3 q3 x5 else f_X11_years_j87_32 τ y2 x3 q3 x5 q5)) else (f_X0_goBy τ 40 (1 : Int32)).bind (fun q26 => f_X11_years_j175_32 q26.2 y2 x3 q3 x5)))))
def f_X11_years (χ : St) (a1 : Int32) (a2 : Int32) : Option (Int32 × St) := (if a2 < (1 : Int32) then some ((-1 : Int32), χ) else (if a2 ≤ (60 : Int32) then (f_X0_copyFrom χ 40 32).bind (fun q1 => (iter (fun z => f_X11_years_s32 z.2.2.2 a2 z.1 z.2.1 z.2.2.1) FU ((0 : Int32), a1, (0 : Int32), q1)).bind (fun z28 => (f_X9_start z28.2).bind (fun q31 => (f_X0_openOnes q31 40).bind (fun q33 => (f_X9_add q31 q33.toInt64).bind (fun q35 => (f_X0_pearls q35 40).bind (fun q37 => (f_X9_add q35 q37.toInt64).bind (fun q39 => some (z28.1, q39)))))))) else some ((-1 : Int32), χ)))
theorem c_X11_years {l : Launch} {G : gT} {χ σ : St} {a1 : Int32} {a2 : Int32} (hf : FW G) {q : Int32 × St} (h : f_X11_years χ a1 a2 = some q) : Ct l G yX11_years prog_1_method_49_code 10 (some .int) 5 124 [.ref (ga G 0), .int a1, .int a2] χ σ (some (.int q.1)) q.2 σ := by
  refine Ct.of (by decide) (Nat.le_of_ble_eq_true rfl) ?_
  intro p e s m args below meth c Q X hr hlk hQ
  have hx := X.1
  have hb := X.2.1
  have j175_32 : ∀ (τ : St) (x2 : Int32) (x3 : Int32) (x4 : Int32) (x5 : Int32) (o : (Int32 × Int32 × Int32 × St) ⊕ (Int32 × St)), f_X11_years_j175_32 τ x2 x3 x4 x5 = some o → Sum.elim (fun z : Int32 × Int32 × Int32 × St => Wat p l e (rmk 5 124) s m args below meth c Q G 10 32 [] [(3, .int z.1), (4, .int z.2.1), (5, .int z.2.2.1), (0, .ref (ga G 0)), (2, .int x2)] z.2.2.2 σ) (fun z : Int32 × St => Wat p l e (rmk 5 124) s m args below meth c Q G 10 181 [] [(0, .ref (ga G 0)), (3, .int z.1)] z.2 σ) o → Wat p l e (rmk 5 124) s m args below meth c Q G 10 175 [] [(0, .ref (ga G 0)), (2, .int x2), (3, .int x3), (4, .int x4), (5, .int x5)] τ σ := by
    intro τ x2 x3 x4 x5 o h hk H locs ls hw hl
    unfold f_X11_years_j175_32 at h
    refine lv_iinc (v := (x5 + (1 : Int32))) (k := 4) (lv' := [(5, .int (x5 + (1 : Int32))), (0, .ref (ga G 0)), (2, .int x2), (3, .int x3), (4, .int x4)]) hx hb d_X11_years_175 hl rfl (by rfl) (Nat.le_of_ble_eq_true rfl) rfl (fun ls hl => ?_)
    refine lv_goto (tgt := 32) hx hb d_X11_years_178 (by decide) ?_
    obtain rfl := Option.some.inj h
    dsimp only [Sum.elim_inl] at hk
    exact hk _ _ _ hw (lv_sub hl [3, 4, 0, 1, 2] rfl)
  have j87_32 : ∀ (τ : St) (x2 : Int32) (x3 : Int32) (x4 : Int32) (x5 : Int32) (x6 : Int32) (o : (Int32 × Int32 × Int32 × St) ⊕ (Int32 × St)), f_X11_years_j87_32 τ x2 x3 x4 x5 x6 = some o → Sum.elim (fun z : Int32 × Int32 × Int32 × St => Wat p l e (rmk 5 124) s m args below meth c Q G 10 32 [] [(3, .int z.1), (4, .int z.2.1), (5, .int z.2.2.1), (0, .ref (ga G 0)), (2, .int x2)] z.2.2.2 σ) (fun z : Int32 × St => Wat p l e (rmk 5 124) s m args below meth c Q G 10 181 [] [(0, .ref (ga G 0)), (3, .int z.1)] z.2 σ) o → Wat p l e (rmk 5 124) s m args below meth c Q G 10 87 [] [(0, .ref (ga G 0)), (2, .int x2), (3, .int x3), (4, .int x4), (5, .int x5), (6, .int x6)] τ σ := by
    intro τ x2 x3 x4 x5 x6 o h hk H locs ls hw hl
    unfold f_X11_years_j87_32 at h
    refine lv_iload hx hb d_X11_years_87 (lv_at hl 3 rfl) ?_
    obtain ⟨q7, e8, h⟩ := bd_some h
    refine r_callS (As := [.int x4]) (rest := []) (st' := [.int q7]) X hw hl mwX3_stirred wd_836 wd_835 (c_X3_stirred hf e8) rfl ⟨Nat.le_of_ble_eq_true rfl, Nat.le_of_ble_eq_true rfl⟩ ⟨Nat.le_refl _, Nat.le_refl _⟩ rfl rfl (Nat.le_of_ble_eq_true rfl) d_X11_years_89 (fun H locs hw => ?_)
    refine lv_istore (lv' := [(7, .int q7), (0, .ref (ga G 0)), (2, .int x2), (3, .int x3), (4, .int x4), (5, .int x5), (6, .int x6)]) hx hb d_X11_years_92 hl (Nat.le_of_ble_eq_true rfl) rfl (fun ls hl => ?_)
    refine lv_iload hx hb d_X11_years_94 (lv_at hl 0 rfl) ?_
    obtain ⟨q9, e10, h⟩ := bd_some h
    refine r_callS (As := [.int q7]) (rest := []) (st' := [.int q9]) X hw hl mwX3_stirred wd_836 wd_835 (c_X3_stirred hf e10) rfl ⟨Nat.le_of_ble_eq_true rfl, Nat.le_of_ble_eq_true rfl⟩ ⟨Nat.le_refl _, Nat.le_refl _⟩ rfl rfl (Nat.le_of_ble_eq_true rfl) d_X11_years_96 (fun H locs hw => ?_)
    refine lv_istore (lv' := [(4, .int q9), (7, .int q7), (0, .ref (ga G 0)), (2, .int x2), (3, .int x3), (5, .int x5), (6, .int x6)]) hx hb d_X11_years_99 hl (Nat.le_of_ble_eq_true rfl) rfl (fun ls hl => ?_)
    refine lv_iload hx hb d_X11_years_101 (lv_at hl 6 rfl) ?_
    refine lv_iconst (v := (2 : Int32)) hx hb d_X11_years_103 (by decide) ?_
    refine lv_icmp_ne (tgt := 148) hx hb d_X11_years_104 (by decide) (fun hc => ?_) (fun hc => ?_)
    · have h := ite_f h hc
      refine lv_aload_n hx hb d_X11_years_148 rfl (lv_at hl 2 rfl) ?_
      refine r_getr (j := 3) X hw ct7 (o_0 hf) rfl (Nat.le_of_ble_eq_true rfl) (q := 40) rfl wd_267 d_X11_years_149 ?_
      refine lv_iload hx hb d_X11_years_152 (lv_at hl 1 rfl) ?_
      refine lv_aload_n hx hb d_X11_years_154 rfl (lv_at hl 2 rfl) ?_
      refine r_getr (j := 3) X hw ct7 (o_0 hf) rfl (Nat.le_of_ble_eq_true rfl) (q := 40) rfl wd_267 d_X11_years_155 ?_
      refine r_getiN (j := 5) X hw ct0 (o_40 hf) (Nat.le_of_ble_eq_true rfl) rfl (Nat.le_of_ble_eq_true rfl) nw_23 d_X11_years_158 ?_
      obtain ⟨q11, e12, h⟩ := bd_some h
      refine r_callS (As := [.int q7, .int (cF τ 40 5)]) (rest := [.ref (ga G 40)]) (st' := [.int q11, .ref (ga G 40)]) X hw hl mwX3_drawn wd_840 wd_839 (c_X3_drawn hf e12) rfl ⟨Nat.le_of_ble_eq_true rfl, Nat.le_of_ble_eq_true rfl⟩ ⟨Nat.le_refl _, Nat.le_refl _⟩ rfl rfl (Nat.le_of_ble_eq_true rfl) d_X11_years_161 (fun H locs hw => ?_)
      refine lv_iload hx hb d_X11_years_164 (lv_at hl 0 rfl) ?_
      refine lv_bipush (v := (16 : Int32)) hx hb d_X11_years_166 (by decide) ?_
      obtain ⟨q13, e14, h⟩ := bd_some h
      refine r_callS (As := [.int q9, .int (16 : Int32)]) (rest := [.int q11, .ref (ga G 40)]) (st' := [.int q13, .int q11, .ref (ga G 40)]) X hw hl mwX3_drawn wd_840 wd_839 (c_X3_drawn hf e14) rfl ⟨Nat.le_of_ble_eq_true rfl, Nat.le_of_ble_eq_true rfl⟩ ⟨Nat.le_refl _, Nat.le_refl _⟩ rfl rfl (Nat.le_of_ble_eq_true rfl) d_X11_years_168 (fun H locs hw => ?_)
      obtain ⟨q15, e16, h⟩ := bd_some h
      refine r_callV (As := [.int q11, .int q13]) (rest := []) (st' := [.int q15.1]) X hw hl mwX0_persuade wd_469 wd_470 wd_468 (c_X0_persuade hf b_40 e16) (r_recv X hw ct0 (o_40 hf)) rfl ⟨Nat.le_of_ble_eq_true rfl, Nat.le_of_ble_eq_true rfl⟩ ⟨Nat.le_refl _, Nat.le_refl _⟩ rfl rfl (Nat.le_of_ble_eq_true rfl) d_X11_years_171 (fun H locs hw => ?_)
      refine lv_pop hx hb d_X11_years_174 rfl ?_
      exact j175_32 q15.2 x2 x3 q9 x5 o h hk _ _ _ hw (lv_sub hl [2, 3, 4, 0, 5] rfl)
    · have h := ite_t h hc
      refine lv_iload hx hb d_X11_years_107 (lv_at hl 1 rfl) ?_
      refine lv_iconst (v := (4 : Int32)) hx hb d_X11_years_109 (by decide) ?_
      obtain ⟨q17, e18, h⟩ := bd_some h
      refine r_callS (As := [.int q7, .int (4 : Int32)]) (rest := []) (st' := [.int q17]) X hw hl mwX3_drawn wd_840 wd_839 (c_X3_drawn hf e18) rfl ⟨Nat.le_of_ble_eq_true rfl, Nat.le_of_ble_eq_true rfl⟩ ⟨Nat.le_refl _, Nat.le_refl _⟩ rfl rfl (Nat.le_of_ble_eq_true rfl) d_X11_years_110 (fun H locs hw => ?_)
      refine lv_istore (lv' := [(8, .int q17), (4, .int q9), (7, .int q7), (0, .ref (ga G 0)), (2, .int x2), (3, .int x3), (5, .int x5), (6, .int x6)]) hx hb d_X11_years_113 hl (Nat.le_of_ble_eq_true rfl) rfl (fun ls hl => ?_)
      refine lv_iload hx hb d_X11_years_115 (lv_at hl 1 rfl) ?_
      refine lv_bipush (v := (10 : Int32)) hx hb d_X11_years_117 (by decide) ?_
      obtain ⟨q19, e20, h⟩ := bd_some h
      refine r_callS (As := [.int q9, .int (10 : Int32)]) (rest := []) (st' := [.int q19]) X hw hl mwX3_drawn wd_840 wd_839 (c_X3_drawn hf e20) rfl ⟨Nat.le_of_ble_eq_true rfl, Nat.le_of_ble_eq_true rfl⟩ ⟨Nat.le_refl _, Nat.le_refl _⟩ rfl rfl (Nat.le_of_ble_eq_true rfl) d_X11_years_119 (fun H locs hw => ?_)
      refine lv_istore (lv' := [(9, .int q19), (8, .int q17), (4, .int q9), (7, .int q7), (0, .ref (ga G 0)), (2, .int x2), (3, .int x3), (5, .int x5), (6, .int x6)]) hx hb d_X11_years_122 hl (Nat.le_of_ble_eq_true rfl) rfl (fun ls hl => ?_)
      refine lv_iload_n hx hb d_X11_years_124 rfl (lv_at hl 6 rfl) ?_
      refine lv_aload_n hx hb d_X11_years_125 rfl (lv_at hl 4 rfl) ?_
      refine r_getr (j := 3) X hw ct7 (o_0 hf) rfl (Nat.le_of_ble_eq_true rfl) (q := 40) rfl wd_267 d_X11_years_126 ?_
      refine lv_aload_n hx hb d_X11_years_129 rfl (lv_at hl 4 rfl) ?_
      obtain ⟨hw21, h⟩ := gd_some h
      refine r_getr (j := 7) X hw ct7 (o_0 hf) rfl (Nat.le_of_ble_eq_true rfl) (q := (cW τ).1) rfl wd_271 d_X11_years_130 ?_
      refine lv_iload hx hb d_X11_years_133 (lv_at hl 1 rfl) ?_
      refine lv_iload hx hb d_X11_years_135 (lv_at hl 0 rfl) ?_
      obtain ⟨q22, e23, h⟩ := bd_some h
      refine r_callV (As := [.ref (ga G (cW τ).1), .int q17, .int q19]) (rest := [.int x3]) (st' := [.int q22.1, .int x3]) X hw hl mwX0_ask wd_394 wd_395 wd_393 (c_X0_ask hf b_40 (LW.of hf hw21) e23) (r_recv X hw ct0 (o_40 hf)) rfl ⟨Nat.le_of_ble_eq_true rfl, Nat.le_of_ble_eq_true rfl⟩ ⟨Nat.le_refl _, Nat.le_refl _⟩ rfl rfl (Nat.le_of_ble_eq_true rfl) d_X11_years_137 (fun H locs hw => ?_)
      obtain ⟨q24, e25, h⟩ := bd_some h
      refine r_callS (As := [.int q22.1]) (rest := [.int x3]) (st' := [.int q24, .int x3]) X hw hl mwJ6_bitCount_0f7a4 wd_436 wd_435 (c_J6_bitCount_0f7a4 e25) rfl ⟨Nat.le_of_ble_eq_true rfl, Nat.le_of_ble_eq_true rfl⟩ ⟨Nat.le_refl _, Nat.le_refl _⟩ rfl rfl (Nat.le_of_ble_eq_true rfl) d_X11_years_140 (fun H locs hw => ?_)
      refine lv_iadd hx hb d_X11_years_143 ?_
      refine lv_istore_n (lv' := [(3, .int (x3 + q24)), (9, .int q19), (8, .int q17), (4, .int q9), (7, .int q7), (0, .ref (ga G 0)), (2, .int x2), (5, .int x5), (6, .int x6)]) hx hb d_X11_years_144 rfl hl (Nat.le_of_ble_eq_true rfl) rfl (fun ls hl => ?_)
      refine lv_goto (tgt := 175) hx hb d_X11_years_145 (by decide) ?_
      exact j175_32 q22.2 x2 (x3 + q24) q9 x5 o h hk _ _ _ hw (lv_sub hl [5, 6, 0, 3, 7] rfl)
  have b32 : ∀ (τ : St) (y2 : Int32) (x3 : Int32) (x4 : Int32) (x5 : Int32) (o : (Int32 × Int32 × Int32 × St) ⊕ (Int32 × St)), f_X11_years_s32 τ y2 x3 x4 x5 = some o → Sum.elim (fun z : Int32 × Int32 × Int32 × St => Wat p l e (rmk 5 124) s m args below meth c Q G 10 32 [] [(3, .int z.1), (4, .int z.2.1), (5, .int z.2.2.1), (0, .ref (ga G 0)), (2, .int y2)] z.2.2.2 σ) (fun z : Int32 × St => Wat p l e (rmk 5 124) s m args below meth c Q G 10 181 [] [(0, .ref (ga G 0)), (3, .int z.1)] z.2 σ) o → Wat p l e (rmk 5 124) s m args below meth c Q G 10 32 [] [(3, .int x3), (4, .int x4), (5, .int x5), (0, .ref (ga G 0)), (2, .int y2)] τ σ := by
    intro τ y2 x3 x4 x5 o h hk H locs ls hw hl
    unfold f_X11_years_s32 at h
    refine lv_iload hx hb d_X11_years_32 (lv_at hl 2 rfl) ?_
    refine lv_iload_n hx hb d_X11_years_34 rfl (lv_at hl 4 rfl) ?_
    refine lv_icmp_ge (tgt := 181) hx hb d_X11_years_35 (by decide) (fun hc => ?_) (fun hc => ?_)
    · have h := ite_t h hc
      obtain rfl := Option.some.inj h
      dsimp only [Sum.elim_inr] at hk
      exact hk _ _ _ hw (lv_sub hl [3, 0] rfl)
    · have h := ite_f h hc
      refine lv_iload hx hb d_X11_years_38 (lv_at hl 1 rfl) ?_
      obtain ⟨q3, e4, h⟩ := bd_some h
      refine r_callS (As := [.int x4]) (rest := []) (st' := [.int q3]) X hw hl mwX3_stirred wd_836 wd_835 (c_X3_stirred hf e4) rfl ⟨Nat.le_of_ble_eq_true rfl, Nat.le_of_ble_eq_true rfl⟩ ⟨Nat.le_refl _, Nat.le_refl _⟩ rfl rfl (Nat.le_of_ble_eq_true rfl) d_X11_years_40 (fun H locs hw => ?_)
      refine lv_istore (lv' := [(4, .int q3), (3, .int x3), (5, .int x5), (0, .ref (ga G 0)), (2, .int y2)]) hx hb d_X11_years_43 hl (Nat.le_of_ble_eq_true rfl) rfl (fun ls hl => ?_)
      refine lv_iload hx hb d_X11_years_45 (lv_at hl 0 rfl) ?_
      refine lv_iconst (v := (4 : Int32)) hx hb d_X11_years_47 (by decide) ?_
      obtain ⟨q5, e6, h⟩ := bd_some h
      refine r_callS (As := [.int q3, .int (4 : Int32)]) (rest := []) (st' := [.int q5]) X hw hl mwX3_drawn wd_840 wd_839 (c_X3_drawn hf e6) rfl ⟨Nat.le_of_ble_eq_true rfl, Nat.le_of_ble_eq_true rfl⟩ ⟨Nat.le_refl _, Nat.le_refl _⟩ rfl rfl (Nat.le_of_ble_eq_true rfl) d_X11_years_48 (fun H locs hw => ?_)
      refine lv_istore (lv' := [(6, .int q5), (4, .int q3), (3, .int x3), (5, .int x5), (0, .ref (ga G 0)), (2, .int y2)]) hx hb d_X11_years_51 hl (Nat.le_of_ble_eq_true rfl) rfl (fun ls hl => ?_)
      refine lv_iload hx hb d_X11_years_53 (lv_at hl 0 rfl) ?_
      refine lv_iconst (v := (2 : Int32)) hx hb d_X11_years_55 (by decide) ?_
      refine lv_icmp_ge (tgt := 71) hx hb d_X11_years_56 (by decide) (fun hc => ?_) (fun hc => ?_)
      · have h := ite_t h hc
        refine lv_iload hx hb d_X11_years_71 (lv_at hl 0 rfl) ?_
        refine lv_iconst (v := (2 : Int32)) hx hb d_X11_years_73 (by decide) ?_
        refine lv_icmp_eq (tgt := 87) hx hb d_X11_years_74 (by decide) (fun hc => ?_) (fun hc => ?_)
        · have h := ite_t h hc
          exact j87_32 τ y2 x3 q3 x5 q5 o h hk _ _ _ hw (lv_sub hl [4, 5, 2, 1, 3, 0] rfl)
        · have h := ite_f h hc
          refine lv_aload_n hx hb d_X11_years_77 rfl (lv_at hl 4 rfl) ?_
          refine r_getr (j := 3) X hw ct7 (o_0 hf) rfl (Nat.le_of_ble_eq_true rfl) (q := 40) rfl wd_267 d_X11_years_78 ?_
          refine r_getiN (j := 5) X hw ct0 (o_40 hf) (Nat.le_of_ble_eq_true rfl) rfl (Nat.le_of_ble_eq_true rfl) nw_23 d_X11_years_81 ?_
          refine lv_if_le (tgt := 175) hx hb d_X11_years_84 (by decide) (fun hc => ?_) (fun hc => ?_)
          · have h := ite_t h hc
            exact j175_32 τ y2 x3 q3 x5 o h hk _ _ _ hw (lv_sub hl [4, 5, 2, 1, 3] rfl)
          · have h := ite_f h hc
            exact j87_32 τ y2 x3 q3 x5 q5 o h hk _ _ _ hw (lv_sub hl [4, 5, 2, 1, 3, 0] rfl)
      · have h := ite_f h hc
        refine lv_aload_n hx hb d_X11_years_59 rfl (lv_at hl 4 rfl) ?_
        refine r_getr (j := 3) X hw ct7 (o_0 hf) rfl (Nat.le_of_ble_eq_true rfl) (q := 40) rfl wd_267 d_X11_years_60 ?_
        refine lv_iconst (v := (1 : Int32)) hx hb d_X11_years_63 (by decide) ?_
        obtain ⟨q26, e27, h⟩ := bd_some h
        refine r_callV (As := [.int (1 : Int32)]) (rest := []) (st' := [.int q26.1]) X hw hl mwX0_goBy wd_446 wd_447 wd_445 (c_X0_goBy hf b_40 e27) (r_recv X hw ct0 (o_40 hf)) rfl ⟨Nat.le_of_ble_eq_true rfl, Nat.le_of_ble_eq_true rfl⟩ ⟨Nat.le_refl _, Nat.le_refl _⟩ rfl rfl (Nat.le_of_ble_eq_true rfl) d_X11_years_64 (fun H locs hw => ?_)
        refine lv_pop hx hb d_X11_years_67 rfl ?_
        refine lv_goto (tgt := 175) hx hb d_X11_years_68 (by decide) ?_
        exact j175_32 q26.2 y2 x3 q3 x5 o h hk _ _ _ hw (lv_sub hl [4, 5, 2, 1, 3] rfl)
  intro H locs ls hw hl
  have hl : lv_has ls 10 [(0, .ref (ga G 0)), (1, .int a1), (2, .int a2)] := hl
  unfold f_X11_years at h
  refine lv_iload_n hx hb d_X11_years_0 rfl (lv_at hl 2 rfl) ?_
  refine lv_iconst (v := (1 : Int32)) hx hb d_X11_years_1 (by decide) ?_
  refine lv_icmp_lt (tgt := 11) hx hb d_X11_years_2 (by decide) (fun hc => ?_) (fun hc => ?_)
  · have h := ite_t h hc
    refine lv_iconst (v := (-1 : Int32)) hx hb d_X11_years_11 (by decide) ?_
    obtain rfl := Option.some.inj h
    subst hQ
    exact r_iret X hr hlk hw d_X11_years_12
  · have h := ite_f h hc
    refine lv_iload_n hx hb d_X11_years_5 rfl (lv_at hl 2 rfl) ?_
    refine lv_bipush (v := (60 : Int32)) hx hb d_X11_years_6 (by decide) ?_
    refine lv_icmp_le (tgt := 13) hx hb d_X11_years_8 (by decide) (fun hc => ?_) (fun hc => ?_)
    · have h := ite_t h hc
      refine lv_aload_n hx hb d_X11_years_13 rfl (lv_at hl 0 rfl) ?_
      refine r_getr (j := 3) X hw ct7 (o_0 hf) rfl (Nat.le_of_ble_eq_true rfl) (q := 40) rfl wd_267 d_X11_years_14 ?_
      refine lv_aload_n hx hb d_X11_years_17 rfl (lv_at hl 0 rfl) ?_
      refine r_getr (j := 2) X hw ct7 (o_0 hf) rfl (Nat.le_of_ble_eq_true rfl) (q := 32) rfl wd_266 d_X11_years_18 ?_
      obtain ⟨q1, e2, h⟩ := bd_some h
      refine r_callV (As := [.ref (ga G 32)]) (rest := []) (st' := []) X hw hl mwX0_copyFrom wd_389 wd_390 wd_454 (c_X0_copyFrom hf b_40 b_32 e2) (r_recv X hw ct0 (o_40 hf)) rfl ⟨Nat.le_of_ble_eq_true rfl, Nat.le_of_ble_eq_true rfl⟩ ⟨Nat.le_refl _, Nat.le_refl _⟩ rfl rfl (Nat.le_of_ble_eq_true rfl) d_X11_years_21 (fun H locs hw => ?_)
      refine lv_iconst (v := (0 : Int32)) hx hb d_X11_years_24 (by decide) ?_
      refine lv_istore_n (lv' := [(3, .int (0 : Int32)), (0, .ref (ga G 0)), (1, .int a1), (2, .int a2)]) hx hb d_X11_years_25 rfl hl (Nat.le_of_ble_eq_true rfl) rfl (fun ls hl => ?_)
      refine lv_iload_n hx hb d_X11_years_26 rfl (lv_at hl 2 rfl) ?_
      refine lv_istore (lv' := [(4, .int a1), (3, .int (0 : Int32)), (0, .ref (ga G 0)), (1, .int a1), (2, .int a2)]) hx hb d_X11_years_27 hl (Nat.le_of_ble_eq_true rfl) rfl (fun ls hl => ?_)
      refine lv_iconst (v := (0 : Int32)) hx hb d_X11_years_29 (by decide) ?_
      refine lv_istore (lv' := [(5, .int (0 : Int32)), (4, .int a1), (3, .int (0 : Int32)), (0, .ref (ga G 0)), (1, .int a1), (2, .int a2)]) hx hb d_X11_years_30 hl (Nat.le_of_ble_eq_true rfl) rfl (fun ls hl => ?_)
      obtain ⟨z28, e29, h⟩ := bd_some h
      refine iter_w (Wh := fun z : Int32 × Int32 × Int32 × St => Wat p l e (rmk 5 124) s m args below meth c Q G 10 32 [] [(3, .int z.1), (4, .int z.2.1), (5, .int z.2.2.1), (0, .ref (ga G 0)), (2, .int a2)] z.2.2.2 σ) (K := fun z : Int32 × St => Wat p l e (rmk 5 124) s m args below meth c Q G 10 181 [] [(0, .ref (ga G 0)), (3, .int z.1)] z.2 σ) (fun z o h1 h2 => b32 z.2.2.2 a2 z.1 z.2.1 z.2.2.1 o h1 h2) FU _ _ e29 ?_ _ _ _ hw (lv_sub hl [2, 1, 0, 3, 5] rfl)
      intro H locs ls hw hl
      refine lv_aload_n hx hb d_X11_years_181 rfl (lv_at hl 0 rfl) ?_
      refine r_getr (j := 1) X hw ct7 (o_0 hf) rfl (Nat.le_of_ble_eq_true rfl) (q := 3) rfl wd_265 d_X11_years_182 ?_
      obtain ⟨q31, e32, h⟩ := bd_some h
      refine r_callV (As := []) (rest := []) (st' := []) X hw hl mwX9_start wd_420 wd_421 wd_419 (c_X9_start hf e32) (r_recv X hw ct6 (o_3 hf)) rfl ⟨Nat.le_of_ble_eq_true rfl, Nat.le_of_ble_eq_true rfl⟩ ⟨Nat.le_refl _, Nat.le_refl _⟩ rfl rfl (Nat.le_of_ble_eq_true rfl) d_X11_years_185 (fun H locs hw => ?_)
      refine lv_aload_n hx hb d_X11_years_188 rfl (lv_at hl 0 rfl) ?_
      refine r_getr (j := 1) X hw ct7 (o_0 hf) rfl (Nat.le_of_ble_eq_true rfl) (q := 3) rfl wd_265 d_X11_years_189 ?_
      refine lv_aload_n hx hb d_X11_years_192 rfl (lv_at hl 0 rfl) ?_
      refine r_getr (j := 3) X hw ct7 (o_0 hf) rfl (Nat.le_of_ble_eq_true rfl) (q := 40) rfl wd_267 d_X11_years_193 ?_
      obtain ⟨q33, e34, h⟩ := bd_some h
      refine r_callV (As := []) (rest := [.ref (ga G 3)]) (st' := [.int q33, .ref (ga G 3)]) X hw hl mwX0_openOnes wd_428 wd_429 wd_427 (c_X0_openOnes hf b_40 e34) (r_recv X hw ct0 (o_40 hf)) rfl ⟨Nat.le_of_ble_eq_true rfl, Nat.le_of_ble_eq_true rfl⟩ ⟨Nat.le_refl _, Nat.le_refl _⟩ rfl rfl (Nat.le_of_ble_eq_true rfl) d_X11_years_196 (fun H locs hw => ?_)
      refine lv_i2l hx hb d_X11_years_199 rfl ?_
      obtain ⟨q35, e36, h⟩ := bd_some h
      refine r_callV (As := [.long q33.toInt64]) (rest := []) (st' := []) X hw hl mwX9_add wd_424 wd_425 wd_423 (c_X9_add hf e36) (r_recv X hw ct6 (o_3 hf)) rfl ⟨Nat.le_of_ble_eq_true rfl, Nat.le_of_ble_eq_true rfl⟩ ⟨Nat.le_refl _, Nat.le_refl _⟩ rfl rfl (Nat.le_of_ble_eq_true rfl) d_X11_years_200 (fun H locs hw => ?_)
      refine lv_aload_n hx hb d_X11_years_203 rfl (lv_at hl 0 rfl) ?_
      refine r_getr (j := 1) X hw ct7 (o_0 hf) rfl (Nat.le_of_ble_eq_true rfl) (q := 3) rfl wd_265 d_X11_years_204 ?_
      refine lv_aload_n hx hb d_X11_years_207 rfl (lv_at hl 0 rfl) ?_
      refine r_getr (j := 3) X hw ct7 (o_0 hf) rfl (Nat.le_of_ble_eq_true rfl) (q := 40) rfl wd_267 d_X11_years_208 ?_
      obtain ⟨q37, e38, h⟩ := bd_some h
      refine r_callV (As := []) (rest := [.ref (ga G 3)]) (st' := [.int q37, .ref (ga G 3)]) X hw hl mwX0_pearls wd_843 wd_844 wd_842 (c_X0_pearls hf b_40 e38) (r_recv X hw ct0 (o_40 hf)) rfl ⟨Nat.le_of_ble_eq_true rfl, Nat.le_of_ble_eq_true rfl⟩ ⟨Nat.le_refl _, Nat.le_refl _⟩ rfl rfl (Nat.le_of_ble_eq_true rfl) d_X11_years_211 (fun H locs hw => ?_)
      refine lv_i2l hx hb d_X11_years_214 rfl ?_
      obtain ⟨q39, e40, h⟩ := bd_some h
      refine r_callV (As := [.long q37.toInt64]) (rest := []) (st' := []) X hw hl mwX9_add wd_424 wd_425 wd_423 (c_X9_add hf e40) (r_recv X hw ct6 (o_3 hf)) rfl ⟨Nat.le_of_ble_eq_true rfl, Nat.le_of_ble_eq_true rfl⟩ ⟨Nat.le_refl _, Nat.le_refl _⟩ rfl rfl (Nat.le_of_ble_eq_true rfl) d_X11_years_215 (fun H locs hw => ?_)
      refine lv_iload_n hx hb d_X11_years_218 rfl (lv_at hl 1 rfl) ?_
      obtain rfl := Option.some.inj h
      subst hQ
      exact r_iret X hr hlk hw d_X11_years_219
    · have h := ite_f h hc
      refine lv_iconst (v := (-1 : Int32)) hx hb d_X11_years_11 (by decide) ?_
      obtain rfl := Option.some.inj h
      subst hQ
      exact r_iret X hr hlk hw d_X11_years_12
abbrev yX11_keep : MethodName := ⟨"OysterBeds", "keep", "(I)Z"⟩
theorem mwX11_keep : MW yX11_keep prog_1_method_50_code 2 (some .boolean) 1 := ⟨wd_849, wd_1, by decide +kernel⟩
theorem d_X11_keep_0 : decode prog_1_method_50_code 0 = .ok (.aload_n 0, 1) := by decide +kernel
theorem d_X11_keep_1 : decode prog_1_method_50_code 1 = .ok (.getfield 36, 3) := by decide +kernel
theorem d_X11_keep_4 : decode prog_1_method_50_code 4 = .ok (.iload_n 1, 1) := by decide +kernel
theorem d_X11_keep_5 : decode prog_1_method_50_code 5 = .ok (.aload_n 0, 1) := by decide +kernel
theorem d_X11_keep_6 : decode prog_1_method_50_code 6 = .ok (.getfield 26, 3) := by decide +kernel
theorem d_X11_keep_9 : decode prog_1_method_50_code 9 = .ok (.invokevirtual 360, 3) := by decide +kernel
theorem d_X11_keep_12 : decode prog_1_method_50_code 12 = .ok (.ireturn, 1) := by decide +kernel
def f_X11_keep (χ : St) (a1 : Int32) : Option (Int32 × St) := (f_X6_store χ a1 32).bind (fun q1 => gd (nb q1.1) (some (q1.1, q1.2)))
theorem c_X11_keep {l : Launch} {G : gT} {χ σ : St} {a1 : Int32} (hf : FW G) {q : Int32 × St} (h : f_X11_keep χ a1 = some q) : Ct l G yX11_keep prog_1_method_50_code 2 (some .boolean) 2 44 [.ref (ga G 0), .int a1] χ σ (some (.int q.1)) q.2 σ := by
  refine Ct.of (by decide) (Nat.le_of_ble_eq_true rfl) ?_
  intro p e s m args below meth c Q X hr hlk hQ
  have hx := X.1
  have hb := X.2.1
  intro H locs ls hw hl
  have hl : lv_has ls 2 [(0, .ref (ga G 0)), (1, .int a1)] := hl
  unfold f_X11_keep at h
  refine lv_aload_n hx hb d_X11_keep_0 rfl (lv_at hl 0 rfl) ?_
  refine r_getr (j := 4) X hw ct7 (o_0 hf) rfl (Nat.le_of_ble_eq_true rfl) (q := 5) rfl wd_268 d_X11_keep_1 ?_
  refine lv_iload_n hx hb d_X11_keep_4 rfl (lv_at hl 1 rfl) ?_
  refine lv_aload_n hx hb d_X11_keep_5 rfl (lv_at hl 0 rfl) ?_
  refine r_getr (j := 2) X hw ct7 (o_0 hf) rfl (Nat.le_of_ble_eq_true rfl) (q := 32) rfl wd_266 d_X11_keep_6 ?_
  obtain ⟨q1, e2, h⟩ := bd_some h
  refine r_callV (As := [.int a1, .ref (ga G 32)]) (rest := []) (st' := [.int q1.1]) X hw hl mwX6_store wd_851 wd_852 wd_850 (c_X6_store hf b_32 e2) (r_recv X hw ct3 (o_5 hf)) rfl ⟨Nat.le_of_ble_eq_true rfl, Nat.le_of_ble_eq_true rfl⟩ ⟨Nat.le_refl _, Nat.le_refl _⟩ rfl rfl (Nat.le_of_ble_eq_true rfl) d_X11_keep_9 (fun H locs hw => ?_)
  obtain ⟨hv3, h⟩ := gd_some h
  obtain rfl := Option.some.inj h
  subst hQ
  exact r_zret X hr (nb_of hv3) hlk hw d_X11_keep_12
abbrev yX11_again : MethodName := ⟨"OysterBeds", "again", "(I)Z"⟩
theorem mwX11_again : MW yX11_again prog_1_method_51_code 2 (some .boolean) 1 := ⟨wd_857, wd_1, by decide +kernel⟩
theorem d_X11_again_0 : decode prog_1_method_51_code 0 = .ok (.aload_n 0, 1) := by decide +kernel
theorem d_X11_again_1 : decode prog_1_method_51_code 1 = .ok (.getfield 36, 3) := by decide +kernel
theorem d_X11_again_4 : decode prog_1_method_51_code 4 = .ok (.iload_n 1, 1) := by decide +kernel
theorem d_X11_again_5 : decode prog_1_method_51_code 5 = .ok (.aload_n 0, 1) := by decide +kernel
theorem d_X11_again_6 : decode prog_1_method_51_code 6 = .ok (.getfield 26, 3) := by decide +kernel
theorem d_X11_again_9 : decode prog_1_method_51_code 9 = .ok (.invokevirtual 364, 3) := by decide +kernel
theorem d_X11_again_12 : decode prog_1_method_51_code 12 = .ok (.ireturn, 1) := by decide +kernel
def f_X11_again (χ : St) (a1 : Int32) : Option (Int32 × St) := (f_X6_fetch χ a1 32).bind (fun q1 => gd (nb q1.1) (some (q1.1, q1.2)))
theorem c_X11_again {l : Launch} {G : gT} {χ σ : St} {a1 : Int32} (hf : FW G) {q : Int32 × St} (h : f_X11_again χ a1 = some q) : Ct l G yX11_again prog_1_method_51_code 2 (some .boolean) 2 44 [.ref (ga G 0), .int a1] χ σ (some (.int q.1)) q.2 σ := by
  refine Ct.of (by decide) (Nat.le_of_ble_eq_true rfl) ?_
  intro p e s m args below meth c Q X hr hlk hQ
  have hx := X.1
  have hb := X.2.1
  intro H locs ls hw hl
  have hl : lv_has ls 2 [(0, .ref (ga G 0)), (1, .int a1)] := hl
  unfold f_X11_again at h
  refine lv_aload_n hx hb d_X11_again_0 rfl (lv_at hl 0 rfl) ?_
  refine r_getr (j := 4) X hw ct7 (o_0 hf) rfl (Nat.le_of_ble_eq_true rfl) (q := 5) rfl wd_268 d_X11_again_1 ?_
  refine lv_iload_n hx hb d_X11_again_4 rfl (lv_at hl 1 rfl) ?_
  refine lv_aload_n hx hb d_X11_again_5 rfl (lv_at hl 0 rfl) ?_
  refine r_getr (j := 2) X hw ct7 (o_0 hf) rfl (Nat.le_of_ble_eq_true rfl) (q := 32) rfl wd_266 d_X11_again_6 ?_
  obtain ⟨q1, e2, h⟩ := bd_some h
  refine r_callV (As := [.int a1, .ref (ga G 32)]) (rest := []) (st' := [.int q1.1]) X hw hl mwX6_fetch wd_859 wd_860 wd_858 (c_X6_fetch hf b_32 e2) (r_recv X hw ct3 (o_5 hf)) rfl ⟨Nat.le_of_ble_eq_true rfl, Nat.le_of_ble_eq_true rfl⟩ ⟨Nat.le_refl _, Nat.le_refl _⟩ rfl rfl (Nat.le_of_ble_eq_true rfl) d_X11_again_9 (fun H locs hw => ?_)
  obtain ⟨hv3, h⟩ := gd_some h
  obtain rfl := Option.some.inj h
  subst hQ
  exact r_zret X hr (nb_of hv3) hlk hw d_X11_again_12
abbrev yX11_count : MethodName := ⟨"OysterBeds", "count", "(I)I"⟩
theorem mwX11_count : MW yX11_count prog_1_method_52_code 2 (some .int) 1 := ⟨wd_866, wd_1, by decide +kernel⟩
theorem d_X11_count_0 : decode prog_1_method_52_code 0 = .ok (.iload_n 1, 1) := by decide +kernel
theorem d_X11_count_1 : decode prog_1_method_52_code 1 = .ok (.tableswitch 147 0 10 #[59, 67, 75, 83, 91, 99, 107, 115, 123, 131, 139], 59) := by decide +kernel
theorem d_X11_count_60 : decode prog_1_method_52_code 60 = .ok (.aload_n 0, 1) := by decide +kernel
theorem d_X11_count_61 : decode prog_1_method_52_code 61 = .ok (.getfield 26, 3) := by decide +kernel
theorem d_X11_count_64 : decode prog_1_method_52_code 64 = .ok (.getfield 76, 3) := by decide +kernel
theorem d_X11_count_67 : decode prog_1_method_52_code 67 = .ok (.ireturn, 1) := by decide +kernel
theorem d_X11_count_68 : decode prog_1_method_52_code 68 = .ok (.aload_n 0, 1) := by decide +kernel
theorem d_X11_count_69 : decode prog_1_method_52_code 69 = .ok (.getfield 26, 3) := by decide +kernel
theorem d_X11_count_72 : decode prog_1_method_52_code 72 = .ok (.invokevirtual 163, 3) := by decide +kernel
theorem d_X11_count_75 : decode prog_1_method_52_code 75 = .ok (.ireturn, 1) := by decide +kernel
theorem d_X11_count_76 : decode prog_1_method_52_code 76 = .ok (.aload_n 0, 1) := by decide +kernel
theorem d_X11_count_77 : decode prog_1_method_52_code 77 = .ok (.getfield 26, 3) := by decide +kernel
theorem d_X11_count_80 : decode prog_1_method_52_code 80 = .ok (.getfield 367, 3) := by decide +kernel
theorem d_X11_count_83 : decode prog_1_method_52_code 83 = .ok (.ireturn, 1) := by decide +kernel
theorem d_X11_count_84 : decode prog_1_method_52_code 84 = .ok (.aload_n 0, 1) := by decide +kernel
theorem d_X11_count_85 : decode prog_1_method_52_code 85 = .ok (.getfield 26, 3) := by decide +kernel
theorem d_X11_count_88 : decode prog_1_method_52_code 88 = .ok (.getfield 370, 3) := by decide +kernel
theorem d_X11_count_91 : decode prog_1_method_52_code 91 = .ok (.ireturn, 1) := by decide +kernel
theorem d_X11_count_92 : decode prog_1_method_52_code 92 = .ok (.aload_n 0, 1) := by decide +kernel
theorem d_X11_count_93 : decode prog_1_method_52_code 93 = .ok (.getfield 26, 3) := by decide +kernel
theorem d_X11_count_96 : decode prog_1_method_52_code 96 = .ok (.invokevirtual 357, 3) := by decide +kernel
theorem d_X11_count_99 : decode prog_1_method_52_code 99 = .ok (.ireturn, 1) := by decide +kernel
theorem d_X11_count_100 : decode prog_1_method_52_code 100 = .ok (.aload_n 0, 1) := by decide +kernel
theorem d_X11_count_101 : decode prog_1_method_52_code 101 = .ok (.getfield 26, 3) := by decide +kernel
theorem d_X11_count_104 : decode prog_1_method_52_code 104 = .ok (.invokevirtual 140, 3) := by decide +kernel
theorem d_X11_count_107 : decode prog_1_method_52_code 107 = .ok (.ireturn, 1) := by decide +kernel
theorem d_X11_count_108 : decode prog_1_method_52_code 108 = .ok (.aload_n 0, 1) := by decide +kernel
theorem d_X11_count_109 : decode prog_1_method_52_code 109 = .ok (.getfield 43, 3) := by decide +kernel
theorem d_X11_count_112 : decode prog_1_method_52_code 112 = .ok (.getfield 373, 3) := by decide +kernel
theorem d_X11_count_115 : decode prog_1_method_52_code 115 = .ok (.ireturn, 1) := by decide +kernel
theorem d_X11_count_116 : decode prog_1_method_52_code 116 = .ok (.aload_n 0, 1) := by decide +kernel
theorem d_X11_count_117 : decode prog_1_method_52_code 117 = .ok (.getfield 50, 3) := by decide +kernel
theorem d_X11_count_120 : decode prog_1_method_52_code 120 = .ok (.getfield 374, 3) := by decide +kernel
theorem d_X11_count_123 : decode prog_1_method_52_code 123 = .ok (.ireturn, 1) := by decide +kernel
theorem d_X11_count_124 : decode prog_1_method_52_code 124 = .ok (.aload_n 0, 1) := by decide +kernel
theorem d_X11_count_125 : decode prog_1_method_52_code 125 = .ok (.getfield 36, 3) := by decide +kernel
theorem d_X11_count_128 : decode prog_1_method_52_code 128 = .ok (.getfield 203, 3) := by decide +kernel
theorem d_X11_count_131 : decode prog_1_method_52_code 131 = .ok (.ireturn, 1) := by decide +kernel
theorem d_X11_count_132 : decode prog_1_method_52_code 132 = .ok (.aload_n 0, 1) := by decide +kernel
theorem d_X11_count_133 : decode prog_1_method_52_code 133 = .ok (.getfield 19, 3) := by decide +kernel
theorem d_X11_count_136 : decode prog_1_method_52_code 136 = .ok (.getfield 375, 3) := by decide +kernel
theorem d_X11_count_139 : decode prog_1_method_52_code 139 = .ok (.ireturn, 1) := by decide +kernel
theorem d_X11_count_140 : decode prog_1_method_52_code 140 = .ok (.aload_n 0, 1) := by decide +kernel
theorem d_X11_count_141 : decode prog_1_method_52_code 141 = .ok (.getfield 12, 3) := by decide +kernel
theorem d_X11_count_144 : decode prog_1_method_52_code 144 = .ok (.getfield 64, 3) := by decide +kernel
theorem d_X11_count_147 : decode prog_1_method_52_code 147 = .ok (.ireturn, 1) := by decide +kernel
theorem d_X11_count_148 : decode prog_1_method_52_code 148 = .ok (.bipush (-100), 2) := by decide +kernel
theorem d_X11_count_150 : decode prog_1_method_52_code 150 = .ok (.ireturn, 1) := by decide +kernel
def f_X11_count (χ : St) (a1 : Int32) : Option (Int32) := (if a1 = (0 : Int32) then some (cF χ 32 5) else if a1 = (1 : Int32) then (f_X0_openOnes χ 32).bind (fun q1 => some q1) else if a1 = (2 : Int32) then some (cF χ 32 6) else if a1 = (3 : Int32) then some (cF χ 32 7) else if a1 = (4 : Int32) then (f_X0_pearls χ 32).bind (fun q3 => some q3) else if a1 = (5 : Int32) then (f_X0_fears χ 32).bind (fun q5 => some q5) else if a1 = (6 : Int32) then some (cF χ 9 3) else if a1 = (7 : Int32) then some (cF χ 13 2) else if a1 = (8 : Int32) then some (cF χ 5 2) else if a1 = (9 : Int32) then some (cF χ 3 1) else if a1 = (10 : Int32) then some (cF χ 1 1) else some (-100 : Int32))
theorem c_X11_count {l : Launch} {G : gT} {χ σ : St} {a1 : Int32} (hf : FW G) {q : Int32} (h : f_X11_count χ a1 = some q) : Ct l G yX11_count prog_1_method_52_code 2 (some .int) 2 43 [.ref (ga G 0), .int a1] χ σ (some (.int q)) χ σ := by
  refine Ct.of (by decide) (Nat.le_of_ble_eq_true rfl) ?_
  intro p e s m args below meth c Q X hr hlk hQ
  have hx := X.1
  have hb := X.2.1
  intro H locs ls hw hl
  have hl : lv_has ls 2 [(0, .ref (ga G 0)), (1, .int a1)] := hl
  unfold f_X11_count at h
  refine lv_iload_n hx hb d_X11_count_0 rfl (lv_at hl 1 rfl) ?_
  by_cases hc0 : a1 = (0 : Int32)
  · have h := ite_t h hc0
    refine lv_tableIn (tgt := 60) hx hb d_X11_count_1 (by rw [hc0]; decide) (by rw [hc0]; decide) (by rw [hc0]; rfl) (by decide) ?_
    refine lv_aload_n hx hb d_X11_count_60 rfl (lv_at hl 0 rfl) ?_
    refine r_getr (j := 2) X hw ct7 (o_0 hf) rfl (Nat.le_of_ble_eq_true rfl) (q := 32) rfl wd_266 d_X11_count_61 ?_
    refine r_getiN (j := 5) X hw ct0 (o_32 hf) (Nat.le_of_ble_eq_true rfl) rfl (Nat.le_of_ble_eq_true rfl) nw_23 d_X11_count_64 ?_
    obtain rfl := Option.some.inj h
    subst hQ
    exact r_iret X hr hlk hw d_X11_count_67
  have h := ite_f h hc0
  by_cases hc1 : a1 = (1 : Int32)
  · have h := ite_t h hc1
    refine lv_tableIn (tgt := 68) hx hb d_X11_count_1 (by rw [hc1]; decide) (by rw [hc1]; decide) (by rw [hc1]; rfl) (by decide) ?_
    refine lv_aload_n hx hb d_X11_count_68 rfl (lv_at hl 0 rfl) ?_
    refine r_getr (j := 2) X hw ct7 (o_0 hf) rfl (Nat.le_of_ble_eq_true rfl) (q := 32) rfl wd_266 d_X11_count_69 ?_
    obtain ⟨q1, e2, h⟩ := bd_some h
    refine r_callV (As := []) (rest := []) (st' := [.int q1]) X hw hl mwX0_openOnes wd_428 wd_429 wd_427 (c_X0_openOnes hf b_32 e2) (r_recv X hw ct0 (o_32 hf)) rfl ⟨Nat.le_of_ble_eq_true rfl, Nat.le_of_ble_eq_true rfl⟩ ⟨Nat.le_refl _, Nat.le_refl _⟩ rfl rfl (Nat.le_of_ble_eq_true rfl) d_X11_count_72 (fun H locs hw => ?_)
    obtain rfl := Option.some.inj h
    subst hQ
    exact r_iret X hr hlk hw d_X11_count_75
  have h := ite_f h hc1
  by_cases hc2 : a1 = (2 : Int32)
  · have h := ite_t h hc2
    refine lv_tableIn (tgt := 76) hx hb d_X11_count_1 (by rw [hc2]; decide) (by rw [hc2]; decide) (by rw [hc2]; rfl) (by decide) ?_
    refine lv_aload_n hx hb d_X11_count_76 rfl (lv_at hl 0 rfl) ?_
    refine r_getr (j := 2) X hw ct7 (o_0 hf) rfl (Nat.le_of_ble_eq_true rfl) (q := 32) rfl wd_266 d_X11_count_77 ?_
    refine r_getiN (j := 6) X hw ct0 (o_32 hf) (Nat.le_of_ble_eq_true rfl) rfl (Nat.le_of_ble_eq_true rfl) nw_28 d_X11_count_80 ?_
    obtain rfl := Option.some.inj h
    subst hQ
    exact r_iret X hr hlk hw d_X11_count_83
  have h := ite_f h hc2
  by_cases hc3 : a1 = (3 : Int32)
  · have h := ite_t h hc3
    refine lv_tableIn (tgt := 84) hx hb d_X11_count_1 (by rw [hc3]; decide) (by rw [hc3]; decide) (by rw [hc3]; rfl) (by decide) ?_
    refine lv_aload_n hx hb d_X11_count_84 rfl (lv_at hl 0 rfl) ?_
    refine r_getr (j := 2) X hw ct7 (o_0 hf) rfl (Nat.le_of_ble_eq_true rfl) (q := 32) rfl wd_266 d_X11_count_85 ?_
    refine r_getiN (j := 7) X hw ct0 (o_32 hf) (Nat.le_of_ble_eq_true rfl) rfl (Nat.le_of_ble_eq_true rfl) nw_29 d_X11_count_88 ?_
    obtain rfl := Option.some.inj h
    subst hQ
    exact r_iret X hr hlk hw d_X11_count_91
  have h := ite_f h hc3
  by_cases hc4 : a1 = (4 : Int32)
  · have h := ite_t h hc4
    refine lv_tableIn (tgt := 92) hx hb d_X11_count_1 (by rw [hc4]; decide) (by rw [hc4]; decide) (by rw [hc4]; rfl) (by decide) ?_
    refine lv_aload_n hx hb d_X11_count_92 rfl (lv_at hl 0 rfl) ?_
    refine r_getr (j := 2) X hw ct7 (o_0 hf) rfl (Nat.le_of_ble_eq_true rfl) (q := 32) rfl wd_266 d_X11_count_93 ?_
    obtain ⟨q3, e4, h⟩ := bd_some h
    refine r_callV (As := []) (rest := []) (st' := [.int q3]) X hw hl mwX0_pearls wd_843 wd_844 wd_842 (c_X0_pearls hf b_32 e4) (r_recv X hw ct0 (o_32 hf)) rfl ⟨Nat.le_of_ble_eq_true rfl, Nat.le_of_ble_eq_true rfl⟩ ⟨Nat.le_refl _, Nat.le_refl _⟩ rfl rfl (Nat.le_of_ble_eq_true rfl) d_X11_count_96 (fun H locs hw => ?_)
    obtain rfl := Option.some.inj h
    subst hQ
    exact r_iret X hr hlk hw d_X11_count_99
  have h := ite_f h hc4
  by_cases hc5 : a1 = (5 : Int32)
  · have h := ite_t h hc5
    refine lv_tableIn (tgt := 100) hx hb d_X11_count_1 (by rw [hc5]; decide) (by rw [hc5]; decide) (by rw [hc5]; rfl) (by decide) ?_
    refine lv_aload_n hx hb d_X11_count_100 rfl (lv_at hl 0 rfl) ?_
    refine r_getr (j := 2) X hw ct7 (o_0 hf) rfl (Nat.le_of_ble_eq_true rfl) (q := 32) rfl wd_266 d_X11_count_101 ?_
    obtain ⟨q5, e6, h⟩ := bd_some h
    refine r_callV (As := []) (rest := []) (st' := [.int q5]) X hw hl mwX0_fears wd_374 wd_375 wd_373 (c_X0_fears hf b_32 e6) (r_recv X hw ct0 (o_32 hf)) rfl ⟨Nat.le_of_ble_eq_true rfl, Nat.le_of_ble_eq_true rfl⟩ ⟨Nat.le_refl _, Nat.le_refl _⟩ rfl rfl (Nat.le_of_ble_eq_true rfl) d_X11_count_104 (fun H locs hw => ?_)
    obtain rfl := Option.some.inj h
    subst hQ
    exact r_iret X hr hlk hw d_X11_count_107
  have h := ite_f h hc5
  by_cases hc6 : a1 = (6 : Int32)
  · have h := ite_t h hc6
    refine lv_tableIn (tgt := 108) hx hb d_X11_count_1 (by rw [hc6]; decide) (by rw [hc6]; decide) (by rw [hc6]; rfl) (by decide) ?_
    refine lv_aload_n hx hb d_X11_count_108 rfl (lv_at hl 0 rfl) ?_
    refine r_getr (j := 5) X hw ct7 (o_0 hf) rfl (Nat.le_of_ble_eq_true rfl) (q := 9) rfl wd_269 d_X11_count_109 ?_
    refine r_getiN (j := 3) X hw ct4 (o_9 hf) (Nat.le_of_ble_eq_true rfl) rfl (Nat.le_of_ble_eq_true rfl) nw_33 d_X11_count_112 ?_
    obtain rfl := Option.some.inj h
    subst hQ
    exact r_iret X hr hlk hw d_X11_count_115
  have h := ite_f h hc6
  by_cases hc7 : a1 = (7 : Int32)
  · have h := ite_t h hc7
    refine lv_tableIn (tgt := 116) hx hb d_X11_count_1 (by rw [hc7]; decide) (by rw [hc7]; decide) (by rw [hc7]; rfl) (by decide) ?_
    refine lv_aload_n hx hb d_X11_count_116 rfl (lv_at hl 0 rfl) ?_
    refine r_getr (j := 6) X hw ct7 (o_0 hf) rfl (Nat.le_of_ble_eq_true rfl) (q := 13) rfl wd_270 d_X11_count_117 ?_
    refine r_getiN (j := 2) X hw ct1 (o_13 hf) (Nat.le_of_ble_eq_true rfl) rfl (Nat.le_of_ble_eq_true rfl) nw_35 d_X11_count_120 ?_
    obtain rfl := Option.some.inj h
    subst hQ
    exact r_iret X hr hlk hw d_X11_count_123
  have h := ite_f h hc7
  by_cases hc8 : a1 = (8 : Int32)
  · have h := ite_t h hc8
    refine lv_tableIn (tgt := 124) hx hb d_X11_count_1 (by rw [hc8]; decide) (by rw [hc8]; decide) (by rw [hc8]; rfl) (by decide) ?_
    refine lv_aload_n hx hb d_X11_count_124 rfl (lv_at hl 0 rfl) ?_
    refine r_getr (j := 4) X hw ct7 (o_0 hf) rfl (Nat.le_of_ble_eq_true rfl) (q := 5) rfl wd_268 d_X11_count_125 ?_
    refine r_getiN (j := 2) X hw ct3 (o_5 hf) (Nat.le_of_ble_eq_true rfl) rfl (Nat.le_of_ble_eq_true rfl) nw_31 d_X11_count_128 ?_
    obtain rfl := Option.some.inj h
    subst hQ
    exact r_iret X hr hlk hw d_X11_count_131
  have h := ite_f h hc8
  by_cases hc9 : a1 = (9 : Int32)
  · have h := ite_t h hc9
    refine lv_tableIn (tgt := 132) hx hb d_X11_count_1 (by rw [hc9]; decide) (by rw [hc9]; decide) (by rw [hc9]; rfl) (by decide) ?_
    refine lv_aload_n hx hb d_X11_count_132 rfl (lv_at hl 0 rfl) ?_
    refine r_getr (j := 1) X hw ct7 (o_0 hf) rfl (Nat.le_of_ble_eq_true rfl) (q := 3) rfl wd_265 d_X11_count_133 ?_
    refine r_getiN (j := 1) X hw ct6 (o_3 hf) (Nat.le_of_ble_eq_true rfl) rfl (Nat.le_of_ble_eq_true rfl) nw_5 d_X11_count_136 ?_
    obtain rfl := Option.some.inj h
    subst hQ
    exact r_iret X hr hlk hw d_X11_count_139
  have h := ite_f h hc9
  by_cases hc10 : a1 = (10 : Int32)
  · have h := ite_t h hc10
    refine lv_tableIn (tgt := 140) hx hb d_X11_count_1 (by rw [hc10]; decide) (by rw [hc10]; decide) (by rw [hc10]; rfl) (by decide) ?_
    refine lv_aload_n hx hb d_X11_count_140 rfl (lv_at hl 0 rfl) ?_
    refine r_getr (j := 0) X hw ct7 (o_0 hf) rfl (Nat.le_of_ble_eq_true rfl) (q := 1) rfl wd_264 d_X11_count_141 ?_
    refine r_getiN (j := 1) X hw ct5 (o_1 hf) (Nat.le_of_ble_eq_true rfl) rfl (Nat.le_of_ble_eq_true rfl) nw_1 d_X11_count_144 ?_
    obtain rfl := Option.some.inj h
    subst hQ
    exact r_iret X hr hlk hw d_X11_count_147
  have h := ite_f h hc10
  have hn0 := lv_neT hc0 (a := 0) (by decide)
  have hn1 := lv_neT hc1 (a := 1) (by decide)
  have hn2 := lv_neT hc2 (a := 2) (by decide)
  have hn3 := lv_neT hc3 (a := 3) (by decide)
  have hn4 := lv_neT hc4 (a := 4) (by decide)
  have hn5 := lv_neT hc5 (a := 5) (by decide)
  have hn6 := lv_neT hc6 (a := 6) (by decide)
  have hn7 := lv_neT hc7 (a := 7) (by decide)
  have hn8 := lv_neT hc8 (a := 8) (by decide)
  have hn9 := lv_neT hc9 (a := 9) (by decide)
  have hn10 := lv_neT hc10 (a := 10) (by decide)
  refine lv_tableOut (tgt := 148) hx hb d_X11_count_1 (by omega) (by decide) ?_
  refine lv_bipush (v := (-100 : Int32)) hx hb d_X11_count_148 (by decide) ?_
  obtain rfl := Option.some.inj h
  subst hQ
  exact r_iret X hr hlk hw d_X11_count_150
