abbrev yX12_holds : MethodName := ⟨"OysterBedsModel", "holds", "(II)I"⟩
theorem mwX12_holds : MW yX12_holds prog_14_method_54_code 3 (some .int) 2 := ⟨wd_1316, wd_10, by decide +kernel⟩
theorem d_X12_holds_0 : decode prog_14_method_54_code 0 = .ok (.aload_n 0, 1) := by decide +kernel
theorem d_X12_holds_1 : decode prog_14_method_54_code 1 = .ok (.iconst 0, 1) := by decide +kernel
theorem d_X12_holds_2 : decode prog_14_method_54_code 2 = .ok (.putfield 87, 3) := by decide +kernel
theorem d_X12_holds_5 : decode prog_14_method_54_code 5 = .ok (.aload_n 0, 1) := by decide +kernel
theorem d_X12_holds_6 : decode prog_14_method_54_code 6 = .ok (.invokevirtual 273, 3) := by decide +kernel
theorem d_X12_holds_9 : decode prog_14_method_54_code 9 = .ok (.aload_n 0, 1) := by decide +kernel
theorem d_X12_holds_10 : decode prog_14_method_54_code 10 = .ok (.aload_n 0, 1) := by decide +kernel
theorem d_X12_holds_11 : decode prog_14_method_54_code 11 = .ok (.iload_n 1, 1) := by decide +kernel
theorem d_X12_holds_12 : decode prog_14_method_54_code 12 = .ok (.iload_n 2, 1) := by decide +kernel
theorem d_X12_holds_13 : decode prog_14_method_54_code 13 = .ok (.invokevirtual 290, 3) := by decide +kernel
theorem d_X12_holds_16 : decode prog_14_method_54_code 16 = .ok (.invokevirtual 287, 3) := by decide +kernel
theorem d_X12_holds_19 : decode prog_14_method_54_code 19 = .ok (.ireturn, 1) := by decide +kernel
def f_X12_holds (σ : St) (a1 : Int32) (a2 : Int32) : Option (Int32 × St) := (f_X12_putsBy (sF σ 300 0 (0 : Int32))).bind (fun q1 => (f_X12_viewsTo q1 a1 a2).bind (fun q3 => (f_X12_counted q3.2 q3.1).bind (fun q5 => some (q5.1, q5.2))))
theorem c_X12_holds {l : Launch} {G : gT} {χ σ : St} {a1 : Int32} {a2 : Int32} (hf : FW G) {q : Int32 × St} (h : f_X12_holds σ a1 a2 = some q) : Ct l G yX12_holds prog_14_method_54_code 3 (some .int) 3 68 [.ref (ga G 300), .int a1, .int a2] χ σ (some (.int q.1)) χ q.2 := by
  refine Ct.of (by decide) (Nat.le_of_ble_eq_true rfl) ?_
  intro p e s m args below meth c Q X hr hlk hQ
  have hx := X.1
  have hb := X.2.1
  intro H locs ls hw hl
  have hl : lv_has ls 3 [(0, .ref (ga G 300)), (1, .int a1), (2, .int a2)] := hl
  unfold f_X12_holds at h
  refine lv_aload_n hx hb d_X12_holds_0 rfl (lv_at hl 0 rfl) ?_
  refine lv_iconst (v := (0 : Int32)) hx hb d_X12_holds_1 (by decide) ?_
  refine m_puti (j := 0) X hw ct8 (o_300 hf) (Nat.le_of_ble_eq_true rfl) rfl (Nat.le_of_ble_eq_true rfl) rfl rfl rfl wd_956 d_X12_holds_2 (fun H locs hw => ?_)
  refine lv_aload_n hx hb d_X12_holds_5 rfl (lv_at hl 0 rfl) ?_
  obtain ⟨q1, e2, h⟩ := bd_some h
  refine r_callV (As := []) (rest := []) (st' := []) X hw hl mwX12_putsBy wd_1251 wp_32 wd_1249 (c_X12_putsBy hf e2) (r_recv X hw ct8 (o_300 hf)) rfl ⟨Nat.le_of_ble_eq_true rfl, Nat.le_of_ble_eq_true rfl⟩ ⟨Nat.le_refl _, Nat.le_refl _⟩ rfl rfl (Nat.le_of_ble_eq_true rfl) d_X12_holds_6 (fun H locs hw => ?_)
  refine lv_aload_n hx hb d_X12_holds_9 rfl (lv_at hl 0 rfl) ?_
  refine lv_aload_n hx hb d_X12_holds_10 rfl (lv_at hl 0 rfl) ?_
  refine lv_iload_n hx hb d_X12_holds_11 rfl (lv_at hl 1 rfl) ?_
  refine lv_iload_n hx hb d_X12_holds_12 rfl (lv_at hl 2 rfl) ?_
  obtain ⟨q3, e4, h⟩ := bd_some h
  refine r_callV (As := [.int a1, .int a2]) (rest := [.ref (ga G 300)]) (st' := [.int q3.1, .ref (ga G 300)]) X hw hl mwX12_viewsTo wd_1319 wp_44 wd_1317 (c_X12_viewsTo hf e4) (r_recv X hw ct8 (o_300 hf)) rfl ⟨Nat.le_of_ble_eq_true rfl, Nat.le_of_ble_eq_true rfl⟩ ⟨Nat.le_refl _, Nat.le_refl _⟩ rfl rfl (Nat.le_of_ble_eq_true rfl) d_X12_holds_13 (fun H locs hw => ?_)
  obtain ⟨q5, e6, h⟩ := bd_some h
  refine r_callV (As := [.int q3.1]) (rest := []) (st' := [.int q5.1]) X hw hl mwX12_counted wd_1311 wp_43 wd_1309 (c_X12_counted hf e6) (r_recv X hw ct8 (o_300 hf)) rfl ⟨Nat.le_of_ble_eq_true rfl, Nat.le_of_ble_eq_true rfl⟩ ⟨Nat.le_refl _, Nat.le_refl _⟩ rfl rfl (Nat.le_of_ble_eq_true rfl) d_X12_holds_16 (fun H locs hw => ?_)
  obtain rfl := Option.some.inj h
  subst hQ
  exact r_iret X hr hlk hw d_X12_holds_19
abbrev yX12_knife : MethodName := ⟨"OysterBedsModel", "knife", "(I)I"⟩
theorem mwX12_knife : MW yX12_knife prog_14_method_55_code 2 (some .int) 1 := ⟨wd_1325, wd_10, by decide +kernel⟩
theorem d_X12_knife_0 : decode prog_14_method_55_code 0 = .ok (.aload_n 0, 1) := by decide +kernel
theorem d_X12_knife_1 : decode prog_14_method_55_code 1 = .ok (.iconst 0, 1) := by decide +kernel
theorem d_X12_knife_2 : decode prog_14_method_55_code 2 = .ok (.putfield 87, 3) := by decide +kernel
theorem d_X12_knife_5 : decode prog_14_method_55_code 5 = .ok (.aload_n 0, 1) := by decide +kernel
theorem d_X12_knife_6 : decode prog_14_method_55_code 6 = .ok (.invokevirtual 273, 3) := by decide +kernel
theorem d_X12_knife_9 : decode prog_14_method_55_code 9 = .ok (.aload_n 0, 1) := by decide +kernel
theorem d_X12_knife_10 : decode prog_14_method_55_code 10 = .ok (.aload_n 0, 1) := by decide +kernel
theorem d_X12_knife_11 : decode prog_14_method_55_code 11 = .ok (.iload_n 1, 1) := by decide +kernel
theorem d_X12_knife_12 : decode prog_14_method_55_code 12 = .ok (.invokevirtual 293, 3) := by decide +kernel
theorem d_X12_knife_15 : decode prog_14_method_55_code 15 = .ok (.invokevirtual 287, 3) := by decide +kernel
theorem d_X12_knife_18 : decode prog_14_method_55_code 18 = .ok (.ireturn, 1) := by decide +kernel
def f_X12_knife (σ : St) (a1 : Int32) : Option (Int32 × St) := (f_X12_putsBy (sF σ 300 0 (0 : Int32))).bind (fun q1 => (f_X12_cutsOpen q1 a1).bind (fun q3 => (f_X12_counted q3.2 q3.1).bind (fun q5 => some (q5.1, q5.2))))
theorem c_X12_knife {l : Launch} {G : gT} {χ σ : St} {a1 : Int32} (hf : FW G) {q : Int32 × St} (h : f_X12_knife σ a1 = some q) : Ct l G yX12_knife prog_14_method_55_code 2 (some .int) 3 68 [.ref (ga G 300), .int a1] χ σ (some (.int q.1)) χ q.2 := by
  refine Ct.of (by decide) (Nat.le_of_ble_eq_true rfl) ?_
  intro p e s m args below meth c Q X hr hlk hQ
  have hx := X.1
  have hb := X.2.1
  intro H locs ls hw hl
  have hl : lv_has ls 2 [(0, .ref (ga G 300)), (1, .int a1)] := hl
  unfold f_X12_knife at h
  refine lv_aload_n hx hb d_X12_knife_0 rfl (lv_at hl 0 rfl) ?_
  refine lv_iconst (v := (0 : Int32)) hx hb d_X12_knife_1 (by decide) ?_
  refine m_puti (j := 0) X hw ct8 (o_300 hf) (Nat.le_of_ble_eq_true rfl) rfl (Nat.le_of_ble_eq_true rfl) rfl rfl rfl wd_956 d_X12_knife_2 (fun H locs hw => ?_)
  refine lv_aload_n hx hb d_X12_knife_5 rfl (lv_at hl 0 rfl) ?_
  obtain ⟨q1, e2, h⟩ := bd_some h
  refine r_callV (As := []) (rest := []) (st' := []) X hw hl mwX12_putsBy wd_1251 wp_32 wd_1249 (c_X12_putsBy hf e2) (r_recv X hw ct8 (o_300 hf)) rfl ⟨Nat.le_of_ble_eq_true rfl, Nat.le_of_ble_eq_true rfl⟩ ⟨Nat.le_refl _, Nat.le_refl _⟩ rfl rfl (Nat.le_of_ble_eq_true rfl) d_X12_knife_6 (fun H locs hw => ?_)
  refine lv_aload_n hx hb d_X12_knife_9 rfl (lv_at hl 0 rfl) ?_
  refine lv_aload_n hx hb d_X12_knife_10 rfl (lv_at hl 0 rfl) ?_
  refine lv_iload_n hx hb d_X12_knife_11 rfl (lv_at hl 1 rfl) ?_
  obtain ⟨q3, e4, h⟩ := bd_some h
  refine r_callV (As := [.int a1]) (rest := [.ref (ga G 300)]) (st' := [.int q3.1, .ref (ga G 300)]) X hw hl mwX12_cutsOpen wd_1328 wp_45 wd_1326 (c_X12_cutsOpen hf e4) (r_recv X hw ct8 (o_300 hf)) rfl ⟨Nat.le_of_ble_eq_true rfl, Nat.le_of_ble_eq_true rfl⟩ ⟨Nat.le_refl _, Nat.le_refl _⟩ rfl rfl (Nat.le_of_ble_eq_true rfl) d_X12_knife_12 (fun H locs hw => ?_)
  obtain ⟨q5, e6, h⟩ := bd_some h
  refine r_callV (As := [.int q3.1]) (rest := []) (st' := [.int q5.1]) X hw hl mwX12_counted wd_1311 wp_43 wd_1309 (c_X12_counted hf e6) (r_recv X hw ct8 (o_300 hf)) rfl ⟨Nat.le_of_ble_eq_true rfl, Nat.le_of_ble_eq_true rfl⟩ ⟨Nat.le_refl _, Nat.le_refl _⟩ rfl rfl (Nat.le_of_ble_eq_true rfl) d_X12_knife_15 (fun H locs hw => ?_)
  obtain rfl := Option.some.inj h
  subst hQ
  exact r_iret X hr hlk hw d_X12_knife_18
abbrev yX12_does : MethodName := ⟨"OysterBedsModel", "does", "(I)Z"⟩
theorem mwX12_does : MW yX12_does prog_14_method_57_code 3 (some .boolean) 1 := ⟨wd_1346, wd_10, by decide +kernel⟩
theorem d_X12_does_0 : decode prog_14_method_57_code 0 = .ok (.aload_n 0, 1) := by decide +kernel
theorem d_X12_does_1 : decode prog_14_method_57_code 1 = .ok (.getfield 47, 3) := by decide +kernel
theorem d_X12_does_4 : decode prog_14_method_57_code 4 = .ok (.iload_n 1, 1) := by decide +kernel
theorem d_X12_does_5 : decode prog_14_method_57_code 5 = .ok (.iaload, 1) := by decide +kernel
theorem d_X12_does_6 : decode prog_14_method_57_code 6 = .ok (.istore_n 2, 1) := by decide +kernel
theorem d_X12_does_7 : decode prog_14_method_57_code 7 = .ok (.aload_n 0, 1) := by decide +kernel
theorem d_X12_does_8 : decode prog_14_method_57_code 8 = .ok (.getfield 44, 3) := by decide +kernel
theorem d_X12_does_11 : decode prog_14_method_57_code 11 = .ok (.iload_n 1, 1) := by decide +kernel
theorem d_X12_does_12 : decode prog_14_method_57_code 12 = .ok (.iaload, 1) := by decide +kernel
theorem d_X12_does_13 : decode prog_14_method_57_code 13 = .ok (.tableswitch 94 0 3 #[31, 42, 56, 74], 31) := by decide +kernel
theorem d_X12_does_44 : decode prog_14_method_57_code 44 = .ok (.aload_n 0, 1) := by decide +kernel
theorem d_X12_does_45 : decode prog_14_method_57_code 45 = .ok (.aload_n 0, 1) := by decide +kernel
theorem d_X12_does_46 : decode prog_14_method_57_code 46 = .ok (.getfield 17, 3) := by decide +kernel
theorem d_X12_does_49 : decode prog_14_method_57_code 49 = .ok (.iload_n 2, 1) := by decide +kernel
theorem d_X12_does_50 : decode prog_14_method_57_code 50 = .ok (.invokevirtual 281, 3) := by decide +kernel
theorem d_X12_does_53 : decode prog_14_method_57_code 53 = .ok (.iconst 1, 1) := by decide +kernel
theorem d_X12_does_54 : decode prog_14_method_57_code 54 = .ok (.ireturn, 1) := by decide +kernel
theorem d_X12_does_55 : decode prog_14_method_57_code 55 = .ok (.aload_n 0, 1) := by decide +kernel
theorem d_X12_does_56 : decode prog_14_method_57_code 56 = .ok (.iload_n 2, 1) := by decide +kernel
theorem d_X12_does_57 : decode prog_14_method_57_code 57 = .ok (.invokevirtual 293, 3) := by decide +kernel
theorem d_X12_does_60 : decode prog_14_method_57_code 60 = .ok (.ifCond .lt 7, 3) := by decide +kernel
theorem d_X12_does_63 : decode prog_14_method_57_code 63 = .ok (.iconst 1, 1) := by decide +kernel
theorem d_X12_does_64 : decode prog_14_method_57_code 64 = .ok (.goto 4, 3) := by decide +kernel
theorem d_X12_does_67 : decode prog_14_method_57_code 67 = .ok (.iconst 0, 1) := by decide +kernel
theorem d_X12_does_68 : decode prog_14_method_57_code 68 = .ok (.ireturn, 1) := by decide +kernel
theorem d_X12_does_69 : decode prog_14_method_57_code 69 = .ok (.aload_n 0, 1) := by decide +kernel
theorem d_X12_does_70 : decode prog_14_method_57_code 70 = .ok (.aload_n 0, 1) := by decide +kernel
theorem d_X12_does_71 : decode prog_14_method_57_code 71 = .ok (.getfield 17, 3) := by decide +kernel
theorem d_X12_does_74 : decode prog_14_method_57_code 74 = .ok (.iload_n 2, 1) := by decide +kernel
theorem d_X12_does_75 : decode prog_14_method_57_code 75 = .ok (.aload_n 0, 1) := by decide +kernel
theorem d_X12_does_76 : decode prog_14_method_57_code 76 = .ok (.getfield 50, 3) := by decide +kernel
theorem d_X12_does_79 : decode prog_14_method_57_code 79 = .ok (.iload_n 1, 1) := by decide +kernel
theorem d_X12_does_80 : decode prog_14_method_57_code 80 = .ok (.iaload, 1) := by decide +kernel
theorem d_X12_does_81 : decode prog_14_method_57_code 81 = .ok (.invokevirtual 276, 3) := by decide +kernel
theorem d_X12_does_84 : decode prog_14_method_57_code 84 = .ok (.pop, 1) := by decide +kernel
theorem d_X12_does_85 : decode prog_14_method_57_code 85 = .ok (.iconst 1, 1) := by decide +kernel
theorem d_X12_does_86 : decode prog_14_method_57_code 86 = .ok (.ireturn, 1) := by decide +kernel
theorem d_X12_does_87 : decode prog_14_method_57_code 87 = .ok (.aload_n 0, 1) := by decide +kernel
theorem d_X12_does_88 : decode prog_14_method_57_code 88 = .ok (.iload_n 2, 1) := by decide +kernel
theorem d_X12_does_89 : decode prog_14_method_57_code 89 = .ok (.aload_n 0, 1) := by decide +kernel
theorem d_X12_does_90 : decode prog_14_method_57_code 90 = .ok (.getfield 50, 3) := by decide +kernel
theorem d_X12_does_93 : decode prog_14_method_57_code 93 = .ok (.iload_n 1, 1) := by decide +kernel
theorem d_X12_does_94 : decode prog_14_method_57_code 94 = .ok (.iaload, 1) := by decide +kernel
theorem d_X12_does_95 : decode prog_14_method_57_code 95 = .ok (.invokevirtual 284, 3) := by decide +kernel
theorem d_X12_does_98 : decode prog_14_method_57_code 98 = .ok (.ifCond .lt 7, 3) := by decide +kernel
theorem d_X12_does_101 : decode prog_14_method_57_code 101 = .ok (.iconst 1, 1) := by decide +kernel
theorem d_X12_does_102 : decode prog_14_method_57_code 102 = .ok (.goto 4, 3) := by decide +kernel
theorem d_X12_does_105 : decode prog_14_method_57_code 105 = .ok (.iconst 0, 1) := by decide +kernel
theorem d_X12_does_106 : decode prog_14_method_57_code 106 = .ok (.ireturn, 1) := by decide +kernel
theorem d_X12_does_107 : decode prog_14_method_57_code 107 = .ok (.aload_n 0, 1) := by decide +kernel
theorem d_X12_does_108 : decode prog_14_method_57_code 108 = .ok (.iload_n 2, 1) := by decide +kernel
theorem d_X12_does_109 : decode prog_14_method_57_code 109 = .ok (.aload_n 0, 1) := by decide +kernel
theorem d_X12_does_110 : decode prog_14_method_57_code 110 = .ok (.getfield 50, 3) := by decide +kernel
theorem d_X12_does_113 : decode prog_14_method_57_code 113 = .ok (.iload_n 1, 1) := by decide +kernel
theorem d_X12_does_114 : decode prog_14_method_57_code 114 = .ok (.iaload, 1) := by decide +kernel
theorem d_X12_does_115 : decode prog_14_method_57_code 115 = .ok (.invokevirtual 290, 3) := by decide +kernel
theorem d_X12_does_118 : decode prog_14_method_57_code 118 = .ok (.ifCond .lt 7, 3) := by decide +kernel
theorem d_X12_does_121 : decode prog_14_method_57_code 121 = .ok (.iconst 1, 1) := by decide +kernel
theorem d_X12_does_122 : decode prog_14_method_57_code 122 = .ok (.goto 4, 3) := by decide +kernel
theorem d_X12_does_125 : decode prog_14_method_57_code 125 = .ok (.iconst 0, 1) := by decide +kernel
theorem d_X12_does_126 : decode prog_14_method_57_code 126 = .ok (.ireturn, 1) := by decide +kernel
def f_X12_does (σ : St) (a1 : Int32) : Option (Int32 × St) := gd (inb a1 60) (gd (inb a1 60) ((if (cA σ 323 a1.toNatClampNeg) = (0 : Int32) then (f_X12_goesOn σ 306 (cA σ 324 a1.toNatClampNeg)).bind (fun q3 => some ((1 : Int32), q3)) else if (cA σ 323 a1.toNatClampNeg) = (1 : Int32) then (f_X12_cutsOpen σ (cA σ 324 a1.toNatClampNeg)).bind (fun q5 => some ((if q5.1 < 0 then (0 : Int32) else (1 : Int32)), q5.2)) else if (cA σ 323 a1.toNatClampNeg) = (2 : Int32) then gd (inb a1 60) ((f_X12_asksAll σ 306 (cA σ 324 a1.toNatClampNeg) (cA σ 325 a1.toNatClampNeg)).bind (fun q8 => some ((1 : Int32), q8.2))) else if (cA σ 323 a1.toNatClampNeg) = (3 : Int32) then gd (inb a1 60) ((f_X12_stillsTo σ (cA σ 324 a1.toNatClampNeg) (cA σ 325 a1.toNatClampNeg)).bind (fun q11 => some ((if q11.1 < 0 then (0 : Int32) else (1 : Int32)), q11.2))) else gd (inb a1 60) ((f_X12_viewsTo σ (cA σ 324 a1.toNatClampNeg) (cA σ 325 a1.toNatClampNeg)).bind (fun q14 => some ((if q14.1 < 0 then (0 : Int32) else (1 : Int32)), q14.2))))))
theorem c_X12_does {l : Launch} {G : gT} {χ σ : St} {a1 : Int32} (hf : FW G) {q : Int32 × St} (h : f_X12_does σ a1 = some q) : Ct l G yX12_does prog_14_method_57_code 3 (some .boolean) 5 116 [.ref (ga G 300), .int a1] χ σ (some (.int q.1)) χ q.2 := by
  refine Ct.of (by decide) (Nat.le_of_ble_eq_true rfl) ?_
  intro p e s m args below meth c Q X hr hlk hQ
  have hx := X.1
  have hb := X.2.1
  intro H locs ls hw hl
  have hl : lv_has ls 3 [(0, .ref (ga G 300)), (1, .int a1)] := hl
  unfold f_X12_does at h
  refine lv_aload_n hx hb d_X12_does_0 rfl (lv_at hl 0 rfl) ?_
  refine r_getr (j := 24) X hw ct8 (o_300 hf) rfl (Nat.le_of_ble_eq_true rfl) (q := 324) rfl wd_980 d_X12_does_1 ?_
  refine lv_iload_n hx hb d_X12_does_4 rfl (lv_at hl 1 rfl) ?_
  obtain ⟨hi1, h⟩ := gd_some h
  refine m_iald X hw (o_324 hf) (Nat.le_of_ble_eq_true rfl) hi1 d_X12_does_5 ?_
  refine lv_istore_n (lv' := [(2, .int (cA σ 324 a1.toNatClampNeg)), (0, .ref (ga G 300)), (1, .int a1)]) hx hb d_X12_does_6 rfl hl (Nat.le_of_ble_eq_true rfl) rfl (fun ls hl => ?_)
  refine lv_aload_n hx hb d_X12_does_7 rfl (lv_at hl 1 rfl) ?_
  refine r_getr (j := 23) X hw ct8 (o_300 hf) rfl (Nat.le_of_ble_eq_true rfl) (q := 323) rfl wd_979 d_X12_does_8 ?_
  refine lv_iload_n hx hb d_X12_does_11 rfl (lv_at hl 2 rfl) ?_
  obtain ⟨hi2, h⟩ := gd_some h
  refine m_iald X hw (o_323 hf) (Nat.le_of_ble_eq_true rfl) hi2 d_X12_does_12 ?_
  by_cases hc0 : (cA σ 323 a1.toNatClampNeg) = (0 : Int32)
  · have h := ite_t h hc0
    refine lv_tableIn (tgt := 44) hx hb d_X12_does_13 (by rw [hc0]; decide) (by rw [hc0]; decide) (by rw [hc0]; rfl) (by decide) ?_
    refine lv_aload_n hx hb d_X12_does_44 rfl (lv_at hl 1 rfl) ?_
    refine lv_aload_n hx hb d_X12_does_45 rfl (lv_at hl 1 rfl) ?_
    refine r_getr (j := 6) X hw ct8 (o_300 hf) rfl (Nat.le_of_ble_eq_true rfl) (q := 306) rfl wd_962 d_X12_does_46 ?_
    refine lv_iload_n hx hb d_X12_does_49 rfl (lv_at hl 0 rfl) ?_
    obtain ⟨q3, e4, h⟩ := bd_some h
    refine r_callV (As := [.ref (ga G 306), .int (cA σ 324 a1.toNatClampNeg)]) (rest := []) (st' := []) X hw hl mwX12_goesOn wd_1295 wp_40 wd_1293 (c_X12_goesOn hf (o_306 hf) (Nat.le_of_ble_eq_true rfl) e4) (r_recv X hw ct8 (o_300 hf)) rfl ⟨Nat.le_of_ble_eq_true rfl, Nat.le_of_ble_eq_true rfl⟩ ⟨Nat.le_refl _, Nat.le_refl _⟩ rfl rfl (Nat.le_of_ble_eq_true rfl) d_X12_does_50 (fun H locs hw => ?_)
    refine lv_iconst (v := (1 : Int32)) hx hb d_X12_does_53 (by decide) ?_
    obtain rfl := Option.some.inj h
    subst hQ
    exact r_zret X hr nbz1 hlk hw d_X12_does_54
  have h := ite_f h hc0
  by_cases hc1 : (cA σ 323 a1.toNatClampNeg) = (1 : Int32)
  · have h := ite_t h hc1
    refine lv_tableIn (tgt := 55) hx hb d_X12_does_13 (by rw [hc1]; decide) (by rw [hc1]; decide) (by rw [hc1]; rfl) (by decide) ?_
    refine lv_aload_n hx hb d_X12_does_55 rfl (lv_at hl 1 rfl) ?_
    refine lv_iload_n hx hb d_X12_does_56 rfl (lv_at hl 0 rfl) ?_
    obtain ⟨q5, e6, h⟩ := bd_some h
    refine r_callV (As := [.int (cA σ 324 a1.toNatClampNeg)]) (rest := []) (st' := [.int q5.1]) X hw hl mwX12_cutsOpen wd_1328 wp_45 wd_1326 (c_X12_cutsOpen hf e6) (r_recv X hw ct8 (o_300 hf)) rfl ⟨Nat.le_of_ble_eq_true rfl, Nat.le_of_ble_eq_true rfl⟩ ⟨Nat.le_refl _, Nat.le_refl _⟩ rfl rfl (Nat.le_of_ble_eq_true rfl) d_X12_does_57 (fun H locs hw => ?_)
    refine lv_if_lt (tgt := 67) hx hb d_X12_does_60 (by decide) (fun hc => ?_) (fun hc => ?_)
    · simp only [if_pos hc] at h
      refine lv_iconst (v := (0 : Int32)) hx hb d_X12_does_67 (by decide) ?_
      obtain rfl := Option.some.inj h
      subst hQ
      exact r_zret X hr nbz0 hlk hw d_X12_does_68
    · simp only [if_neg hc] at h
      refine lv_iconst (v := (1 : Int32)) hx hb d_X12_does_63 (by decide) ?_
      refine lv_goto (tgt := 68) hx hb d_X12_does_64 (by decide) ?_
      obtain rfl := Option.some.inj h
      subst hQ
      exact r_zret X hr nbz1 hlk hw d_X12_does_68
  have h := ite_f h hc1
  by_cases hc2 : (cA σ 323 a1.toNatClampNeg) = (2 : Int32)
  · have h := ite_t h hc2
    refine lv_tableIn (tgt := 69) hx hb d_X12_does_13 (by rw [hc2]; decide) (by rw [hc2]; decide) (by rw [hc2]; rfl) (by decide) ?_
    refine lv_aload_n hx hb d_X12_does_69 rfl (lv_at hl 1 rfl) ?_
    refine lv_aload_n hx hb d_X12_does_70 rfl (lv_at hl 1 rfl) ?_
    refine r_getr (j := 6) X hw ct8 (o_300 hf) rfl (Nat.le_of_ble_eq_true rfl) (q := 306) rfl wd_962 d_X12_does_71 ?_
    refine lv_iload_n hx hb d_X12_does_74 rfl (lv_at hl 0 rfl) ?_
    refine lv_aload_n hx hb d_X12_does_75 rfl (lv_at hl 1 rfl) ?_
    refine r_getr (j := 25) X hw ct8 (o_300 hf) rfl (Nat.le_of_ble_eq_true rfl) (q := 325) rfl wd_981 d_X12_does_76 ?_
    refine lv_iload_n hx hb d_X12_does_79 rfl (lv_at hl 2 rfl) ?_
    obtain ⟨hi7, h⟩ := gd_some h
    refine m_iald X hw (o_325 hf) (Nat.le_of_ble_eq_true rfl) hi7 d_X12_does_80 ?_
    obtain ⟨q8, e9, h⟩ := bd_some h
    refine r_callV (As := [.ref (ga G 306), .int (cA σ 324 a1.toNatClampNeg), .int (cA σ 325 a1.toNatClampNeg)]) (rest := []) (st' := [.int q8.1]) X hw hl mwX12_asksAll wd_1255 wp_33 wd_1253 (c_X12_asksAll hf (o_306 hf) (Nat.le_of_ble_eq_true rfl) e9) (r_recv X hw ct8 (o_300 hf)) rfl ⟨Nat.le_of_ble_eq_true rfl, Nat.le_of_ble_eq_true rfl⟩ ⟨Nat.le_refl _, Nat.le_refl _⟩ rfl rfl (Nat.le_of_ble_eq_true rfl) d_X12_does_81 (fun H locs hw => ?_)
    refine lv_pop hx hb d_X12_does_84 rfl ?_
    refine lv_iconst (v := (1 : Int32)) hx hb d_X12_does_85 (by decide) ?_
    obtain rfl := Option.some.inj h
    subst hQ
    exact r_zret X hr nbz1 hlk hw d_X12_does_86
  have h := ite_f h hc2
  by_cases hc3 : (cA σ 323 a1.toNatClampNeg) = (3 : Int32)
  · have h := ite_t h hc3
    refine lv_tableIn (tgt := 87) hx hb d_X12_does_13 (by rw [hc3]; decide) (by rw [hc3]; decide) (by rw [hc3]; rfl) (by decide) ?_
    refine lv_aload_n hx hb d_X12_does_87 rfl (lv_at hl 1 rfl) ?_
    refine lv_iload_n hx hb d_X12_does_88 rfl (lv_at hl 0 rfl) ?_
    refine lv_aload_n hx hb d_X12_does_89 rfl (lv_at hl 1 rfl) ?_
    refine r_getr (j := 25) X hw ct8 (o_300 hf) rfl (Nat.le_of_ble_eq_true rfl) (q := 325) rfl wd_981 d_X12_does_90 ?_
    refine lv_iload_n hx hb d_X12_does_93 rfl (lv_at hl 2 rfl) ?_
    obtain ⟨hi10, h⟩ := gd_some h
    refine m_iald X hw (o_325 hf) (Nat.le_of_ble_eq_true rfl) hi10 d_X12_does_94 ?_
    obtain ⟨q11, e12, h⟩ := bd_some h
    refine r_callV (As := [.int (cA σ 324 a1.toNatClampNeg), .int (cA σ 325 a1.toNatClampNeg)]) (rest := []) (st' := [.int q11.1]) X hw hl mwX12_stillsTo wd_1303 wp_41 wd_1301 (c_X12_stillsTo hf e12) (r_recv X hw ct8 (o_300 hf)) rfl ⟨Nat.le_of_ble_eq_true rfl, Nat.le_of_ble_eq_true rfl⟩ ⟨Nat.le_refl _, Nat.le_refl _⟩ rfl rfl (Nat.le_of_ble_eq_true rfl) d_X12_does_95 (fun H locs hw => ?_)
    refine lv_if_lt (tgt := 105) hx hb d_X12_does_98 (by decide) (fun hc => ?_) (fun hc => ?_)
    · simp only [if_pos hc] at h
      refine lv_iconst (v := (0 : Int32)) hx hb d_X12_does_105 (by decide) ?_
      obtain rfl := Option.some.inj h
      subst hQ
      exact r_zret X hr nbz0 hlk hw d_X12_does_106
    · simp only [if_neg hc] at h
      refine lv_iconst (v := (1 : Int32)) hx hb d_X12_does_101 (by decide) ?_
      refine lv_goto (tgt := 106) hx hb d_X12_does_102 (by decide) ?_
      obtain rfl := Option.some.inj h
      subst hQ
      exact r_zret X hr nbz1 hlk hw d_X12_does_106
  have h := ite_f h hc3
  have hn0 := lv_neT hc0 (a := 0) (by decide)
  have hn1 := lv_neT hc1 (a := 1) (by decide)
  have hn2 := lv_neT hc2 (a := 2) (by decide)
  have hn3 := lv_neT hc3 (a := 3) (by decide)
  refine lv_tableOut (tgt := 107) hx hb d_X12_does_13 (by omega) (by decide) ?_
  refine lv_aload_n hx hb d_X12_does_107 rfl (lv_at hl 1 rfl) ?_
  refine lv_iload_n hx hb d_X12_does_108 rfl (lv_at hl 0 rfl) ?_
  refine lv_aload_n hx hb d_X12_does_109 rfl (lv_at hl 1 rfl) ?_
  refine r_getr (j := 25) X hw ct8 (o_300 hf) rfl (Nat.le_of_ble_eq_true rfl) (q := 325) rfl wd_981 d_X12_does_110 ?_
  refine lv_iload_n hx hb d_X12_does_113 rfl (lv_at hl 2 rfl) ?_
  obtain ⟨hi13, h⟩ := gd_some h
  refine m_iald X hw (o_325 hf) (Nat.le_of_ble_eq_true rfl) hi13 d_X12_does_114 ?_
  obtain ⟨q14, e15, h⟩ := bd_some h
  refine r_callV (As := [.int (cA σ 324 a1.toNatClampNeg), .int (cA σ 325 a1.toNatClampNeg)]) (rest := []) (st' := [.int q14.1]) X hw hl mwX12_viewsTo wd_1319 wp_44 wd_1317 (c_X12_viewsTo hf e15) (r_recv X hw ct8 (o_300 hf)) rfl ⟨Nat.le_of_ble_eq_true rfl, Nat.le_of_ble_eq_true rfl⟩ ⟨Nat.le_refl _, Nat.le_refl _⟩ rfl rfl (Nat.le_of_ble_eq_true rfl) d_X12_does_115 (fun H locs hw => ?_)
  refine lv_if_lt (tgt := 125) hx hb d_X12_does_118 (by decide) (fun hc => ?_) (fun hc => ?_)
  · simp only [if_pos hc] at h
    refine lv_iconst (v := (0 : Int32)) hx hb d_X12_does_125 (by decide) ?_
    obtain rfl := Option.some.inj h
    subst hQ
    exact r_zret X hr nbz0 hlk hw d_X12_does_126
  · simp only [if_neg hc] at h
    refine lv_iconst (v := (1 : Int32)) hx hb d_X12_does_121 (by decide) ?_
    refine lv_goto (tgt := 126) hx hb d_X12_does_122 (by decide) ?_
    obtain rfl := Option.some.inj h
    subst hQ
    exact r_zret X hr nbz1 hlk hw d_X12_does_126
abbrev yX12_would : MethodName := ⟨"OysterBedsModel", "would", "(II)I"⟩
theorem mwX12_would : MW yX12_would prog_14_method_59_code 4 (some .int) 2 := ⟨wd_1350, wd_10, by decide +kernel⟩
theorem d_X12_would_0 : decode prog_14_method_59_code 0 = .ok (.aload_n 0, 1) := by decide +kernel
theorem d_X12_would_1 : decode prog_14_method_59_code 1 = .ok (.iconst 0, 1) := by decide +kernel
theorem d_X12_would_2 : decode prog_14_method_59_code 2 = .ok (.putfield 87, 3) := by decide +kernel
theorem d_X12_would_5 : decode prog_14_method_59_code 5 = .ok (.iload_n 1, 1) := by decide +kernel
theorem d_X12_would_6 : decode prog_14_method_59_code 6 = .ok (.iload_n 2, 1) := by decide +kernel
theorem d_X12_would_7 : decode prog_14_method_59_code 7 = .ok (.invokestatic 270, 3) := by decide +kernel
theorem d_X12_would_10 : decode prog_14_method_59_code 10 = .ok (.ifCond .ne 5, 3) := by decide +kernel
theorem d_X12_would_13 : decode prog_14_method_59_code 13 = .ok (.iconst (-1), 1) := by decide +kernel
theorem d_X12_would_14 : decode prog_14_method_59_code 14 = .ok (.ireturn, 1) := by decide +kernel
theorem d_X12_would_15 : decode prog_14_method_59_code 15 = .ok (.aload_n 0, 1) := by decide +kernel
theorem d_X12_would_16 : decode prog_14_method_59_code 16 = .ok (.aload_n 0, 1) := by decide +kernel
theorem d_X12_would_17 : decode prog_14_method_59_code 17 = .ok (.getfield 17, 3) := by decide +kernel
theorem d_X12_would_20 : decode prog_14_method_59_code 20 = .ok (.iload_n 1, 1) := by decide +kernel
theorem d_X12_would_21 : decode prog_14_method_59_code 21 = .ok (.iload_n 2, 1) := by decide +kernel
theorem d_X12_would_22 : decode prog_14_method_59_code 22 = .ok (.invokevirtual 261, 3) := by decide +kernel
theorem d_X12_would_25 : decode prog_14_method_59_code 25 = .ok (.istore_n 3, 1) := by decide +kernel
theorem d_X12_would_26 : decode prog_14_method_59_code 26 = .ok (.aload_n 0, 1) := by decide +kernel
theorem d_X12_would_27 : decode prog_14_method_59_code 27 = .ok (.iconst 0, 1) := by decide +kernel
theorem d_X12_would_28 : decode prog_14_method_59_code 28 = .ok (.putfield 95, 3) := by decide +kernel
theorem d_X12_would_31 : decode prog_14_method_59_code 31 = .ok (.aload_n 0, 1) := by decide +kernel
theorem d_X12_would_32 : decode prog_14_method_59_code 32 = .ok (.iload_n 3, 1) := by decide +kernel
theorem d_X12_would_33 : decode prog_14_method_59_code 33 = .ok (.i2l, 1) := by decide +kernel
theorem d_X12_would_34 : decode prog_14_method_59_code 34 = .ok (.invokevirtual 98, 3) := by decide +kernel
theorem d_X12_would_37 : decode prog_14_method_59_code 37 = .ok (.aload_n 0, 1) := by decide +kernel
theorem d_X12_would_38 : decode prog_14_method_59_code 38 = .ok (.iload_n 3, 1) := by decide +kernel
theorem d_X12_would_39 : decode prog_14_method_59_code 39 = .ok (.aload_n 0, 1) := by decide +kernel
theorem d_X12_would_40 : decode prog_14_method_59_code 40 = .ok (.aload_n 0, 1) := by decide +kernel
theorem d_X12_would_41 : decode prog_14_method_59_code 41 = .ok (.getfield 17, 3) := by decide +kernel
theorem d_X12_would_44 : decode prog_14_method_59_code 44 = .ok (.iload_n 1, 1) := by decide +kernel
theorem d_X12_would_45 : decode prog_14_method_59_code 45 = .ok (.invokevirtual 310, 3) := by decide +kernel
theorem d_X12_would_48 : decode prog_14_method_59_code 48 = .ok (.iand, 1) := by decide +kernel
theorem d_X12_would_49 : decode prog_14_method_59_code 49 = .ok (.invokestatic 235, 3) := by decide +kernel
theorem d_X12_would_52 : decode prog_14_method_59_code 52 = .ok (.i2l, 1) := by decide +kernel
theorem d_X12_would_53 : decode prog_14_method_59_code 53 = .ok (.invokevirtual 98, 3) := by decide +kernel
theorem d_X12_would_56 : decode prog_14_method_59_code 56 = .ok (.iload_n 3, 1) := by decide +kernel
theorem d_X12_would_57 : decode prog_14_method_59_code 57 = .ok (.invokestatic 235, 3) := by decide +kernel
theorem d_X12_would_60 : decode prog_14_method_59_code 60 = .ok (.ireturn, 1) := by decide +kernel
def f_X12_would (σ : St) (a1 : Int32) (a2 : Int32) : Option (Int32 × St) := (f_X12_isQuestion a1 a2).bind (fun q1 => (if q1 = 0 then some ((-1 : Int32), (sF σ 300 0 (0 : Int32))) else (f_X12_closing (sF σ 300 0 (0 : Int32)) 306 a1 a2).bind (fun q3 => (f_X12_enters (sF q3.2 300 1 (0 : Int32)) (q3.1).toInt64).bind (fun q5 => (f_X12_yesOf q5 306 a1).bind (fun q7 => (f_J6_bitCount_0f7a4 (q3.1 &&& q7)).bind (fun q9 => (f_X12_enters q5 q9.toInt64).bind (fun q11 => (f_J6_bitCount_0f7a4 q3.1).bind (fun q13 => some (q13, q11)))))))))
theorem c_X12_would {l : Launch} {G : gT} {χ σ : St} {a1 : Int32} {a2 : Int32} (hf : FW G) {q : Int32 × St} (h : f_X12_would σ a1 a2 = some q) : Ct l G yX12_would prog_14_method_59_code 4 (some .int) 4 91 [.ref (ga G 300), .int a1, .int a2] χ σ (some (.int q.1)) χ q.2 := by
  refine Ct.of (by decide) (Nat.le_of_ble_eq_true rfl) ?_
  intro p e s m args below meth c Q X hr hlk hQ
  have hx := X.1
  have hb := X.2.1
  intro H locs ls hw hl
  have hl : lv_has ls 4 [(0, .ref (ga G 300)), (1, .int a1), (2, .int a2)] := hl
  unfold f_X12_would at h
  refine lv_aload_n hx hb d_X12_would_0 rfl (lv_at hl 0 rfl) ?_
  refine lv_iconst (v := (0 : Int32)) hx hb d_X12_would_1 (by decide) ?_
  refine m_puti (j := 0) X hw ct8 (o_300 hf) (Nat.le_of_ble_eq_true rfl) rfl (Nat.le_of_ble_eq_true rfl) rfl rfl rfl wd_956 d_X12_would_2 (fun H locs hw => ?_)
  refine lv_iload_n hx hb d_X12_would_5 rfl (lv_at hl 1 rfl) ?_
  refine lv_iload_n hx hb d_X12_would_6 rfl (lv_at hl 2 rfl) ?_
  obtain ⟨q1, e2, h⟩ := bd_some h
  refine r_callS (As := [.int a1, .int a2]) (rest := []) (st' := [.int q1]) X hw hl mwX12_isQuestion wd_1246 wd_1245 (c_X12_isQuestion hf e2) rfl ⟨Nat.le_of_ble_eq_true rfl, Nat.le_of_ble_eq_true rfl⟩ ⟨Nat.le_refl _, Nat.le_refl _⟩ rfl rfl (Nat.le_of_ble_eq_true rfl) d_X12_would_7 (fun H locs hw => ?_)
  refine lv_if_ne (tgt := 15) hx hb d_X12_would_10 (by decide) (fun hc => ?_) (fun hc => ?_)
  · have h := ite_f h hc
    refine lv_aload_n hx hb d_X12_would_15 rfl (lv_at hl 0 rfl) ?_
    refine lv_aload_n hx hb d_X12_would_16 rfl (lv_at hl 0 rfl) ?_
    refine r_getr (j := 6) X hw ct8 (o_300 hf) rfl (Nat.le_of_ble_eq_true rfl) (q := 306) rfl wd_962 d_X12_would_17 ?_
    refine lv_iload_n hx hb d_X12_would_20 rfl (lv_at hl 1 rfl) ?_
    refine lv_iload_n hx hb d_X12_would_21 rfl (lv_at hl 2 rfl) ?_
    obtain ⟨q3, e4, h⟩ := bd_some h
    refine r_callV (As := [.ref (ga G 306), .int a1, .int a2]) (rest := []) (st' := [.int q3.1]) X hw hl mwX12_closing wd_1259 wp_34 wd_1257 (c_X12_closing hf (o_306 hf) (Nat.le_of_ble_eq_true rfl) e4) (r_recv X hw ct8 (o_300 hf)) rfl ⟨Nat.le_of_ble_eq_true rfl, Nat.le_of_ble_eq_true rfl⟩ ⟨Nat.le_refl _, Nat.le_refl _⟩ rfl rfl (Nat.le_of_ble_eq_true rfl) d_X12_would_22 (fun H locs hw => ?_)
    refine lv_istore_n (lv' := [(3, .int q3.1), (0, .ref (ga G 300)), (1, .int a1), (2, .int a2)]) hx hb d_X12_would_25 rfl hl (Nat.le_of_ble_eq_true rfl) rfl (fun ls hl => ?_)
    refine lv_aload_n hx hb d_X12_would_26 rfl (lv_at hl 1 rfl) ?_
    refine lv_iconst (v := (0 : Int32)) hx hb d_X12_would_27 (by decide) ?_
    refine m_puti (j := 1) X hw ct8 (o_300 hf) (Nat.le_of_ble_eq_true rfl) rfl (Nat.le_of_ble_eq_true rfl) rfl rfl rfl wd_957 d_X12_would_28 (fun H locs hw => ?_)
    refine lv_aload_n hx hb d_X12_would_31 rfl (lv_at hl 1 rfl) ?_
    refine lv_iload_n hx hb d_X12_would_32 rfl (lv_at hl 0 rfl) ?_
    refine lv_i2l hx hb d_X12_would_33 rfl ?_
    obtain ⟨q5, e6, h⟩ := bd_some h
    refine r_callV (As := [.long (q3.1).toInt64]) (rest := []) (st' := []) X hw hl mwX12_enters wd_1282 wp_38 wd_1280 (c_X12_enters hf e6) (r_recv X hw ct8 (o_300 hf)) rfl ⟨Nat.le_of_ble_eq_true rfl, Nat.le_of_ble_eq_true rfl⟩ ⟨Nat.le_refl _, Nat.le_refl _⟩ rfl rfl (Nat.le_of_ble_eq_true rfl) d_X12_would_34 (fun H locs hw => ?_)
    refine lv_aload_n hx hb d_X12_would_37 rfl (lv_at hl 1 rfl) ?_
    refine lv_iload_n hx hb d_X12_would_38 rfl (lv_at hl 0 rfl) ?_
    refine lv_aload_n hx hb d_X12_would_39 rfl (lv_at hl 1 rfl) ?_
    refine lv_aload_n hx hb d_X12_would_40 rfl (lv_at hl 1 rfl) ?_
    refine r_getr (j := 6) X hw ct8 (o_300 hf) rfl (Nat.le_of_ble_eq_true rfl) (q := 306) rfl wd_962 d_X12_would_41 ?_
    refine lv_iload_n hx hb d_X12_would_44 rfl (lv_at hl 2 rfl) ?_
    obtain ⟨q7, e8, h⟩ := bd_some h
    refine r_callV (As := [.ref (ga G 306), .int a1]) (rest := [.int q3.1, .ref (ga G 300)]) (st' := [.int q7, .int q3.1, .ref (ga G 300)]) X hw hl mwX12_yesOf wd_1353 wp_49 wd_1351 (c_X12_yesOf hf (o_306 hf) (Nat.le_of_ble_eq_true rfl) e8) (r_recv X hw ct8 (o_300 hf)) rfl ⟨Nat.le_of_ble_eq_true rfl, Nat.le_of_ble_eq_true rfl⟩ ⟨Nat.le_refl _, Nat.le_refl _⟩ rfl rfl (Nat.le_of_ble_eq_true rfl) d_X12_would_45 (fun H locs hw => ?_)
    refine lv_iand hx hb d_X12_would_48 ?_
    obtain ⟨q9, e10, h⟩ := bd_some h
    refine r_callS (As := [.int (q3.1 &&& q7)]) (rest := [.ref (ga G 300)]) (st' := [.int q9, .ref (ga G 300)]) X hw hl mwJ6_bitCount_0f7a4 wd_436 wd_1272 (c_J6_bitCount_0f7a4 e10) rfl ⟨Nat.le_of_ble_eq_true rfl, Nat.le_of_ble_eq_true rfl⟩ ⟨Nat.le_refl _, Nat.le_refl _⟩ rfl rfl (Nat.le_of_ble_eq_true rfl) d_X12_would_49 (fun H locs hw => ?_)
    refine lv_i2l hx hb d_X12_would_52 rfl ?_
    obtain ⟨q11, e12, h⟩ := bd_some h
    refine r_callV (As := [.long q9.toInt64]) (rest := []) (st' := []) X hw hl mwX12_enters wd_1282 wp_38 wd_1280 (c_X12_enters hf e12) (r_recv X hw ct8 (o_300 hf)) rfl ⟨Nat.le_of_ble_eq_true rfl, Nat.le_of_ble_eq_true rfl⟩ ⟨Nat.le_refl _, Nat.le_refl _⟩ rfl rfl (Nat.le_of_ble_eq_true rfl) d_X12_would_53 (fun H locs hw => ?_)
    refine lv_iload_n hx hb d_X12_would_56 rfl (lv_at hl 0 rfl) ?_
    obtain ⟨q13, e14, h⟩ := bd_some h
    refine r_callS (As := [.int q3.1]) (rest := []) (st' := [.int q13]) X hw hl mwJ6_bitCount_0f7a4 wd_436 wd_1272 (c_J6_bitCount_0f7a4 e14) rfl ⟨Nat.le_of_ble_eq_true rfl, Nat.le_of_ble_eq_true rfl⟩ ⟨Nat.le_refl _, Nat.le_refl _⟩ rfl rfl (Nat.le_of_ble_eq_true rfl) d_X12_would_57 (fun H locs hw => ?_)
    obtain rfl := Option.some.inj h
    subst hQ
    exact r_iret X hr hlk hw d_X12_would_60
  · have h := ite_t h hc
    refine lv_iconst (v := (-1 : Int32)) hx hb d_X12_would_13 (by decide) ?_
    obtain rfl := Option.some.inj h
    subst hQ
    exact r_iret X hr hlk hw d_X12_would_14
abbrev yX12_words : MethodName := ⟨"OysterBedsModel", "words", "(II)I"⟩
theorem mwX12_words : MW yX12_words prog_14_method_60_code 9 (some .int) 2 := ⟨wd_1358, wd_10, by decide +kernel⟩
theorem d_X12_words_0 : decode prog_14_method_60_code 0 = .ok (.aload_n 0, 1) := by decide +kernel
theorem d_X12_words_1 : decode prog_14_method_60_code 1 = .ok (.iconst 0, 1) := by decide +kernel
theorem d_X12_words_2 : decode prog_14_method_60_code 2 = .ok (.putfield 87, 3) := by decide +kernel
theorem d_X12_words_5 : decode prog_14_method_60_code 5 = .ok (.iload_n 1, 1) := by decide +kernel
theorem d_X12_words_6 : decode prog_14_method_60_code 6 = .ok (.iconst 0, 1) := by decide +kernel
theorem d_X12_words_7 : decode prog_14_method_60_code 7 = .ok (.invokestatic 270, 3) := by decide +kernel
theorem d_X12_words_10 : decode prog_14_method_60_code 10 = .ok (.ifCond .eq 15, 3) := by decide +kernel
theorem d_X12_words_13 : decode prog_14_method_60_code 13 = .ok (.iload_n 2, 1) := by decide +kernel
theorem d_X12_words_14 : decode prog_14_method_60_code 14 = .ok (.i2l, 1) := by decide +kernel
theorem d_X12_words_15 : decode prog_14_method_60_code 15 = .ok (.lconst 0, 1) := by decide +kernel
theorem d_X12_words_16 : decode prog_14_method_60_code 16 = .ok (.ldc2_w 313, 3) := by decide +kernel
theorem d_X12_words_19 : decode prog_14_method_60_code 19 = .ok (.invokestatic 105, 3) := by decide +kernel
theorem d_X12_words_22 : decode prog_14_method_60_code 22 = .ok (.ifCond .ne 5, 3) := by decide +kernel
theorem d_X12_words_25 : decode prog_14_method_60_code 25 = .ok (.iconst (-1), 1) := by decide +kernel
theorem d_X12_words_26 : decode prog_14_method_60_code 26 = .ok (.ireturn, 1) := by decide +kernel
theorem d_X12_words_27 : decode prog_14_method_60_code 27 = .ok (.bipush (-2), 2) := by decide +kernel
theorem d_X12_words_29 : decode prog_14_method_60_code 29 = .ok (.istore_n 3, 1) := by decide +kernel
theorem d_X12_words_30 : decode prog_14_method_60_code 30 = .ok (.iconst 0, 1) := by decide +kernel
theorem d_X12_words_31 : decode prog_14_method_60_code 31 = .ok (.istore 4, 2) := by decide +kernel
theorem d_X12_words_33 : decode prog_14_method_60_code 33 = .ok (.iconst 0, 1) := by decide +kernel
theorem d_X12_words_34 : decode prog_14_method_60_code 34 = .ok (.istore 5, 2) := by decide +kernel
theorem d_X12_words_36 : decode prog_14_method_60_code 36 = .ok (.iconst 0, 1) := by decide +kernel
theorem d_X12_words_37 : decode prog_14_method_60_code 37 = .ok (.istore 6, 2) := by decide +kernel
theorem d_X12_words_39 : decode prog_14_method_60_code 39 = .ok (.iload 6, 2) := by decide +kernel
theorem d_X12_words_41 : decode prog_14_method_60_code 41 = .ok (.bipush 10, 2) := by decide +kernel
theorem d_X12_words_43 : decode prog_14_method_60_code 43 = .ok (.if_icmp .ge 84, 3) := by decide +kernel
theorem d_X12_words_46 : decode prog_14_method_60_code 46 = .ok (.aload_n 0, 1) := by decide +kernel
theorem d_X12_words_47 : decode prog_14_method_60_code 47 = .ok (.aload_n 0, 1) := by decide +kernel
theorem d_X12_words_48 : decode prog_14_method_60_code 48 = .ok (.getfield 17, 3) := by decide +kernel
theorem d_X12_words_51 : decode prog_14_method_60_code 51 = .ok (.iload_n 1, 1) := by decide +kernel
theorem d_X12_words_52 : decode prog_14_method_60_code 52 = .ok (.iload 6, 2) := by decide +kernel
theorem d_X12_words_54 : decode prog_14_method_60_code 54 = .ok (.invokevirtual 261, 3) := by decide +kernel
theorem d_X12_words_57 : decode prog_14_method_60_code 57 = .ok (.istore 7, 2) := by decide +kernel
theorem d_X12_words_59 : decode prog_14_method_60_code 59 = .ok (.iload 7, 2) := by decide +kernel
theorem d_X12_words_61 : decode prog_14_method_60_code 61 = .ok (.invokestatic 235, 3) := by decide +kernel
theorem d_X12_words_64 : decode prog_14_method_60_code 64 = .ok (.iload_n 2, 1) := by decide +kernel
theorem d_X12_words_65 : decode prog_14_method_60_code 65 = .ok (.if_icmp .ne 7, 3) := by decide +kernel
theorem d_X12_words_68 : decode prog_14_method_60_code 68 = .ok (.iconst 1, 1) := by decide +kernel
theorem d_X12_words_69 : decode prog_14_method_60_code 69 = .ok (.goto 4, 3) := by decide +kernel
theorem d_X12_words_72 : decode prog_14_method_60_code 72 = .ok (.iconst 0, 1) := by decide +kernel
theorem d_X12_words_73 : decode prog_14_method_60_code 73 = .ok (.istore 8, 2) := by decide +kernel
theorem d_X12_words_75 : decode prog_14_method_60_code 75 = .ok (.iload 8, 2) := by decide +kernel
theorem d_X12_words_77 : decode prog_14_method_60_code 77 = .ok (.ifCond .eq 13, 3) := by decide +kernel
theorem d_X12_words_80 : decode prog_14_method_60_code 80 = .ok (.iload 5, 2) := by decide +kernel
theorem d_X12_words_82 : decode prog_14_method_60_code 82 = .ok (.ifCond .ne 8, 3) := by decide +kernel
theorem d_X12_words_85 : decode prog_14_method_60_code 85 = .ok (.iload 6, 2) := by decide +kernel
theorem d_X12_words_87 : decode prog_14_method_60_code 87 = .ok (.goto 4, 3) := by decide +kernel
theorem d_X12_words_90 : decode prog_14_method_60_code 90 = .ok (.iload_n 3, 1) := by decide +kernel
theorem d_X12_words_91 : decode prog_14_method_60_code 91 = .ok (.istore_n 3, 1) := by decide +kernel
theorem d_X12_words_92 : decode prog_14_method_60_code 92 = .ok (.iload 8, 2) := by decide +kernel
theorem d_X12_words_94 : decode prog_14_method_60_code 94 = .ok (.ifCond .eq 13, 3) := by decide +kernel
theorem d_X12_words_97 : decode prog_14_method_60_code 97 = .ok (.iload 5, 2) := by decide +kernel
theorem d_X12_words_99 : decode prog_14_method_60_code 99 = .ok (.ifCond .ne 8, 3) := by decide +kernel
theorem d_X12_words_102 : decode prog_14_method_60_code 102 = .ok (.iload 7, 2) := by decide +kernel
theorem d_X12_words_104 : decode prog_14_method_60_code 104 = .ok (.goto 5, 3) := by decide +kernel
theorem d_X12_words_107 : decode prog_14_method_60_code 107 = .ok (.iload 4, 2) := by decide +kernel
theorem d_X12_words_109 : decode prog_14_method_60_code 109 = .ok (.istore 4, 2) := by decide +kernel
theorem d_X12_words_111 : decode prog_14_method_60_code 111 = .ok (.iload 5, 2) := by decide +kernel
theorem d_X12_words_113 : decode prog_14_method_60_code 113 = .ok (.iload 8, 2) := by decide +kernel
theorem d_X12_words_115 : decode prog_14_method_60_code 115 = .ok (.invokestatic 135, 3) := by decide +kernel
theorem d_X12_words_118 : decode prog_14_method_60_code 118 = .ok (.iadd, 1) := by decide +kernel
theorem d_X12_words_119 : decode prog_14_method_60_code 119 = .ok (.istore 5, 2) := by decide +kernel
theorem d_X12_words_121 : decode prog_14_method_60_code 121 = .ok (.iinc 6 1, 3) := by decide +kernel
theorem d_X12_words_124 : decode prog_14_method_60_code 124 = .ok (.goto (-85), 3) := by decide +kernel
theorem d_X12_words_127 : decode prog_14_method_60_code 127 = .ok (.iload 5, 2) := by decide +kernel
theorem d_X12_words_129 : decode prog_14_method_60_code 129 = .ok (.ifCond .le 22, 3) := by decide +kernel
theorem d_X12_words_132 : decode prog_14_method_60_code 132 = .ok (.aload_n 0, 1) := by decide +kernel
theorem d_X12_words_133 : decode prog_14_method_60_code 133 = .ok (.iconst 0, 1) := by decide +kernel
theorem d_X12_words_134 : decode prog_14_method_60_code 134 = .ok (.putfield 95, 3) := by decide +kernel
theorem d_X12_words_137 : decode prog_14_method_60_code 137 = .ok (.aload_n 0, 1) := by decide +kernel
theorem d_X12_words_138 : decode prog_14_method_60_code 138 = .ok (.iload 5, 2) := by decide +kernel
theorem d_X12_words_140 : decode prog_14_method_60_code 140 = .ok (.i2l, 1) := by decide +kernel
theorem d_X12_words_141 : decode prog_14_method_60_code 141 = .ok (.invokevirtual 98, 3) := by decide +kernel
theorem d_X12_words_144 : decode prog_14_method_60_code 144 = .ok (.aload_n 0, 1) := by decide +kernel
theorem d_X12_words_145 : decode prog_14_method_60_code 145 = .ok (.iload 4, 2) := by decide +kernel
theorem d_X12_words_147 : decode prog_14_method_60_code 147 = .ok (.i2l, 1) := by decide +kernel
theorem d_X12_words_148 : decode prog_14_method_60_code 148 = .ok (.invokevirtual 98, 3) := by decide +kernel
theorem d_X12_words_151 : decode prog_14_method_60_code 151 = .ok (.iload_n 3, 1) := by decide +kernel
theorem d_X12_words_152 : decode prog_14_method_60_code 152 = .ok (.ireturn, 1) := by decide +kernel
def f_X12_words_j109_39 (τ : St) (x1 : Int32) (x2 : Int32) (x3 : Int32) (x5 : Int32) (x6 : Int32) (x8 : Int32) (s0 : Int32) : Option ((Int32 × Int32 × Int32 × Int32 × St) ⊕ (Int32 × Int32 × Int32 × St)) := (f_X12_flag x8).bind (fun q9 => some (.inl (x3, s0, (x5 + q9), (x6 + (1 : Int32)), τ)))
def f_X12_words_j91_39 (τ : St) (x1 : Int32) (x2 : Int32) (x4 : Int32) (x5 : Int32) (x6 : Int32) (x7 : Int32) (x8 : Int32) (s0 : Int32) : Option ((Int32 × Int32 × Int32 × Int32 × St) ⊕ (Int32 × Int32 × Int32 × St)) := f_X12_words_j109_39 τ x1 x2 s0 x5 x6 x8 (if x8 = 0 then x4 else (if x5 = 0 then x7 else x4))
def f_X12_words_j73_39 (τ : St) (x1 : Int32) (x2 : Int32) (x3 : Int32) (x4 : Int32) (x5 : Int32) (x6 : Int32) (x7 : Int32) (s0 : Int32) : Option ((Int32 × Int32 × Int32 × Int32 × St) ⊕ (Int32 × Int32 × Int32 × St)) := f_X12_words_j91_39 τ x1 x2 x4 x5 x6 x7 s0 (if s0 = 0 then x3 else (if x5 = 0 then x6 else x3))
def f_X12_words_s39 (τ : St) (y1 : Int32) (y2 : Int32) (x3 : Int32) (x4 : Int32) (x5 : Int32) (x6 : Int32) : Option ((Int32 × Int32 × Int32 × Int32 × St) ⊕ (Int32 × Int32 × Int32 × St)) := (if (10 : Int32) ≤ x6 then some (.inr (x3, x4, x5, τ)) else (f_X12_closing τ 306 y1 x6).bind (fun q5 => (f_J6_bitCount_0f7a4 q5.1).bind (fun q7 => f_X12_words_j73_39 q5.2 y1 y2 x3 x4 x5 x6 q5.1 (if q7 = y2 then (1 : Int32) else (0 : Int32)))))
def f_X12_words (σ : St) (a1 : Int32) (a2 : Int32) : Option (Int32 × St) := (f_X12_isQuestion a1 (0 : Int32)).bind (fun q1 => (if q1 = 0 then some ((-1 : Int32), (sF σ 300 0 (0 : Int32))) else (f_X12_in a2.toInt64 (0 : Int64) (8 : Int64)).bind (fun q3 => (if q3 = 0 then some ((-1 : Int32), (sF σ 300 0 (0 : Int32))) else (iter (fun z => f_X12_words_s39 z.2.2.2.2 a1 a2 z.1 z.2.1 z.2.2.1 z.2.2.2.1) FU ((-2 : Int32), (0 : Int32), (0 : Int32), (0 : Int32), (sF σ 300 0 (0 : Int32)))).bind (fun z11 => (if z11.2.2.1 ≤ 0 then some (z11.1, z11.2.2.2) else (f_X12_enters (sF z11.2.2.2 300 1 (0 : Int32)) (z11.2.2.1).toInt64).bind (fun q14 => (f_X12_enters q14 (z11.2.1).toInt64).bind (fun q16 => some (z11.1, q16)))))))))
theorem c_X12_words {l : Launch} {G : gT} {χ σ : St} {a1 : Int32} {a2 : Int32} (hf : FW G) {q : Int32 × St} (h : f_X12_words σ a1 a2 = some q) : Ct l G yX12_words prog_14_method_60_code 9 (some .int) 4 91 [.ref (ga G 300), .int a1, .int a2] χ σ (some (.int q.1)) χ q.2 := by
  refine Ct.of (by decide) (Nat.le_of_ble_eq_true rfl) ?_
  intro p e s m args below meth c Q X hr hlk hQ
  have hx := X.1
  have hb := X.2.1
  have j109_39 : ∀ (τ : St) (x1 : Int32) (x2 : Int32) (x3 : Int32) (x5 : Int32) (x6 : Int32) (x8 : Int32) (s0 : Int32) (o : (Int32 × Int32 × Int32 × Int32 × St) ⊕ (Int32 × Int32 × Int32 × St)), f_X12_words_j109_39 τ x1 x2 x3 x5 x6 x8 s0 = some o → Sum.elim (fun z : Int32 × Int32 × Int32 × Int32 × St => Wat p l e (rmk 4 91) s m args below meth c Q G 9 39 [] [(3, .int z.1), (4, .int z.2.1), (5, .int z.2.2.1), (6, .int z.2.2.2.1), (0, .ref (ga G 300)), (1, .int x1), (2, .int x2)] χ z.2.2.2.2) (fun z : Int32 × Int32 × Int32 × St => Wat p l e (rmk 4 91) s m args below meth c Q G 9 127 [] [(0, .ref (ga G 300)), (3, .int z.1), (4, .int z.2.1), (5, .int z.2.2.1)] χ z.2.2.2) o → Wat p l e (rmk 4 91) s m args below meth c Q G 9 109 [.int s0] [(0, .ref (ga G 300)), (1, .int x1), (2, .int x2), (3, .int x3), (5, .int x5), (6, .int x6), (8, .int x8)] χ τ := by
    intro τ x1 x2 x3 x5 x6 x8 s0 o h hk H locs ls hw hl
    unfold f_X12_words_j109_39 at h
    refine lv_istore (lv' := [(4, .int s0), (0, .ref (ga G 300)), (1, .int x1), (2, .int x2), (3, .int x3), (5, .int x5), (6, .int x6), (8, .int x8)]) hx hb d_X12_words_109 hl (Nat.le_of_ble_eq_true rfl) rfl (fun ls hl => ?_)
    refine lv_iload hx hb d_X12_words_111 (lv_at hl 5 rfl) ?_
    refine lv_iload hx hb d_X12_words_113 (lv_at hl 7 rfl) ?_
    obtain ⟨q9, e10, h⟩ := bd_some h
    refine r_callS (As := [.int x8]) (rest := [.int x5]) (st' := [.int q9, .int x5]) X hw hl mwX12_flag wd_1180 wd_1179 (c_X12_flag hf e10) rfl ⟨Nat.le_of_ble_eq_true rfl, Nat.le_of_ble_eq_true rfl⟩ ⟨Nat.le_refl _, Nat.le_refl _⟩ rfl rfl (Nat.le_of_ble_eq_true rfl) d_X12_words_115 (fun H locs hw => ?_)
    refine lv_iadd hx hb d_X12_words_118 ?_
    refine lv_istore (lv' := [(5, .int (x5 + q9)), (4, .int s0), (0, .ref (ga G 300)), (1, .int x1), (2, .int x2), (3, .int x3), (6, .int x6), (8, .int x8)]) hx hb d_X12_words_119 hl (Nat.le_of_ble_eq_true rfl) rfl (fun ls hl => ?_)
    refine lv_iinc (v := (x6 + (1 : Int32))) (k := 6) (lv' := [(6, .int (x6 + (1 : Int32))), (5, .int (x5 + q9)), (4, .int s0), (0, .ref (ga G 300)), (1, .int x1), (2, .int x2), (3, .int x3), (8, .int x8)]) hx hb d_X12_words_121 hl rfl (by rfl) (Nat.le_of_ble_eq_true rfl) rfl (fun ls hl => ?_)
    refine lv_goto (tgt := 39) hx hb d_X12_words_124 (by decide) ?_
    obtain rfl := Option.some.inj h
    dsimp only [Sum.elim_inl] at hk
    exact hk _ _ _ hw (lv_sub hl [6, 2, 1, 0, 3, 4, 5] rfl)
  have j91_39 : ∀ (τ : St) (x1 : Int32) (x2 : Int32) (x4 : Int32) (x5 : Int32) (x6 : Int32) (x7 : Int32) (x8 : Int32) (s0 : Int32) (o : (Int32 × Int32 × Int32 × Int32 × St) ⊕ (Int32 × Int32 × Int32 × St)), f_X12_words_j91_39 τ x1 x2 x4 x5 x6 x7 x8 s0 = some o → Sum.elim (fun z : Int32 × Int32 × Int32 × Int32 × St => Wat p l e (rmk 4 91) s m args below meth c Q G 9 39 [] [(3, .int z.1), (4, .int z.2.1), (5, .int z.2.2.1), (6, .int z.2.2.2.1), (0, .ref (ga G 300)), (1, .int x1), (2, .int x2)] χ z.2.2.2.2) (fun z : Int32 × Int32 × Int32 × St => Wat p l e (rmk 4 91) s m args below meth c Q G 9 127 [] [(0, .ref (ga G 300)), (3, .int z.1), (4, .int z.2.1), (5, .int z.2.2.1)] χ z.2.2.2) o → Wat p l e (rmk 4 91) s m args below meth c Q G 9 91 [.int s0] [(0, .ref (ga G 300)), (1, .int x1), (2, .int x2), (4, .int x4), (5, .int x5), (6, .int x6), (7, .int x7), (8, .int x8)] χ τ := by
    intro τ x1 x2 x4 x5 x6 x7 x8 s0 o h hk H locs ls hw hl
    unfold f_X12_words_j91_39 at h
    refine lv_istore_n (lv' := [(3, .int s0), (0, .ref (ga G 300)), (1, .int x1), (2, .int x2), (4, .int x4), (5, .int x5), (6, .int x6), (7, .int x7), (8, .int x8)]) hx hb d_X12_words_91 rfl hl (Nat.le_of_ble_eq_true rfl) rfl (fun ls hl => ?_)
    refine lv_iload hx hb d_X12_words_92 (lv_at hl 8 rfl) ?_
    refine lv_if_eq (tgt := 107) hx hb d_X12_words_94 (by decide) (fun hc => ?_) (fun hc => ?_)
    · simp only [if_pos hc] at h
      refine lv_iload hx hb d_X12_words_107 (lv_at hl 4 rfl) ?_
      exact j109_39 τ x1 x2 s0 x5 x6 x8 x4 o h hk _ _ _ hw (lv_sub hl [1, 2, 3, 0, 5, 6, 8] rfl)
    · simp only [if_neg hc] at h
      refine lv_iload hx hb d_X12_words_97 (lv_at hl 5 rfl) ?_
      refine lv_if_ne (tgt := 107) hx hb d_X12_words_99 (by decide) (fun hc => ?_) (fun hc => ?_)
      · simp only [if_neg hc] at h
        refine lv_iload hx hb d_X12_words_107 (lv_at hl 4 rfl) ?_
        exact j109_39 τ x1 x2 s0 x5 x6 x8 x4 o h hk _ _ _ hw (lv_sub hl [1, 2, 3, 0, 5, 6, 8] rfl)
      · simp only [if_pos hc] at h
        refine lv_iload hx hb d_X12_words_102 (lv_at hl 7 rfl) ?_
        refine lv_goto (tgt := 109) hx hb d_X12_words_104 (by decide) ?_
        exact j109_39 τ x1 x2 s0 x5 x6 x8 x7 o h hk _ _ _ hw (lv_sub hl [1, 2, 3, 0, 5, 6, 8] rfl)
  have j73_39 : ∀ (τ : St) (x1 : Int32) (x2 : Int32) (x3 : Int32) (x4 : Int32) (x5 : Int32) (x6 : Int32) (x7 : Int32) (s0 : Int32) (o : (Int32 × Int32 × Int32 × Int32 × St) ⊕ (Int32 × Int32 × Int32 × St)), f_X12_words_j73_39 τ x1 x2 x3 x4 x5 x6 x7 s0 = some o → Sum.elim (fun z : Int32 × Int32 × Int32 × Int32 × St => Wat p l e (rmk 4 91) s m args below meth c Q G 9 39 [] [(3, .int z.1), (4, .int z.2.1), (5, .int z.2.2.1), (6, .int z.2.2.2.1), (0, .ref (ga G 300)), (1, .int x1), (2, .int x2)] χ z.2.2.2.2) (fun z : Int32 × Int32 × Int32 × St => Wat p l e (rmk 4 91) s m args below meth c Q G 9 127 [] [(0, .ref (ga G 300)), (3, .int z.1), (4, .int z.2.1), (5, .int z.2.2.1)] χ z.2.2.2) o → Wat p l e (rmk 4 91) s m args below meth c Q G 9 73 [.int s0] [(0, .ref (ga G 300)), (1, .int x1), (2, .int x2), (3, .int x3), (4, .int x4), (5, .int x5), (6, .int x6), (7, .int x7)] χ τ := by
    intro τ x1 x2 x3 x4 x5 x6 x7 s0 o h hk H locs ls hw hl
    unfold f_X12_words_j73_39 at h
    refine lv_istore (lv' := [(8, .int s0), (0, .ref (ga G 300)), (1, .int x1), (2, .int x2), (3, .int x3), (4, .int x4), (5, .int x5), (6, .int x6), (7, .int x7)]) hx hb d_X12_words_73 hl (Nat.le_of_ble_eq_true rfl) rfl (fun ls hl => ?_)
    refine lv_iload hx hb d_X12_words_75 (lv_at hl 0 rfl) ?_
    refine lv_if_eq (tgt := 90) hx hb d_X12_words_77 (by decide) (fun hc => ?_) (fun hc => ?_)
    · simp only [if_pos hc] at h
      refine lv_iload_n hx hb d_X12_words_90 rfl (lv_at hl 4 rfl) ?_
      exact j91_39 τ x1 x2 x4 x5 x6 x7 s0 x3 o h hk _ _ _ hw (lv_sub hl [1, 2, 3, 5, 6, 7, 8, 0] rfl)
    · simp only [if_neg hc] at h
      refine lv_iload hx hb d_X12_words_80 (lv_at hl 6 rfl) ?_
      refine lv_if_ne (tgt := 90) hx hb d_X12_words_82 (by decide) (fun hc => ?_) (fun hc => ?_)
      · simp only [if_neg hc] at h
        refine lv_iload_n hx hb d_X12_words_90 rfl (lv_at hl 4 rfl) ?_
        exact j91_39 τ x1 x2 x4 x5 x6 x7 s0 x3 o h hk _ _ _ hw (lv_sub hl [1, 2, 3, 5, 6, 7, 8, 0] rfl)
      · simp only [if_pos hc] at h
        refine lv_iload hx hb d_X12_words_85 (lv_at hl 7 rfl) ?_
        refine lv_goto (tgt := 91) hx hb d_X12_words_87 (by decide) ?_
        exact j91_39 τ x1 x2 x4 x5 x6 x7 s0 x6 o h hk _ _ _ hw (lv_sub hl [1, 2, 3, 5, 6, 7, 8, 0] rfl)
  have b39 : ∀ (τ : St) (y1 : Int32) (y2 : Int32) (x3 : Int32) (x4 : Int32) (x5 : Int32) (x6 : Int32) (o : (Int32 × Int32 × Int32 × Int32 × St) ⊕ (Int32 × Int32 × Int32 × St)), f_X12_words_s39 τ y1 y2 x3 x4 x5 x6 = some o → Sum.elim (fun z : Int32 × Int32 × Int32 × Int32 × St => Wat p l e (rmk 4 91) s m args below meth c Q G 9 39 [] [(3, .int z.1), (4, .int z.2.1), (5, .int z.2.2.1), (6, .int z.2.2.2.1), (0, .ref (ga G 300)), (1, .int y1), (2, .int y2)] χ z.2.2.2.2) (fun z : Int32 × Int32 × Int32 × St => Wat p l e (rmk 4 91) s m args below meth c Q G 9 127 [] [(0, .ref (ga G 300)), (3, .int z.1), (4, .int z.2.1), (5, .int z.2.2.1)] χ z.2.2.2) o → Wat p l e (rmk 4 91) s m args below meth c Q G 9 39 [] [(3, .int x3), (4, .int x4), (5, .int x5), (6, .int x6), (0, .ref (ga G 300)), (1, .int y1), (2, .int y2)] χ τ := by
    intro τ y1 y2 x3 x4 x5 x6 o h hk H locs ls hw hl
    unfold f_X12_words_s39 at h
    refine lv_iload hx hb d_X12_words_39 (lv_at hl 3 rfl) ?_
    refine lv_bipush (v := (10 : Int32)) hx hb d_X12_words_41 (by decide) ?_
    refine lv_icmp_ge (tgt := 127) hx hb d_X12_words_43 (by decide) (fun hc => ?_) (fun hc => ?_)
    · have h := ite_t h hc
      obtain rfl := Option.some.inj h
      dsimp only [Sum.elim_inr] at hk
      exact hk _ _ _ hw (lv_sub hl [4, 0, 1, 2] rfl)
    · have h := ite_f h hc
      refine lv_aload_n hx hb d_X12_words_46 rfl (lv_at hl 4 rfl) ?_
      refine lv_aload_n hx hb d_X12_words_47 rfl (lv_at hl 4 rfl) ?_
      refine r_getr (j := 6) X hw ct8 (o_300 hf) rfl (Nat.le_of_ble_eq_true rfl) (q := 306) rfl wd_962 d_X12_words_48 ?_
      refine lv_iload_n hx hb d_X12_words_51 rfl (lv_at hl 5 rfl) ?_
      refine lv_iload hx hb d_X12_words_52 (lv_at hl 3 rfl) ?_
      obtain ⟨q5, e6, h⟩ := bd_some h
      refine r_callV (As := [.ref (ga G 306), .int y1, .int x6]) (rest := []) (st' := [.int q5.1]) X hw hl mwX12_closing wd_1259 wp_34 wd_1257 (c_X12_closing hf (o_306 hf) (Nat.le_of_ble_eq_true rfl) e6) (r_recv X hw ct8 (o_300 hf)) rfl ⟨Nat.le_of_ble_eq_true rfl, Nat.le_of_ble_eq_true rfl⟩ ⟨Nat.le_refl _, Nat.le_refl _⟩ rfl rfl (Nat.le_of_ble_eq_true rfl) d_X12_words_54 (fun H locs hw => ?_)
      refine lv_istore (lv' := [(7, .int q5.1), (3, .int x3), (4, .int x4), (5, .int x5), (6, .int x6), (0, .ref (ga G 300)), (1, .int y1), (2, .int y2)]) hx hb d_X12_words_57 hl (Nat.le_of_ble_eq_true rfl) rfl (fun ls hl => ?_)
      refine lv_iload hx hb d_X12_words_59 (lv_at hl 0 rfl) ?_
      obtain ⟨q7, e8, h⟩ := bd_some h
      refine r_callS (As := [.int q5.1]) (rest := []) (st' := [.int q7]) X hw hl mwJ6_bitCount_0f7a4 wd_436 wd_1272 (c_J6_bitCount_0f7a4 e8) rfl ⟨Nat.le_of_ble_eq_true rfl, Nat.le_of_ble_eq_true rfl⟩ ⟨Nat.le_refl _, Nat.le_refl _⟩ rfl rfl (Nat.le_of_ble_eq_true rfl) d_X12_words_61 (fun H locs hw => ?_)
      refine lv_iload_n hx hb d_X12_words_64 rfl (lv_at hl 7 rfl) ?_
      refine lv_icmp_ne (tgt := 72) hx hb d_X12_words_65 (by decide) (fun hc => ?_) (fun hc => ?_)
      · simp only [if_neg hc] at h
        refine lv_iconst (v := (0 : Int32)) hx hb d_X12_words_72 (by decide) ?_
        exact j73_39 q5.2 y1 y2 x3 x4 x5 x6 q5.1 (0 : Int32) o h hk _ _ _ hw (lv_sub hl [5, 6, 7, 1, 2, 3, 4, 0] rfl)
      · simp only [if_pos hc] at h
        refine lv_iconst (v := (1 : Int32)) hx hb d_X12_words_68 (by decide) ?_
        refine lv_goto (tgt := 73) hx hb d_X12_words_69 (by decide) ?_
        exact j73_39 q5.2 y1 y2 x3 x4 x5 x6 q5.1 (1 : Int32) o h hk _ _ _ hw (lv_sub hl [5, 6, 7, 1, 2, 3, 4, 0] rfl)
  intro H locs ls hw hl
  have hl : lv_has ls 9 [(0, .ref (ga G 300)), (1, .int a1), (2, .int a2)] := hl
  unfold f_X12_words at h
  refine lv_aload_n hx hb d_X12_words_0 rfl (lv_at hl 0 rfl) ?_
  refine lv_iconst (v := (0 : Int32)) hx hb d_X12_words_1 (by decide) ?_
  refine m_puti (j := 0) X hw ct8 (o_300 hf) (Nat.le_of_ble_eq_true rfl) rfl (Nat.le_of_ble_eq_true rfl) rfl rfl rfl wd_956 d_X12_words_2 (fun H locs hw => ?_)
  refine lv_iload_n hx hb d_X12_words_5 rfl (lv_at hl 1 rfl) ?_
  refine lv_iconst (v := (0 : Int32)) hx hb d_X12_words_6 (by decide) ?_
  obtain ⟨q1, e2, h⟩ := bd_some h
  refine r_callS (As := [.int a1, .int (0 : Int32)]) (rest := []) (st' := [.int q1]) X hw hl mwX12_isQuestion wd_1246 wd_1245 (c_X12_isQuestion hf e2) rfl ⟨Nat.le_of_ble_eq_true rfl, Nat.le_of_ble_eq_true rfl⟩ ⟨Nat.le_refl _, Nat.le_refl _⟩ rfl rfl (Nat.le_of_ble_eq_true rfl) d_X12_words_7 (fun H locs hw => ?_)
  refine lv_if_eq (tgt := 25) hx hb d_X12_words_10 (by decide) (fun hc => ?_) (fun hc => ?_)
  · have h := ite_t h hc
    refine lv_iconst (v := (-1 : Int32)) hx hb d_X12_words_25 (by decide) ?_
    obtain rfl := Option.some.inj h
    subst hQ
    exact r_iret X hr hlk hw d_X12_words_26
  · have h := ite_f h hc
    refine lv_iload_n hx hb d_X12_words_13 rfl (lv_at hl 2 rfl) ?_
    refine lv_i2l hx hb d_X12_words_14 rfl ?_
    refine lv_lconst (v := (0 : Int64)) hx hb d_X12_words_15 (by decide) ?_
    refine r_ldc2 X wd_1359 d_X12_words_16 ?_
    obtain ⟨q3, e4, h⟩ := bd_some h
    refine r_callS (As := [.long a2.toInt64, .long (0 : Int64), .long (8 : Int64)]) (rest := []) (st' := [.int q3]) X hw hl mwX12_in wd_1093 wd_1092 (c_X12_in hf e4) rfl ⟨Nat.le_of_ble_eq_true rfl, Nat.le_of_ble_eq_true rfl⟩ ⟨Nat.le_refl _, Nat.le_refl _⟩ rfl rfl (Nat.le_of_ble_eq_true rfl) d_X12_words_19 (fun H locs hw => ?_)
    refine lv_if_ne (tgt := 27) hx hb d_X12_words_22 (by decide) (fun hc => ?_) (fun hc => ?_)
    · have h := ite_f h hc
      refine lv_bipush (v := (-2 : Int32)) hx hb d_X12_words_27 (by decide) ?_
      refine lv_istore_n (lv' := [(3, .int (-2 : Int32)), (0, .ref (ga G 300)), (1, .int a1), (2, .int a2)]) hx hb d_X12_words_29 rfl hl (Nat.le_of_ble_eq_true rfl) rfl (fun ls hl => ?_)
      refine lv_iconst (v := (0 : Int32)) hx hb d_X12_words_30 (by decide) ?_
      refine lv_istore (lv' := [(4, .int (0 : Int32)), (3, .int (-2 : Int32)), (0, .ref (ga G 300)), (1, .int a1), (2, .int a2)]) hx hb d_X12_words_31 hl (Nat.le_of_ble_eq_true rfl) rfl (fun ls hl => ?_)
      refine lv_iconst (v := (0 : Int32)) hx hb d_X12_words_33 (by decide) ?_
      refine lv_istore (lv' := [(5, .int (0 : Int32)), (4, .int (0 : Int32)), (3, .int (-2 : Int32)), (0, .ref (ga G 300)), (1, .int a1), (2, .int a2)]) hx hb d_X12_words_34 hl (Nat.le_of_ble_eq_true rfl) rfl (fun ls hl => ?_)
      refine lv_iconst (v := (0 : Int32)) hx hb d_X12_words_36 (by decide) ?_
      refine lv_istore (lv' := [(6, .int (0 : Int32)), (5, .int (0 : Int32)), (4, .int (0 : Int32)), (3, .int (-2 : Int32)), (0, .ref (ga G 300)), (1, .int a1), (2, .int a2)]) hx hb d_X12_words_37 hl (Nat.le_of_ble_eq_true rfl) rfl (fun ls hl => ?_)
      obtain ⟨z11, e12, h⟩ := bd_some h
      refine iter_w (Wh := fun z : Int32 × Int32 × Int32 × Int32 × St => Wat p l e (rmk 4 91) s m args below meth c Q G 9 39 [] [(3, .int z.1), (4, .int z.2.1), (5, .int z.2.2.1), (6, .int z.2.2.2.1), (0, .ref (ga G 300)), (1, .int a1), (2, .int a2)] χ z.2.2.2.2) (K := fun z : Int32 × Int32 × Int32 × St => Wat p l e (rmk 4 91) s m args below meth c Q G 9 127 [] [(0, .ref (ga G 300)), (3, .int z.1), (4, .int z.2.1), (5, .int z.2.2.1)] χ z.2.2.2) (fun z o h1 h2 => b39 z.2.2.2.2 a1 a2 z.1 z.2.1 z.2.2.1 z.2.2.2.1 o h1 h2) FU _ _ e12 ?_ _ _ _ hw (lv_sub hl [3, 2, 1, 0, 4, 5, 6] rfl)
      intro H locs ls hw hl
      refine lv_iload hx hb d_X12_words_127 (lv_at hl 3 rfl) ?_
      refine lv_if_le (tgt := 151) hx hb d_X12_words_129 (by decide) (fun hc => ?_) (fun hc => ?_)
      · have h := ite_t h hc
        refine lv_iload_n hx hb d_X12_words_151 rfl (lv_at hl 1 rfl) ?_
        obtain rfl := Option.some.inj h
        subst hQ
        exact r_iret X hr hlk hw d_X12_words_152
      · have h := ite_f h hc
        refine lv_aload_n hx hb d_X12_words_132 rfl (lv_at hl 0 rfl) ?_
        refine lv_iconst (v := (0 : Int32)) hx hb d_X12_words_133 (by decide) ?_
        refine m_puti (j := 1) X hw ct8 (o_300 hf) (Nat.le_of_ble_eq_true rfl) rfl (Nat.le_of_ble_eq_true rfl) rfl rfl rfl wd_957 d_X12_words_134 (fun H locs hw => ?_)
        refine lv_aload_n hx hb d_X12_words_137 rfl (lv_at hl 0 rfl) ?_
        refine lv_iload hx hb d_X12_words_138 (lv_at hl 3 rfl) ?_
        refine lv_i2l hx hb d_X12_words_140 rfl ?_
        obtain ⟨q14, e15, h⟩ := bd_some h
        refine r_callV (As := [.long (z11.2.2.1).toInt64]) (rest := []) (st' := []) X hw hl mwX12_enters wd_1282 wp_38 wd_1280 (c_X12_enters hf e15) (r_recv X hw ct8 (o_300 hf)) rfl ⟨Nat.le_of_ble_eq_true rfl, Nat.le_of_ble_eq_true rfl⟩ ⟨Nat.le_refl _, Nat.le_refl _⟩ rfl rfl (Nat.le_of_ble_eq_true rfl) d_X12_words_141 (fun H locs hw => ?_)
        refine lv_aload_n hx hb d_X12_words_144 rfl (lv_at hl 0 rfl) ?_
        refine lv_iload hx hb d_X12_words_145 (lv_at hl 2 rfl) ?_
        refine lv_i2l hx hb d_X12_words_147 rfl ?_
        obtain ⟨q16, e17, h⟩ := bd_some h
        refine r_callV (As := [.long (z11.2.1).toInt64]) (rest := []) (st' := []) X hw hl mwX12_enters wd_1282 wp_38 wd_1280 (c_X12_enters hf e17) (r_recv X hw ct8 (o_300 hf)) rfl ⟨Nat.le_of_ble_eq_true rfl, Nat.le_of_ble_eq_true rfl⟩ ⟨Nat.le_refl _, Nat.le_refl _⟩ rfl rfl (Nat.le_of_ble_eq_true rfl) d_X12_words_148 (fun H locs hw => ?_)
        refine lv_iload_n hx hb d_X12_words_151 rfl (lv_at hl 1 rfl) ?_
        obtain rfl := Option.some.inj h
        subst hQ
        exact r_iret X hr hlk hw d_X12_words_152
    · have h := ite_t h hc
      refine lv_iconst (v := (-1 : Int32)) hx hb d_X12_words_25 (by decide) ?_
      obtain rfl := Option.some.inj h
      subst hQ
      exact r_iret X hr hlk hw d_X12_words_26
abbrev yX12_honest : MethodName := ⟨"OysterBedsModel", "honest", "()I"⟩
theorem mwX12_honest : MW yX12_honest prog_14_method_61_code 6 (some .int) 0 := ⟨wd_1363, wd_10, by decide +kernel⟩
theorem d_X12_honest_0 : decode prog_14_method_61_code 0 = .ok (.aload_n 0, 1) := by decide +kernel
theorem d_X12_honest_1 : decode prog_14_method_61_code 1 = .ok (.iconst 0, 1) := by decide +kernel
theorem d_X12_honest_2 : decode prog_14_method_61_code 2 = .ok (.putfield 87, 3) := by decide +kernel
theorem d_X12_honest_5 : decode prog_14_method_61_code 5 = .ok (.bipush (-2), 2) := by decide +kernel
theorem d_X12_honest_7 : decode prog_14_method_61_code 7 = .ok (.istore_n 1, 1) := by decide +kernel
theorem d_X12_honest_8 : decode prog_14_method_61_code 8 = .ok (.iconst 0, 1) := by decide +kernel
theorem d_X12_honest_9 : decode prog_14_method_61_code 9 = .ok (.istore_n 2, 1) := by decide +kernel
theorem d_X12_honest_10 : decode prog_14_method_61_code 10 = .ok (.iconst 0, 1) := by decide +kernel
theorem d_X12_honest_11 : decode prog_14_method_61_code 11 = .ok (.istore_n 3, 1) := by decide +kernel
theorem d_X12_honest_12 : decode prog_14_method_61_code 12 = .ok (.iload_n 3, 1) := by decide +kernel
theorem d_X12_honest_13 : decode prog_14_method_61_code 13 = .ok (.bipush 40, 2) := by decide +kernel
theorem d_X12_honest_15 : decode prog_14_method_61_code 15 = .ok (.if_icmp .ge 81, 3) := by decide +kernel
theorem d_X12_honest_18 : decode prog_14_method_61_code 18 = .ok (.iload_n 3, 1) := by decide +kernel
theorem d_X12_honest_19 : decode prog_14_method_61_code 19 = .ok (.bipush 10, 2) := by decide +kernel
theorem d_X12_honest_21 : decode prog_14_method_61_code 21 = .ok (.idiv, 1) := by decide +kernel
theorem d_X12_honest_22 : decode prog_14_method_61_code 22 = .ok (.istore 4, 2) := by decide +kernel
theorem d_X12_honest_24 : decode prog_14_method_61_code 24 = .ok (.aload_n 0, 1) := by decide +kernel
theorem d_X12_honest_25 : decode prog_14_method_61_code 25 = .ok (.aload_n 0, 1) := by decide +kernel
theorem d_X12_honest_26 : decode prog_14_method_61_code 26 = .ok (.getfield 17, 3) := by decide +kernel
theorem d_X12_honest_29 : decode prog_14_method_61_code 29 = .ok (.iload 4, 2) := by decide +kernel
theorem d_X12_honest_31 : decode prog_14_method_61_code 31 = .ok (.iload_n 3, 1) := by decide +kernel
theorem d_X12_honest_32 : decode prog_14_method_61_code 32 = .ok (.bipush 10, 2) := by decide +kernel
theorem d_X12_honest_34 : decode prog_14_method_61_code 34 = .ok (.irem, 1) := by decide +kernel
theorem d_X12_honest_35 : decode prog_14_method_61_code 35 = .ok (.invokevirtual 261, 3) := by decide +kernel
theorem d_X12_honest_38 : decode prog_14_method_61_code 38 = .ok (.aload_n 0, 1) := by decide +kernel
theorem d_X12_honest_39 : decode prog_14_method_61_code 39 = .ok (.aload_n 0, 1) := by decide +kernel
theorem d_X12_honest_40 : decode prog_14_method_61_code 40 = .ok (.getfield 17, 3) := by decide +kernel
theorem d_X12_honest_43 : decode prog_14_method_61_code 43 = .ok (.iload 4, 2) := by decide +kernel
theorem d_X12_honest_45 : decode prog_14_method_61_code 45 = .ok (.invokevirtual 310, 3) := by decide +kernel
theorem d_X12_honest_48 : decode prog_14_method_61_code 48 = .ok (.aload_n 0, 1) := by decide +kernel
theorem d_X12_honest_49 : decode prog_14_method_61_code 49 = .ok (.aload_n 0, 1) := by decide +kernel
theorem d_X12_honest_50 : decode prog_14_method_61_code 50 = .ok (.getfield 17, 3) := by decide +kernel
theorem d_X12_honest_53 : decode prog_14_method_61_code 53 = .ok (.invokevirtual 228, 3) := by decide +kernel
theorem d_X12_honest_56 : decode prog_14_method_61_code 56 = .ok (.iand, 1) := by decide +kernel
theorem d_X12_honest_57 : decode prog_14_method_61_code 57 = .ok (.if_icmp .ne 7, 3) := by decide +kernel
theorem d_X12_honest_60 : decode prog_14_method_61_code 60 = .ok (.iconst 1, 1) := by decide +kernel
theorem d_X12_honest_61 : decode prog_14_method_61_code 61 = .ok (.goto 4, 3) := by decide +kernel
theorem d_X12_honest_64 : decode prog_14_method_61_code 64 = .ok (.iconst 0, 1) := by decide +kernel
theorem d_X12_honest_65 : decode prog_14_method_61_code 65 = .ok (.istore 5, 2) := by decide +kernel
theorem d_X12_honest_67 : decode prog_14_method_61_code 67 = .ok (.iload 5, 2) := by decide +kernel
theorem d_X12_honest_69 : decode prog_14_method_61_code 69 = .ok (.ifCond .eq 11, 3) := by decide +kernel
theorem d_X12_honest_72 : decode prog_14_method_61_code 72 = .ok (.iload_n 2, 1) := by decide +kernel
theorem d_X12_honest_73 : decode prog_14_method_61_code 73 = .ok (.ifCond .ne 7, 3) := by decide +kernel
theorem d_X12_honest_76 : decode prog_14_method_61_code 76 = .ok (.iload_n 3, 1) := by decide +kernel
theorem d_X12_honest_77 : decode prog_14_method_61_code 77 = .ok (.goto 4, 3) := by decide +kernel
theorem d_X12_honest_80 : decode prog_14_method_61_code 80 = .ok (.iload_n 1, 1) := by decide +kernel
theorem d_X12_honest_81 : decode prog_14_method_61_code 81 = .ok (.istore_n 1, 1) := by decide +kernel
theorem d_X12_honest_82 : decode prog_14_method_61_code 82 = .ok (.iload_n 2, 1) := by decide +kernel
theorem d_X12_honest_83 : decode prog_14_method_61_code 83 = .ok (.iload 5, 2) := by decide +kernel
theorem d_X12_honest_85 : decode prog_14_method_61_code 85 = .ok (.invokestatic 135, 3) := by decide +kernel
theorem d_X12_honest_88 : decode prog_14_method_61_code 88 = .ok (.iadd, 1) := by decide +kernel
theorem d_X12_honest_89 : decode prog_14_method_61_code 89 = .ok (.istore_n 2, 1) := by decide +kernel
theorem d_X12_honest_90 : decode prog_14_method_61_code 90 = .ok (.iinc 3 1, 3) := by decide +kernel
theorem d_X12_honest_93 : decode prog_14_method_61_code 93 = .ok (.goto (-81), 3) := by decide +kernel
theorem d_X12_honest_96 : decode prog_14_method_61_code 96 = .ok (.iload_n 2, 1) := by decide +kernel
theorem d_X12_honest_97 : decode prog_14_method_61_code 97 = .ok (.ifCond .le 14, 3) := by decide +kernel
theorem d_X12_honest_100 : decode prog_14_method_61_code 100 = .ok (.aload_n 0, 1) := by decide +kernel
theorem d_X12_honest_101 : decode prog_14_method_61_code 101 = .ok (.iconst 0, 1) := by decide +kernel
theorem d_X12_honest_102 : decode prog_14_method_61_code 102 = .ok (.putfield 95, 3) := by decide +kernel
theorem d_X12_honest_105 : decode prog_14_method_61_code 105 = .ok (.aload_n 0, 1) := by decide +kernel
theorem d_X12_honest_106 : decode prog_14_method_61_code 106 = .ok (.iload_n 2, 1) := by decide +kernel
theorem d_X12_honest_107 : decode prog_14_method_61_code 107 = .ok (.i2l, 1) := by decide +kernel
theorem d_X12_honest_108 : decode prog_14_method_61_code 108 = .ok (.invokevirtual 98, 3) := by decide +kernel
theorem d_X12_honest_111 : decode prog_14_method_61_code 111 = .ok (.iload_n 1, 1) := by decide +kernel
theorem d_X12_honest_112 : decode prog_14_method_61_code 112 = .ok (.ireturn, 1) := by decide +kernel
def f_X12_honest_j81_12 (τ : St) (x2 : Int32) (x3 : Int32) (x5 : Int32) (s0 : Int32) : Option ((Int32 × Int32 × Int32 × St) ⊕ (Int32 × Int32 × St)) := (f_X12_flag x5).bind (fun q7 => some (.inl (s0, (x2 + q7), (x3 + (1 : Int32)), τ)))
def f_X12_honest_j65_12 (τ : St) (x1 : Int32) (x2 : Int32) (x3 : Int32) (s0 : Int32) : Option ((Int32 × Int32 × Int32 × St) ⊕ (Int32 × Int32 × St)) := f_X12_honest_j81_12 τ x2 x3 s0 (if s0 = 0 then x1 else (if x2 = 0 then x3 else x1))
def f_X12_honest_s12 (τ : St) (x1 : Int32) (x2 : Int32) (x3 : Int32) : Option ((Int32 × Int32 × Int32 × St) ⊕ (Int32 × Int32 × St)) := (if (40 : Int32) ≤ x3 then some (.inr (x1, x2, τ)) else (f_X12_closing τ 306 (x3 / (10 : Int32)) (x3 - x3 / (10 : Int32) * (10 : Int32))).bind (fun q1 => (f_X12_yesOf q1.2 306 (x3 / (10 : Int32))).bind (fun q3 => (f_X12_openOnes q1.2 306).bind (fun q5 => f_X12_honest_j65_12 q1.2 x1 x2 x3 (if q1.1 = (q3 &&& q5) then (1 : Int32) else (0 : Int32))))))
def f_X12_honest (σ : St) : Option (Int32 × St) := (iter (fun z => f_X12_honest_s12 z.2.2.2 z.1 z.2.1 z.2.2.1) FU ((-2 : Int32), (0 : Int32), (0 : Int32), (sF σ 300 0 (0 : Int32)))).bind (fun z9 => (if z9.2.1 ≤ 0 then some (z9.1, z9.2.2) else (f_X12_enters (sF z9.2.2 300 1 (0 : Int32)) (z9.2.1).toInt64).bind (fun q12 => some (z9.1, q12))))
theorem c_X12_honest {l : Launch} {G : gT} {χ σ : St} (hf : FW G) {q : Int32 × St} (h : f_X12_honest σ = some q) : Ct l G yX12_honest prog_14_method_61_code 6 (some .int) 4 91 [.ref (ga G 300)] χ σ (some (.int q.1)) χ q.2 := by
  refine Ct.of (by decide) (Nat.le_of_ble_eq_true rfl) ?_
  intro p e s m args below meth c Q X hr hlk hQ
  have hx := X.1
  have hb := X.2.1
  have j81_12 : ∀ (τ : St) (x2 : Int32) (x3 : Int32) (x5 : Int32) (s0 : Int32) (o : (Int32 × Int32 × Int32 × St) ⊕ (Int32 × Int32 × St)), f_X12_honest_j81_12 τ x2 x3 x5 s0 = some o → Sum.elim (fun z : Int32 × Int32 × Int32 × St => Wat p l e (rmk 4 91) s m args below meth c Q G 6 12 [] [(1, .int z.1), (2, .int z.2.1), (3, .int z.2.2.1), (0, .ref (ga G 300))] χ z.2.2.2) (fun z : Int32 × Int32 × St => Wat p l e (rmk 4 91) s m args below meth c Q G 6 96 [] [(0, .ref (ga G 300)), (1, .int z.1), (2, .int z.2.1)] χ z.2.2) o → Wat p l e (rmk 4 91) s m args below meth c Q G 6 81 [.int s0] [(0, .ref (ga G 300)), (2, .int x2), (3, .int x3), (5, .int x5)] χ τ := by
    intro τ x2 x3 x5 s0 o h hk H locs ls hw hl
    unfold f_X12_honest_j81_12 at h
    refine lv_istore_n (lv' := [(1, .int s0), (0, .ref (ga G 300)), (2, .int x2), (3, .int x3), (5, .int x5)]) hx hb d_X12_honest_81 rfl hl (Nat.le_of_ble_eq_true rfl) rfl (fun ls hl => ?_)
    refine lv_iload_n hx hb d_X12_honest_82 rfl (lv_at hl 2 rfl) ?_
    refine lv_iload hx hb d_X12_honest_83 (lv_at hl 4 rfl) ?_
    obtain ⟨q7, e8, h⟩ := bd_some h
    refine r_callS (As := [.int x5]) (rest := [.int x2]) (st' := [.int q7, .int x2]) X hw hl mwX12_flag wd_1180 wd_1179 (c_X12_flag hf e8) rfl ⟨Nat.le_of_ble_eq_true rfl, Nat.le_of_ble_eq_true rfl⟩ ⟨Nat.le_refl _, Nat.le_refl _⟩ rfl rfl (Nat.le_of_ble_eq_true rfl) d_X12_honest_85 (fun H locs hw => ?_)
    refine lv_iadd hx hb d_X12_honest_88 ?_
    refine lv_istore_n (lv' := [(2, .int (x2 + q7)), (1, .int s0), (0, .ref (ga G 300)), (3, .int x3), (5, .int x5)]) hx hb d_X12_honest_89 rfl hl (Nat.le_of_ble_eq_true rfl) rfl (fun ls hl => ?_)
    refine lv_iinc (v := (x3 + (1 : Int32))) (k := 3) (lv' := [(3, .int (x3 + (1 : Int32))), (2, .int (x2 + q7)), (1, .int s0), (0, .ref (ga G 300)), (5, .int x5)]) hx hb d_X12_honest_90 hl rfl (by rfl) (Nat.le_of_ble_eq_true rfl) rfl (fun ls hl => ?_)
    refine lv_goto (tgt := 12) hx hb d_X12_honest_93 (by decide) ?_
    obtain rfl := Option.some.inj h
    dsimp only [Sum.elim_inl] at hk
    exact hk _ _ _ hw (lv_sub hl [2, 1, 0, 3] rfl)
  have j65_12 : ∀ (τ : St) (x1 : Int32) (x2 : Int32) (x3 : Int32) (s0 : Int32) (o : (Int32 × Int32 × Int32 × St) ⊕ (Int32 × Int32 × St)), f_X12_honest_j65_12 τ x1 x2 x3 s0 = some o → Sum.elim (fun z : Int32 × Int32 × Int32 × St => Wat p l e (rmk 4 91) s m args below meth c Q G 6 12 [] [(1, .int z.1), (2, .int z.2.1), (3, .int z.2.2.1), (0, .ref (ga G 300))] χ z.2.2.2) (fun z : Int32 × Int32 × St => Wat p l e (rmk 4 91) s m args below meth c Q G 6 96 [] [(0, .ref (ga G 300)), (1, .int z.1), (2, .int z.2.1)] χ z.2.2) o → Wat p l e (rmk 4 91) s m args below meth c Q G 6 65 [.int s0] [(0, .ref (ga G 300)), (1, .int x1), (2, .int x2), (3, .int x3)] χ τ := by
    intro τ x1 x2 x3 s0 o h hk H locs ls hw hl
    unfold f_X12_honest_j65_12 at h
    refine lv_istore (lv' := [(5, .int s0), (0, .ref (ga G 300)), (1, .int x1), (2, .int x2), (3, .int x3)]) hx hb d_X12_honest_65 hl (Nat.le_of_ble_eq_true rfl) rfl (fun ls hl => ?_)
    refine lv_iload hx hb d_X12_honest_67 (lv_at hl 0 rfl) ?_
    refine lv_if_eq (tgt := 80) hx hb d_X12_honest_69 (by decide) (fun hc => ?_) (fun hc => ?_)
    · simp only [if_pos hc] at h
      refine lv_iload_n hx hb d_X12_honest_80 rfl (lv_at hl 2 rfl) ?_
      exact j81_12 τ x2 x3 s0 x1 o h hk _ _ _ hw (lv_sub hl [1, 3, 4, 0] rfl)
    · simp only [if_neg hc] at h
      refine lv_iload_n hx hb d_X12_honest_72 rfl (lv_at hl 3 rfl) ?_
      refine lv_if_ne (tgt := 80) hx hb d_X12_honest_73 (by decide) (fun hc => ?_) (fun hc => ?_)
      · simp only [if_neg hc] at h
        refine lv_iload_n hx hb d_X12_honest_80 rfl (lv_at hl 2 rfl) ?_
        exact j81_12 τ x2 x3 s0 x1 o h hk _ _ _ hw (lv_sub hl [1, 3, 4, 0] rfl)
      · simp only [if_pos hc] at h
        refine lv_iload_n hx hb d_X12_honest_76 rfl (lv_at hl 4 rfl) ?_
        refine lv_goto (tgt := 81) hx hb d_X12_honest_77 (by decide) ?_
        exact j81_12 τ x2 x3 s0 x3 o h hk _ _ _ hw (lv_sub hl [1, 3, 4, 0] rfl)
  have b12 : ∀ (τ : St) (x1 : Int32) (x2 : Int32) (x3 : Int32) (o : (Int32 × Int32 × Int32 × St) ⊕ (Int32 × Int32 × St)), f_X12_honest_s12 τ x1 x2 x3 = some o → Sum.elim (fun z : Int32 × Int32 × Int32 × St => Wat p l e (rmk 4 91) s m args below meth c Q G 6 12 [] [(1, .int z.1), (2, .int z.2.1), (3, .int z.2.2.1), (0, .ref (ga G 300))] χ z.2.2.2) (fun z : Int32 × Int32 × St => Wat p l e (rmk 4 91) s m args below meth c Q G 6 96 [] [(0, .ref (ga G 300)), (1, .int z.1), (2, .int z.2.1)] χ z.2.2) o → Wat p l e (rmk 4 91) s m args below meth c Q G 6 12 [] [(1, .int x1), (2, .int x2), (3, .int x3), (0, .ref (ga G 300))] χ τ := by
    intro τ x1 x2 x3 o h hk H locs ls hw hl
    unfold f_X12_honest_s12 at h
    refine lv_iload_n hx hb d_X12_honest_12 rfl (lv_at hl 2 rfl) ?_
    refine lv_bipush (v := (40 : Int32)) hx hb d_X12_honest_13 (by decide) ?_
    refine lv_icmp_ge (tgt := 96) hx hb d_X12_honest_15 (by decide) (fun hc => ?_) (fun hc => ?_)
    · have h := ite_t h hc
      obtain rfl := Option.some.inj h
      dsimp only [Sum.elim_inr] at hk
      exact hk _ _ _ hw (lv_sub hl [3, 0, 1] rfl)
    · have h := ite_f h hc
      refine lv_iload_n hx hb d_X12_honest_18 rfl (lv_at hl 2 rfl) ?_
      refine lv_bipush (v := (10 : Int32)) hx hb d_X12_honest_19 (by decide) ?_
      refine lv_idiv hx hb d_X12_honest_21 (by decide) ?_
      refine lv_istore (lv' := [(4, .int (x3 / (10 : Int32))), (1, .int x1), (2, .int x2), (3, .int x3), (0, .ref (ga G 300))]) hx hb d_X12_honest_22 hl (Nat.le_of_ble_eq_true rfl) rfl (fun ls hl => ?_)
      refine lv_aload_n hx hb d_X12_honest_24 rfl (lv_at hl 4 rfl) ?_
      refine lv_aload_n hx hb d_X12_honest_25 rfl (lv_at hl 4 rfl) ?_
      refine r_getr (j := 6) X hw ct8 (o_300 hf) rfl (Nat.le_of_ble_eq_true rfl) (q := 306) rfl wd_962 d_X12_honest_26 ?_
      refine lv_iload hx hb d_X12_honest_29 (lv_at hl 0 rfl) ?_
      refine lv_iload_n hx hb d_X12_honest_31 rfl (lv_at hl 3 rfl) ?_
      refine lv_bipush (v := (10 : Int32)) hx hb d_X12_honest_32 (by decide) ?_
      refine lv_irem hx hb d_X12_honest_34 (by decide) ?_
      obtain ⟨q1, e2, h⟩ := bd_some h
      refine r_callV (As := [.ref (ga G 306), .int (x3 / (10 : Int32)), .int (x3 - x3 / (10 : Int32) * (10 : Int32))]) (rest := []) (st' := [.int q1.1]) X hw hl mwX12_closing wd_1259 wp_34 wd_1257 (c_X12_closing hf (o_306 hf) (Nat.le_of_ble_eq_true rfl) e2) (r_recv X hw ct8 (o_300 hf)) rfl ⟨Nat.le_of_ble_eq_true rfl, Nat.le_of_ble_eq_true rfl⟩ ⟨Nat.le_refl _, Nat.le_refl _⟩ rfl rfl (Nat.le_of_ble_eq_true rfl) d_X12_honest_35 (fun H locs hw => ?_)
      refine lv_aload_n hx hb d_X12_honest_38 rfl (lv_at hl 4 rfl) ?_
      refine lv_aload_n hx hb d_X12_honest_39 rfl (lv_at hl 4 rfl) ?_
      refine r_getr (j := 6) X hw ct8 (o_300 hf) rfl (Nat.le_of_ble_eq_true rfl) (q := 306) rfl wd_962 d_X12_honest_40 ?_
      refine lv_iload hx hb d_X12_honest_43 (lv_at hl 0 rfl) ?_
      obtain ⟨q3, e4, h⟩ := bd_some h
      refine r_callV (As := [.ref (ga G 306), .int (x3 / (10 : Int32))]) (rest := [.int q1.1]) (st' := [.int q3, .int q1.1]) X hw hl mwX12_yesOf wd_1353 wp_49 wd_1351 (c_X12_yesOf hf (o_306 hf) (Nat.le_of_ble_eq_true rfl) e4) (r_recv X hw ct8 (o_300 hf)) rfl ⟨Nat.le_of_ble_eq_true rfl, Nat.le_of_ble_eq_true rfl⟩ ⟨Nat.le_refl _, Nat.le_refl _⟩ rfl rfl (Nat.le_of_ble_eq_true rfl) d_X12_honest_45 (fun H locs hw => ?_)
      refine lv_aload_n hx hb d_X12_honest_48 rfl (lv_at hl 4 rfl) ?_
      refine lv_aload_n hx hb d_X12_honest_49 rfl (lv_at hl 4 rfl) ?_
      refine r_getr (j := 6) X hw ct8 (o_300 hf) rfl (Nat.le_of_ble_eq_true rfl) (q := 306) rfl wd_962 d_X12_honest_50 ?_
      obtain ⟨q5, e6, h⟩ := bd_some h
      refine r_callV (As := [.ref (ga G 306)]) (rest := [.int q3, .int q1.1]) (st' := [.int q5, .int q3, .int q1.1]) X hw hl mwX12_openOnes wd_1263 wp_35 wd_1261 (c_X12_openOnes hf (o_306 hf) (Nat.le_of_ble_eq_true rfl) e6) (r_recv X hw ct8 (o_300 hf)) rfl ⟨Nat.le_of_ble_eq_true rfl, Nat.le_of_ble_eq_true rfl⟩ ⟨Nat.le_refl _, Nat.le_refl _⟩ rfl rfl (Nat.le_of_ble_eq_true rfl) d_X12_honest_53 (fun H locs hw => ?_)
      refine lv_iand hx hb d_X12_honest_56 ?_
      refine lv_icmp_ne (tgt := 64) hx hb d_X12_honest_57 (by decide) (fun hc => ?_) (fun hc => ?_)
      · simp only [if_neg hc] at h
        refine lv_iconst (v := (0 : Int32)) hx hb d_X12_honest_64 (by decide) ?_
        exact j65_12 q1.2 x1 x2 x3 (0 : Int32) o h hk _ _ _ hw (lv_sub hl [4, 1, 2, 3] rfl)
      · simp only [if_pos hc] at h
        refine lv_iconst (v := (1 : Int32)) hx hb d_X12_honest_60 (by decide) ?_
        refine lv_goto (tgt := 65) hx hb d_X12_honest_61 (by decide) ?_
        exact j65_12 q1.2 x1 x2 x3 (1 : Int32) o h hk _ _ _ hw (lv_sub hl [4, 1, 2, 3] rfl)
  intro H locs ls hw hl
  have hl : lv_has ls 6 [(0, .ref (ga G 300))] := hl
  unfold f_X12_honest at h
  refine lv_aload_n hx hb d_X12_honest_0 rfl (lv_at hl 0 rfl) ?_
  refine lv_iconst (v := (0 : Int32)) hx hb d_X12_honest_1 (by decide) ?_
  refine m_puti (j := 0) X hw ct8 (o_300 hf) (Nat.le_of_ble_eq_true rfl) rfl (Nat.le_of_ble_eq_true rfl) rfl rfl rfl wd_956 d_X12_honest_2 (fun H locs hw => ?_)
  refine lv_bipush (v := (-2 : Int32)) hx hb d_X12_honest_5 (by decide) ?_
  refine lv_istore_n (lv' := [(1, .int (-2 : Int32)), (0, .ref (ga G 300))]) hx hb d_X12_honest_7 rfl hl (Nat.le_of_ble_eq_true rfl) rfl (fun ls hl => ?_)
  refine lv_iconst (v := (0 : Int32)) hx hb d_X12_honest_8 (by decide) ?_
  refine lv_istore_n (lv' := [(2, .int (0 : Int32)), (1, .int (-2 : Int32)), (0, .ref (ga G 300))]) hx hb d_X12_honest_9 rfl hl (Nat.le_of_ble_eq_true rfl) rfl (fun ls hl => ?_)
  refine lv_iconst (v := (0 : Int32)) hx hb d_X12_honest_10 (by decide) ?_
  refine lv_istore_n (lv' := [(3, .int (0 : Int32)), (2, .int (0 : Int32)), (1, .int (-2 : Int32)), (0, .ref (ga G 300))]) hx hb d_X12_honest_11 rfl hl (Nat.le_of_ble_eq_true rfl) rfl (fun ls hl => ?_)
  obtain ⟨z9, e10, h⟩ := bd_some h
  refine iter_w (Wh := fun z : Int32 × Int32 × Int32 × St => Wat p l e (rmk 4 91) s m args below meth c Q G 6 12 [] [(1, .int z.1), (2, .int z.2.1), (3, .int z.2.2.1), (0, .ref (ga G 300))] χ z.2.2.2) (K := fun z : Int32 × Int32 × St => Wat p l e (rmk 4 91) s m args below meth c Q G 6 96 [] [(0, .ref (ga G 300)), (1, .int z.1), (2, .int z.2.1)] χ z.2.2) (fun z o h1 h2 => b12 z.2.2.2 z.1 z.2.1 z.2.2.1 o h1 h2) FU _ _ e10 ?_ _ _ _ hw (lv_sub hl [2, 1, 0, 3] rfl)
  intro H locs ls hw hl
  refine lv_iload_n hx hb d_X12_honest_96 rfl (lv_at hl 2 rfl) ?_
  refine lv_if_le (tgt := 111) hx hb d_X12_honest_97 (by decide) (fun hc => ?_) (fun hc => ?_)
  · have h := ite_t h hc
    refine lv_iload_n hx hb d_X12_honest_111 rfl (lv_at hl 1 rfl) ?_
    obtain rfl := Option.some.inj h
    subst hQ
    exact r_iret X hr hlk hw d_X12_honest_112
  · have h := ite_f h hc
    refine lv_aload_n hx hb d_X12_honest_100 rfl (lv_at hl 0 rfl) ?_
    refine lv_iconst (v := (0 : Int32)) hx hb d_X12_honest_101 (by decide) ?_
    refine m_puti (j := 1) X hw ct8 (o_300 hf) (Nat.le_of_ble_eq_true rfl) rfl (Nat.le_of_ble_eq_true rfl) rfl rfl rfl wd_957 d_X12_honest_102 (fun H locs hw => ?_)
    refine lv_aload_n hx hb d_X12_honest_105 rfl (lv_at hl 0 rfl) ?_
    refine lv_iload_n hx hb d_X12_honest_106 rfl (lv_at hl 2 rfl) ?_
    refine lv_i2l hx hb d_X12_honest_107 rfl ?_
    obtain ⟨q12, e13, h⟩ := bd_some h
    refine r_callV (As := [.long (z9.2.1).toInt64]) (rest := []) (st' := []) X hw hl mwX12_enters wd_1282 wp_38 wd_1280 (c_X12_enters hf e13) (r_recv X hw ct8 (o_300 hf)) rfl ⟨Nat.le_of_ble_eq_true rfl, Nat.le_of_ble_eq_true rfl⟩ ⟨Nat.le_refl _, Nat.le_refl _⟩ rfl rfl (Nat.le_of_ble_eq_true rfl) d_X12_honest_108 (fun H locs hw => ?_)
    refine lv_iload_n hx hb d_X12_honest_111 rfl (lv_at hl 1 rfl) ?_
    obtain rfl := Option.some.inj h
    subst hQ
    exact r_iret X hr hlk hw d_X12_honest_112
abbrev yX12_loudest : MethodName := ⟨"OysterBedsModel", "loudest", "()I"⟩
theorem mwX12_loudest : MW yX12_loudest prog_14_method_62_code 6 (some .int) 0 := ⟨wd_1367, wd_10, by decide +kernel⟩
theorem d_X12_loudest_0 : decode prog_14_method_62_code 0 = .ok (.aload_n 0, 1) := by decide +kernel
theorem d_X12_loudest_1 : decode prog_14_method_62_code 1 = .ok (.iconst 0, 1) := by decide +kernel
theorem d_X12_loudest_2 : decode prog_14_method_62_code 2 = .ok (.putfield 87, 3) := by decide +kernel
theorem d_X12_loudest_5 : decode prog_14_method_62_code 5 = .ok (.iconst 0, 1) := by decide +kernel
theorem d_X12_loudest_6 : decode prog_14_method_62_code 6 = .ok (.istore_n 1, 1) := by decide +kernel
theorem d_X12_loudest_7 : decode prog_14_method_62_code 7 = .ok (.iconst (-1), 1) := by decide +kernel
theorem d_X12_loudest_8 : decode prog_14_method_62_code 8 = .ok (.istore_n 2, 1) := by decide +kernel
theorem d_X12_loudest_9 : decode prog_14_method_62_code 9 = .ok (.ldc_w 315, 3) := by decide +kernel
theorem d_X12_loudest_12 : decode prog_14_method_62_code 12 = .ok (.istore_n 3, 1) := by decide +kernel
theorem d_X12_loudest_13 : decode prog_14_method_62_code 13 = .ok (.iconst 0, 1) := by decide +kernel
theorem d_X12_loudest_14 : decode prog_14_method_62_code 14 = .ok (.istore 4, 2) := by decide +kernel
theorem d_X12_loudest_16 : decode prog_14_method_62_code 16 = .ok (.iload 4, 2) := by decide +kernel
theorem d_X12_loudest_18 : decode prog_14_method_62_code 18 = .ok (.bipush 40, 2) := by decide +kernel
theorem d_X12_loudest_20 : decode prog_14_method_62_code 20 = .ok (.if_icmp .ge 59, 3) := by decide +kernel
theorem d_X12_loudest_23 : decode prog_14_method_62_code 23 = .ok (.aload_n 0, 1) := by decide +kernel
theorem d_X12_loudest_24 : decode prog_14_method_62_code 24 = .ok (.aload_n 0, 1) := by decide +kernel
theorem d_X12_loudest_25 : decode prog_14_method_62_code 25 = .ok (.getfield 17, 3) := by decide +kernel
theorem d_X12_loudest_28 : decode prog_14_method_62_code 28 = .ok (.iload 4, 2) := by decide +kernel
theorem d_X12_loudest_30 : decode prog_14_method_62_code 30 = .ok (.bipush 10, 2) := by decide +kernel
theorem d_X12_loudest_32 : decode prog_14_method_62_code 32 = .ok (.idiv, 1) := by decide +kernel
theorem d_X12_loudest_33 : decode prog_14_method_62_code 33 = .ok (.iload 4, 2) := by decide +kernel
theorem d_X12_loudest_35 : decode prog_14_method_62_code 35 = .ok (.bipush 10, 2) := by decide +kernel
theorem d_X12_loudest_37 : decode prog_14_method_62_code 37 = .ok (.irem, 1) := by decide +kernel
theorem d_X12_loudest_38 : decode prog_14_method_62_code 38 = .ok (.invokevirtual 261, 3) := by decide +kernel
theorem d_X12_loudest_41 : decode prog_14_method_62_code 41 = .ok (.invokestatic 235, 3) := by decide +kernel
theorem d_X12_loudest_44 : decode prog_14_method_62_code 44 = .ok (.istore 5, 2) := by decide +kernel
theorem d_X12_loudest_46 : decode prog_14_method_62_code 46 = .ok (.iload 5, 2) := by decide +kernel
theorem d_X12_loudest_48 : decode prog_14_method_62_code 48 = .ok (.iload_n 2, 1) := by decide +kernel
theorem d_X12_loudest_49 : decode prog_14_method_62_code 49 = .ok (.if_icmp .le 8, 3) := by decide +kernel
theorem d_X12_loudest_52 : decode prog_14_method_62_code 52 = .ok (.iload 4, 2) := by decide +kernel
theorem d_X12_loudest_54 : decode prog_14_method_62_code 54 = .ok (.goto 4, 3) := by decide +kernel
theorem d_X12_loudest_57 : decode prog_14_method_62_code 57 = .ok (.iload_n 1, 1) := by decide +kernel
theorem d_X12_loudest_58 : decode prog_14_method_62_code 58 = .ok (.istore_n 1, 1) := by decide +kernel
theorem d_X12_loudest_59 : decode prog_14_method_62_code 59 = .ok (.iload_n 2, 1) := by decide +kernel
theorem d_X12_loudest_60 : decode prog_14_method_62_code 60 = .ok (.iload 5, 2) := by decide +kernel
theorem d_X12_loudest_62 : decode prog_14_method_62_code 62 = .ok (.invokestatic 251, 3) := by decide +kernel
theorem d_X12_loudest_65 : decode prog_14_method_62_code 65 = .ok (.istore_n 2, 1) := by decide +kernel
theorem d_X12_loudest_66 : decode prog_14_method_62_code 66 = .ok (.iload_n 3, 1) := by decide +kernel
theorem d_X12_loudest_67 : decode prog_14_method_62_code 67 = .ok (.iload 5, 2) := by decide +kernel
theorem d_X12_loudest_69 : decode prog_14_method_62_code 69 = .ok (.invokestatic 126, 3) := by decide +kernel
theorem d_X12_loudest_72 : decode prog_14_method_62_code 72 = .ok (.istore_n 3, 1) := by decide +kernel
theorem d_X12_loudest_73 : decode prog_14_method_62_code 73 = .ok (.iinc 4 1, 3) := by decide +kernel
theorem d_X12_loudest_76 : decode prog_14_method_62_code 76 = .ok (.goto (-60), 3) := by decide +kernel
theorem d_X12_loudest_79 : decode prog_14_method_62_code 79 = .ok (.aload_n 0, 1) := by decide +kernel
theorem d_X12_loudest_80 : decode prog_14_method_62_code 80 = .ok (.iconst 0, 1) := by decide +kernel
theorem d_X12_loudest_81 : decode prog_14_method_62_code 81 = .ok (.putfield 95, 3) := by decide +kernel
theorem d_X12_loudest_84 : decode prog_14_method_62_code 84 = .ok (.aload_n 0, 1) := by decide +kernel
theorem d_X12_loudest_85 : decode prog_14_method_62_code 85 = .ok (.iload_n 2, 1) := by decide +kernel
theorem d_X12_loudest_86 : decode prog_14_method_62_code 86 = .ok (.i2l, 1) := by decide +kernel
theorem d_X12_loudest_87 : decode prog_14_method_62_code 87 = .ok (.invokevirtual 98, 3) := by decide +kernel
theorem d_X12_loudest_90 : decode prog_14_method_62_code 90 = .ok (.aload_n 0, 1) := by decide +kernel
theorem d_X12_loudest_91 : decode prog_14_method_62_code 91 = .ok (.iload_n 3, 1) := by decide +kernel
theorem d_X12_loudest_92 : decode prog_14_method_62_code 92 = .ok (.i2l, 1) := by decide +kernel
theorem d_X12_loudest_93 : decode prog_14_method_62_code 93 = .ok (.invokevirtual 98, 3) := by decide +kernel
theorem d_X12_loudest_96 : decode prog_14_method_62_code 96 = .ok (.iload_n 1, 1) := by decide +kernel
theorem d_X12_loudest_97 : decode prog_14_method_62_code 97 = .ok (.ireturn, 1) := by decide +kernel
def f_X12_loudest_j58_16 (τ : St) (x2 : Int32) (x3 : Int32) (x4 : Int32) (x5 : Int32) (s0 : Int32) : Option ((Int32 × Int32 × Int32 × Int32 × St) ⊕ (Int32 × Int32 × Int32 × St)) := some (.inl (s0, (if x2 < x5 then x5 else x2), (if x5 < x3 then x5 else x3), (x4 + (1 : Int32)), τ))
def f_X12_loudest_s16 (τ : St) (x1 : Int32) (x2 : Int32) (x3 : Int32) (x4 : Int32) : Option ((Int32 × Int32 × Int32 × Int32 × St) ⊕ (Int32 × Int32 × Int32 × St)) := (if (40 : Int32) ≤ x4 then some (.inr (x1, x2, x3, τ)) else (f_X12_closing τ 306 (x4 / (10 : Int32)) (x4 - x4 / (10 : Int32) * (10 : Int32))).bind (fun q1 => (f_J6_bitCount_0f7a4 q1.1).bind (fun q3 => f_X12_loudest_j58_16 q1.2 x2 x3 x4 q3 (if q3 ≤ x2 then x1 else x4))))
def f_X12_loudest (σ : St) : Option (Int32 × St) := (iter (fun z => f_X12_loudest_s16 z.2.2.2.2 z.1 z.2.1 z.2.2.1 z.2.2.2.1) FU ((0 : Int32), (-1 : Int32), (1000000 : Int32), (0 : Int32), (sF σ 300 0 (0 : Int32)))).bind (fun z5 => (f_X12_enters (sF z5.2.2.2 300 1 (0 : Int32)) (z5.2.1).toInt64).bind (fun q8 => (f_X12_enters q8 (z5.2.2.1).toInt64).bind (fun q10 => some (z5.1, q10))))
theorem c_X12_loudest {l : Launch} {G : gT} {χ σ : St} (hf : FW G) {q : Int32 × St} (h : f_X12_loudest σ = some q) : Ct l G yX12_loudest prog_14_method_62_code 6 (some .int) 4 91 [.ref (ga G 300)] χ σ (some (.int q.1)) χ q.2 := by
  refine Ct.of (by decide) (Nat.le_of_ble_eq_true rfl) ?_
  intro p e s m args below meth c Q X hr hlk hQ
  have hx := X.1
  have hb := X.2.1
  have j58_16 : ∀ (τ : St) (x2 : Int32) (x3 : Int32) (x4 : Int32) (x5 : Int32) (s0 : Int32) (o : (Int32 × Int32 × Int32 × Int32 × St) ⊕ (Int32 × Int32 × Int32 × St)), f_X12_loudest_j58_16 τ x2 x3 x4 x5 s0 = some o → Sum.elim (fun z : Int32 × Int32 × Int32 × Int32 × St => Wat p l e (rmk 4 91) s m args below meth c Q G 6 16 [] [(1, .int z.1), (2, .int z.2.1), (3, .int z.2.2.1), (4, .int z.2.2.2.1), (0, .ref (ga G 300))] χ z.2.2.2.2) (fun z : Int32 × Int32 × Int32 × St => Wat p l e (rmk 4 91) s m args below meth c Q G 6 79 [] [(0, .ref (ga G 300)), (1, .int z.1), (2, .int z.2.1), (3, .int z.2.2.1)] χ z.2.2.2) o → Wat p l e (rmk 4 91) s m args below meth c Q G 6 58 [.int s0] [(0, .ref (ga G 300)), (2, .int x2), (3, .int x3), (4, .int x4), (5, .int x5)] χ τ := by
    intro τ x2 x3 x4 x5 s0 o h hk H locs ls hw hl
    unfold f_X12_loudest_j58_16 at h
    refine lv_istore_n (lv' := [(1, .int s0), (0, .ref (ga G 300)), (2, .int x2), (3, .int x3), (4, .int x4), (5, .int x5)]) hx hb d_X12_loudest_58 rfl hl (Nat.le_of_ble_eq_true rfl) rfl (fun ls hl => ?_)
    refine lv_iload_n hx hb d_X12_loudest_59 rfl (lv_at hl 2 rfl) ?_
    refine lv_iload hx hb d_X12_loudest_60 (lv_at hl 5 rfl) ?_
    refine r_max X hl wd_1232 ⟨Nat.le_of_ble_eq_true rfl, Nat.le_of_ble_eq_true rfl⟩ ⟨Nat.le_refl _, Nat.le_refl _⟩ d_X12_loudest_62 ?_
    refine lv_istore_n (lv' := [(2, .int (if x2 < x5 then x5 else x2)), (1, .int s0), (0, .ref (ga G 300)), (3, .int x3), (4, .int x4), (5, .int x5)]) hx hb d_X12_loudest_65 rfl hl (Nat.le_of_ble_eq_true rfl) rfl (fun ls hl => ?_)
    refine lv_iload_n hx hb d_X12_loudest_66 rfl (lv_at hl 3 rfl) ?_
    refine lv_iload hx hb d_X12_loudest_67 (lv_at hl 5 rfl) ?_
    refine r_min X hl wd_1103 ⟨Nat.le_of_ble_eq_true rfl, Nat.le_of_ble_eq_true rfl⟩ ⟨Nat.le_refl _, Nat.le_refl _⟩ d_X12_loudest_69 ?_
    refine lv_istore_n (lv' := [(3, .int (if x5 < x3 then x5 else x3)), (2, .int (if x2 < x5 then x5 else x2)), (1, .int s0), (0, .ref (ga G 300)), (4, .int x4), (5, .int x5)]) hx hb d_X12_loudest_72 rfl hl (Nat.le_of_ble_eq_true rfl) rfl (fun ls hl => ?_)
    refine lv_iinc (v := (x4 + (1 : Int32))) (k := 4) (lv' := [(4, .int (x4 + (1 : Int32))), (3, .int (if x5 < x3 then x5 else x3)), (2, .int (if x2 < x5 then x5 else x2)), (1, .int s0), (0, .ref (ga G 300)), (5, .int x5)]) hx hb d_X12_loudest_73 hl rfl (by rfl) (Nat.le_of_ble_eq_true rfl) rfl (fun ls hl => ?_)
    refine lv_goto (tgt := 16) hx hb d_X12_loudest_76 (by decide) ?_
    obtain rfl := Option.some.inj h
    dsimp only [Sum.elim_inl] at hk
    exact hk _ _ _ hw (lv_sub hl [3, 2, 1, 0, 4] rfl)
  have b16 : ∀ (τ : St) (x1 : Int32) (x2 : Int32) (x3 : Int32) (x4 : Int32) (o : (Int32 × Int32 × Int32 × Int32 × St) ⊕ (Int32 × Int32 × Int32 × St)), f_X12_loudest_s16 τ x1 x2 x3 x4 = some o → Sum.elim (fun z : Int32 × Int32 × Int32 × Int32 × St => Wat p l e (rmk 4 91) s m args below meth c Q G 6 16 [] [(1, .int z.1), (2, .int z.2.1), (3, .int z.2.2.1), (4, .int z.2.2.2.1), (0, .ref (ga G 300))] χ z.2.2.2.2) (fun z : Int32 × Int32 × Int32 × St => Wat p l e (rmk 4 91) s m args below meth c Q G 6 79 [] [(0, .ref (ga G 300)), (1, .int z.1), (2, .int z.2.1), (3, .int z.2.2.1)] χ z.2.2.2) o → Wat p l e (rmk 4 91) s m args below meth c Q G 6 16 [] [(1, .int x1), (2, .int x2), (3, .int x3), (4, .int x4), (0, .ref (ga G 300))] χ τ := by
    intro τ x1 x2 x3 x4 o h hk H locs ls hw hl
    unfold f_X12_loudest_s16 at h
    refine lv_iload hx hb d_X12_loudest_16 (lv_at hl 3 rfl) ?_
    refine lv_bipush (v := (40 : Int32)) hx hb d_X12_loudest_18 (by decide) ?_
    refine lv_icmp_ge (tgt := 79) hx hb d_X12_loudest_20 (by decide) (fun hc => ?_) (fun hc => ?_)
    · have h := ite_t h hc
      obtain rfl := Option.some.inj h
      dsimp only [Sum.elim_inr] at hk
      exact hk _ _ _ hw (lv_sub hl [4, 0, 1, 2] rfl)
    · have h := ite_f h hc
      refine lv_aload_n hx hb d_X12_loudest_23 rfl (lv_at hl 4 rfl) ?_
      refine lv_aload_n hx hb d_X12_loudest_24 rfl (lv_at hl 4 rfl) ?_
      refine r_getr (j := 6) X hw ct8 (o_300 hf) rfl (Nat.le_of_ble_eq_true rfl) (q := 306) rfl wd_962 d_X12_loudest_25 ?_
      refine lv_iload hx hb d_X12_loudest_28 (lv_at hl 3 rfl) ?_
      refine lv_bipush (v := (10 : Int32)) hx hb d_X12_loudest_30 (by decide) ?_
      refine lv_idiv hx hb d_X12_loudest_32 (by decide) ?_
      refine lv_iload hx hb d_X12_loudest_33 (lv_at hl 3 rfl) ?_
      refine lv_bipush (v := (10 : Int32)) hx hb d_X12_loudest_35 (by decide) ?_
      refine lv_irem hx hb d_X12_loudest_37 (by decide) ?_
      obtain ⟨q1, e2, h⟩ := bd_some h
      refine r_callV (As := [.ref (ga G 306), .int (x4 / (10 : Int32)), .int (x4 - x4 / (10 : Int32) * (10 : Int32))]) (rest := []) (st' := [.int q1.1]) X hw hl mwX12_closing wd_1259 wp_34 wd_1257 (c_X12_closing hf (o_306 hf) (Nat.le_of_ble_eq_true rfl) e2) (r_recv X hw ct8 (o_300 hf)) rfl ⟨Nat.le_of_ble_eq_true rfl, Nat.le_of_ble_eq_true rfl⟩ ⟨Nat.le_refl _, Nat.le_refl _⟩ rfl rfl (Nat.le_of_ble_eq_true rfl) d_X12_loudest_38 (fun H locs hw => ?_)
      obtain ⟨q3, e4, h⟩ := bd_some h
      refine r_callS (As := [.int q1.1]) (rest := []) (st' := [.int q3]) X hw hl mwJ6_bitCount_0f7a4 wd_436 wd_1272 (c_J6_bitCount_0f7a4 e4) rfl ⟨Nat.le_of_ble_eq_true rfl, Nat.le_of_ble_eq_true rfl⟩ ⟨Nat.le_refl _, Nat.le_refl _⟩ rfl rfl (Nat.le_of_ble_eq_true rfl) d_X12_loudest_41 (fun H locs hw => ?_)
      refine lv_istore (lv' := [(5, .int q3), (1, .int x1), (2, .int x2), (3, .int x3), (4, .int x4), (0, .ref (ga G 300))]) hx hb d_X12_loudest_44 hl (Nat.le_of_ble_eq_true rfl) rfl (fun ls hl => ?_)
      refine lv_iload hx hb d_X12_loudest_46 (lv_at hl 0 rfl) ?_
      refine lv_iload_n hx hb d_X12_loudest_48 rfl (lv_at hl 2 rfl) ?_
      refine lv_icmp_le (tgt := 57) hx hb d_X12_loudest_49 (by decide) (fun hc => ?_) (fun hc => ?_)
      · simp only [if_pos hc] at h
        refine lv_iload_n hx hb d_X12_loudest_57 rfl (lv_at hl 1 rfl) ?_
        exact j58_16 q1.2 x2 x3 x4 q3 x1 o h hk _ _ _ hw (lv_sub hl [5, 2, 3, 4, 0] rfl)
      · simp only [if_neg hc] at h
        refine lv_iload hx hb d_X12_loudest_52 (lv_at hl 4 rfl) ?_
        refine lv_goto (tgt := 58) hx hb d_X12_loudest_54 (by decide) ?_
        exact j58_16 q1.2 x2 x3 x4 q3 x4 o h hk _ _ _ hw (lv_sub hl [5, 2, 3, 4, 0] rfl)
  intro H locs ls hw hl
  have hl : lv_has ls 6 [(0, .ref (ga G 300))] := hl
  unfold f_X12_loudest at h
  refine lv_aload_n hx hb d_X12_loudest_0 rfl (lv_at hl 0 rfl) ?_
  refine lv_iconst (v := (0 : Int32)) hx hb d_X12_loudest_1 (by decide) ?_
  refine m_puti (j := 0) X hw ct8 (o_300 hf) (Nat.le_of_ble_eq_true rfl) rfl (Nat.le_of_ble_eq_true rfl) rfl rfl rfl wd_956 d_X12_loudest_2 (fun H locs hw => ?_)
  refine lv_iconst (v := (0 : Int32)) hx hb d_X12_loudest_5 (by decide) ?_
  refine lv_istore_n (lv' := [(1, .int (0 : Int32)), (0, .ref (ga G 300))]) hx hb d_X12_loudest_6 rfl hl (Nat.le_of_ble_eq_true rfl) rfl (fun ls hl => ?_)
  refine lv_iconst (v := (-1 : Int32)) hx hb d_X12_loudest_7 (by decide) ?_
  refine lv_istore_n (lv' := [(2, .int (-1 : Int32)), (1, .int (0 : Int32)), (0, .ref (ga G 300))]) hx hb d_X12_loudest_8 rfl hl (Nat.le_of_ble_eq_true rfl) rfl (fun ls hl => ?_)
  refine r_ldcw X wd_1368 d_X12_loudest_9 ?_
  refine lv_istore_n (lv' := [(3, .int (1000000 : Int32)), (2, .int (-1 : Int32)), (1, .int (0 : Int32)), (0, .ref (ga G 300))]) hx hb d_X12_loudest_12 rfl hl (Nat.le_of_ble_eq_true rfl) rfl (fun ls hl => ?_)
  refine lv_iconst (v := (0 : Int32)) hx hb d_X12_loudest_13 (by decide) ?_
  refine lv_istore (lv' := [(4, .int (0 : Int32)), (3, .int (1000000 : Int32)), (2, .int (-1 : Int32)), (1, .int (0 : Int32)), (0, .ref (ga G 300))]) hx hb d_X12_loudest_14 hl (Nat.le_of_ble_eq_true rfl) rfl (fun ls hl => ?_)
  obtain ⟨z5, e6, h⟩ := bd_some h
  refine iter_w (Wh := fun z : Int32 × Int32 × Int32 × Int32 × St => Wat p l e (rmk 4 91) s m args below meth c Q G 6 16 [] [(1, .int z.1), (2, .int z.2.1), (3, .int z.2.2.1), (4, .int z.2.2.2.1), (0, .ref (ga G 300))] χ z.2.2.2.2) (K := fun z : Int32 × Int32 × Int32 × St => Wat p l e (rmk 4 91) s m args below meth c Q G 6 79 [] [(0, .ref (ga G 300)), (1, .int z.1), (2, .int z.2.1), (3, .int z.2.2.1)] χ z.2.2.2) (fun z o h1 h2 => b16 z.2.2.2.2 z.1 z.2.1 z.2.2.1 z.2.2.2.1 o h1 h2) FU _ _ e6 ?_ _ _ _ hw (lv_sub hl [3, 2, 1, 0, 4] rfl)
  intro H locs ls hw hl
  refine lv_aload_n hx hb d_X12_loudest_79 rfl (lv_at hl 0 rfl) ?_
  refine lv_iconst (v := (0 : Int32)) hx hb d_X12_loudest_80 (by decide) ?_
  refine m_puti (j := 1) X hw ct8 (o_300 hf) (Nat.le_of_ble_eq_true rfl) rfl (Nat.le_of_ble_eq_true rfl) rfl rfl rfl wd_957 d_X12_loudest_81 (fun H locs hw => ?_)
  refine lv_aload_n hx hb d_X12_loudest_84 rfl (lv_at hl 0 rfl) ?_
  refine lv_iload_n hx hb d_X12_loudest_85 rfl (lv_at hl 2 rfl) ?_
  refine lv_i2l hx hb d_X12_loudest_86 rfl ?_
  obtain ⟨q8, e9, h⟩ := bd_some h
  refine r_callV (As := [.long (z5.2.1).toInt64]) (rest := []) (st' := []) X hw hl mwX12_enters wd_1282 wp_38 wd_1280 (c_X12_enters hf e9) (r_recv X hw ct8 (o_300 hf)) rfl ⟨Nat.le_of_ble_eq_true rfl, Nat.le_of_ble_eq_true rfl⟩ ⟨Nat.le_refl _, Nat.le_refl _⟩ rfl rfl (Nat.le_of_ble_eq_true rfl) d_X12_loudest_87 (fun H locs hw => ?_)
  refine lv_aload_n hx hb d_X12_loudest_90 rfl (lv_at hl 0 rfl) ?_
  refine lv_iload_n hx hb d_X12_loudest_91 rfl (lv_at hl 3 rfl) ?_
  refine lv_i2l hx hb d_X12_loudest_92 rfl ?_
  obtain ⟨q10, e11, h⟩ := bd_some h
  refine r_callV (As := [.long (z5.2.2.1).toInt64]) (rest := []) (st' := []) X hw hl mwX12_enters wd_1282 wp_38 wd_1280 (c_X12_enters hf e11) (r_recv X hw ct8 (o_300 hf)) rfl ⟨Nat.le_of_ble_eq_true rfl, Nat.le_of_ble_eq_true rfl⟩ ⟨Nat.le_refl _, Nat.le_refl _⟩ rfl rfl (Nat.le_of_ble_eq_true rfl) d_X12_loudest_93 (fun H locs hw => ?_)
  refine lv_iload_n hx hb d_X12_loudest_96 rfl (lv_at hl 1 rfl) ?_
  obtain rfl := Option.some.inj h
  subst hQ
  exact r_iret X hr hlk hw d_X12_loudest_97
abbrev yX12_shyest : MethodName := ⟨"OysterBedsModel", "shyest", "(II)I"⟩
theorem mwX12_shyest : MW yX12_shyest prog_14_method_63_code 7 (some .int) 2 := ⟨wd_1372, wd_10, by decide +kernel⟩
theorem d_X12_shyest_0 : decode prog_14_method_63_code 0 = .ok (.aload_n 0, 1) := by decide +kernel
theorem d_X12_shyest_1 : decode prog_14_method_63_code 1 = .ok (.iconst 0, 1) := by decide +kernel
theorem d_X12_shyest_2 : decode prog_14_method_63_code 2 = .ok (.putfield 87, 3) := by decide +kernel
theorem d_X12_shyest_5 : decode prog_14_method_63_code 5 = .ok (.iload_n 1, 1) := by decide +kernel
theorem d_X12_shyest_6 : decode prog_14_method_63_code 6 = .ok (.iload_n 2, 1) := by decide +kernel
theorem d_X12_shyest_7 : decode prog_14_method_63_code 7 = .ok (.invokestatic 270, 3) := by decide +kernel
theorem d_X12_shyest_10 : decode prog_14_method_63_code 10 = .ok (.ifCond .ne 5, 3) := by decide +kernel
theorem d_X12_shyest_13 : decode prog_14_method_63_code 13 = .ok (.iconst (-1), 1) := by decide +kernel
theorem d_X12_shyest_14 : decode prog_14_method_63_code 14 = .ok (.ireturn, 1) := by decide +kernel
theorem d_X12_shyest_15 : decode prog_14_method_63_code 15 = .ok (.aload_n 0, 1) := by decide +kernel
theorem d_X12_shyest_16 : decode prog_14_method_63_code 16 = .ok (.aload_n 0, 1) := by decide +kernel
theorem d_X12_shyest_17 : decode prog_14_method_63_code 17 = .ok (.getfield 17, 3) := by decide +kernel
theorem d_X12_shyest_20 : decode prog_14_method_63_code 20 = .ok (.iload_n 1, 1) := by decide +kernel
theorem d_X12_shyest_21 : decode prog_14_method_63_code 21 = .ok (.iload_n 2, 1) := by decide +kernel
theorem d_X12_shyest_22 : decode prog_14_method_63_code 22 = .ok (.invokevirtual 261, 3) := by decide +kernel
theorem d_X12_shyest_25 : decode prog_14_method_63_code 25 = .ok (.istore_n 3, 1) := by decide +kernel
theorem d_X12_shyest_26 : decode prog_14_method_63_code 26 = .ok (.iconst 0, 1) := by decide +kernel
theorem d_X12_shyest_27 : decode prog_14_method_63_code 27 = .ok (.istore 4, 2) := by decide +kernel
theorem d_X12_shyest_29 : decode prog_14_method_63_code 29 = .ok (.aload_n 0, 1) := by decide +kernel
theorem d_X12_shyest_30 : decode prog_14_method_63_code 30 = .ok (.iconst 0, 1) := by decide +kernel
theorem d_X12_shyest_31 : decode prog_14_method_63_code 31 = .ok (.putfield 95, 3) := by decide +kernel
theorem d_X12_shyest_34 : decode prog_14_method_63_code 34 = .ok (.iconst 0, 1) := by decide +kernel
theorem d_X12_shyest_35 : decode prog_14_method_63_code 35 = .ok (.istore 5, 2) := by decide +kernel
theorem d_X12_shyest_37 : decode prog_14_method_63_code 37 = .ok (.iload 5, 2) := by decide +kernel
theorem d_X12_shyest_39 : decode prog_14_method_63_code 39 = .ok (.iconst 3, 1) := by decide +kernel
theorem d_X12_shyest_40 : decode prog_14_method_63_code 40 = .ok (.if_icmp .ge 54, 3) := by decide +kernel
theorem d_X12_shyest_43 : decode prog_14_method_63_code 43 = .ok (.iload_n 3, 1) := by decide +kernel
theorem d_X12_shyest_44 : decode prog_14_method_63_code 44 = .ok (.aload_n 0, 1) := by decide +kernel
theorem d_X12_shyest_45 : decode prog_14_method_63_code 45 = .ok (.iload 5, 2) := by decide +kernel
theorem d_X12_shyest_47 : decode prog_14_method_63_code 47 = .ok (.invokevirtual 232, 3) := by decide +kernel
theorem d_X12_shyest_50 : decode prog_14_method_63_code 50 = .ok (.iand, 1) := by decide +kernel
theorem d_X12_shyest_51 : decode prog_14_method_63_code 51 = .ok (.invokestatic 235, 3) := by decide +kernel
theorem d_X12_shyest_54 : decode prog_14_method_63_code 54 = .ok (.istore 6, 2) := by decide +kernel
theorem d_X12_shyest_56 : decode prog_14_method_63_code 56 = .ok (.iload 6, 2) := by decide +kernel
theorem d_X12_shyest_58 : decode prog_14_method_63_code 58 = .ok (.iload_n 3, 1) := by decide +kernel
theorem d_X12_shyest_59 : decode prog_14_method_63_code 59 = .ok (.aload_n 0, 1) := by decide +kernel
theorem d_X12_shyest_60 : decode prog_14_method_63_code 60 = .ok (.iload 4, 2) := by decide +kernel
theorem d_X12_shyest_62 : decode prog_14_method_63_code 62 = .ok (.invokevirtual 232, 3) := by decide +kernel
theorem d_X12_shyest_65 : decode prog_14_method_63_code 65 = .ok (.iand, 1) := by decide +kernel
theorem d_X12_shyest_66 : decode prog_14_method_63_code 66 = .ok (.invokestatic 235, 3) := by decide +kernel
theorem d_X12_shyest_69 : decode prog_14_method_63_code 69 = .ok (.if_icmp .le 8, 3) := by decide +kernel
theorem d_X12_shyest_72 : decode prog_14_method_63_code 72 = .ok (.iload 5, 2) := by decide +kernel
theorem d_X12_shyest_74 : decode prog_14_method_63_code 74 = .ok (.goto 5, 3) := by decide +kernel
theorem d_X12_shyest_77 : decode prog_14_method_63_code 77 = .ok (.iload 4, 2) := by decide +kernel
theorem d_X12_shyest_79 : decode prog_14_method_63_code 79 = .ok (.istore 4, 2) := by decide +kernel
theorem d_X12_shyest_81 : decode prog_14_method_63_code 81 = .ok (.aload_n 0, 1) := by decide +kernel
theorem d_X12_shyest_82 : decode prog_14_method_63_code 82 = .ok (.iload 6, 2) := by decide +kernel
theorem d_X12_shyest_84 : decode prog_14_method_63_code 84 = .ok (.i2l, 1) := by decide +kernel
theorem d_X12_shyest_85 : decode prog_14_method_63_code 85 = .ok (.invokevirtual 98, 3) := by decide +kernel
theorem d_X12_shyest_88 : decode prog_14_method_63_code 88 = .ok (.iinc 5 1, 3) := by decide +kernel
theorem d_X12_shyest_91 : decode prog_14_method_63_code 91 = .ok (.goto (-54), 3) := by decide +kernel
theorem d_X12_shyest_94 : decode prog_14_method_63_code 94 = .ok (.iload 4, 2) := by decide +kernel
theorem d_X12_shyest_96 : decode prog_14_method_63_code 96 = .ok (.ireturn, 1) := by decide +kernel
def f_X12_shyest_j79_37 (τ : St) (x3 : Int32) (x5 : Int32) (x6 : Int32) (s0 : Int32) : Option ((Int32 × Int32 × St) ⊕ (Int32 × St)) := (f_X12_enters τ x6.toInt64).bind (fun q13 => some (.inl (s0, (x5 + (1 : Int32)), q13)))
def f_X12_shyest_s37 (τ : St) (y3 : Int32) (x4 : Int32) (x5 : Int32) : Option ((Int32 × Int32 × St) ⊕ (Int32 × St)) := (if (3 : Int32) ≤ x5 then some (.inr (x4, τ)) else (f_X12_kinOf τ x5).bind (fun q5 => (f_J6_bitCount_0f7a4 (y3 &&& q5)).bind (fun q7 => (f_X12_kinOf τ x4).bind (fun q9 => (f_J6_bitCount_0f7a4 (y3 &&& q9)).bind (fun q11 => f_X12_shyest_j79_37 τ y3 x5 q7 (if q7 ≤ q11 then x4 else x5))))))
def f_X12_shyest (σ : St) (a1 : Int32) (a2 : Int32) : Option (Int32 × St) := (f_X12_isQuestion a1 a2).bind (fun q1 => (if q1 = 0 then some ((-1 : Int32), (sF σ 300 0 (0 : Int32))) else (f_X12_closing (sF σ 300 0 (0 : Int32)) 306 a1 a2).bind (fun q3 => (iter (fun z => f_X12_shyest_s37 z.2.2 q3.1 z.1 z.2.1) FU ((0 : Int32), (0 : Int32), (sF q3.2 300 1 (0 : Int32)))).bind (fun z15 => some (z15.1, z15.2)))))
theorem c_X12_shyest {l : Launch} {G : gT} {χ σ : St} {a1 : Int32} {a2 : Int32} (hf : FW G) {q : Int32 × St} (h : f_X12_shyest σ a1 a2 = some q) : Ct l G yX12_shyest prog_14_method_63_code 7 (some .int) 4 91 [.ref (ga G 300), .int a1, .int a2] χ σ (some (.int q.1)) χ q.2 := by
  refine Ct.of (by decide) (Nat.le_of_ble_eq_true rfl) ?_
  intro p e s m args below meth c Q X hr hlk hQ
  have hx := X.1
  have hb := X.2.1
  have j79_37 : ∀ (τ : St) (x3 : Int32) (x5 : Int32) (x6 : Int32) (s0 : Int32) (o : (Int32 × Int32 × St) ⊕ (Int32 × St)), f_X12_shyest_j79_37 τ x3 x5 x6 s0 = some o → Sum.elim (fun z : Int32 × Int32 × St => Wat p l e (rmk 4 91) s m args below meth c Q G 7 37 [] [(4, .int z.1), (5, .int z.2.1), (0, .ref (ga G 300)), (3, .int x3)] χ z.2.2) (fun z : Int32 × St => Wat p l e (rmk 4 91) s m args below meth c Q G 7 94 [] [(4, .int z.1)] χ z.2) o → Wat p l e (rmk 4 91) s m args below meth c Q G 7 79 [.int s0] [(0, .ref (ga G 300)), (3, .int x3), (5, .int x5), (6, .int x6)] χ τ := by
    intro τ x3 x5 x6 s0 o h hk H locs ls hw hl
    unfold f_X12_shyest_j79_37 at h
    refine lv_istore (lv' := [(4, .int s0), (0, .ref (ga G 300)), (3, .int x3), (5, .int x5), (6, .int x6)]) hx hb d_X12_shyest_79 hl (Nat.le_of_ble_eq_true rfl) rfl (fun ls hl => ?_)
    refine lv_aload_n hx hb d_X12_shyest_81 rfl (lv_at hl 1 rfl) ?_
    refine lv_iload hx hb d_X12_shyest_82 (lv_at hl 4 rfl) ?_
    refine lv_i2l hx hb d_X12_shyest_84 rfl ?_
    obtain ⟨q13, e14, h⟩ := bd_some h
    refine r_callV (As := [.long x6.toInt64]) (rest := []) (st' := []) X hw hl mwX12_enters wd_1282 wp_38 wd_1280 (c_X12_enters hf e14) (r_recv X hw ct8 (o_300 hf)) rfl ⟨Nat.le_of_ble_eq_true rfl, Nat.le_of_ble_eq_true rfl⟩ ⟨Nat.le_refl _, Nat.le_refl _⟩ rfl rfl (Nat.le_of_ble_eq_true rfl) d_X12_shyest_85 (fun H locs hw => ?_)
    refine lv_iinc (v := (x5 + (1 : Int32))) (k := 3) (lv' := [(5, .int (x5 + (1 : Int32))), (4, .int s0), (0, .ref (ga G 300)), (3, .int x3), (6, .int x6)]) hx hb d_X12_shyest_88 hl rfl (by rfl) (Nat.le_of_ble_eq_true rfl) rfl (fun ls hl => ?_)
    refine lv_goto (tgt := 37) hx hb d_X12_shyest_91 (by decide) ?_
    obtain rfl := Option.some.inj h
    dsimp only [Sum.elim_inl] at hk
    exact hk _ _ _ hw (lv_sub hl [1, 0, 2, 3] rfl)
  have b37 : ∀ (τ : St) (y3 : Int32) (x4 : Int32) (x5 : Int32) (o : (Int32 × Int32 × St) ⊕ (Int32 × St)), f_X12_shyest_s37 τ y3 x4 x5 = some o → Sum.elim (fun z : Int32 × Int32 × St => Wat p l e (rmk 4 91) s m args below meth c Q G 7 37 [] [(4, .int z.1), (5, .int z.2.1), (0, .ref (ga G 300)), (3, .int y3)] χ z.2.2) (fun z : Int32 × St => Wat p l e (rmk 4 91) s m args below meth c Q G 7 94 [] [(4, .int z.1)] χ z.2) o → Wat p l e (rmk 4 91) s m args below meth c Q G 7 37 [] [(4, .int x4), (5, .int x5), (0, .ref (ga G 300)), (3, .int y3)] χ τ := by
    intro τ y3 x4 x5 o h hk H locs ls hw hl
    unfold f_X12_shyest_s37 at h
    refine lv_iload hx hb d_X12_shyest_37 (lv_at hl 1 rfl) ?_
    refine lv_iconst (v := (3 : Int32)) hx hb d_X12_shyest_39 (by decide) ?_
    refine lv_icmp_ge (tgt := 94) hx hb d_X12_shyest_40 (by decide) (fun hc => ?_) (fun hc => ?_)
    · have h := ite_t h hc
      obtain rfl := Option.some.inj h
      dsimp only [Sum.elim_inr] at hk
      exact hk _ _ _ hw (lv_sub hl [0] rfl)
    · have h := ite_f h hc
      refine lv_iload_n hx hb d_X12_shyest_43 rfl (lv_at hl 3 rfl) ?_
      refine lv_aload_n hx hb d_X12_shyest_44 rfl (lv_at hl 2 rfl) ?_
      refine lv_iload hx hb d_X12_shyest_45 (lv_at hl 1 rfl) ?_
      obtain ⟨q5, e6, h⟩ := bd_some h
      refine r_callV (As := [.int x5]) (rest := [.int y3]) (st' := [.int q5, .int y3]) X hw hl mwX12_kinOf wd_1270 wp_36 wd_1268 (c_X12_kinOf hf e6) (r_recv X hw ct8 (o_300 hf)) rfl ⟨Nat.le_of_ble_eq_true rfl, Nat.le_of_ble_eq_true rfl⟩ ⟨Nat.le_refl _, Nat.le_refl _⟩ rfl rfl (Nat.le_of_ble_eq_true rfl) d_X12_shyest_47 (fun H locs hw => ?_)
      refine lv_iand hx hb d_X12_shyest_50 ?_
      obtain ⟨q7, e8, h⟩ := bd_some h
      refine r_callS (As := [.int (y3 &&& q5)]) (rest := []) (st' := [.int q7]) X hw hl mwJ6_bitCount_0f7a4 wd_436 wd_1272 (c_J6_bitCount_0f7a4 e8) rfl ⟨Nat.le_of_ble_eq_true rfl, Nat.le_of_ble_eq_true rfl⟩ ⟨Nat.le_refl _, Nat.le_refl _⟩ rfl rfl (Nat.le_of_ble_eq_true rfl) d_X12_shyest_51 (fun H locs hw => ?_)
      refine lv_istore (lv' := [(6, .int q7), (4, .int x4), (5, .int x5), (0, .ref (ga G 300)), (3, .int y3)]) hx hb d_X12_shyest_54 hl (Nat.le_of_ble_eq_true rfl) rfl (fun ls hl => ?_)
      refine lv_iload hx hb d_X12_shyest_56 (lv_at hl 0 rfl) ?_
      refine lv_iload_n hx hb d_X12_shyest_58 rfl (lv_at hl 4 rfl) ?_
      refine lv_aload_n hx hb d_X12_shyest_59 rfl (lv_at hl 3 rfl) ?_
      refine lv_iload hx hb d_X12_shyest_60 (lv_at hl 1 rfl) ?_
      obtain ⟨q9, e10, h⟩ := bd_some h
      refine r_callV (As := [.int x4]) (rest := [.int y3, .int q7]) (st' := [.int q9, .int y3, .int q7]) X hw hl mwX12_kinOf wd_1270 wp_36 wd_1268 (c_X12_kinOf hf e10) (r_recv X hw ct8 (o_300 hf)) rfl ⟨Nat.le_of_ble_eq_true rfl, Nat.le_of_ble_eq_true rfl⟩ ⟨Nat.le_refl _, Nat.le_refl _⟩ rfl rfl (Nat.le_of_ble_eq_true rfl) d_X12_shyest_62 (fun H locs hw => ?_)
      refine lv_iand hx hb d_X12_shyest_65 ?_
      obtain ⟨q11, e12, h⟩ := bd_some h
      refine r_callS (As := [.int (y3 &&& q9)]) (rest := [.int q7]) (st' := [.int q11, .int q7]) X hw hl mwJ6_bitCount_0f7a4 wd_436 wd_1272 (c_J6_bitCount_0f7a4 e12) rfl ⟨Nat.le_of_ble_eq_true rfl, Nat.le_of_ble_eq_true rfl⟩ ⟨Nat.le_refl _, Nat.le_refl _⟩ rfl rfl (Nat.le_of_ble_eq_true rfl) d_X12_shyest_66 (fun H locs hw => ?_)
      refine lv_icmp_le (tgt := 77) hx hb d_X12_shyest_69 (by decide) (fun hc => ?_) (fun hc => ?_)
      · simp only [if_pos hc] at h
        refine lv_iload hx hb d_X12_shyest_77 (lv_at hl 1 rfl) ?_
        exact j79_37 τ y3 x5 q7 x4 o h hk _ _ _ hw (lv_sub hl [3, 4, 2, 0] rfl)
      · simp only [if_neg hc] at h
        refine lv_iload hx hb d_X12_shyest_72 (lv_at hl 2 rfl) ?_
        refine lv_goto (tgt := 79) hx hb d_X12_shyest_74 (by decide) ?_
        exact j79_37 τ y3 x5 q7 x5 o h hk _ _ _ hw (lv_sub hl [3, 4, 2, 0] rfl)
  intro H locs ls hw hl
  have hl : lv_has ls 7 [(0, .ref (ga G 300)), (1, .int a1), (2, .int a2)] := hl
  unfold f_X12_shyest at h
  refine lv_aload_n hx hb d_X12_shyest_0 rfl (lv_at hl 0 rfl) ?_
  refine lv_iconst (v := (0 : Int32)) hx hb d_X12_shyest_1 (by decide) ?_
  refine m_puti (j := 0) X hw ct8 (o_300 hf) (Nat.le_of_ble_eq_true rfl) rfl (Nat.le_of_ble_eq_true rfl) rfl rfl rfl wd_956 d_X12_shyest_2 (fun H locs hw => ?_)
  refine lv_iload_n hx hb d_X12_shyest_5 rfl (lv_at hl 1 rfl) ?_
  refine lv_iload_n hx hb d_X12_shyest_6 rfl (lv_at hl 2 rfl) ?_
  obtain ⟨q1, e2, h⟩ := bd_some h
  refine r_callS (As := [.int a1, .int a2]) (rest := []) (st' := [.int q1]) X hw hl mwX12_isQuestion wd_1246 wd_1245 (c_X12_isQuestion hf e2) rfl ⟨Nat.le_of_ble_eq_true rfl, Nat.le_of_ble_eq_true rfl⟩ ⟨Nat.le_refl _, Nat.le_refl _⟩ rfl rfl (Nat.le_of_ble_eq_true rfl) d_X12_shyest_7 (fun H locs hw => ?_)
  refine lv_if_ne (tgt := 15) hx hb d_X12_shyest_10 (by decide) (fun hc => ?_) (fun hc => ?_)
  · have h := ite_f h hc
    refine lv_aload_n hx hb d_X12_shyest_15 rfl (lv_at hl 0 rfl) ?_
    refine lv_aload_n hx hb d_X12_shyest_16 rfl (lv_at hl 0 rfl) ?_
    refine r_getr (j := 6) X hw ct8 (o_300 hf) rfl (Nat.le_of_ble_eq_true rfl) (q := 306) rfl wd_962 d_X12_shyest_17 ?_
    refine lv_iload_n hx hb d_X12_shyest_20 rfl (lv_at hl 1 rfl) ?_
    refine lv_iload_n hx hb d_X12_shyest_21 rfl (lv_at hl 2 rfl) ?_
    obtain ⟨q3, e4, h⟩ := bd_some h
    refine r_callV (As := [.ref (ga G 306), .int a1, .int a2]) (rest := []) (st' := [.int q3.1]) X hw hl mwX12_closing wd_1259 wp_34 wd_1257 (c_X12_closing hf (o_306 hf) (Nat.le_of_ble_eq_true rfl) e4) (r_recv X hw ct8 (o_300 hf)) rfl ⟨Nat.le_of_ble_eq_true rfl, Nat.le_of_ble_eq_true rfl⟩ ⟨Nat.le_refl _, Nat.le_refl _⟩ rfl rfl (Nat.le_of_ble_eq_true rfl) d_X12_shyest_22 (fun H locs hw => ?_)
    refine lv_istore_n (lv' := [(3, .int q3.1), (0, .ref (ga G 300)), (1, .int a1), (2, .int a2)]) hx hb d_X12_shyest_25 rfl hl (Nat.le_of_ble_eq_true rfl) rfl (fun ls hl => ?_)
    refine lv_iconst (v := (0 : Int32)) hx hb d_X12_shyest_26 (by decide) ?_
    refine lv_istore (lv' := [(4, .int (0 : Int32)), (3, .int q3.1), (0, .ref (ga G 300)), (1, .int a1), (2, .int a2)]) hx hb d_X12_shyest_27 hl (Nat.le_of_ble_eq_true rfl) rfl (fun ls hl => ?_)
    refine lv_aload_n hx hb d_X12_shyest_29 rfl (lv_at hl 2 rfl) ?_
    refine lv_iconst (v := (0 : Int32)) hx hb d_X12_shyest_30 (by decide) ?_
    refine m_puti (j := 1) X hw ct8 (o_300 hf) (Nat.le_of_ble_eq_true rfl) rfl (Nat.le_of_ble_eq_true rfl) rfl rfl rfl wd_957 d_X12_shyest_31 (fun H locs hw => ?_)
    refine lv_iconst (v := (0 : Int32)) hx hb d_X12_shyest_34 (by decide) ?_
    refine lv_istore (lv' := [(5, .int (0 : Int32)), (4, .int (0 : Int32)), (3, .int q3.1), (0, .ref (ga G 300)), (1, .int a1), (2, .int a2)]) hx hb d_X12_shyest_35 hl (Nat.le_of_ble_eq_true rfl) rfl (fun ls hl => ?_)
    obtain ⟨z15, e16, h⟩ := bd_some h
    refine iter_w (Wh := fun z : Int32 × Int32 × St => Wat p l e (rmk 4 91) s m args below meth c Q G 7 37 [] [(4, .int z.1), (5, .int z.2.1), (0, .ref (ga G 300)), (3, .int q3.1)] χ z.2.2) (K := fun z : Int32 × St => Wat p l e (rmk 4 91) s m args below meth c Q G 7 94 [] [(4, .int z.1)] χ z.2) (fun z o h1 h2 => b37 z.2.2 q3.1 z.1 z.2.1 o h1 h2) FU _ _ e16 ?_ _ _ _ hw (lv_sub hl [1, 0, 3, 2] rfl)
    intro H locs ls hw hl
    refine lv_iload hx hb d_X12_shyest_94 (lv_at hl 0 rfl) ?_
    obtain rfl := Option.some.inj h
    subst hQ
    exact r_iret X hr hlk hw d_X12_shyest_96
  · have h := ite_t h hc
    refine lv_iconst (v := (-1 : Int32)) hx hb d_X12_shyest_13 (by decide) ?_
    obtain rfl := Option.some.inj h
    subst hQ
    exact r_iret X hr hlk hw d_X12_shyest_14
abbrev yX12_repeats : MethodName := ⟨"OysterBedsModel", "repeats", "(III)I"⟩
theorem mwX12_repeats : MW yX12_repeats prog_14_method_64_code 7 (some .int) 3 := ⟨wd_1376, wd_10, by decide +kernel⟩
theorem d_X12_repeats_0 : decode prog_14_method_64_code 0 = .ok (.aload_n 0, 1) := by decide +kernel
theorem d_X12_repeats_1 : decode prog_14_method_64_code 1 = .ok (.iconst 0, 1) := by decide +kernel
theorem d_X12_repeats_2 : decode prog_14_method_64_code 2 = .ok (.putfield 87, 3) := by decide +kernel
theorem d_X12_repeats_5 : decode prog_14_method_64_code 5 = .ok (.iload_n 1, 1) := by decide +kernel
theorem d_X12_repeats_6 : decode prog_14_method_64_code 6 = .ok (.iload_n 2, 1) := by decide +kernel
theorem d_X12_repeats_7 : decode prog_14_method_64_code 7 = .ok (.invokestatic 270, 3) := by decide +kernel
theorem d_X12_repeats_10 : decode prog_14_method_64_code 10 = .ok (.ifCond .eq 15, 3) := by decide +kernel
theorem d_X12_repeats_13 : decode prog_14_method_64_code 13 = .ok (.iload_n 3, 1) := by decide +kernel
theorem d_X12_repeats_14 : decode prog_14_method_64_code 14 = .ok (.i2l, 1) := by decide +kernel
theorem d_X12_repeats_15 : decode prog_14_method_64_code 15 = .ok (.lconst 1, 1) := by decide +kernel
theorem d_X12_repeats_16 : decode prog_14_method_64_code 16 = .ok (.ldc2_w 316, 3) := by decide +kernel
theorem d_X12_repeats_19 : decode prog_14_method_64_code 19 = .ok (.invokestatic 105, 3) := by decide +kernel
theorem d_X12_repeats_22 : decode prog_14_method_64_code 22 = .ok (.ifCond .ne 5, 3) := by decide +kernel
theorem d_X12_repeats_25 : decode prog_14_method_64_code 25 = .ok (.iconst (-1), 1) := by decide +kernel
theorem d_X12_repeats_26 : decode prog_14_method_64_code 26 = .ok (.ireturn, 1) := by decide +kernel
theorem d_X12_repeats_27 : decode prog_14_method_64_code 27 = .ok (.aload_n 0, 1) := by decide +kernel
theorem d_X12_repeats_28 : decode prog_14_method_64_code 28 = .ok (.invokevirtual 318, 3) := by decide +kernel
theorem d_X12_repeats_31 : decode prog_14_method_64_code 31 = .ok (.iconst 0, 1) := by decide +kernel
theorem d_X12_repeats_32 : decode prog_14_method_64_code 32 = .ok (.istore 4, 2) := by decide +kernel
theorem d_X12_repeats_34 : decode prog_14_method_64_code 34 = .ok (.aload_n 0, 1) := by decide +kernel
theorem d_X12_repeats_35 : decode prog_14_method_64_code 35 = .ok (.iconst 0, 1) := by decide +kernel
theorem d_X12_repeats_36 : decode prog_14_method_64_code 36 = .ok (.putfield 95, 3) := by decide +kernel
theorem d_X12_repeats_39 : decode prog_14_method_64_code 39 = .ok (.iconst 0, 1) := by decide +kernel
theorem d_X12_repeats_40 : decode prog_14_method_64_code 40 = .ok (.istore 5, 2) := by decide +kernel
theorem d_X12_repeats_42 : decode prog_14_method_64_code 42 = .ok (.iload 5, 2) := by decide +kernel
theorem d_X12_repeats_44 : decode prog_14_method_64_code 44 = .ok (.iload_n 3, 1) := by decide +kernel
theorem d_X12_repeats_45 : decode prog_14_method_64_code 45 = .ok (.if_icmp .ge 54, 3) := by decide +kernel
theorem d_X12_repeats_48 : decode prog_14_method_64_code 48 = .ok (.aload_n 0, 1) := by decide +kernel
theorem d_X12_repeats_49 : decode prog_14_method_64_code 49 = .ok (.aload_n 0, 1) := by decide +kernel
theorem d_X12_repeats_50 : decode prog_14_method_64_code 50 = .ok (.getfield 20, 3) := by decide +kernel
theorem d_X12_repeats_53 : decode prog_14_method_64_code 53 = .ok (.iload_n 1, 1) := by decide +kernel
theorem d_X12_repeats_54 : decode prog_14_method_64_code 54 = .ok (.iload_n 2, 1) := by decide +kernel
theorem d_X12_repeats_55 : decode prog_14_method_64_code 55 = .ok (.invokevirtual 276, 3) := by decide +kernel
theorem d_X12_repeats_58 : decode prog_14_method_64_code 58 = .ok (.invokestatic 235, 3) := by decide +kernel
theorem d_X12_repeats_61 : decode prog_14_method_64_code 61 = .ok (.istore 6, 2) := by decide +kernel
theorem d_X12_repeats_63 : decode prog_14_method_64_code 63 = .ok (.aload_n 0, 1) := by decide +kernel
theorem d_X12_repeats_64 : decode prog_14_method_64_code 64 = .ok (.aload_n 0, 1) := by decide +kernel
theorem d_X12_repeats_65 : decode prog_14_method_64_code 65 = .ok (.getfield 20, 3) := by decide +kernel
theorem d_X12_repeats_68 : decode prog_14_method_64_code 68 = .ok (.iconst 1, 1) := by decide +kernel
theorem d_X12_repeats_69 : decode prog_14_method_64_code 69 = .ok (.invokevirtual 281, 3) := by decide +kernel
theorem d_X12_repeats_72 : decode prog_14_method_64_code 72 = .ok (.iload 4, 2) := by decide +kernel
theorem d_X12_repeats_74 : decode prog_14_method_64_code 74 = .ok (.iload 6, 2) := by decide +kernel
theorem d_X12_repeats_76 : decode prog_14_method_64_code 76 = .ok (.iadd, 1) := by decide +kernel
theorem d_X12_repeats_77 : decode prog_14_method_64_code 77 = .ok (.istore 4, 2) := by decide +kernel
theorem d_X12_repeats_79 : decode prog_14_method_64_code 79 = .ok (.iload 5, 2) := by decide +kernel
theorem d_X12_repeats_81 : decode prog_14_method_64_code 81 = .ok (.bipush 12, 2) := by decide +kernel
theorem d_X12_repeats_83 : decode prog_14_method_64_code 83 = .ok (.if_icmp .ge 10, 3) := by decide +kernel
theorem d_X12_repeats_86 : decode prog_14_method_64_code 86 = .ok (.aload_n 0, 1) := by decide +kernel
theorem d_X12_repeats_87 : decode prog_14_method_64_code 87 = .ok (.iload 6, 2) := by decide +kernel
theorem d_X12_repeats_89 : decode prog_14_method_64_code 89 = .ok (.i2l, 1) := by decide +kernel
theorem d_X12_repeats_90 : decode prog_14_method_64_code 90 = .ok (.invokevirtual 98, 3) := by decide +kernel
theorem d_X12_repeats_93 : decode prog_14_method_64_code 93 = .ok (.iinc 5 1, 3) := by decide +kernel
theorem d_X12_repeats_96 : decode prog_14_method_64_code 96 = .ok (.goto (-54), 3) := by decide +kernel
theorem d_X12_repeats_99 : decode prog_14_method_64_code 99 = .ok (.iload 4, 2) := by decide +kernel
theorem d_X12_repeats_101 : decode prog_14_method_64_code 101 = .ok (.ireturn, 1) := by decide +kernel
def f_X12_repeats_j93_42 (τ : St) (x1 : Int32) (x2 : Int32) (x3 : Int32) (x4 : Int32) (x5 : Int32) : Option ((Int32 × Int32 × St) ⊕ (Int32 × St)) := some (.inl (x4, (x5 + (1 : Int32)), τ))
def f_X12_repeats_s42 (τ : St) (y1 : Int32) (y2 : Int32) (y3 : Int32) (x4 : Int32) (x5 : Int32) : Option ((Int32 × Int32 × St) ⊕ (Int32 × St)) := (if y3 ≤ x5 then some (.inr (x4, τ)) else (f_X12_asksAll τ 307 y1 y2).bind (fun q7 => (f_J6_bitCount_0f7a4 q7.1).bind (fun q9 => (f_X12_goesOn q7.2 307 (1 : Int32)).bind (fun q11 => (if (12 : Int32) ≤ x5 then f_X12_repeats_j93_42 q11 y1 y2 y3 (x4 + q9) x5 else (f_X12_enters q11 q9.toInt64).bind (fun q13 => f_X12_repeats_j93_42 q13 y1 y2 y3 (x4 + q9) x5))))))
def f_X12_repeats (σ : St) (a1 : Int32) (a2 : Int32) (a3 : Int32) : Option (Int32 × St) := (f_X12_isQuestion a1 a2).bind (fun q1 => (if q1 = 0 then some ((-1 : Int32), (sF σ 300 0 (0 : Int32))) else (f_X12_in a3.toInt64 (1 : Int64) (20 : Int64)).bind (fun q3 => (if q3 = 0 then some ((-1 : Int32), (sF σ 300 0 (0 : Int32))) else (f_X12_copies (sF σ 300 0 (0 : Int32))).bind (fun q5 => (iter (fun z => f_X12_repeats_s42 z.2.2 a1 a2 a3 z.1 z.2.1) FU ((0 : Int32), (0 : Int32), (sF q5 300 1 (0 : Int32)))).bind (fun z15 => some (z15.1, z15.2)))))))
theorem c_X12_repeats {l : Launch} {G : gT} {χ σ : St} {a1 : Int32} {a2 : Int32} {a3 : Int32} (hf : FW G) {q : Int32 × St} (h : f_X12_repeats σ a1 a2 a3 = some q) : Ct l G yX12_repeats prog_14_method_64_code 7 (some .int) 5 116 [.ref (ga G 300), .int a1, .int a2, .int a3] χ σ (some (.int q.1)) χ q.2 := by
  refine Ct.of (by decide) (Nat.le_of_ble_eq_true rfl) ?_
  intro p e s m args below meth c Q X hr hlk hQ
  have hx := X.1
  have hb := X.2.1
  have j93_42 : ∀ (τ : St) (x1 : Int32) (x2 : Int32) (x3 : Int32) (x4 : Int32) (x5 : Int32) (o : (Int32 × Int32 × St) ⊕ (Int32 × St)), f_X12_repeats_j93_42 τ x1 x2 x3 x4 x5 = some o → Sum.elim (fun z : Int32 × Int32 × St => Wat p l e (rmk 5 116) s m args below meth c Q G 7 42 [] [(4, .int z.1), (5, .int z.2.1), (0, .ref (ga G 300)), (1, .int x1), (2, .int x2), (3, .int x3)] χ z.2.2) (fun z : Int32 × St => Wat p l e (rmk 5 116) s m args below meth c Q G 7 99 [] [(4, .int z.1)] χ z.2) o → Wat p l e (rmk 5 116) s m args below meth c Q G 7 93 [] [(0, .ref (ga G 300)), (1, .int x1), (2, .int x2), (3, .int x3), (4, .int x4), (5, .int x5)] χ τ := by
    intro τ x1 x2 x3 x4 x5 o h hk H locs ls hw hl
    unfold f_X12_repeats_j93_42 at h
    refine lv_iinc (v := (x5 + (1 : Int32))) (k := 5) (lv' := [(5, .int (x5 + (1 : Int32))), (0, .ref (ga G 300)), (1, .int x1), (2, .int x2), (3, .int x3), (4, .int x4)]) hx hb d_X12_repeats_93 hl rfl (by rfl) (Nat.le_of_ble_eq_true rfl) rfl (fun ls hl => ?_)
    refine lv_goto (tgt := 42) hx hb d_X12_repeats_96 (by decide) ?_
    obtain rfl := Option.some.inj h
    dsimp only [Sum.elim_inl] at hk
    exact hk _ _ _ hw (lv_sub hl [5, 0, 1, 2, 3, 4] rfl)
  have b42 : ∀ (τ : St) (y1 : Int32) (y2 : Int32) (y3 : Int32) (x4 : Int32) (x5 : Int32) (o : (Int32 × Int32 × St) ⊕ (Int32 × St)), f_X12_repeats_s42 τ y1 y2 y3 x4 x5 = some o → Sum.elim (fun z : Int32 × Int32 × St => Wat p l e (rmk 5 116) s m args below meth c Q G 7 42 [] [(4, .int z.1), (5, .int z.2.1), (0, .ref (ga G 300)), (1, .int y1), (2, .int y2), (3, .int y3)] χ z.2.2) (fun z : Int32 × St => Wat p l e (rmk 5 116) s m args below meth c Q G 7 99 [] [(4, .int z.1)] χ z.2) o → Wat p l e (rmk 5 116) s m args below meth c Q G 7 42 [] [(4, .int x4), (5, .int x5), (0, .ref (ga G 300)), (1, .int y1), (2, .int y2), (3, .int y3)] χ τ := by
    intro τ y1 y2 y3 x4 x5 o h hk H locs ls hw hl
    unfold f_X12_repeats_s42 at h
    refine lv_iload hx hb d_X12_repeats_42 (lv_at hl 1 rfl) ?_
    refine lv_iload_n hx hb d_X12_repeats_44 rfl (lv_at hl 5 rfl) ?_
    refine lv_icmp_ge (tgt := 99) hx hb d_X12_repeats_45 (by decide) (fun hc => ?_) (fun hc => ?_)
    · have h := ite_t h hc
      obtain rfl := Option.some.inj h
      dsimp only [Sum.elim_inr] at hk
      exact hk _ _ _ hw (lv_sub hl [0] rfl)
    · have h := ite_f h hc
      refine lv_aload_n hx hb d_X12_repeats_48 rfl (lv_at hl 2 rfl) ?_
      refine lv_aload_n hx hb d_X12_repeats_49 rfl (lv_at hl 2 rfl) ?_
      refine r_getr (j := 7) X hw ct8 (o_300 hf) rfl (Nat.le_of_ble_eq_true rfl) (q := 307) rfl wd_963 d_X12_repeats_50 ?_
      refine lv_iload_n hx hb d_X12_repeats_53 rfl (lv_at hl 3 rfl) ?_
      refine lv_iload_n hx hb d_X12_repeats_54 rfl (lv_at hl 4 rfl) ?_
      obtain ⟨q7, e8, h⟩ := bd_some h
      refine r_callV (As := [.ref (ga G 307), .int y1, .int y2]) (rest := []) (st' := [.int q7.1]) X hw hl mwX12_asksAll wd_1255 wp_33 wd_1253 (c_X12_asksAll hf (o_307 hf) (Nat.le_of_ble_eq_true rfl) e8) (r_recv X hw ct8 (o_300 hf)) rfl ⟨Nat.le_of_ble_eq_true rfl, Nat.le_of_ble_eq_true rfl⟩ ⟨Nat.le_refl _, Nat.le_refl _⟩ rfl rfl (Nat.le_of_ble_eq_true rfl) d_X12_repeats_55 (fun H locs hw => ?_)
      obtain ⟨q9, e10, h⟩ := bd_some h
      refine r_callS (As := [.int q7.1]) (rest := []) (st' := [.int q9]) X hw hl mwJ6_bitCount_0f7a4 wd_436 wd_1272 (c_J6_bitCount_0f7a4 e10) rfl ⟨Nat.le_of_ble_eq_true rfl, Nat.le_of_ble_eq_true rfl⟩ ⟨Nat.le_refl _, Nat.le_refl _⟩ rfl rfl (Nat.le_of_ble_eq_true rfl) d_X12_repeats_58 (fun H locs hw => ?_)
      refine lv_istore (lv' := [(6, .int q9), (4, .int x4), (5, .int x5), (0, .ref (ga G 300)), (1, .int y1), (2, .int y2), (3, .int y3)]) hx hb d_X12_repeats_61 hl (Nat.le_of_ble_eq_true rfl) rfl (fun ls hl => ?_)
      refine lv_aload_n hx hb d_X12_repeats_63 rfl (lv_at hl 3 rfl) ?_
      refine lv_aload_n hx hb d_X12_repeats_64 rfl (lv_at hl 3 rfl) ?_
      refine r_getr (j := 7) X hw ct8 (o_300 hf) rfl (Nat.le_of_ble_eq_true rfl) (q := 307) rfl wd_963 d_X12_repeats_65 ?_
      refine lv_iconst (v := (1 : Int32)) hx hb d_X12_repeats_68 (by decide) ?_
      obtain ⟨q11, e12, h⟩ := bd_some h
      refine r_callV (As := [.ref (ga G 307), .int (1 : Int32)]) (rest := []) (st' := []) X hw hl mwX12_goesOn wd_1295 wp_40 wd_1293 (c_X12_goesOn hf (o_307 hf) (Nat.le_of_ble_eq_true rfl) e12) (r_recv X hw ct8 (o_300 hf)) rfl ⟨Nat.le_of_ble_eq_true rfl, Nat.le_of_ble_eq_true rfl⟩ ⟨Nat.le_refl _, Nat.le_refl _⟩ rfl rfl (Nat.le_of_ble_eq_true rfl) d_X12_repeats_69 (fun H locs hw => ?_)
      refine lv_iload hx hb d_X12_repeats_72 (lv_at hl 1 rfl) ?_
      refine lv_iload hx hb d_X12_repeats_74 (lv_at hl 0 rfl) ?_
      refine lv_iadd hx hb d_X12_repeats_76 ?_
      refine lv_istore (lv' := [(4, .int (x4 + q9)), (6, .int q9), (5, .int x5), (0, .ref (ga G 300)), (1, .int y1), (2, .int y2), (3, .int y3)]) hx hb d_X12_repeats_77 hl (Nat.le_of_ble_eq_true rfl) rfl (fun ls hl => ?_)
      refine lv_iload hx hb d_X12_repeats_79 (lv_at hl 2 rfl) ?_
      refine lv_bipush (v := (12 : Int32)) hx hb d_X12_repeats_81 (by decide) ?_
      refine lv_icmp_ge (tgt := 93) hx hb d_X12_repeats_83 (by decide) (fun hc => ?_) (fun hc => ?_)
      · have h := ite_t h hc
        exact j93_42 q11 y1 y2 y3 (x4 + q9) x5 o h hk _ _ _ hw (lv_sub hl [3, 4, 5, 6, 0, 2] rfl)
      · have h := ite_f h hc
        refine lv_aload_n hx hb d_X12_repeats_86 rfl (lv_at hl 3 rfl) ?_
        refine lv_iload hx hb d_X12_repeats_87 (lv_at hl 1 rfl) ?_
        refine lv_i2l hx hb d_X12_repeats_89 rfl ?_
        obtain ⟨q13, e14, h⟩ := bd_some h
        refine r_callV (As := [.long q9.toInt64]) (rest := []) (st' := []) X hw hl mwX12_enters wd_1282 wp_38 wd_1280 (c_X12_enters hf e14) (r_recv X hw ct8 (o_300 hf)) rfl ⟨Nat.le_of_ble_eq_true rfl, Nat.le_of_ble_eq_true rfl⟩ ⟨Nat.le_refl _, Nat.le_refl _⟩ rfl rfl (Nat.le_of_ble_eq_true rfl) d_X12_repeats_90 (fun H locs hw => ?_)
        exact j93_42 q13 y1 y2 y3 (x4 + q9) x5 o h hk _ _ _ hw (lv_sub hl [3, 4, 5, 6, 0, 2] rfl)
  intro H locs ls hw hl
  have hl : lv_has ls 7 [(0, .ref (ga G 300)), (1, .int a1), (2, .int a2), (3, .int a3)] := hl
  unfold f_X12_repeats at h
  refine lv_aload_n hx hb d_X12_repeats_0 rfl (lv_at hl 0 rfl) ?_
  refine lv_iconst (v := (0 : Int32)) hx hb d_X12_repeats_1 (by decide) ?_
  refine m_puti (j := 0) X hw ct8 (o_300 hf) (Nat.le_of_ble_eq_true rfl) rfl (Nat.le_of_ble_eq_true rfl) rfl rfl rfl wd_956 d_X12_repeats_2 (fun H locs hw => ?_)
  refine lv_iload_n hx hb d_X12_repeats_5 rfl (lv_at hl 1 rfl) ?_
  refine lv_iload_n hx hb d_X12_repeats_6 rfl (lv_at hl 2 rfl) ?_
  obtain ⟨q1, e2, h⟩ := bd_some h
  refine r_callS (As := [.int a1, .int a2]) (rest := []) (st' := [.int q1]) X hw hl mwX12_isQuestion wd_1246 wd_1245 (c_X12_isQuestion hf e2) rfl ⟨Nat.le_of_ble_eq_true rfl, Nat.le_of_ble_eq_true rfl⟩ ⟨Nat.le_refl _, Nat.le_refl _⟩ rfl rfl (Nat.le_of_ble_eq_true rfl) d_X12_repeats_7 (fun H locs hw => ?_)
  refine lv_if_eq (tgt := 25) hx hb d_X12_repeats_10 (by decide) (fun hc => ?_) (fun hc => ?_)
  · have h := ite_t h hc
    refine lv_iconst (v := (-1 : Int32)) hx hb d_X12_repeats_25 (by decide) ?_
    obtain rfl := Option.some.inj h
    subst hQ
    exact r_iret X hr hlk hw d_X12_repeats_26
  · have h := ite_f h hc
    refine lv_iload_n hx hb d_X12_repeats_13 rfl (lv_at hl 3 rfl) ?_
    refine lv_i2l hx hb d_X12_repeats_14 rfl ?_
    refine lv_lconst (v := (1 : Int64)) hx hb d_X12_repeats_15 (by decide) ?_
    refine r_ldc2 X wd_1377 d_X12_repeats_16 ?_
    obtain ⟨q3, e4, h⟩ := bd_some h
    refine r_callS (As := [.long a3.toInt64, .long (1 : Int64), .long (20 : Int64)]) (rest := []) (st' := [.int q3]) X hw hl mwX12_in wd_1093 wd_1092 (c_X12_in hf e4) rfl ⟨Nat.le_of_ble_eq_true rfl, Nat.le_of_ble_eq_true rfl⟩ ⟨Nat.le_refl _, Nat.le_refl _⟩ rfl rfl (Nat.le_of_ble_eq_true rfl) d_X12_repeats_19 (fun H locs hw => ?_)
    refine lv_if_ne (tgt := 27) hx hb d_X12_repeats_22 (by decide) (fun hc => ?_) (fun hc => ?_)
    · have h := ite_f h hc
      refine lv_aload_n hx hb d_X12_repeats_27 rfl (lv_at hl 0 rfl) ?_
      obtain ⟨q5, e6, h⟩ := bd_some h
      refine r_callV (As := []) (rest := []) (st' := []) X hw hl mwX12_copies wd_1380 wp_50 wd_1378 (c_X12_copies hf e6) (r_recv X hw ct8 (o_300 hf)) rfl ⟨Nat.le_of_ble_eq_true rfl, Nat.le_of_ble_eq_true rfl⟩ ⟨Nat.le_refl _, Nat.le_refl _⟩ rfl rfl (Nat.le_of_ble_eq_true rfl) d_X12_repeats_28 (fun H locs hw => ?_)
      refine lv_iconst (v := (0 : Int32)) hx hb d_X12_repeats_31 (by decide) ?_
      refine lv_istore (lv' := [(4, .int (0 : Int32)), (0, .ref (ga G 300)), (1, .int a1), (2, .int a2), (3, .int a3)]) hx hb d_X12_repeats_32 hl (Nat.le_of_ble_eq_true rfl) rfl (fun ls hl => ?_)
      refine lv_aload_n hx hb d_X12_repeats_34 rfl (lv_at hl 1 rfl) ?_
      refine lv_iconst (v := (0 : Int32)) hx hb d_X12_repeats_35 (by decide) ?_
      refine m_puti (j := 1) X hw ct8 (o_300 hf) (Nat.le_of_ble_eq_true rfl) rfl (Nat.le_of_ble_eq_true rfl) rfl rfl rfl wd_957 d_X12_repeats_36 (fun H locs hw => ?_)
      refine lv_iconst (v := (0 : Int32)) hx hb d_X12_repeats_39 (by decide) ?_
      refine lv_istore (lv' := [(5, .int (0 : Int32)), (4, .int (0 : Int32)), (0, .ref (ga G 300)), (1, .int a1), (2, .int a2), (3, .int a3)]) hx hb d_X12_repeats_40 hl (Nat.le_of_ble_eq_true rfl) rfl (fun ls hl => ?_)
      obtain ⟨z15, e16, h⟩ := bd_some h
      refine iter_w (Wh := fun z : Int32 × Int32 × St => Wat p l e (rmk 5 116) s m args below meth c Q G 7 42 [] [(4, .int z.1), (5, .int z.2.1), (0, .ref (ga G 300)), (1, .int a1), (2, .int a2), (3, .int a3)] χ z.2.2) (K := fun z : Int32 × St => Wat p l e (rmk 5 116) s m args below meth c Q G 7 99 [] [(4, .int z.1)] χ z.2) (fun z o h1 h2 => b42 z.2.2 a1 a2 a3 z.1 z.2.1 o h1 h2) FU _ _ e16 ?_ _ _ _ hw (lv_sub hl [1, 0, 2, 3, 4, 5] rfl)
      intro H locs ls hw hl
      refine lv_iload hx hb d_X12_repeats_99 (lv_at hl 0 rfl) ?_
      obtain rfl := Option.some.inj h
      subst hQ
      exact r_iret X hr hlk hw d_X12_repeats_101
    · have h := ite_t h hc
      refine lv_iconst (v := (-1 : Int32)) hx hb d_X12_repeats_25 (by decide) ?_
      obtain rfl := Option.some.inj h
      subst hQ
      exact r_iret X hr hlk hw d_X12_repeats_26
abbrev yX12_later : MethodName := ⟨"OysterBedsModel", "later", "(I)I"⟩
theorem mwX12_later : MW yX12_later prog_14_method_65_code 2 (some .int) 1 := ⟨wd_1385, wd_10, by decide +kernel⟩
theorem d_X12_later_0 : decode prog_14_method_65_code 0 = .ok (.aload_n 0, 1) := by decide +kernel
theorem d_X12_later_1 : decode prog_14_method_65_code 1 = .ok (.iconst 0, 1) := by decide +kernel
theorem d_X12_later_2 : decode prog_14_method_65_code 2 = .ok (.putfield 87, 3) := by decide +kernel
theorem d_X12_later_5 : decode prog_14_method_65_code 5 = .ok (.iload_n 1, 1) := by decide +kernel
theorem d_X12_later_6 : decode prog_14_method_65_code 6 = .ok (.i2l, 1) := by decide +kernel
theorem d_X12_later_7 : decode prog_14_method_65_code 7 = .ok (.lconst 0, 1) := by decide +kernel
theorem d_X12_later_8 : decode prog_14_method_65_code 8 = .ok (.ldc2_w 321, 3) := by decide +kernel
theorem d_X12_later_11 : decode prog_14_method_65_code 11 = .ok (.invokestatic 105, 3) := by decide +kernel
theorem d_X12_later_14 : decode prog_14_method_65_code 14 = .ok (.ifCond .ne 5, 3) := by decide +kernel
theorem d_X12_later_17 : decode prog_14_method_65_code 17 = .ok (.iconst (-1), 1) := by decide +kernel
theorem d_X12_later_18 : decode prog_14_method_65_code 18 = .ok (.ireturn, 1) := by decide +kernel
theorem d_X12_later_19 : decode prog_14_method_65_code 19 = .ok (.aload_n 0, 1) := by decide +kernel
theorem d_X12_later_20 : decode prog_14_method_65_code 20 = .ok (.invokevirtual 318, 3) := by decide +kernel
theorem d_X12_later_23 : decode prog_14_method_65_code 23 = .ok (.aload_n 0, 1) := by decide +kernel
theorem d_X12_later_24 : decode prog_14_method_65_code 24 = .ok (.aload_n 0, 1) := by decide +kernel
theorem d_X12_later_25 : decode prog_14_method_65_code 25 = .ok (.getfield 20, 3) := by decide +kernel
theorem d_X12_later_28 : decode prog_14_method_65_code 28 = .ok (.iload_n 1, 1) := by decide +kernel
theorem d_X12_later_29 : decode prog_14_method_65_code 29 = .ok (.invokevirtual 281, 3) := by decide +kernel
theorem d_X12_later_32 : decode prog_14_method_65_code 32 = .ok (.aload_n 0, 1) := by decide +kernel
theorem d_X12_later_33 : decode prog_14_method_65_code 33 = .ok (.iconst 0, 1) := by decide +kernel
theorem d_X12_later_34 : decode prog_14_method_65_code 34 = .ok (.putfield 95, 3) := by decide +kernel
theorem d_X12_later_37 : decode prog_14_method_65_code 37 = .ok (.aload_n 0, 1) := by decide +kernel
theorem d_X12_later_38 : decode prog_14_method_65_code 38 = .ok (.aload_n 0, 1) := by decide +kernel
theorem d_X12_later_39 : decode prog_14_method_65_code 39 = .ok (.aload_n 0, 1) := by decide +kernel
theorem d_X12_later_40 : decode prog_14_method_65_code 40 = .ok (.getfield 20, 3) := by decide +kernel
theorem d_X12_later_43 : decode prog_14_method_65_code 43 = .ok (.invokevirtual 228, 3) := by decide +kernel
theorem d_X12_later_46 : decode prog_14_method_65_code 46 = .ok (.invokestatic 235, 3) := by decide +kernel
theorem d_X12_later_49 : decode prog_14_method_65_code 49 = .ok (.i2l, 1) := by decide +kernel
theorem d_X12_later_50 : decode prog_14_method_65_code 50 = .ok (.invokevirtual 98, 3) := by decide +kernel
theorem d_X12_later_53 : decode prog_14_method_65_code 53 = .ok (.aload_n 0, 1) := by decide +kernel
theorem d_X12_later_54 : decode prog_14_method_65_code 54 = .ok (.aload_n 0, 1) := by decide +kernel
theorem d_X12_later_55 : decode prog_14_method_65_code 55 = .ok (.getfield 20, 3) := by decide +kernel
theorem d_X12_later_58 : decode prog_14_method_65_code 58 = .ok (.invokevirtual 228, 3) := by decide +kernel
theorem d_X12_later_61 : decode prog_14_method_65_code 61 = .ok (.ireturn, 1) := by decide +kernel
def f_X12_later (σ : St) (a1 : Int32) : Option (Int32 × St) := (f_X12_in a1.toInt64 (0 : Int64) (99 : Int64)).bind (fun q1 => (if q1 = 0 then some ((-1 : Int32), (sF σ 300 0 (0 : Int32))) else (f_X12_copies (sF σ 300 0 (0 : Int32))).bind (fun q3 => (f_X12_goesOn q3 307 a1).bind (fun q5 => (f_X12_openOnes (sF q5 300 1 (0 : Int32)) 307).bind (fun q7 => (f_J6_bitCount_0f7a4 q7).bind (fun q9 => (f_X12_enters (sF q5 300 1 (0 : Int32)) q9.toInt64).bind (fun q11 => (f_X12_openOnes q11 307).bind (fun q13 => some (q13, q11)))))))))
theorem c_X12_later {l : Launch} {G : gT} {χ σ : St} {a1 : Int32} (hf : FW G) {q : Int32 × St} (h : f_X12_later σ a1 = some q) : Ct l G yX12_later prog_14_method_65_code 2 (some .int) 2 44 [.ref (ga G 300), .int a1] χ σ (some (.int q.1)) χ q.2 := by
  refine Ct.of (by decide) (Nat.le_of_ble_eq_true rfl) ?_
  intro p e s m args below meth c Q X hr hlk hQ
  have hx := X.1
  have hb := X.2.1
  intro H locs ls hw hl
  have hl : lv_has ls 2 [(0, .ref (ga G 300)), (1, .int a1)] := hl
  unfold f_X12_later at h
  refine lv_aload_n hx hb d_X12_later_0 rfl (lv_at hl 0 rfl) ?_
  refine lv_iconst (v := (0 : Int32)) hx hb d_X12_later_1 (by decide) ?_
  refine m_puti (j := 0) X hw ct8 (o_300 hf) (Nat.le_of_ble_eq_true rfl) rfl (Nat.le_of_ble_eq_true rfl) rfl rfl rfl wd_956 d_X12_later_2 (fun H locs hw => ?_)
  refine lv_iload_n hx hb d_X12_later_5 rfl (lv_at hl 1 rfl) ?_
  refine lv_i2l hx hb d_X12_later_6 rfl ?_
  refine lv_lconst (v := (0 : Int64)) hx hb d_X12_later_7 (by decide) ?_
  refine r_ldc2 X wd_1386 d_X12_later_8 ?_
  obtain ⟨q1, e2, h⟩ := bd_some h
  refine r_callS (As := [.long a1.toInt64, .long (0 : Int64), .long (99 : Int64)]) (rest := []) (st' := [.int q1]) X hw hl mwX12_in wd_1093 wd_1092 (c_X12_in hf e2) rfl ⟨Nat.le_of_ble_eq_true rfl, Nat.le_of_ble_eq_true rfl⟩ ⟨Nat.le_refl _, Nat.le_refl _⟩ rfl rfl (Nat.le_of_ble_eq_true rfl) d_X12_later_11 (fun H locs hw => ?_)
  refine lv_if_ne (tgt := 19) hx hb d_X12_later_14 (by decide) (fun hc => ?_) (fun hc => ?_)
  · have h := ite_f h hc
    refine lv_aload_n hx hb d_X12_later_19 rfl (lv_at hl 0 rfl) ?_
    obtain ⟨q3, e4, h⟩ := bd_some h
    refine r_callV (As := []) (rest := []) (st' := []) X hw hl mwX12_copies wd_1380 wp_50 wd_1378 (c_X12_copies hf e4) (r_recv X hw ct8 (o_300 hf)) rfl ⟨Nat.le_of_ble_eq_true rfl, Nat.le_of_ble_eq_true rfl⟩ ⟨Nat.le_refl _, Nat.le_refl _⟩ rfl rfl (Nat.le_of_ble_eq_true rfl) d_X12_later_20 (fun H locs hw => ?_)
    refine lv_aload_n hx hb d_X12_later_23 rfl (lv_at hl 0 rfl) ?_
    refine lv_aload_n hx hb d_X12_later_24 rfl (lv_at hl 0 rfl) ?_
    refine r_getr (j := 7) X hw ct8 (o_300 hf) rfl (Nat.le_of_ble_eq_true rfl) (q := 307) rfl wd_963 d_X12_later_25 ?_
    refine lv_iload_n hx hb d_X12_later_28 rfl (lv_at hl 1 rfl) ?_
    obtain ⟨q5, e6, h⟩ := bd_some h
    refine r_callV (As := [.ref (ga G 307), .int a1]) (rest := []) (st' := []) X hw hl mwX12_goesOn wd_1295 wp_40 wd_1293 (c_X12_goesOn hf (o_307 hf) (Nat.le_of_ble_eq_true rfl) e6) (r_recv X hw ct8 (o_300 hf)) rfl ⟨Nat.le_of_ble_eq_true rfl, Nat.le_of_ble_eq_true rfl⟩ ⟨Nat.le_refl _, Nat.le_refl _⟩ rfl rfl (Nat.le_of_ble_eq_true rfl) d_X12_later_29 (fun H locs hw => ?_)
    refine lv_aload_n hx hb d_X12_later_32 rfl (lv_at hl 0 rfl) ?_
    refine lv_iconst (v := (0 : Int32)) hx hb d_X12_later_33 (by decide) ?_
    refine m_puti (j := 1) X hw ct8 (o_300 hf) (Nat.le_of_ble_eq_true rfl) rfl (Nat.le_of_ble_eq_true rfl) rfl rfl rfl wd_957 d_X12_later_34 (fun H locs hw => ?_)
    refine lv_aload_n hx hb d_X12_later_37 rfl (lv_at hl 0 rfl) ?_
    refine lv_aload_n hx hb d_X12_later_38 rfl (lv_at hl 0 rfl) ?_
    refine lv_aload_n hx hb d_X12_later_39 rfl (lv_at hl 0 rfl) ?_
    refine r_getr (j := 7) X hw ct8 (o_300 hf) rfl (Nat.le_of_ble_eq_true rfl) (q := 307) rfl wd_963 d_X12_later_40 ?_
    obtain ⟨q7, e8, h⟩ := bd_some h
    refine r_callV (As := [.ref (ga G 307)]) (rest := [.ref (ga G 300)]) (st' := [.int q7, .ref (ga G 300)]) X hw hl mwX12_openOnes wd_1263 wp_35 wd_1261 (c_X12_openOnes hf (o_307 hf) (Nat.le_of_ble_eq_true rfl) e8) (r_recv X hw ct8 (o_300 hf)) rfl ⟨Nat.le_of_ble_eq_true rfl, Nat.le_of_ble_eq_true rfl⟩ ⟨Nat.le_refl _, Nat.le_refl _⟩ rfl rfl (Nat.le_of_ble_eq_true rfl) d_X12_later_43 (fun H locs hw => ?_)
    obtain ⟨q9, e10, h⟩ := bd_some h
    refine r_callS (As := [.int q7]) (rest := [.ref (ga G 300)]) (st' := [.int q9, .ref (ga G 300)]) X hw hl mwJ6_bitCount_0f7a4 wd_436 wd_1272 (c_J6_bitCount_0f7a4 e10) rfl ⟨Nat.le_of_ble_eq_true rfl, Nat.le_of_ble_eq_true rfl⟩ ⟨Nat.le_refl _, Nat.le_refl _⟩ rfl rfl (Nat.le_of_ble_eq_true rfl) d_X12_later_46 (fun H locs hw => ?_)
    refine lv_i2l hx hb d_X12_later_49 rfl ?_
    obtain ⟨q11, e12, h⟩ := bd_some h
    refine r_callV (As := [.long q9.toInt64]) (rest := []) (st' := []) X hw hl mwX12_enters wd_1282 wp_38 wd_1280 (c_X12_enters hf e12) (r_recv X hw ct8 (o_300 hf)) rfl ⟨Nat.le_of_ble_eq_true rfl, Nat.le_of_ble_eq_true rfl⟩ ⟨Nat.le_refl _, Nat.le_refl _⟩ rfl rfl (Nat.le_of_ble_eq_true rfl) d_X12_later_50 (fun H locs hw => ?_)
    refine lv_aload_n hx hb d_X12_later_53 rfl (lv_at hl 0 rfl) ?_
    refine lv_aload_n hx hb d_X12_later_54 rfl (lv_at hl 0 rfl) ?_
    refine r_getr (j := 7) X hw ct8 (o_300 hf) rfl (Nat.le_of_ble_eq_true rfl) (q := 307) rfl wd_963 d_X12_later_55 ?_
    obtain ⟨q13, e14, h⟩ := bd_some h
    refine r_callV (As := [.ref (ga G 307)]) (rest := []) (st' := [.int q13]) X hw hl mwX12_openOnes wd_1263 wp_35 wd_1261 (c_X12_openOnes hf (o_307 hf) (Nat.le_of_ble_eq_true rfl) e14) (r_recv X hw ct8 (o_300 hf)) rfl ⟨Nat.le_of_ble_eq_true rfl, Nat.le_of_ble_eq_true rfl⟩ ⟨Nat.le_refl _, Nat.le_refl _⟩ rfl rfl (Nat.le_of_ble_eq_true rfl) d_X12_later_58 (fun H locs hw => ?_)
    obtain rfl := Option.some.inj h
    subst hQ
    exact r_iret X hr hlk hw d_X12_later_61
  · have h := ite_t h hc
    refine lv_iconst (v := (-1 : Int32)) hx hb d_X12_later_17 (by decide) ?_
    obtain rfl := Option.some.inj h
    subst hQ
    exact r_iret X hr hlk hw d_X12_later_18
abbrev yX12_calm : MethodName := ⟨"OysterBedsModel", "calm", "()I"⟩
theorem mwX12_calm : MW yX12_calm prog_14_method_66_code 3 (some .int) 0 := ⟨wd_1390, wd_10, by decide +kernel⟩
theorem d_X12_calm_0 : decode prog_14_method_66_code 0 = .ok (.aload_n 0, 1) := by decide +kernel
theorem d_X12_calm_1 : decode prog_14_method_66_code 1 = .ok (.iconst 0, 1) := by decide +kernel
theorem d_X12_calm_2 : decode prog_14_method_66_code 2 = .ok (.putfield 87, 3) := by decide +kernel
theorem d_X12_calm_5 : decode prog_14_method_66_code 5 = .ok (.iconst 0, 1) := by decide +kernel
theorem d_X12_calm_6 : decode prog_14_method_66_code 6 = .ok (.istore_n 1, 1) := by decide +kernel
theorem d_X12_calm_7 : decode prog_14_method_66_code 7 = .ok (.iconst 0, 1) := by decide +kernel
theorem d_X12_calm_8 : decode prog_14_method_66_code 8 = .ok (.istore_n 2, 1) := by decide +kernel
theorem d_X12_calm_9 : decode prog_14_method_66_code 9 = .ok (.iload_n 2, 1) := by decide +kernel
theorem d_X12_calm_10 : decode prog_14_method_66_code 10 = .ok (.aload_n 0, 1) := by decide +kernel
theorem d_X12_calm_11 : decode prog_14_method_66_code 11 = .ok (.getfield 102, 3) := by decide +kernel
theorem d_X12_calm_14 : decode prog_14_method_66_code 14 = .ok (.if_icmp .ge 23, 3) := by decide +kernel
theorem d_X12_calm_17 : decode prog_14_method_66_code 17 = .ok (.iload_n 1, 1) := by decide +kernel
theorem d_X12_calm_18 : decode prog_14_method_66_code 18 = .ok (.aload_n 0, 1) := by decide +kernel
theorem d_X12_calm_19 : decode prog_14_method_66_code 19 = .ok (.getfield 17, 3) := by decide +kernel
theorem d_X12_calm_22 : decode prog_14_method_66_code 22 = .ok (.bipush 16, 2) := by decide +kernel
theorem d_X12_calm_24 : decode prog_14_method_66_code 24 = .ok (.iload_n 2, 1) := by decide +kernel
theorem d_X12_calm_25 : decode prog_14_method_66_code 25 = .ok (.iadd, 1) := by decide +kernel
theorem d_X12_calm_26 : decode prog_14_method_66_code 26 = .ok (.iaload, 1) := by decide +kernel
theorem d_X12_calm_27 : decode prog_14_method_66_code 27 = .ok (.invokestatic 251, 3) := by decide +kernel
theorem d_X12_calm_30 : decode prog_14_method_66_code 30 = .ok (.istore_n 1, 1) := by decide +kernel
theorem d_X12_calm_31 : decode prog_14_method_66_code 31 = .ok (.iinc 2 1, 3) := by decide +kernel
theorem d_X12_calm_34 : decode prog_14_method_66_code 34 = .ok (.goto (-25), 3) := by decide +kernel
theorem d_X12_calm_37 : decode prog_14_method_66_code 37 = .ok (.iload_n 1, 1) := by decide +kernel
theorem d_X12_calm_38 : decode prog_14_method_66_code 38 = .ok (.ireturn, 1) := by decide +kernel
def f_X12_calm_s9 (τ : St) (x1 : Int32) (x2 : Int32) : Option ((Int32 × Int32) ⊕ (Int32)) := (if (cF τ 300 3) ≤ x2 then some (.inr x1) else gd (inb ((16 : Int32) + x2) 34) (some (.inl ((if x1 < (cA τ 306 ((16 : Int32) + x2).toNatClampNeg) then (cA τ 306 ((16 : Int32) + x2).toNatClampNeg) else x1), (x2 + (1 : Int32))))))
def f_X12_calm (σ : St) : Option (Int32 × St) := (iter (fun z => f_X12_calm_s9 (sF σ 300 0 (0 : Int32)) z.1 z.2) FU ((0 : Int32), (0 : Int32))).bind (fun z2 => some (z2, (sF σ 300 0 (0 : Int32))))
theorem c_X12_calm {l : Launch} {G : gT} {χ σ : St} (hf : FW G) {q : Int32 × St} (h : f_X12_calm σ = some q) : Ct l G yX12_calm prog_14_method_66_code 3 (some .int) 1 21 [.ref (ga G 300)] χ σ (some (.int q.1)) χ q.2 := by
  refine Ct.of (by decide) (Nat.le_of_ble_eq_true rfl) ?_
  intro p e s m args below meth c Q X hr hlk hQ
  have hx := X.1
  have hb := X.2.1
  have b9 : ∀ (τ : St) (x1 : Int32) (x2 : Int32) (o : (Int32 × Int32) ⊕ (Int32)), f_X12_calm_s9 τ x1 x2 = some o → Sum.elim (fun z : Int32 × Int32 => Wat p l e (rmk 1 21) s m args below meth c Q G 3 9 [] [(1, .int z.1), (2, .int z.2), (0, .ref (ga G 300))] χ τ) (fun z : Int32 => Wat p l e (rmk 1 21) s m args below meth c Q G 3 37 [] [(1, .int z)] χ τ) o → Wat p l e (rmk 1 21) s m args below meth c Q G 3 9 [] [(1, .int x1), (2, .int x2), (0, .ref (ga G 300))] χ τ := by
    intro τ x1 x2 o h hk H locs ls hw hl
    unfold f_X12_calm_s9 at h
    refine lv_iload_n hx hb d_X12_calm_9 rfl (lv_at hl 1 rfl) ?_
    refine lv_aload_n hx hb d_X12_calm_10 rfl (lv_at hl 2 rfl) ?_
    refine m_geti (j := 3) X hw ct8 (o_300 hf) (Nat.le_of_ble_eq_true rfl) rfl (Nat.le_of_ble_eq_true rfl) wd_959 d_X12_calm_11 ?_
    refine lv_icmp_ge (tgt := 37) hx hb d_X12_calm_14 (by decide) (fun hc => ?_) (fun hc => ?_)
    · have h := ite_t h hc
      obtain rfl := Option.some.inj h
      dsimp only [Sum.elim_inr] at hk
      exact hk _ _ _ hw (lv_sub hl [0] rfl)
    · have h := ite_f h hc
      refine lv_iload_n hx hb d_X12_calm_17 rfl (lv_at hl 0 rfl) ?_
      refine lv_aload_n hx hb d_X12_calm_18 rfl (lv_at hl 2 rfl) ?_
      refine r_getr (j := 6) X hw ct8 (o_300 hf) rfl (Nat.le_of_ble_eq_true rfl) (q := 306) rfl wd_962 d_X12_calm_19 ?_
      refine lv_bipush (v := (16 : Int32)) hx hb d_X12_calm_22 (by decide) ?_
      refine lv_iload_n hx hb d_X12_calm_24 rfl (lv_at hl 1 rfl) ?_
      refine lv_iadd hx hb d_X12_calm_25 ?_
      obtain ⟨hi1, h⟩ := gd_some h
      refine m_iald X hw (o_306 hf) (Nat.le_of_ble_eq_true rfl) hi1 d_X12_calm_26 ?_
      refine r_max X hl wd_1232 ⟨Nat.le_of_ble_eq_true rfl, Nat.le_of_ble_eq_true rfl⟩ ⟨Nat.le_refl _, Nat.le_refl _⟩ d_X12_calm_27 ?_
      refine lv_istore_n (lv' := [(1, .int (if x1 < (cA τ 306 ((16 : Int32) + x2).toNatClampNeg) then (cA τ 306 ((16 : Int32) + x2).toNatClampNeg) else x1)), (2, .int x2), (0, .ref (ga G 300))]) hx hb d_X12_calm_30 rfl hl (Nat.le_of_ble_eq_true rfl) rfl (fun ls hl => ?_)
      refine lv_iinc (v := (x2 + (1 : Int32))) (k := 1) (lv' := [(2, .int (x2 + (1 : Int32))), (1, .int (if x1 < (cA τ 306 ((16 : Int32) + x2).toNatClampNeg) then (cA τ 306 ((16 : Int32) + x2).toNatClampNeg) else x1)), (0, .ref (ga G 300))]) hx hb d_X12_calm_31 hl rfl (by rfl) (Nat.le_of_ble_eq_true rfl) rfl (fun ls hl => ?_)
      refine lv_goto (tgt := 9) hx hb d_X12_calm_34 (by decide) ?_
      obtain rfl := Option.some.inj h
      dsimp only [Sum.elim_inl] at hk
      exact hk _ _ _ hw (lv_sub hl [1, 0, 2] rfl)
  intro H locs ls hw hl
  have hl : lv_has ls 3 [(0, .ref (ga G 300))] := hl
  unfold f_X12_calm at h
  refine lv_aload_n hx hb d_X12_calm_0 rfl (lv_at hl 0 rfl) ?_
  refine lv_iconst (v := (0 : Int32)) hx hb d_X12_calm_1 (by decide) ?_
  refine m_puti (j := 0) X hw ct8 (o_300 hf) (Nat.le_of_ble_eq_true rfl) rfl (Nat.le_of_ble_eq_true rfl) rfl rfl rfl wd_956 d_X12_calm_2 (fun H locs hw => ?_)
  refine lv_iconst (v := (0 : Int32)) hx hb d_X12_calm_5 (by decide) ?_
  refine lv_istore_n (lv' := [(1, .int (0 : Int32)), (0, .ref (ga G 300))]) hx hb d_X12_calm_6 rfl hl (Nat.le_of_ble_eq_true rfl) rfl (fun ls hl => ?_)
  refine lv_iconst (v := (0 : Int32)) hx hb d_X12_calm_7 (by decide) ?_
  refine lv_istore_n (lv' := [(2, .int (0 : Int32)), (1, .int (0 : Int32)), (0, .ref (ga G 300))]) hx hb d_X12_calm_8 rfl hl (Nat.le_of_ble_eq_true rfl) rfl (fun ls hl => ?_)
  obtain ⟨z2, e3, h⟩ := bd_some h
  refine iter_w (Wh := fun z : Int32 × Int32 => Wat p l e (rmk 1 21) s m args below meth c Q G 3 9 [] [(1, .int z.1), (2, .int z.2), (0, .ref (ga G 300))] χ (sF σ 300 0 (0 : Int32))) (K := fun z : Int32 => Wat p l e (rmk 1 21) s m args below meth c Q G 3 37 [] [(1, .int z)] χ (sF σ 300 0 (0 : Int32))) (fun z o h1 h2 => b9 (sF σ 300 0 (0 : Int32)) z.1 z.2 o h1 h2) FU _ _ e3 ?_ _ _ _ hw (lv_sub hl [1, 0, 2] rfl)
  intro H locs ls hw hl
  refine lv_iload_n hx hb d_X12_calm_37 rfl (lv_at hl 0 rfl) ?_
  obtain rfl := Option.some.inj h
  subst hQ
  exact r_iret X hr hlk hw d_X12_calm_38
abbrev yX12_opens : MethodName := ⟨"OysterBedsModel", "opens", "(I)I"⟩
theorem mwX12_opens : MW yX12_opens prog_14_method_67_code 3 (some .int) 1 := ⟨wd_1394, wd_10, by decide +kernel⟩
theorem d_X12_opens_0 : decode prog_14_method_67_code 0 = .ok (.aload_n 0, 1) := by decide +kernel
theorem d_X12_opens_1 : decode prog_14_method_67_code 1 = .ok (.iconst 0, 1) := by decide +kernel
theorem d_X12_opens_2 : decode prog_14_method_67_code 2 = .ok (.putfield 87, 3) := by decide +kernel
theorem d_X12_opens_5 : decode prog_14_method_67_code 5 = .ok (.iload_n 1, 1) := by decide +kernel
theorem d_X12_opens_6 : decode prog_14_method_67_code 6 = .ok (.i2l, 1) := by decide +kernel
theorem d_X12_opens_7 : decode prog_14_method_67_code 7 = .ok (.lconst 0, 1) := by decide +kernel
theorem d_X12_opens_8 : decode prog_14_method_67_code 8 = .ok (.ldc2_w 313, 3) := by decide +kernel
theorem d_X12_opens_11 : decode prog_14_method_67_code 11 = .ok (.invokestatic 105, 3) := by decide +kernel
theorem d_X12_opens_14 : decode prog_14_method_67_code 14 = .ok (.ifCond .ne 5, 3) := by decide +kernel
theorem d_X12_opens_17 : decode prog_14_method_67_code 17 = .ok (.iconst (-1), 1) := by decide +kernel
theorem d_X12_opens_18 : decode prog_14_method_67_code 18 = .ok (.ireturn, 1) := by decide +kernel
theorem d_X12_opens_19 : decode prog_14_method_67_code 19 = .ok (.iload_n 1, 1) := by decide +kernel
theorem d_X12_opens_20 : decode prog_14_method_67_code 20 = .ok (.aload_n 0, 1) := by decide +kernel
theorem d_X12_opens_21 : decode prog_14_method_67_code 21 = .ok (.getfield 102, 3) := by decide +kernel
theorem d_X12_opens_24 : decode prog_14_method_67_code 24 = .ok (.if_icmp .le 6, 3) := by decide +kernel
theorem d_X12_opens_27 : decode prog_14_method_67_code 27 = .ok (.bipush (-2), 2) := by decide +kernel
theorem d_X12_opens_29 : decode prog_14_method_67_code 29 = .ok (.ireturn, 1) := by decide +kernel
theorem d_X12_opens_30 : decode prog_14_method_67_code 30 = .ok (.aload_n 0, 1) := by decide +kernel
theorem d_X12_opens_31 : decode prog_14_method_67_code 31 = .ok (.invokevirtual 318, 3) := by decide +kernel
theorem d_X12_opens_34 : decode prog_14_method_67_code 34 = .ok (.iconst 0, 1) := by decide +kernel
theorem d_X12_opens_35 : decode prog_14_method_67_code 35 = .ok (.istore_n 2, 1) := by decide +kernel
theorem d_X12_opens_36 : decode prog_14_method_67_code 36 = .ok (.aload_n 0, 1) := by decide +kernel
theorem d_X12_opens_37 : decode prog_14_method_67_code 37 = .ok (.aload_n 0, 1) := by decide +kernel
theorem d_X12_opens_38 : decode prog_14_method_67_code 38 = .ok (.getfield 20, 3) := by decide +kernel
theorem d_X12_opens_41 : decode prog_14_method_67_code 41 = .ok (.invokevirtual 228, 3) := by decide +kernel
theorem d_X12_opens_44 : decode prog_14_method_67_code 44 = .ok (.invokestatic 235, 3) := by decide +kernel
theorem d_X12_opens_47 : decode prog_14_method_67_code 47 = .ok (.iload_n 1, 1) := by decide +kernel
theorem d_X12_opens_48 : decode prog_14_method_67_code 48 = .ok (.if_icmp .ge 18, 3) := by decide +kernel
theorem d_X12_opens_51 : decode prog_14_method_67_code 51 = .ok (.aload_n 0, 1) := by decide +kernel
theorem d_X12_opens_52 : decode prog_14_method_67_code 52 = .ok (.aload_n 0, 1) := by decide +kernel
theorem d_X12_opens_53 : decode prog_14_method_67_code 53 = .ok (.getfield 20, 3) := by decide +kernel
theorem d_X12_opens_56 : decode prog_14_method_67_code 56 = .ok (.iconst 1, 1) := by decide +kernel
theorem d_X12_opens_57 : decode prog_14_method_67_code 57 = .ok (.invokevirtual 281, 3) := by decide +kernel
theorem d_X12_opens_60 : decode prog_14_method_67_code 60 = .ok (.iinc 2 1, 3) := by decide +kernel
theorem d_X12_opens_63 : decode prog_14_method_67_code 63 = .ok (.goto (-27), 3) := by decide +kernel
theorem d_X12_opens_66 : decode prog_14_method_67_code 66 = .ok (.aload_n 0, 1) := by decide +kernel
theorem d_X12_opens_67 : decode prog_14_method_67_code 67 = .ok (.iconst 0, 1) := by decide +kernel
theorem d_X12_opens_68 : decode prog_14_method_67_code 68 = .ok (.putfield 95, 3) := by decide +kernel
theorem d_X12_opens_71 : decode prog_14_method_67_code 71 = .ok (.aload_n 0, 1) := by decide +kernel
theorem d_X12_opens_72 : decode prog_14_method_67_code 72 = .ok (.aload_n 0, 1) := by decide +kernel
theorem d_X12_opens_73 : decode prog_14_method_67_code 73 = .ok (.aload_n 0, 1) := by decide +kernel
theorem d_X12_opens_74 : decode prog_14_method_67_code 74 = .ok (.getfield 20, 3) := by decide +kernel
theorem d_X12_opens_77 : decode prog_14_method_67_code 77 = .ok (.invokevirtual 228, 3) := by decide +kernel
theorem d_X12_opens_80 : decode prog_14_method_67_code 80 = .ok (.i2l, 1) := by decide +kernel
theorem d_X12_opens_81 : decode prog_14_method_67_code 81 = .ok (.invokevirtual 98, 3) := by decide +kernel
theorem d_X12_opens_84 : decode prog_14_method_67_code 84 = .ok (.iload_n 2, 1) := by decide +kernel
theorem d_X12_opens_85 : decode prog_14_method_67_code 85 = .ok (.ireturn, 1) := by decide +kernel
def f_X12_opens_s36 (τ : St) (y1 : Int32) (x2 : Int32) : Option ((Int32 × St) ⊕ (Int32 × St)) := (f_X12_openOnes τ 307).bind (fun q5 => (f_J6_bitCount_0f7a4 q5).bind (fun q7 => (if y1 ≤ q7 then some (.inr (x2, τ)) else (f_X12_goesOn τ 307 (1 : Int32)).bind (fun q9 => some (.inl ((x2 + (1 : Int32)), q9))))))
def f_X12_opens (σ : St) (a1 : Int32) : Option (Int32 × St) := (f_X12_in a1.toInt64 (0 : Int64) (8 : Int64)).bind (fun q1 => (if q1 = 0 then some ((-1 : Int32), (sF σ 300 0 (0 : Int32))) else (if a1 ≤ (cF (sF σ 300 0 (0 : Int32)) 300 3) then (f_X12_copies (sF σ 300 0 (0 : Int32))).bind (fun q3 => (iter (fun z => f_X12_opens_s36 z.2 a1 z.1) FU ((0 : Int32), q3)).bind (fun z11 => (f_X12_openOnes (sF z11.2 300 1 (0 : Int32)) 307).bind (fun q14 => (f_X12_enters (sF z11.2 300 1 (0 : Int32)) q14.toInt64).bind (fun q16 => some (z11.1, q16))))) else some ((-2 : Int32), (sF σ 300 0 (0 : Int32))))))
theorem c_X12_opens {l : Launch} {G : gT} {χ σ : St} {a1 : Int32} (hf : FW G) {q : Int32 × St} (h : f_X12_opens σ a1 = some q) : Ct l G yX12_opens prog_14_method_67_code 3 (some .int) 2 44 [.ref (ga G 300), .int a1] χ σ (some (.int q.1)) χ q.2 := by
  refine Ct.of (by decide) (Nat.le_of_ble_eq_true rfl) ?_
  intro p e s m args below meth c Q X hr hlk hQ
  have hx := X.1
  have hb := X.2.1
  have b36 : ∀ (τ : St) (y1 : Int32) (x2 : Int32) (o : (Int32 × St) ⊕ (Int32 × St)), f_X12_opens_s36 τ y1 x2 = some o → Sum.elim (fun z : Int32 × St => Wat p l e (rmk 2 44) s m args below meth c Q G 3 36 [] [(2, .int z.1), (0, .ref (ga G 300)), (1, .int y1)] χ z.2) (fun z : Int32 × St => Wat p l e (rmk 2 44) s m args below meth c Q G 3 66 [] [(0, .ref (ga G 300)), (2, .int z.1)] χ z.2) o → Wat p l e (rmk 2 44) s m args below meth c Q G 3 36 [] [(2, .int x2), (0, .ref (ga G 300)), (1, .int y1)] χ τ := by
    intro τ y1 x2 o h hk H locs ls hw hl
    unfold f_X12_opens_s36 at h
    refine lv_aload_n hx hb d_X12_opens_36 rfl (lv_at hl 1 rfl) ?_
    refine lv_aload_n hx hb d_X12_opens_37 rfl (lv_at hl 1 rfl) ?_
    refine r_getr (j := 7) X hw ct8 (o_300 hf) rfl (Nat.le_of_ble_eq_true rfl) (q := 307) rfl wd_963 d_X12_opens_38 ?_
    obtain ⟨q5, e6, h⟩ := bd_some h
    refine r_callV (As := [.ref (ga G 307)]) (rest := []) (st' := [.int q5]) X hw hl mwX12_openOnes wd_1263 wp_35 wd_1261 (c_X12_openOnes hf (o_307 hf) (Nat.le_of_ble_eq_true rfl) e6) (r_recv X hw ct8 (o_300 hf)) rfl ⟨Nat.le_of_ble_eq_true rfl, Nat.le_of_ble_eq_true rfl⟩ ⟨Nat.le_refl _, Nat.le_refl _⟩ rfl rfl (Nat.le_of_ble_eq_true rfl) d_X12_opens_41 (fun H locs hw => ?_)
    obtain ⟨q7, e8, h⟩ := bd_some h
    refine r_callS (As := [.int q5]) (rest := []) (st' := [.int q7]) X hw hl mwJ6_bitCount_0f7a4 wd_436 wd_1272 (c_J6_bitCount_0f7a4 e8) rfl ⟨Nat.le_of_ble_eq_true rfl, Nat.le_of_ble_eq_true rfl⟩ ⟨Nat.le_refl _, Nat.le_refl _⟩ rfl rfl (Nat.le_of_ble_eq_true rfl) d_X12_opens_44 (fun H locs hw => ?_)
    refine lv_iload_n hx hb d_X12_opens_47 rfl (lv_at hl 2 rfl) ?_
    refine lv_icmp_ge (tgt := 66) hx hb d_X12_opens_48 (by decide) (fun hc => ?_) (fun hc => ?_)
    · have h := ite_t h hc
      obtain rfl := Option.some.inj h
      dsimp only [Sum.elim_inr] at hk
      exact hk _ _ _ hw (lv_sub hl [1, 0] rfl)
    · have h := ite_f h hc
      refine lv_aload_n hx hb d_X12_opens_51 rfl (lv_at hl 1 rfl) ?_
      refine lv_aload_n hx hb d_X12_opens_52 rfl (lv_at hl 1 rfl) ?_
      refine r_getr (j := 7) X hw ct8 (o_300 hf) rfl (Nat.le_of_ble_eq_true rfl) (q := 307) rfl wd_963 d_X12_opens_53 ?_
      refine lv_iconst (v := (1 : Int32)) hx hb d_X12_opens_56 (by decide) ?_
      obtain ⟨q9, e10, h⟩ := bd_some h
      refine r_callV (As := [.ref (ga G 307), .int (1 : Int32)]) (rest := []) (st' := []) X hw hl mwX12_goesOn wd_1295 wp_40 wd_1293 (c_X12_goesOn hf (o_307 hf) (Nat.le_of_ble_eq_true rfl) e10) (r_recv X hw ct8 (o_300 hf)) rfl ⟨Nat.le_of_ble_eq_true rfl, Nat.le_of_ble_eq_true rfl⟩ ⟨Nat.le_refl _, Nat.le_refl _⟩ rfl rfl (Nat.le_of_ble_eq_true rfl) d_X12_opens_57 (fun H locs hw => ?_)
      refine lv_iinc (v := (x2 + (1 : Int32))) (k := 0) (lv' := [(2, .int (x2 + (1 : Int32))), (0, .ref (ga G 300)), (1, .int y1)]) hx hb d_X12_opens_60 hl rfl (by rfl) (Nat.le_of_ble_eq_true rfl) rfl (fun ls hl => ?_)
      refine lv_goto (tgt := 36) hx hb d_X12_opens_63 (by decide) ?_
      obtain rfl := Option.some.inj h
      dsimp only [Sum.elim_inl] at hk
      exact hk _ _ _ hw (lv_sub hl [0, 1, 2] rfl)
  intro H locs ls hw hl
  have hl : lv_has ls 3 [(0, .ref (ga G 300)), (1, .int a1)] := hl
  unfold f_X12_opens at h
  refine lv_aload_n hx hb d_X12_opens_0 rfl (lv_at hl 0 rfl) ?_
  refine lv_iconst (v := (0 : Int32)) hx hb d_X12_opens_1 (by decide) ?_
  refine m_puti (j := 0) X hw ct8 (o_300 hf) (Nat.le_of_ble_eq_true rfl) rfl (Nat.le_of_ble_eq_true rfl) rfl rfl rfl wd_956 d_X12_opens_2 (fun H locs hw => ?_)
  refine lv_iload_n hx hb d_X12_opens_5 rfl (lv_at hl 1 rfl) ?_
  refine lv_i2l hx hb d_X12_opens_6 rfl ?_
  refine lv_lconst (v := (0 : Int64)) hx hb d_X12_opens_7 (by decide) ?_
  refine r_ldc2 X wd_1359 d_X12_opens_8 ?_
  obtain ⟨q1, e2, h⟩ := bd_some h
  refine r_callS (As := [.long a1.toInt64, .long (0 : Int64), .long (8 : Int64)]) (rest := []) (st' := [.int q1]) X hw hl mwX12_in wd_1093 wd_1092 (c_X12_in hf e2) rfl ⟨Nat.le_of_ble_eq_true rfl, Nat.le_of_ble_eq_true rfl⟩ ⟨Nat.le_refl _, Nat.le_refl _⟩ rfl rfl (Nat.le_of_ble_eq_true rfl) d_X12_opens_11 (fun H locs hw => ?_)
  refine lv_if_ne (tgt := 19) hx hb d_X12_opens_14 (by decide) (fun hc => ?_) (fun hc => ?_)
  · have h := ite_f h hc
    refine lv_iload_n hx hb d_X12_opens_19 rfl (lv_at hl 1 rfl) ?_
    refine lv_aload_n hx hb d_X12_opens_20 rfl (lv_at hl 0 rfl) ?_
    refine m_geti (j := 3) X hw ct8 (o_300 hf) (Nat.le_of_ble_eq_true rfl) rfl (Nat.le_of_ble_eq_true rfl) wd_959 d_X12_opens_21 ?_
    refine lv_icmp_le (tgt := 30) hx hb d_X12_opens_24 (by decide) (fun hc => ?_) (fun hc => ?_)
    · have h := ite_t h hc
      refine lv_aload_n hx hb d_X12_opens_30 rfl (lv_at hl 0 rfl) ?_
      obtain ⟨q3, e4, h⟩ := bd_some h
      refine r_callV (As := []) (rest := []) (st' := []) X hw hl mwX12_copies wd_1380 wp_50 wd_1378 (c_X12_copies hf e4) (r_recv X hw ct8 (o_300 hf)) rfl ⟨Nat.le_of_ble_eq_true rfl, Nat.le_of_ble_eq_true rfl⟩ ⟨Nat.le_refl _, Nat.le_refl _⟩ rfl rfl (Nat.le_of_ble_eq_true rfl) d_X12_opens_31 (fun H locs hw => ?_)
      refine lv_iconst (v := (0 : Int32)) hx hb d_X12_opens_34 (by decide) ?_
      refine lv_istore_n (lv' := [(2, .int (0 : Int32)), (0, .ref (ga G 300)), (1, .int a1)]) hx hb d_X12_opens_35 rfl hl (Nat.le_of_ble_eq_true rfl) rfl (fun ls hl => ?_)
      obtain ⟨z11, e12, h⟩ := bd_some h
      refine iter_w (Wh := fun z : Int32 × St => Wat p l e (rmk 2 44) s m args below meth c Q G 3 36 [] [(2, .int z.1), (0, .ref (ga G 300)), (1, .int a1)] χ z.2) (K := fun z : Int32 × St => Wat p l e (rmk 2 44) s m args below meth c Q G 3 66 [] [(0, .ref (ga G 300)), (2, .int z.1)] χ z.2) (fun z o h1 h2 => b36 z.2 a1 z.1 o h1 h2) FU _ _ e12 ?_ _ _ _ hw (lv_sub hl [0, 1, 2] rfl)
      intro H locs ls hw hl
      refine lv_aload_n hx hb d_X12_opens_66 rfl (lv_at hl 0 rfl) ?_
      refine lv_iconst (v := (0 : Int32)) hx hb d_X12_opens_67 (by decide) ?_
      refine m_puti (j := 1) X hw ct8 (o_300 hf) (Nat.le_of_ble_eq_true rfl) rfl (Nat.le_of_ble_eq_true rfl) rfl rfl rfl wd_957 d_X12_opens_68 (fun H locs hw => ?_)
      refine lv_aload_n hx hb d_X12_opens_71 rfl (lv_at hl 0 rfl) ?_
      refine lv_aload_n hx hb d_X12_opens_72 rfl (lv_at hl 0 rfl) ?_
      refine lv_aload_n hx hb d_X12_opens_73 rfl (lv_at hl 0 rfl) ?_
      refine r_getr (j := 7) X hw ct8 (o_300 hf) rfl (Nat.le_of_ble_eq_true rfl) (q := 307) rfl wd_963 d_X12_opens_74 ?_
      obtain ⟨q14, e15, h⟩ := bd_some h
      refine r_callV (As := [.ref (ga G 307)]) (rest := [.ref (ga G 300)]) (st' := [.int q14, .ref (ga G 300)]) X hw hl mwX12_openOnes wd_1263 wp_35 wd_1261 (c_X12_openOnes hf (o_307 hf) (Nat.le_of_ble_eq_true rfl) e15) (r_recv X hw ct8 (o_300 hf)) rfl ⟨Nat.le_of_ble_eq_true rfl, Nat.le_of_ble_eq_true rfl⟩ ⟨Nat.le_refl _, Nat.le_refl _⟩ rfl rfl (Nat.le_of_ble_eq_true rfl) d_X12_opens_77 (fun H locs hw => ?_)
      refine lv_i2l hx hb d_X12_opens_80 rfl ?_
      obtain ⟨q16, e17, h⟩ := bd_some h
      refine r_callV (As := [.long q14.toInt64]) (rest := []) (st' := []) X hw hl mwX12_enters wd_1282 wp_38 wd_1280 (c_X12_enters hf e17) (r_recv X hw ct8 (o_300 hf)) rfl ⟨Nat.le_of_ble_eq_true rfl, Nat.le_of_ble_eq_true rfl⟩ ⟨Nat.le_refl _, Nat.le_refl _⟩ rfl rfl (Nat.le_of_ble_eq_true rfl) d_X12_opens_81 (fun H locs hw => ?_)
      refine lv_iload_n hx hb d_X12_opens_84 rfl (lv_at hl 1 rfl) ?_
      obtain rfl := Option.some.inj h
      subst hQ
      exact r_iret X hr hlk hw d_X12_opens_85
    · have h := ite_f h hc
      refine lv_bipush (v := (-2 : Int32)) hx hb d_X12_opens_27 (by decide) ?_
      obtain rfl := Option.some.inj h
      subst hQ
      exact r_iret X hr hlk hw d_X12_opens_29
  · have h := ite_t h hc
    refine lv_iconst (v := (-1 : Int32)) hx hb d_X12_opens_17 (by decide) ?_
    obtain rfl := Option.some.inj h
    subst hQ
    exact r_iret X hr hlk hw d_X12_opens_18
abbrev yX12_line : MethodName := ⟨"OysterBedsModel", "line", "()I"⟩
theorem mwX12_line : MW yX12_line prog_14_method_68_code 3 (some .int) 0 := ⟨wd_1398, wd_10, by decide +kernel⟩
theorem d_X12_line_0 : decode prog_14_method_68_code 0 = .ok (.aload_n 0, 1) := by decide +kernel
theorem d_X12_line_1 : decode prog_14_method_68_code 1 = .ok (.iconst 0, 1) := by decide +kernel
theorem d_X12_line_2 : decode prog_14_method_68_code 2 = .ok (.putfield 87, 3) := by decide +kernel
theorem d_X12_line_5 : decode prog_14_method_68_code 5 = .ok (.aload_n 0, 1) := by decide +kernel
theorem d_X12_line_6 : decode prog_14_method_68_code 6 = .ok (.iconst 0, 1) := by decide +kernel
theorem d_X12_line_7 : decode prog_14_method_68_code 7 = .ok (.putfield 95, 3) := by decide +kernel
theorem d_X12_line_10 : decode prog_14_method_68_code 10 = .ok (.iconst 0, 1) := by decide +kernel
theorem d_X12_line_11 : decode prog_14_method_68_code 11 = .ok (.istore_n 1, 1) := by decide +kernel
theorem d_X12_line_12 : decode prog_14_method_68_code 12 = .ok (.iload_n 1, 1) := by decide +kernel
theorem d_X12_line_13 : decode prog_14_method_68_code 13 = .ok (.bipush 9, 2) := by decide +kernel
theorem d_X12_line_15 : decode prog_14_method_68_code 15 = .ok (.if_icmp .gt 44, 3) := by decide +kernel
theorem d_X12_line_18 : decode prog_14_method_68_code 18 = .ok (.iconst 0, 1) := by decide +kernel
theorem d_X12_line_19 : decode prog_14_method_68_code 19 = .ok (.istore_n 2, 1) := by decide +kernel
theorem d_X12_line_20 : decode prog_14_method_68_code 20 = .ok (.iload_n 2, 1) := by decide +kernel
theorem d_X12_line_21 : decode prog_14_method_68_code 21 = .ok (.aload_n 0, 1) := by decide +kernel
theorem d_X12_line_22 : decode prog_14_method_68_code 22 = .ok (.getfield 102, 3) := by decide +kernel
theorem d_X12_line_25 : decode prog_14_method_68_code 25 = .ok (.if_icmp .ge 28, 3) := by decide +kernel
theorem d_X12_line_28 : decode prog_14_method_68_code 28 = .ok (.aload_n 0, 1) := by decide +kernel
theorem d_X12_line_29 : decode prog_14_method_68_code 29 = .ok (.getfield 17, 3) := by decide +kernel
theorem d_X12_line_32 : decode prog_14_method_68_code 32 = .ok (.bipush 16, 2) := by decide +kernel
theorem d_X12_line_34 : decode prog_14_method_68_code 34 = .ok (.iload_n 2, 1) := by decide +kernel
theorem d_X12_line_35 : decode prog_14_method_68_code 35 = .ok (.iadd, 1) := by decide +kernel
theorem d_X12_line_36 : decode prog_14_method_68_code 36 = .ok (.iaload, 1) := by decide +kernel
theorem d_X12_line_37 : decode prog_14_method_68_code 37 = .ok (.iload_n 1, 1) := by decide +kernel
theorem d_X12_line_38 : decode prog_14_method_68_code 38 = .ok (.if_icmp .ne 9, 3) := by decide +kernel
theorem d_X12_line_41 : decode prog_14_method_68_code 41 = .ok (.aload_n 0, 1) := by decide +kernel
theorem d_X12_line_42 : decode prog_14_method_68_code 42 = .ok (.iload_n 2, 1) := by decide +kernel
theorem d_X12_line_43 : decode prog_14_method_68_code 43 = .ok (.i2l, 1) := by decide +kernel
theorem d_X12_line_44 : decode prog_14_method_68_code 44 = .ok (.invokevirtual 98, 3) := by decide +kernel
theorem d_X12_line_47 : decode prog_14_method_68_code 47 = .ok (.iinc 2 1, 3) := by decide +kernel
theorem d_X12_line_50 : decode prog_14_method_68_code 50 = .ok (.goto (-30), 3) := by decide +kernel
theorem d_X12_line_53 : decode prog_14_method_68_code 53 = .ok (.iinc 1 1, 3) := by decide +kernel
theorem d_X12_line_56 : decode prog_14_method_68_code 56 = .ok (.goto (-44), 3) := by decide +kernel
theorem d_X12_line_59 : decode prog_14_method_68_code 59 = .ok (.aload_n 0, 1) := by decide +kernel
theorem d_X12_line_60 : decode prog_14_method_68_code 60 = .ok (.getfield 95, 3) := by decide +kernel
theorem d_X12_line_63 : decode prog_14_method_68_code 63 = .ok (.ireturn, 1) := by decide +kernel
def f_X12_line_j47_20 (τ : St) (x1 : Int32) (x2 : Int32) : Option ((Int32 × St) ⊕ (St)) := some (.inl ((x2 + (1 : Int32)), τ))
def f_X12_line_s20 (τ : St) (y1 : Int32) (x2 : Int32) : Option ((Int32 × St) ⊕ (St)) := (if (cF τ 300 3) ≤ x2 then some (.inr τ) else gd (inb ((16 : Int32) + x2) 34) ((if (cA τ 306 ((16 : Int32) + x2).toNatClampNeg) = y1 then (f_X12_enters τ x2.toInt64).bind (fun q2 => f_X12_line_j47_20 q2 y1 x2) else f_X12_line_j47_20 τ y1 x2)))
def f_X12_line_s12 (τ : St) (x1 : Int32) : Option ((Int32 × St) ⊕ (St)) := (if (9 : Int32) < x1 then some (.inr τ) else (iter (fun z => f_X12_line_s20 z.2 x1 z.1) FU ((0 : Int32), τ)).bind (fun z4 => some (.inl ((x1 + (1 : Int32)), z4))))
def f_X12_line (σ : St) : Option (Int32 × St) := (iter (fun z => f_X12_line_s12 z.2 z.1) FU ((0 : Int32), (sF (sF σ 300 0 (0 : Int32)) 300 1 (0 : Int32)))).bind (fun z7 => some ((cF z7 300 1), z7))
theorem c_X12_line {l : Launch} {G : gT} {χ σ : St} (hf : FW G) {q : Int32 × St} (h : f_X12_line σ = some q) : Ct l G yX12_line prog_14_method_68_code 3 (some .int) 1 22 [.ref (ga G 300)] χ σ (some (.int q.1)) χ q.2 := by
  refine Ct.of (by decide) (Nat.le_of_ble_eq_true rfl) ?_
  intro p e s m args below meth c Q X hr hlk hQ
  have hx := X.1
  have hb := X.2.1
  have j47_20 : ∀ (τ : St) (x1 : Int32) (x2 : Int32) (o : (Int32 × St) ⊕ (St)), f_X12_line_j47_20 τ x1 x2 = some o → Sum.elim (fun z : Int32 × St => Wat p l e (rmk 1 22) s m args below meth c Q G 3 20 [] [(2, .int z.1), (0, .ref (ga G 300)), (1, .int x1)] χ z.2) (fun z : St => Wat p l e (rmk 1 22) s m args below meth c Q G 3 53 [] [(0, .ref (ga G 300)), (1, .int x1)] χ z) o → Wat p l e (rmk 1 22) s m args below meth c Q G 3 47 [] [(0, .ref (ga G 300)), (1, .int x1), (2, .int x2)] χ τ := by
    intro τ x1 x2 o h hk H locs ls hw hl
    unfold f_X12_line_j47_20 at h
    refine lv_iinc (v := (x2 + (1 : Int32))) (k := 2) (lv' := [(2, .int (x2 + (1 : Int32))), (0, .ref (ga G 300)), (1, .int x1)]) hx hb d_X12_line_47 hl rfl (by rfl) (Nat.le_of_ble_eq_true rfl) rfl (fun ls hl => ?_)
    refine lv_goto (tgt := 20) hx hb d_X12_line_50 (by decide) ?_
    obtain rfl := Option.some.inj h
    dsimp only [Sum.elim_inl] at hk
    exact hk _ _ _ hw (lv_sub hl [0, 1, 2] rfl)
  have b20 : ∀ (τ : St) (y1 : Int32) (x2 : Int32) (o : (Int32 × St) ⊕ (St)), f_X12_line_s20 τ y1 x2 = some o → Sum.elim (fun z : Int32 × St => Wat p l e (rmk 1 22) s m args below meth c Q G 3 20 [] [(2, .int z.1), (0, .ref (ga G 300)), (1, .int y1)] χ z.2) (fun z : St => Wat p l e (rmk 1 22) s m args below meth c Q G 3 53 [] [(0, .ref (ga G 300)), (1, .int y1)] χ z) o → Wat p l e (rmk 1 22) s m args below meth c Q G 3 20 [] [(2, .int x2), (0, .ref (ga G 300)), (1, .int y1)] χ τ := by
    intro τ y1 x2 o h hk H locs ls hw hl
    unfold f_X12_line_s20 at h
    refine lv_iload_n hx hb d_X12_line_20 rfl (lv_at hl 0 rfl) ?_
    refine lv_aload_n hx hb d_X12_line_21 rfl (lv_at hl 1 rfl) ?_
    refine m_geti (j := 3) X hw ct8 (o_300 hf) (Nat.le_of_ble_eq_true rfl) rfl (Nat.le_of_ble_eq_true rfl) wd_959 d_X12_line_22 ?_
    refine lv_icmp_ge (tgt := 53) hx hb d_X12_line_25 (by decide) (fun hc => ?_) (fun hc => ?_)
    · have h := ite_t h hc
      obtain rfl := Option.some.inj h
      dsimp only [Sum.elim_inr] at hk
      exact hk _ _ _ hw (lv_sub hl [1, 2] rfl)
    · have h := ite_f h hc
      refine lv_aload_n hx hb d_X12_line_28 rfl (lv_at hl 1 rfl) ?_
      refine r_getr (j := 6) X hw ct8 (o_300 hf) rfl (Nat.le_of_ble_eq_true rfl) (q := 306) rfl wd_962 d_X12_line_29 ?_
      refine lv_bipush (v := (16 : Int32)) hx hb d_X12_line_32 (by decide) ?_
      refine lv_iload_n hx hb d_X12_line_34 rfl (lv_at hl 0 rfl) ?_
      refine lv_iadd hx hb d_X12_line_35 ?_
      obtain ⟨hi1, h⟩ := gd_some h
      refine m_iald X hw (o_306 hf) (Nat.le_of_ble_eq_true rfl) hi1 d_X12_line_36 ?_
      refine lv_iload_n hx hb d_X12_line_37 rfl (lv_at hl 2 rfl) ?_
      refine lv_icmp_ne (tgt := 47) hx hb d_X12_line_38 (by decide) (fun hc => ?_) (fun hc => ?_)
      · have h := ite_f h hc
        exact j47_20 τ y1 x2 o h hk _ _ _ hw (lv_sub hl [1, 2, 0] rfl)
      · have h := ite_t h hc
        refine lv_aload_n hx hb d_X12_line_41 rfl (lv_at hl 1 rfl) ?_
        refine lv_iload_n hx hb d_X12_line_42 rfl (lv_at hl 0 rfl) ?_
        refine lv_i2l hx hb d_X12_line_43 rfl ?_
        obtain ⟨q2, e3, h⟩ := bd_some h
        refine r_callV (As := [.long x2.toInt64]) (rest := []) (st' := []) X hw hl mwX12_enters wd_1282 wp_38 wd_1280 (c_X12_enters hf e3) (r_recv X hw ct8 (o_300 hf)) rfl ⟨Nat.le_of_ble_eq_true rfl, Nat.le_of_ble_eq_true rfl⟩ ⟨Nat.le_refl _, Nat.le_refl _⟩ rfl rfl (Nat.le_of_ble_eq_true rfl) d_X12_line_44 (fun H locs hw => ?_)
        exact j47_20 q2 y1 x2 o h hk _ _ _ hw (lv_sub hl [1, 2, 0] rfl)
  have b12 : ∀ (τ : St) (x1 : Int32) (o : (Int32 × St) ⊕ (St)), f_X12_line_s12 τ x1 = some o → Sum.elim (fun z : Int32 × St => Wat p l e (rmk 1 22) s m args below meth c Q G 3 12 [] [(1, .int z.1), (0, .ref (ga G 300))] χ z.2) (fun z : St => Wat p l e (rmk 1 22) s m args below meth c Q G 3 59 [] [(0, .ref (ga G 300))] χ z) o → Wat p l e (rmk 1 22) s m args below meth c Q G 3 12 [] [(1, .int x1), (0, .ref (ga G 300))] χ τ := by
    intro τ x1 o h hk H locs ls hw hl
    unfold f_X12_line_s12 at h
    refine lv_iload_n hx hb d_X12_line_12 rfl (lv_at hl 0 rfl) ?_
    refine lv_bipush (v := (9 : Int32)) hx hb d_X12_line_13 (by decide) ?_
    refine lv_icmp_gt (tgt := 59) hx hb d_X12_line_15 (by decide) (fun hc => ?_) (fun hc => ?_)
    · have h := ite_t h hc
      obtain rfl := Option.some.inj h
      dsimp only [Sum.elim_inr] at hk
      exact hk _ _ _ hw (lv_sub hl [1] rfl)
    · have h := ite_f h hc
      refine lv_iconst (v := (0 : Int32)) hx hb d_X12_line_18 (by decide) ?_
      refine lv_istore_n (lv' := [(2, .int (0 : Int32)), (1, .int x1), (0, .ref (ga G 300))]) hx hb d_X12_line_19 rfl hl (Nat.le_of_ble_eq_true rfl) rfl (fun ls hl => ?_)
      obtain ⟨z4, e5, h⟩ := bd_some h
      refine iter_w (Wh := fun z : Int32 × St => Wat p l e (rmk 1 22) s m args below meth c Q G 3 20 [] [(2, .int z.1), (0, .ref (ga G 300)), (1, .int x1)] χ z.2) (K := fun z : St => Wat p l e (rmk 1 22) s m args below meth c Q G 3 53 [] [(0, .ref (ga G 300)), (1, .int x1)] χ z) (fun z o h1 h2 => b20 z.2 x1 z.1 o h1 h2) FU _ _ e5 ?_ _ _ _ hw (lv_sub hl [0, 2, 1] rfl)
      intro H locs ls hw hl
      refine lv_iinc (v := (x1 + (1 : Int32))) (k := 1) (lv' := [(1, .int (x1 + (1 : Int32))), (0, .ref (ga G 300))]) hx hb d_X12_line_53 hl rfl (by rfl) (Nat.le_of_ble_eq_true rfl) rfl (fun ls hl => ?_)
      refine lv_goto (tgt := 12) hx hb d_X12_line_56 (by decide) ?_
      obtain rfl := Option.some.inj h
      dsimp only [Sum.elim_inl] at hk
      exact hk _ _ _ hw (lv_sub hl [0, 1] rfl)
  intro H locs ls hw hl
  have hl : lv_has ls 3 [(0, .ref (ga G 300))] := hl
  unfold f_X12_line at h
  refine lv_aload_n hx hb d_X12_line_0 rfl (lv_at hl 0 rfl) ?_
  refine lv_iconst (v := (0 : Int32)) hx hb d_X12_line_1 (by decide) ?_
  refine m_puti (j := 0) X hw ct8 (o_300 hf) (Nat.le_of_ble_eq_true rfl) rfl (Nat.le_of_ble_eq_true rfl) rfl rfl rfl wd_956 d_X12_line_2 (fun H locs hw => ?_)
  refine lv_aload_n hx hb d_X12_line_5 rfl (lv_at hl 0 rfl) ?_
  refine lv_iconst (v := (0 : Int32)) hx hb d_X12_line_6 (by decide) ?_
  refine m_puti (j := 1) X hw ct8 (o_300 hf) (Nat.le_of_ble_eq_true rfl) rfl (Nat.le_of_ble_eq_true rfl) rfl rfl rfl wd_957 d_X12_line_7 (fun H locs hw => ?_)
  refine lv_iconst (v := (0 : Int32)) hx hb d_X12_line_10 (by decide) ?_
  refine lv_istore_n (lv' := [(1, .int (0 : Int32)), (0, .ref (ga G 300))]) hx hb d_X12_line_11 rfl hl (Nat.le_of_ble_eq_true rfl) rfl (fun ls hl => ?_)
  obtain ⟨z7, e8, h⟩ := bd_some h
  refine iter_w (Wh := fun z : Int32 × St => Wat p l e (rmk 1 22) s m args below meth c Q G 3 12 [] [(1, .int z.1), (0, .ref (ga G 300))] χ z.2) (K := fun z : St => Wat p l e (rmk 1 22) s m args below meth c Q G 3 59 [] [(0, .ref (ga G 300))] χ z) (fun z o h1 h2 => b12 z.2 z.1 o h1 h2) FU _ _ e8 ?_ _ _ _ hw (lv_sub hl [0, 1] rfl)
  intro H locs ls hw hl
  refine lv_aload_n hx hb d_X12_line_59 rfl (lv_at hl 0 rfl) ?_
  refine m_geti (j := 1) X hw ct8 (o_300 hf) (Nat.le_of_ble_eq_true rfl) rfl (Nat.le_of_ble_eq_true rfl) wd_957 d_X12_line_60 ?_
  obtain rfl := Option.some.inj h
  subst hQ
  exact r_iret X hr hlk hw d_X12_line_63
abbrev yX12_yes : MethodName := ⟨"OysterBedsModel", "yes", "(I)I"⟩
theorem mwX12_yes : MW yX12_yes prog_14_method_69_code 4 (some .int) 1 := ⟨wd_1402, wd_10, by decide +kernel⟩
theorem d_X12_yes_0 : decode prog_14_method_69_code 0 = .ok (.aload_n 0, 1) := by decide +kernel
theorem d_X12_yes_1 : decode prog_14_method_69_code 1 = .ok (.iconst 0, 1) := by decide +kernel
theorem d_X12_yes_2 : decode prog_14_method_69_code 2 = .ok (.putfield 87, 3) := by decide +kernel
theorem d_X12_yes_5 : decode prog_14_method_69_code 5 = .ok (.iload_n 1, 1) := by decide +kernel
theorem d_X12_yes_6 : decode prog_14_method_69_code 6 = .ok (.iconst 0, 1) := by decide +kernel
theorem d_X12_yes_7 : decode prog_14_method_69_code 7 = .ok (.invokestatic 270, 3) := by decide +kernel
theorem d_X12_yes_10 : decode prog_14_method_69_code 10 = .ok (.ifCond .ne 5, 3) := by decide +kernel
theorem d_X12_yes_13 : decode prog_14_method_69_code 13 = .ok (.iconst (-1), 1) := by decide +kernel
theorem d_X12_yes_14 : decode prog_14_method_69_code 14 = .ok (.ireturn, 1) := by decide +kernel
theorem d_X12_yes_15 : decode prog_14_method_69_code 15 = .ok (.aload_n 0, 1) := by decide +kernel
theorem d_X12_yes_16 : decode prog_14_method_69_code 16 = .ok (.aload_n 0, 1) := by decide +kernel
theorem d_X12_yes_17 : decode prog_14_method_69_code 17 = .ok (.getfield 17, 3) := by decide +kernel
theorem d_X12_yes_20 : decode prog_14_method_69_code 20 = .ok (.iload_n 1, 1) := by decide +kernel
theorem d_X12_yes_21 : decode prog_14_method_69_code 21 = .ok (.invokevirtual 310, 3) := by decide +kernel
theorem d_X12_yes_24 : decode prog_14_method_69_code 24 = .ok (.istore_n 2, 1) := by decide +kernel
theorem d_X12_yes_25 : decode prog_14_method_69_code 25 = .ok (.aload_n 0, 1) := by decide +kernel
theorem d_X12_yes_26 : decode prog_14_method_69_code 26 = .ok (.iconst 0, 1) := by decide +kernel
theorem d_X12_yes_27 : decode prog_14_method_69_code 27 = .ok (.putfield 95, 3) := by decide +kernel
theorem d_X12_yes_30 : decode prog_14_method_69_code 30 = .ok (.aload_n 0, 1) := by decide +kernel
theorem d_X12_yes_31 : decode prog_14_method_69_code 31 = .ok (.iload_n 2, 1) := by decide +kernel
theorem d_X12_yes_32 : decode prog_14_method_69_code 32 = .ok (.aload_n 0, 1) := by decide +kernel
theorem d_X12_yes_33 : decode prog_14_method_69_code 33 = .ok (.aload_n 0, 1) := by decide +kernel
theorem d_X12_yes_34 : decode prog_14_method_69_code 34 = .ok (.getfield 17, 3) := by decide +kernel
theorem d_X12_yes_37 : decode prog_14_method_69_code 37 = .ok (.invokevirtual 228, 3) := by decide +kernel
theorem d_X12_yes_40 : decode prog_14_method_69_code 40 = .ok (.iand, 1) := by decide +kernel
theorem d_X12_yes_41 : decode prog_14_method_69_code 41 = .ok (.invokestatic 235, 3) := by decide +kernel
theorem d_X12_yes_44 : decode prog_14_method_69_code 44 = .ok (.i2l, 1) := by decide +kernel
theorem d_X12_yes_45 : decode prog_14_method_69_code 45 = .ok (.invokevirtual 98, 3) := by decide +kernel
theorem d_X12_yes_48 : decode prog_14_method_69_code 48 = .ok (.iconst 0, 1) := by decide +kernel
theorem d_X12_yes_49 : decode prog_14_method_69_code 49 = .ok (.istore_n 3, 1) := by decide +kernel
theorem d_X12_yes_50 : decode prog_14_method_69_code 50 = .ok (.iload_n 3, 1) := by decide +kernel
theorem d_X12_yes_51 : decode prog_14_method_69_code 51 = .ok (.iconst 3, 1) := by decide +kernel
theorem d_X12_yes_52 : decode prog_14_method_69_code 52 = .ok (.if_icmp .ge 24, 3) := by decide +kernel
theorem d_X12_yes_55 : decode prog_14_method_69_code 55 = .ok (.aload_n 0, 1) := by decide +kernel
theorem d_X12_yes_56 : decode prog_14_method_69_code 56 = .ok (.iload_n 2, 1) := by decide +kernel
theorem d_X12_yes_57 : decode prog_14_method_69_code 57 = .ok (.aload_n 0, 1) := by decide +kernel
theorem d_X12_yes_58 : decode prog_14_method_69_code 58 = .ok (.iload_n 3, 1) := by decide +kernel
theorem d_X12_yes_59 : decode prog_14_method_69_code 59 = .ok (.invokevirtual 232, 3) := by decide +kernel
theorem d_X12_yes_62 : decode prog_14_method_69_code 62 = .ok (.iand, 1) := by decide +kernel
theorem d_X12_yes_63 : decode prog_14_method_69_code 63 = .ok (.invokestatic 235, 3) := by decide +kernel
theorem d_X12_yes_66 : decode prog_14_method_69_code 66 = .ok (.i2l, 1) := by decide +kernel
theorem d_X12_yes_67 : decode prog_14_method_69_code 67 = .ok (.invokevirtual 98, 3) := by decide +kernel
theorem d_X12_yes_70 : decode prog_14_method_69_code 70 = .ok (.iinc 3 1, 3) := by decide +kernel
theorem d_X12_yes_73 : decode prog_14_method_69_code 73 = .ok (.goto (-23), 3) := by decide +kernel
theorem d_X12_yes_76 : decode prog_14_method_69_code 76 = .ok (.iload_n 2, 1) := by decide +kernel
theorem d_X12_yes_77 : decode prog_14_method_69_code 77 = .ok (.invokestatic 235, 3) := by decide +kernel
theorem d_X12_yes_80 : decode prog_14_method_69_code 80 = .ok (.ireturn, 1) := by decide +kernel
def f_X12_yes_s50 (τ : St) (y2 : Int32) (x3 : Int32) : Option ((Int32 × St) ⊕ (St)) := (if (3 : Int32) ≤ x3 then some (.inr τ) else (f_X12_kinOf τ x3).bind (fun q11 => (f_J6_bitCount_0f7a4 (y2 &&& q11)).bind (fun q13 => (f_X12_enters τ q13.toInt64).bind (fun q15 => some (.inl ((x3 + (1 : Int32)), q15))))))
def f_X12_yes (σ : St) (a1 : Int32) : Option (Int32 × St) := (f_X12_isQuestion a1 (0 : Int32)).bind (fun q1 => (if q1 = 0 then some ((-1 : Int32), (sF σ 300 0 (0 : Int32))) else (f_X12_yesOf (sF σ 300 0 (0 : Int32)) 306 a1).bind (fun q3 => (f_X12_openOnes (sF (sF σ 300 0 (0 : Int32)) 300 1 (0 : Int32)) 306).bind (fun q5 => (f_J6_bitCount_0f7a4 (q3 &&& q5)).bind (fun q7 => (f_X12_enters (sF (sF σ 300 0 (0 : Int32)) 300 1 (0 : Int32)) q7.toInt64).bind (fun q9 => (iter (fun z => f_X12_yes_s50 z.2 q3 z.1) FU ((0 : Int32), q9)).bind (fun z17 => (f_J6_bitCount_0f7a4 q3).bind (fun q20 => some (q20, z17)))))))))
theorem c_X12_yes {l : Launch} {G : gT} {χ σ : St} {a1 : Int32} (hf : FW G) {q : Int32 × St} (h : f_X12_yes σ a1 = some q) : Ct l G yX12_yes prog_14_method_69_code 4 (some .int) 2 46 [.ref (ga G 300), .int a1] χ σ (some (.int q.1)) χ q.2 := by
  refine Ct.of (by decide) (Nat.le_of_ble_eq_true rfl) ?_
  intro p e s m args below meth c Q X hr hlk hQ
  have hx := X.1
  have hb := X.2.1
  have b50 : ∀ (τ : St) (y2 : Int32) (x3 : Int32) (o : (Int32 × St) ⊕ (St)), f_X12_yes_s50 τ y2 x3 = some o → Sum.elim (fun z : Int32 × St => Wat p l e (rmk 2 46) s m args below meth c Q G 4 50 [] [(3, .int z.1), (0, .ref (ga G 300)), (2, .int y2)] χ z.2) (fun z : St => Wat p l e (rmk 2 46) s m args below meth c Q G 4 76 [] [(2, .int y2)] χ z) o → Wat p l e (rmk 2 46) s m args below meth c Q G 4 50 [] [(3, .int x3), (0, .ref (ga G 300)), (2, .int y2)] χ τ := by
    intro τ y2 x3 o h hk H locs ls hw hl
    unfold f_X12_yes_s50 at h
    refine lv_iload_n hx hb d_X12_yes_50 rfl (lv_at hl 0 rfl) ?_
    refine lv_iconst (v := (3 : Int32)) hx hb d_X12_yes_51 (by decide) ?_
    refine lv_icmp_ge (tgt := 76) hx hb d_X12_yes_52 (by decide) (fun hc => ?_) (fun hc => ?_)
    · have h := ite_t h hc
      obtain rfl := Option.some.inj h
      dsimp only [Sum.elim_inr] at hk
      exact hk _ _ _ hw (lv_sub hl [2] rfl)
    · have h := ite_f h hc
      refine lv_aload_n hx hb d_X12_yes_55 rfl (lv_at hl 1 rfl) ?_
      refine lv_iload_n hx hb d_X12_yes_56 rfl (lv_at hl 2 rfl) ?_
      refine lv_aload_n hx hb d_X12_yes_57 rfl (lv_at hl 1 rfl) ?_
      refine lv_iload_n hx hb d_X12_yes_58 rfl (lv_at hl 0 rfl) ?_
      obtain ⟨q11, e12, h⟩ := bd_some h
      refine r_callV (As := [.int x3]) (rest := [.int y2, .ref (ga G 300)]) (st' := [.int q11, .int y2, .ref (ga G 300)]) X hw hl mwX12_kinOf wd_1270 wp_36 wd_1268 (c_X12_kinOf hf e12) (r_recv X hw ct8 (o_300 hf)) rfl ⟨Nat.le_of_ble_eq_true rfl, Nat.le_of_ble_eq_true rfl⟩ ⟨Nat.le_refl _, Nat.le_refl _⟩ rfl rfl (Nat.le_of_ble_eq_true rfl) d_X12_yes_59 (fun H locs hw => ?_)
      refine lv_iand hx hb d_X12_yes_62 ?_
      obtain ⟨q13, e14, h⟩ := bd_some h
      refine r_callS (As := [.int (y2 &&& q11)]) (rest := [.ref (ga G 300)]) (st' := [.int q13, .ref (ga G 300)]) X hw hl mwJ6_bitCount_0f7a4 wd_436 wd_1272 (c_J6_bitCount_0f7a4 e14) rfl ⟨Nat.le_of_ble_eq_true rfl, Nat.le_of_ble_eq_true rfl⟩ ⟨Nat.le_refl _, Nat.le_refl _⟩ rfl rfl (Nat.le_of_ble_eq_true rfl) d_X12_yes_63 (fun H locs hw => ?_)
      refine lv_i2l hx hb d_X12_yes_66 rfl ?_
      obtain ⟨q15, e16, h⟩ := bd_some h
      refine r_callV (As := [.long q13.toInt64]) (rest := []) (st' := []) X hw hl mwX12_enters wd_1282 wp_38 wd_1280 (c_X12_enters hf e16) (r_recv X hw ct8 (o_300 hf)) rfl ⟨Nat.le_of_ble_eq_true rfl, Nat.le_of_ble_eq_true rfl⟩ ⟨Nat.le_refl _, Nat.le_refl _⟩ rfl rfl (Nat.le_of_ble_eq_true rfl) d_X12_yes_67 (fun H locs hw => ?_)
      refine lv_iinc (v := (x3 + (1 : Int32))) (k := 0) (lv' := [(3, .int (x3 + (1 : Int32))), (0, .ref (ga G 300)), (2, .int y2)]) hx hb d_X12_yes_70 hl rfl (by rfl) (Nat.le_of_ble_eq_true rfl) rfl (fun ls hl => ?_)
      refine lv_goto (tgt := 50) hx hb d_X12_yes_73 (by decide) ?_
      obtain rfl := Option.some.inj h
      dsimp only [Sum.elim_inl] at hk
      exact hk _ _ _ hw (lv_sub hl [0, 1, 2] rfl)
  intro H locs ls hw hl
  have hl : lv_has ls 4 [(0, .ref (ga G 300)), (1, .int a1)] := hl
  unfold f_X12_yes at h
  refine lv_aload_n hx hb d_X12_yes_0 rfl (lv_at hl 0 rfl) ?_
  refine lv_iconst (v := (0 : Int32)) hx hb d_X12_yes_1 (by decide) ?_
  refine m_puti (j := 0) X hw ct8 (o_300 hf) (Nat.le_of_ble_eq_true rfl) rfl (Nat.le_of_ble_eq_true rfl) rfl rfl rfl wd_956 d_X12_yes_2 (fun H locs hw => ?_)
  refine lv_iload_n hx hb d_X12_yes_5 rfl (lv_at hl 1 rfl) ?_
  refine lv_iconst (v := (0 : Int32)) hx hb d_X12_yes_6 (by decide) ?_
  obtain ⟨q1, e2, h⟩ := bd_some h
  refine r_callS (As := [.int a1, .int (0 : Int32)]) (rest := []) (st' := [.int q1]) X hw hl mwX12_isQuestion wd_1246 wd_1245 (c_X12_isQuestion hf e2) rfl ⟨Nat.le_of_ble_eq_true rfl, Nat.le_of_ble_eq_true rfl⟩ ⟨Nat.le_refl _, Nat.le_refl _⟩ rfl rfl (Nat.le_of_ble_eq_true rfl) d_X12_yes_7 (fun H locs hw => ?_)
  refine lv_if_ne (tgt := 15) hx hb d_X12_yes_10 (by decide) (fun hc => ?_) (fun hc => ?_)
  · have h := ite_f h hc
    refine lv_aload_n hx hb d_X12_yes_15 rfl (lv_at hl 0 rfl) ?_
    refine lv_aload_n hx hb d_X12_yes_16 rfl (lv_at hl 0 rfl) ?_
    refine r_getr (j := 6) X hw ct8 (o_300 hf) rfl (Nat.le_of_ble_eq_true rfl) (q := 306) rfl wd_962 d_X12_yes_17 ?_
    refine lv_iload_n hx hb d_X12_yes_20 rfl (lv_at hl 1 rfl) ?_
    obtain ⟨q3, e4, h⟩ := bd_some h
    refine r_callV (As := [.ref (ga G 306), .int a1]) (rest := []) (st' := [.int q3]) X hw hl mwX12_yesOf wd_1353 wp_49 wd_1351 (c_X12_yesOf hf (o_306 hf) (Nat.le_of_ble_eq_true rfl) e4) (r_recv X hw ct8 (o_300 hf)) rfl ⟨Nat.le_of_ble_eq_true rfl, Nat.le_of_ble_eq_true rfl⟩ ⟨Nat.le_refl _, Nat.le_refl _⟩ rfl rfl (Nat.le_of_ble_eq_true rfl) d_X12_yes_21 (fun H locs hw => ?_)
    refine lv_istore_n (lv' := [(2, .int q3), (0, .ref (ga G 300)), (1, .int a1)]) hx hb d_X12_yes_24 rfl hl (Nat.le_of_ble_eq_true rfl) rfl (fun ls hl => ?_)
    refine lv_aload_n hx hb d_X12_yes_25 rfl (lv_at hl 1 rfl) ?_
    refine lv_iconst (v := (0 : Int32)) hx hb d_X12_yes_26 (by decide) ?_
    refine m_puti (j := 1) X hw ct8 (o_300 hf) (Nat.le_of_ble_eq_true rfl) rfl (Nat.le_of_ble_eq_true rfl) rfl rfl rfl wd_957 d_X12_yes_27 (fun H locs hw => ?_)
    refine lv_aload_n hx hb d_X12_yes_30 rfl (lv_at hl 1 rfl) ?_
    refine lv_iload_n hx hb d_X12_yes_31 rfl (lv_at hl 0 rfl) ?_
    refine lv_aload_n hx hb d_X12_yes_32 rfl (lv_at hl 1 rfl) ?_
    refine lv_aload_n hx hb d_X12_yes_33 rfl (lv_at hl 1 rfl) ?_
    refine r_getr (j := 6) X hw ct8 (o_300 hf) rfl (Nat.le_of_ble_eq_true rfl) (q := 306) rfl wd_962 d_X12_yes_34 ?_
    obtain ⟨q5, e6, h⟩ := bd_some h
    refine r_callV (As := [.ref (ga G 306)]) (rest := [.int q3, .ref (ga G 300)]) (st' := [.int q5, .int q3, .ref (ga G 300)]) X hw hl mwX12_openOnes wd_1263 wp_35 wd_1261 (c_X12_openOnes hf (o_306 hf) (Nat.le_of_ble_eq_true rfl) e6) (r_recv X hw ct8 (o_300 hf)) rfl ⟨Nat.le_of_ble_eq_true rfl, Nat.le_of_ble_eq_true rfl⟩ ⟨Nat.le_refl _, Nat.le_refl _⟩ rfl rfl (Nat.le_of_ble_eq_true rfl) d_X12_yes_37 (fun H locs hw => ?_)
    refine lv_iand hx hb d_X12_yes_40 ?_
    obtain ⟨q7, e8, h⟩ := bd_some h
    refine r_callS (As := [.int (q3 &&& q5)]) (rest := [.ref (ga G 300)]) (st' := [.int q7, .ref (ga G 300)]) X hw hl mwJ6_bitCount_0f7a4 wd_436 wd_1272 (c_J6_bitCount_0f7a4 e8) rfl ⟨Nat.le_of_ble_eq_true rfl, Nat.le_of_ble_eq_true rfl⟩ ⟨Nat.le_refl _, Nat.le_refl _⟩ rfl rfl (Nat.le_of_ble_eq_true rfl) d_X12_yes_41 (fun H locs hw => ?_)
    refine lv_i2l hx hb d_X12_yes_44 rfl ?_
    obtain ⟨q9, e10, h⟩ := bd_some h
    refine r_callV (As := [.long q7.toInt64]) (rest := []) (st' := []) X hw hl mwX12_enters wd_1282 wp_38 wd_1280 (c_X12_enters hf e10) (r_recv X hw ct8 (o_300 hf)) rfl ⟨Nat.le_of_ble_eq_true rfl, Nat.le_of_ble_eq_true rfl⟩ ⟨Nat.le_refl _, Nat.le_refl _⟩ rfl rfl (Nat.le_of_ble_eq_true rfl) d_X12_yes_45 (fun H locs hw => ?_)
    refine lv_iconst (v := (0 : Int32)) hx hb d_X12_yes_48 (by decide) ?_
    refine lv_istore_n (lv' := [(3, .int (0 : Int32)), (2, .int q3), (0, .ref (ga G 300)), (1, .int a1)]) hx hb d_X12_yes_49 rfl hl (Nat.le_of_ble_eq_true rfl) rfl (fun ls hl => ?_)
    obtain ⟨z17, e18, h⟩ := bd_some h
    refine iter_w (Wh := fun z : Int32 × St => Wat p l e (rmk 2 46) s m args below meth c Q G 4 50 [] [(3, .int z.1), (0, .ref (ga G 300)), (2, .int q3)] χ z.2) (K := fun z : St => Wat p l e (rmk 2 46) s m args below meth c Q G 4 76 [] [(2, .int q3)] χ z) (fun z o h1 h2 => b50 z.2 q3 z.1 o h1 h2) FU _ _ e18 ?_ _ _ _ hw (lv_sub hl [0, 2, 1] rfl)
    intro H locs ls hw hl
    refine lv_iload_n hx hb d_X12_yes_76 rfl (lv_at hl 0 rfl) ?_
    obtain ⟨q20, e21, h⟩ := bd_some h
    refine r_callS (As := [.int q3]) (rest := []) (st' := [.int q20]) X hw hl mwJ6_bitCount_0f7a4 wd_436 wd_1272 (c_J6_bitCount_0f7a4 e21) rfl ⟨Nat.le_of_ble_eq_true rfl, Nat.le_of_ble_eq_true rfl⟩ ⟨Nat.le_refl _, Nat.le_refl _⟩ rfl rfl (Nat.le_of_ble_eq_true rfl) d_X12_yes_77 (fun H locs hw => ?_)
    obtain rfl := Option.some.inj h
    subst hQ
    exact r_iret X hr hlk hw d_X12_yes_80
  · have h := ite_t h hc
    refine lv_iconst (v := (-1 : Int32)) hx hb d_X12_yes_13 (by decide) ?_
    obtain rfl := Option.some.inj h
    subst hQ
    exact r_iret X hr hlk hw d_X12_yes_14
abbrev yX12_moreOf : MethodName := ⟨"OysterBedsModel", "moreOf", "(II)I"⟩
theorem mwX12_moreOf : MW yX12_moreOf prog_14_method_70_code 3 (some .int) 2 := ⟨wd_1414, wd_10, by decide +kernel⟩
theorem d_X12_moreOf_0 : decode prog_14_method_70_code 0 = .ok (.iconst 2, 1) := by decide +kernel
theorem d_X12_moreOf_1 : decode prog_14_method_70_code 1 = .ok (.aload_n 0, 1) := by decide +kernel
theorem d_X12_moreOf_2 : decode prog_14_method_70_code 2 = .ok (.aload_n 0, 1) := by decide +kernel
theorem d_X12_moreOf_3 : decode prog_14_method_70_code 3 = .ok (.getfield 17, 3) := by decide +kernel
theorem d_X12_moreOf_6 : decode prog_14_method_70_code 6 = .ok (.iload_n 2, 1) := by decide +kernel
theorem d_X12_moreOf_7 : decode prog_14_method_70_code 7 = .ok (.invokevirtual 310, 3) := by decide +kernel
theorem d_X12_moreOf_10 : decode prog_14_method_70_code 10 = .ok (.iload_n 1, 1) := by decide +kernel
theorem d_X12_moreOf_11 : decode prog_14_method_70_code 11 = .ok (.iand, 1) := by decide +kernel
theorem d_X12_moreOf_12 : decode prog_14_method_70_code 12 = .ok (.invokestatic 235, 3) := by decide +kernel
theorem d_X12_moreOf_15 : decode prog_14_method_70_code 15 = .ok (.imul, 1) := by decide +kernel
theorem d_X12_moreOf_16 : decode prog_14_method_70_code 16 = .ok (.iload_n 1, 1) := by decide +kernel
theorem d_X12_moreOf_17 : decode prog_14_method_70_code 17 = .ok (.invokestatic 235, 3) := by decide +kernel
theorem d_X12_moreOf_20 : decode prog_14_method_70_code 20 = .ok (.isub, 1) := by decide +kernel
theorem d_X12_moreOf_21 : decode prog_14_method_70_code 21 = .ok (.ireturn, 1) := by decide +kernel
def f_X12_moreOf (σ : St) (a1 : Int32) (a2 : Int32) : Option (Int32) := (f_X12_yesOf σ 306 a2).bind (fun q1 => (f_J6_bitCount_0f7a4 (q1 &&& a1)).bind (fun q3 => (f_J6_bitCount_0f7a4 a1).bind (fun q5 => some (((2 : Int32) * q3) - q5))))
theorem c_X12_moreOf {l : Launch} {G : gT} {χ σ : St} {a1 : Int32} {a2 : Int32} (hf : FW G) {q : Int32} (h : f_X12_moreOf σ a1 a2 = some q) : Ct l G yX12_moreOf prog_14_method_70_code 3 (some .int) 2 45 [.ref (ga G 300), .int a1, .int a2] χ σ (some (.int q)) χ σ := by
  refine Ct.of (by decide) (Nat.le_of_ble_eq_true rfl) ?_
  intro p e s m args below meth c Q X hr hlk hQ
  have hx := X.1
  have hb := X.2.1
  intro H locs ls hw hl
  have hl : lv_has ls 3 [(0, .ref (ga G 300)), (1, .int a1), (2, .int a2)] := hl
  unfold f_X12_moreOf at h
  refine lv_iconst (v := (2 : Int32)) hx hb d_X12_moreOf_0 (by decide) ?_
  refine lv_aload_n hx hb d_X12_moreOf_1 rfl (lv_at hl 0 rfl) ?_
  refine lv_aload_n hx hb d_X12_moreOf_2 rfl (lv_at hl 0 rfl) ?_
  refine r_getr (j := 6) X hw ct8 (o_300 hf) rfl (Nat.le_of_ble_eq_true rfl) (q := 306) rfl wd_962 d_X12_moreOf_3 ?_
  refine lv_iload_n hx hb d_X12_moreOf_6 rfl (lv_at hl 2 rfl) ?_
  obtain ⟨q1, e2, h⟩ := bd_some h
  refine r_callV (As := [.ref (ga G 306), .int a2]) (rest := [.int (2 : Int32)]) (st' := [.int q1, .int (2 : Int32)]) X hw hl mwX12_yesOf wd_1353 wp_49 wd_1351 (c_X12_yesOf hf (o_306 hf) (Nat.le_of_ble_eq_true rfl) e2) (r_recv X hw ct8 (o_300 hf)) rfl ⟨Nat.le_of_ble_eq_true rfl, Nat.le_of_ble_eq_true rfl⟩ ⟨Nat.le_refl _, Nat.le_refl _⟩ rfl rfl (Nat.le_of_ble_eq_true rfl) d_X12_moreOf_7 (fun H locs hw => ?_)
  refine lv_iload_n hx hb d_X12_moreOf_10 rfl (lv_at hl 1 rfl) ?_
  refine lv_iand hx hb d_X12_moreOf_11 ?_
  obtain ⟨q3, e4, h⟩ := bd_some h
  refine r_callS (As := [.int (q1 &&& a1)]) (rest := [.int (2 : Int32)]) (st' := [.int q3, .int (2 : Int32)]) X hw hl mwJ6_bitCount_0f7a4 wd_436 wd_1272 (c_J6_bitCount_0f7a4 e4) rfl ⟨Nat.le_of_ble_eq_true rfl, Nat.le_of_ble_eq_true rfl⟩ ⟨Nat.le_refl _, Nat.le_refl _⟩ rfl rfl (Nat.le_of_ble_eq_true rfl) d_X12_moreOf_12 (fun H locs hw => ?_)
  refine lv_imul hx hb d_X12_moreOf_15 ?_
  refine lv_iload_n hx hb d_X12_moreOf_16 rfl (lv_at hl 1 rfl) ?_
  obtain ⟨q5, e6, h⟩ := bd_some h
  refine r_callS (As := [.int a1]) (rest := [.int ((2 : Int32) * q3)]) (st' := [.int q5, .int ((2 : Int32) * q3)]) X hw hl mwJ6_bitCount_0f7a4 wd_436 wd_1272 (c_J6_bitCount_0f7a4 e6) rfl ⟨Nat.le_of_ble_eq_true rfl, Nat.le_of_ble_eq_true rfl⟩ ⟨Nat.le_refl _, Nat.le_refl _⟩ rfl rfl (Nat.le_of_ble_eq_true rfl) d_X12_moreOf_17 (fun H locs hw => ?_)
  refine lv_isub hx hb d_X12_moreOf_20 ?_
  obtain rfl := Option.some.inj h
  subst hQ
  exact r_iret X hr hlk hw d_X12_moreOf_21
abbrev yX12_whole : MethodName := ⟨"OysterBedsModel", "whole", "()I"⟩
theorem mwX12_whole : MW yX12_whole prog_14_method_71_code 5 (some .int) 0 := ⟨wd_1406, wd_10, by decide +kernel⟩
theorem d_X12_whole_0 : decode prog_14_method_71_code 0 = .ok (.aload_n 0, 1) := by decide +kernel
theorem d_X12_whole_1 : decode prog_14_method_71_code 1 = .ok (.iconst 0, 1) := by decide +kernel
theorem d_X12_whole_2 : decode prog_14_method_71_code 2 = .ok (.putfield 87, 3) := by decide +kernel
theorem d_X12_whole_5 : decode prog_14_method_71_code 5 = .ok (.iconst 0, 1) := by decide +kernel
theorem d_X12_whole_6 : decode prog_14_method_71_code 6 = .ok (.istore_n 1, 1) := by decide +kernel
theorem d_X12_whole_7 : decode prog_14_method_71_code 7 = .ok (.iconst 0, 1) := by decide +kernel
theorem d_X12_whole_8 : decode prog_14_method_71_code 8 = .ok (.istore_n 2, 1) := by decide +kernel
theorem d_X12_whole_9 : decode prog_14_method_71_code 9 = .ok (.iconst 0, 1) := by decide +kernel
theorem d_X12_whole_10 : decode prog_14_method_71_code 10 = .ok (.istore_n 3, 1) := by decide +kernel
theorem d_X12_whole_11 : decode prog_14_method_71_code 11 = .ok (.iload_n 3, 1) := by decide +kernel
theorem d_X12_whole_12 : decode prog_14_method_71_code 12 = .ok (.iconst 4, 1) := by decide +kernel
theorem d_X12_whole_13 : decode prog_14_method_71_code 13 = .ok (.if_icmp .ge 54, 3) := by decide +kernel
theorem d_X12_whole_16 : decode prog_14_method_71_code 16 = .ok (.iload_n 1, 1) := by decide +kernel
theorem d_X12_whole_17 : decode prog_14_method_71_code 17 = .ok (.aload_n 0, 1) := by decide +kernel
theorem d_X12_whole_18 : decode prog_14_method_71_code 18 = .ok (.aload_n 0, 1) := by decide +kernel
theorem d_X12_whole_19 : decode prog_14_method_71_code 19 = .ok (.invokevirtual 323, 3) := by decide +kernel
theorem d_X12_whole_22 : decode prog_14_method_71_code 22 = .ok (.iload_n 3, 1) := by decide +kernel
theorem d_X12_whole_23 : decode prog_14_method_71_code 23 = .ok (.invokevirtual 326, 3) := by decide +kernel
theorem d_X12_whole_26 : decode prog_14_method_71_code 26 = .ok (.ifCond .le 9, 3) := by decide +kernel
theorem d_X12_whole_29 : decode prog_14_method_71_code 29 = .ok (.iconst 1, 1) := by decide +kernel
theorem d_X12_whole_30 : decode prog_14_method_71_code 30 = .ok (.iload_n 3, 1) := by decide +kernel
theorem d_X12_whole_31 : decode prog_14_method_71_code 31 = .ok (.ishl, 1) := by decide +kernel
theorem d_X12_whole_32 : decode prog_14_method_71_code 32 = .ok (.goto 4, 3) := by decide +kernel
theorem d_X12_whole_35 : decode prog_14_method_71_code 35 = .ok (.iconst 0, 1) := by decide +kernel
theorem d_X12_whole_36 : decode prog_14_method_71_code 36 = .ok (.ior, 1) := by decide +kernel
theorem d_X12_whole_37 : decode prog_14_method_71_code 37 = .ok (.istore_n 1, 1) := by decide +kernel
theorem d_X12_whole_38 : decode prog_14_method_71_code 38 = .ok (.iload_n 2, 1) := by decide +kernel
theorem d_X12_whole_39 : decode prog_14_method_71_code 39 = .ok (.aload_n 0, 1) := by decide +kernel
theorem d_X12_whole_40 : decode prog_14_method_71_code 40 = .ok (.aload_n 0, 1) := by decide +kernel
theorem d_X12_whole_41 : decode prog_14_method_71_code 41 = .ok (.invokevirtual 323, 3) := by decide +kernel
theorem d_X12_whole_44 : decode prog_14_method_71_code 44 = .ok (.iload_n 3, 1) := by decide +kernel
theorem d_X12_whole_45 : decode prog_14_method_71_code 45 = .ok (.invokevirtual 326, 3) := by decide +kernel
theorem d_X12_whole_48 : decode prog_14_method_71_code 48 = .ok (.ifCond .ne 7, 3) := by decide +kernel
theorem d_X12_whole_51 : decode prog_14_method_71_code 51 = .ok (.iconst 1, 1) := by decide +kernel
theorem d_X12_whole_52 : decode prog_14_method_71_code 52 = .ok (.goto 4, 3) := by decide +kernel
theorem d_X12_whole_55 : decode prog_14_method_71_code 55 = .ok (.iconst 0, 1) := by decide +kernel
theorem d_X12_whole_56 : decode prog_14_method_71_code 56 = .ok (.invokestatic 135, 3) := by decide +kernel
theorem d_X12_whole_59 : decode prog_14_method_71_code 59 = .ok (.iadd, 1) := by decide +kernel
theorem d_X12_whole_60 : decode prog_14_method_71_code 60 = .ok (.istore_n 2, 1) := by decide +kernel
theorem d_X12_whole_61 : decode prog_14_method_71_code 61 = .ok (.iinc 3 1, 3) := by decide +kernel
theorem d_X12_whole_64 : decode prog_14_method_71_code 64 = .ok (.goto (-53), 3) := by decide +kernel
theorem d_X12_whole_67 : decode prog_14_method_71_code 67 = .ok (.iconst 0, 1) := by decide +kernel
theorem d_X12_whole_68 : decode prog_14_method_71_code 68 = .ok (.istore_n 3, 1) := by decide +kernel
theorem d_X12_whole_69 : decode prog_14_method_71_code 69 = .ok (.iconst 0, 1) := by decide +kernel
theorem d_X12_whole_70 : decode prog_14_method_71_code 70 = .ok (.istore 4, 2) := by decide +kernel
theorem d_X12_whole_72 : decode prog_14_method_71_code 72 = .ok (.iload 4, 2) := by decide +kernel
theorem d_X12_whole_74 : decode prog_14_method_71_code 74 = .ok (.aload_n 0, 1) := by decide +kernel
theorem d_X12_whole_75 : decode prog_14_method_71_code 75 = .ok (.getfield 102, 3) := by decide +kernel
theorem d_X12_whole_78 : decode prog_14_method_71_code 78 = .ok (.if_icmp .ge 34, 3) := by decide +kernel
theorem d_X12_whole_81 : decode prog_14_method_71_code 81 = .ok (.iload_n 3, 1) := by decide +kernel
theorem d_X12_whole_82 : decode prog_14_method_71_code 82 = .ok (.aload_n 0, 1) := by decide +kernel
theorem d_X12_whole_83 : decode prog_14_method_71_code 83 = .ok (.getfield 17, 3) := by decide +kernel
theorem d_X12_whole_86 : decode prog_14_method_71_code 86 = .ok (.bipush 8, 2) := by decide +kernel
theorem d_X12_whole_88 : decode prog_14_method_71_code 88 = .ok (.iload 4, 2) := by decide +kernel
theorem d_X12_whole_90 : decode prog_14_method_71_code 90 = .ok (.iadd, 1) := by decide +kernel
theorem d_X12_whole_91 : decode prog_14_method_71_code 91 = .ok (.iaload, 1) := by decide +kernel
theorem d_X12_whole_92 : decode prog_14_method_71_code 92 = .ok (.iload_n 1, 1) := by decide +kernel
theorem d_X12_whole_93 : decode prog_14_method_71_code 93 = .ok (.if_icmp .ne 7, 3) := by decide +kernel
theorem d_X12_whole_96 : decode prog_14_method_71_code 96 = .ok (.iconst 1, 1) := by decide +kernel
theorem d_X12_whole_97 : decode prog_14_method_71_code 97 = .ok (.goto 4, 3) := by decide +kernel
theorem d_X12_whole_100 : decode prog_14_method_71_code 100 = .ok (.iconst 0, 1) := by decide +kernel
theorem d_X12_whole_101 : decode prog_14_method_71_code 101 = .ok (.invokestatic 135, 3) := by decide +kernel
theorem d_X12_whole_104 : decode prog_14_method_71_code 104 = .ok (.iadd, 1) := by decide +kernel
theorem d_X12_whole_105 : decode prog_14_method_71_code 105 = .ok (.istore_n 3, 1) := by decide +kernel
theorem d_X12_whole_106 : decode prog_14_method_71_code 106 = .ok (.iinc 4 1, 3) := by decide +kernel
theorem d_X12_whole_109 : decode prog_14_method_71_code 109 = .ok (.goto (-37), 3) := by decide +kernel
theorem d_X12_whole_112 : decode prog_14_method_71_code 112 = .ok (.aload_n 0, 1) := by decide +kernel
theorem d_X12_whole_113 : decode prog_14_method_71_code 113 = .ok (.iconst 0, 1) := by decide +kernel
theorem d_X12_whole_114 : decode prog_14_method_71_code 114 = .ok (.putfield 95, 3) := by decide +kernel
theorem d_X12_whole_117 : decode prog_14_method_71_code 117 = .ok (.aload_n 0, 1) := by decide +kernel
theorem d_X12_whole_118 : decode prog_14_method_71_code 118 = .ok (.iload_n 3, 1) := by decide +kernel
theorem d_X12_whole_119 : decode prog_14_method_71_code 119 = .ok (.i2l, 1) := by decide +kernel
theorem d_X12_whole_120 : decode prog_14_method_71_code 120 = .ok (.invokevirtual 98, 3) := by decide +kernel
theorem d_X12_whole_123 : decode prog_14_method_71_code 123 = .ok (.aload_n 0, 1) := by decide +kernel
theorem d_X12_whole_124 : decode prog_14_method_71_code 124 = .ok (.iload_n 2, 1) := by decide +kernel
theorem d_X12_whole_125 : decode prog_14_method_71_code 125 = .ok (.i2l, 1) := by decide +kernel
theorem d_X12_whole_126 : decode prog_14_method_71_code 126 = .ok (.invokevirtual 98, 3) := by decide +kernel
theorem d_X12_whole_129 : decode prog_14_method_71_code 129 = .ok (.iload_n 1, 1) := by decide +kernel
theorem d_X12_whole_130 : decode prog_14_method_71_code 130 = .ok (.ireturn, 1) := by decide +kernel
def f_X12_whole_j56_11 (τ : St) (x1 : Int32) (x3 : Int32) (s0 : Int32) (s1 : Int32) : Option ((Int32 × Int32 × Int32) ⊕ (Int32 × Int32)) := (f_X12_flag s1).bind (fun q9 => some (.inl (x1, (s0 + q9), (x3 + (1 : Int32)))))
def f_X12_whole_j36_11 (τ : St) (x2 : Int32) (x3 : Int32) (s0 : Int32) (s1 : Int32) : Option ((Int32 × Int32 × Int32) ⊕ (Int32 × Int32)) := (f_X12_all τ).bind (fun q5 => (f_X12_moreOf τ q5 x3).bind (fun q7 => f_X12_whole_j56_11 τ (s0 ||| s1) x3 x2 (if q7 = 0 then (1 : Int32) else (0 : Int32))))
def f_X12_whole_s11 (τ : St) (x1 : Int32) (x2 : Int32) (x3 : Int32) : Option ((Int32 × Int32 × Int32) ⊕ (Int32 × Int32)) := (if (4 : Int32) ≤ x3 then some (.inr (x1, x2)) else (f_X12_all τ).bind (fun q1 => (f_X12_moreOf τ q1 x3).bind (fun q3 => f_X12_whole_j36_11 τ x2 x3 x1 (if q3 ≤ 0 then (0 : Int32) else ((1 : Int32) <<< (x3 &&& 31))))))
def f_X12_whole_j101_72 (τ : St) (x1 : Int32) (x2 : Int32) (x4 : Int32) (s0 : Int32) (s1 : Int32) : Option ((Int32 × Int32) ⊕ (Int32)) := (f_X12_flag s1).bind (fun q15 => some (.inl ((s0 + q15), (x4 + (1 : Int32)))))
def f_X12_whole_s72 (τ : St) (y1 : Int32) (y2 : Int32) (x3 : Int32) (x4 : Int32) : Option ((Int32 × Int32) ⊕ (Int32)) := (if (cF τ 300 3) ≤ x4 then some (.inr x3) else gd (inb ((8 : Int32) + x4) 34) (f_X12_whole_j101_72 τ y1 y2 x4 x3 (if (cA τ 306 ((8 : Int32) + x4).toNatClampNeg) = y1 then (1 : Int32) else (0 : Int32))))
def f_X12_whole (σ : St) : Option (Int32 × St) := (iter (fun z => f_X12_whole_s11 (sF σ 300 0 (0 : Int32)) z.1 z.2.1 z.2.2) FU ((0 : Int32), (0 : Int32), (0 : Int32))).bind (fun z11 => (iter (fun z => f_X12_whole_s72 (sF σ 300 0 (0 : Int32)) z11.1 z11.2 z.1 z.2) FU ((0 : Int32), (0 : Int32))).bind (fun z17 => (f_X12_enters (sF (sF σ 300 0 (0 : Int32)) 300 1 (0 : Int32)) z17.toInt64).bind (fun q20 => (f_X12_enters q20 (z11.2).toInt64).bind (fun q22 => some (z11.1, q22)))))
theorem c_X12_whole {l : Launch} {G : gT} {χ σ : St} (hf : FW G) {q : Int32 × St} (h : f_X12_whole σ = some q) : Ct l G yX12_whole prog_14_method_71_code 5 (some .int) 3 67 [.ref (ga G 300)] χ σ (some (.int q.1)) χ q.2 := by
  refine Ct.of (by decide) (Nat.le_of_ble_eq_true rfl) ?_
  intro p e s m args below meth c Q X hr hlk hQ
  have hx := X.1
  have hb := X.2.1
  have j56_11 : ∀ (τ : St) (x1 : Int32) (x3 : Int32) (s0 : Int32) (s1 : Int32) (o : (Int32 × Int32 × Int32) ⊕ (Int32 × Int32)), f_X12_whole_j56_11 τ x1 x3 s0 s1 = some o → Sum.elim (fun z : Int32 × Int32 × Int32 => Wat p l e (rmk 3 67) s m args below meth c Q G 5 11 [] [(1, .int z.1), (2, .int z.2.1), (3, .int z.2.2), (0, .ref (ga G 300))] χ τ) (fun z : Int32 × Int32 => Wat p l e (rmk 3 67) s m args below meth c Q G 5 67 [] [(0, .ref (ga G 300)), (1, .int z.1), (2, .int z.2)] χ τ) o → Wat p l e (rmk 3 67) s m args below meth c Q G 5 56 [.int s1, .int s0] [(0, .ref (ga G 300)), (1, .int x1), (3, .int x3)] χ τ := by
    intro τ x1 x3 s0 s1 o h hk H locs ls hw hl
    unfold f_X12_whole_j56_11 at h
    obtain ⟨q9, e10, h⟩ := bd_some h
    refine r_callS (As := [.int s1]) (rest := [.int s0]) (st' := [.int q9, .int s0]) X hw hl mwX12_flag wd_1180 wd_1179 (c_X12_flag hf e10) rfl ⟨Nat.le_of_ble_eq_true rfl, Nat.le_of_ble_eq_true rfl⟩ ⟨Nat.le_refl _, Nat.le_refl _⟩ rfl rfl (Nat.le_of_ble_eq_true rfl) d_X12_whole_56 (fun H locs hw => ?_)
    refine lv_iadd hx hb d_X12_whole_59 ?_
    refine lv_istore_n (lv' := [(2, .int (s0 + q9)), (0, .ref (ga G 300)), (1, .int x1), (3, .int x3)]) hx hb d_X12_whole_60 rfl hl (Nat.le_of_ble_eq_true rfl) rfl (fun ls hl => ?_)
    refine lv_iinc (v := (x3 + (1 : Int32))) (k := 3) (lv' := [(3, .int (x3 + (1 : Int32))), (2, .int (s0 + q9)), (0, .ref (ga G 300)), (1, .int x1)]) hx hb d_X12_whole_61 hl rfl (by rfl) (Nat.le_of_ble_eq_true rfl) rfl (fun ls hl => ?_)
    refine lv_goto (tgt := 11) hx hb d_X12_whole_64 (by decide) ?_
    obtain rfl := Option.some.inj h
    dsimp only [Sum.elim_inl] at hk
    exact hk _ _ _ hw (lv_sub hl [3, 1, 0, 2] rfl)
  have j36_11 : ∀ (τ : St) (x2 : Int32) (x3 : Int32) (s0 : Int32) (s1 : Int32) (o : (Int32 × Int32 × Int32) ⊕ (Int32 × Int32)), f_X12_whole_j36_11 τ x2 x3 s0 s1 = some o → Sum.elim (fun z : Int32 × Int32 × Int32 => Wat p l e (rmk 3 67) s m args below meth c Q G 5 11 [] [(1, .int z.1), (2, .int z.2.1), (3, .int z.2.2), (0, .ref (ga G 300))] χ τ) (fun z : Int32 × Int32 => Wat p l e (rmk 3 67) s m args below meth c Q G 5 67 [] [(0, .ref (ga G 300)), (1, .int z.1), (2, .int z.2)] χ τ) o → Wat p l e (rmk 3 67) s m args below meth c Q G 5 36 [.int s1, .int s0] [(0, .ref (ga G 300)), (2, .int x2), (3, .int x3)] χ τ := by
    intro τ x2 x3 s0 s1 o h hk H locs ls hw hl
    unfold f_X12_whole_j36_11 at h
    refine lv_ior hx hb d_X12_whole_36 ?_
    refine lv_istore_n (lv' := [(1, .int (s0 ||| s1)), (0, .ref (ga G 300)), (2, .int x2), (3, .int x3)]) hx hb d_X12_whole_37 rfl hl (Nat.le_of_ble_eq_true rfl) rfl (fun ls hl => ?_)
    refine lv_iload_n hx hb d_X12_whole_38 rfl (lv_at hl 2 rfl) ?_
    refine lv_aload_n hx hb d_X12_whole_39 rfl (lv_at hl 1 rfl) ?_
    refine lv_aload_n hx hb d_X12_whole_40 rfl (lv_at hl 1 rfl) ?_
    obtain ⟨q5, e6, h⟩ := bd_some h
    refine r_callV (As := []) (rest := [.ref (ga G 300), .int x2]) (st' := [.int q5, .ref (ga G 300), .int x2]) X hw hl mwX12_all wd_1409 wp_51 wd_1407 (c_X12_all hf e6) (r_recv X hw ct8 (o_300 hf)) rfl ⟨Nat.le_of_ble_eq_true rfl, Nat.le_of_ble_eq_true rfl⟩ ⟨Nat.le_refl _, Nat.le_refl _⟩ rfl rfl (Nat.le_of_ble_eq_true rfl) d_X12_whole_41 (fun H locs hw => ?_)
    refine lv_iload_n hx hb d_X12_whole_44 rfl (lv_at hl 3 rfl) ?_
    obtain ⟨q7, e8, h⟩ := bd_some h
    refine r_callV (As := [.int q5, .int x3]) (rest := [.int x2]) (st' := [.int q7, .int x2]) X hw hl mwX12_moreOf wd_1413 wp_52 wd_1411 (c_X12_moreOf hf e8) (r_recv X hw ct8 (o_300 hf)) rfl ⟨Nat.le_of_ble_eq_true rfl, Nat.le_of_ble_eq_true rfl⟩ ⟨Nat.le_refl _, Nat.le_refl _⟩ rfl rfl (Nat.le_of_ble_eq_true rfl) d_X12_whole_45 (fun H locs hw => ?_)
    refine lv_if_ne (tgt := 55) hx hb d_X12_whole_48 (by decide) (fun hc => ?_) (fun hc => ?_)
    · simp only [if_neg hc] at h
      refine lv_iconst (v := (0 : Int32)) hx hb d_X12_whole_55 (by decide) ?_
      exact j56_11 τ (s0 ||| s1) x3 x2 (0 : Int32) o h hk _ _ _ hw (lv_sub hl [1, 0, 3] rfl)
    · simp only [if_pos hc] at h
      refine lv_iconst (v := (1 : Int32)) hx hb d_X12_whole_51 (by decide) ?_
      refine lv_goto (tgt := 56) hx hb d_X12_whole_52 (by decide) ?_
      exact j56_11 τ (s0 ||| s1) x3 x2 (1 : Int32) o h hk _ _ _ hw (lv_sub hl [1, 0, 3] rfl)
  have b11 : ∀ (τ : St) (x1 : Int32) (x2 : Int32) (x3 : Int32) (o : (Int32 × Int32 × Int32) ⊕ (Int32 × Int32)), f_X12_whole_s11 τ x1 x2 x3 = some o → Sum.elim (fun z : Int32 × Int32 × Int32 => Wat p l e (rmk 3 67) s m args below meth c Q G 5 11 [] [(1, .int z.1), (2, .int z.2.1), (3, .int z.2.2), (0, .ref (ga G 300))] χ τ) (fun z : Int32 × Int32 => Wat p l e (rmk 3 67) s m args below meth c Q G 5 67 [] [(0, .ref (ga G 300)), (1, .int z.1), (2, .int z.2)] χ τ) o → Wat p l e (rmk 3 67) s m args below meth c Q G 5 11 [] [(1, .int x1), (2, .int x2), (3, .int x3), (0, .ref (ga G 300))] χ τ := by
    intro τ x1 x2 x3 o h hk H locs ls hw hl
    unfold f_X12_whole_s11 at h
    refine lv_iload_n hx hb d_X12_whole_11 rfl (lv_at hl 2 rfl) ?_
    refine lv_iconst (v := (4 : Int32)) hx hb d_X12_whole_12 (by decide) ?_
    refine lv_icmp_ge (tgt := 67) hx hb d_X12_whole_13 (by decide) (fun hc => ?_) (fun hc => ?_)
    · have h := ite_t h hc
      obtain rfl := Option.some.inj h
      dsimp only [Sum.elim_inr] at hk
      exact hk _ _ _ hw (lv_sub hl [3, 0, 1] rfl)
    · have h := ite_f h hc
      refine lv_iload_n hx hb d_X12_whole_16 rfl (lv_at hl 0 rfl) ?_
      refine lv_aload_n hx hb d_X12_whole_17 rfl (lv_at hl 3 rfl) ?_
      refine lv_aload_n hx hb d_X12_whole_18 rfl (lv_at hl 3 rfl) ?_
      obtain ⟨q1, e2, h⟩ := bd_some h
      refine r_callV (As := []) (rest := [.ref (ga G 300), .int x1]) (st' := [.int q1, .ref (ga G 300), .int x1]) X hw hl mwX12_all wd_1409 wp_51 wd_1407 (c_X12_all hf e2) (r_recv X hw ct8 (o_300 hf)) rfl ⟨Nat.le_of_ble_eq_true rfl, Nat.le_of_ble_eq_true rfl⟩ ⟨Nat.le_refl _, Nat.le_refl _⟩ rfl rfl (Nat.le_of_ble_eq_true rfl) d_X12_whole_19 (fun H locs hw => ?_)
      refine lv_iload_n hx hb d_X12_whole_22 rfl (lv_at hl 2 rfl) ?_
      obtain ⟨q3, e4, h⟩ := bd_some h
      refine r_callV (As := [.int q1, .int x3]) (rest := [.int x1]) (st' := [.int q3, .int x1]) X hw hl mwX12_moreOf wd_1413 wp_52 wd_1411 (c_X12_moreOf hf e4) (r_recv X hw ct8 (o_300 hf)) rfl ⟨Nat.le_of_ble_eq_true rfl, Nat.le_of_ble_eq_true rfl⟩ ⟨Nat.le_refl _, Nat.le_refl _⟩ rfl rfl (Nat.le_of_ble_eq_true rfl) d_X12_whole_23 (fun H locs hw => ?_)
      refine lv_if_le (tgt := 35) hx hb d_X12_whole_26 (by decide) (fun hc => ?_) (fun hc => ?_)
      · simp only [if_pos hc] at h
        refine lv_iconst (v := (0 : Int32)) hx hb d_X12_whole_35 (by decide) ?_
        exact j36_11 τ x2 x3 x1 (0 : Int32) o h hk _ _ _ hw (lv_sub hl [3, 1, 2] rfl)
      · simp only [if_neg hc] at h
        refine lv_iconst (v := (1 : Int32)) hx hb d_X12_whole_29 (by decide) ?_
        refine lv_iload_n hx hb d_X12_whole_30 rfl (lv_at hl 2 rfl) ?_
        refine lv_ishl hx hb d_X12_whole_31 ?_
        refine lv_goto (tgt := 36) hx hb d_X12_whole_32 (by decide) ?_
        exact j36_11 τ x2 x3 x1 ((1 : Int32) <<< (x3 &&& 31)) o h hk _ _ _ hw (lv_sub hl [3, 1, 2] rfl)
  have j101_72 : ∀ (τ : St) (x1 : Int32) (x2 : Int32) (x4 : Int32) (s0 : Int32) (s1 : Int32) (o : (Int32 × Int32) ⊕ (Int32)), f_X12_whole_j101_72 τ x1 x2 x4 s0 s1 = some o → Sum.elim (fun z : Int32 × Int32 => Wat p l e (rmk 3 67) s m args below meth c Q G 5 72 [] [(3, .int z.1), (4, .int z.2), (0, .ref (ga G 300)), (1, .int x1), (2, .int x2)] χ τ) (fun z : Int32 => Wat p l e (rmk 3 67) s m args below meth c Q G 5 112 [] [(0, .ref (ga G 300)), (1, .int x1), (2, .int x2), (3, .int z)] χ τ) o → Wat p l e (rmk 3 67) s m args below meth c Q G 5 101 [.int s1, .int s0] [(0, .ref (ga G 300)), (1, .int x1), (2, .int x2), (4, .int x4)] χ τ := by
    intro τ x1 x2 x4 s0 s1 o h hk H locs ls hw hl
    unfold f_X12_whole_j101_72 at h
    obtain ⟨q15, e16, h⟩ := bd_some h
    refine r_callS (As := [.int s1]) (rest := [.int s0]) (st' := [.int q15, .int s0]) X hw hl mwX12_flag wd_1180 wd_1179 (c_X12_flag hf e16) rfl ⟨Nat.le_of_ble_eq_true rfl, Nat.le_of_ble_eq_true rfl⟩ ⟨Nat.le_refl _, Nat.le_refl _⟩ rfl rfl (Nat.le_of_ble_eq_true rfl) d_X12_whole_101 (fun H locs hw => ?_)
    refine lv_iadd hx hb d_X12_whole_104 ?_
    refine lv_istore_n (lv' := [(3, .int (s0 + q15)), (0, .ref (ga G 300)), (1, .int x1), (2, .int x2), (4, .int x4)]) hx hb d_X12_whole_105 rfl hl (Nat.le_of_ble_eq_true rfl) rfl (fun ls hl => ?_)
    refine lv_iinc (v := (x4 + (1 : Int32))) (k := 4) (lv' := [(4, .int (x4 + (1 : Int32))), (3, .int (s0 + q15)), (0, .ref (ga G 300)), (1, .int x1), (2, .int x2)]) hx hb d_X12_whole_106 hl rfl (by rfl) (Nat.le_of_ble_eq_true rfl) rfl (fun ls hl => ?_)
    refine lv_goto (tgt := 72) hx hb d_X12_whole_109 (by decide) ?_
    obtain rfl := Option.some.inj h
    dsimp only [Sum.elim_inl] at hk
    exact hk _ _ _ hw (lv_sub hl [1, 0, 2, 3, 4] rfl)
  have b72 : ∀ (τ : St) (y1 : Int32) (y2 : Int32) (x3 : Int32) (x4 : Int32) (o : (Int32 × Int32) ⊕ (Int32)), f_X12_whole_s72 τ y1 y2 x3 x4 = some o → Sum.elim (fun z : Int32 × Int32 => Wat p l e (rmk 3 67) s m args below meth c Q G 5 72 [] [(3, .int z.1), (4, .int z.2), (0, .ref (ga G 300)), (1, .int y1), (2, .int y2)] χ τ) (fun z : Int32 => Wat p l e (rmk 3 67) s m args below meth c Q G 5 112 [] [(0, .ref (ga G 300)), (1, .int y1), (2, .int y2), (3, .int z)] χ τ) o → Wat p l e (rmk 3 67) s m args below meth c Q G 5 72 [] [(3, .int x3), (4, .int x4), (0, .ref (ga G 300)), (1, .int y1), (2, .int y2)] χ τ := by
    intro τ y1 y2 x3 x4 o h hk H locs ls hw hl
    unfold f_X12_whole_s72 at h
    refine lv_iload hx hb d_X12_whole_72 (lv_at hl 1 rfl) ?_
    refine lv_aload_n hx hb d_X12_whole_74 rfl (lv_at hl 2 rfl) ?_
    refine m_geti (j := 3) X hw ct8 (o_300 hf) (Nat.le_of_ble_eq_true rfl) rfl (Nat.le_of_ble_eq_true rfl) wd_959 d_X12_whole_75 ?_
    refine lv_icmp_ge (tgt := 112) hx hb d_X12_whole_78 (by decide) (fun hc => ?_) (fun hc => ?_)
    · have h := ite_t h hc
      obtain rfl := Option.some.inj h
      dsimp only [Sum.elim_inr] at hk
      exact hk _ _ _ hw (lv_sub hl [2, 3, 4, 0] rfl)
    · have h := ite_f h hc
      refine lv_iload_n hx hb d_X12_whole_81 rfl (lv_at hl 0 rfl) ?_
      refine lv_aload_n hx hb d_X12_whole_82 rfl (lv_at hl 2 rfl) ?_
      refine r_getr (j := 6) X hw ct8 (o_300 hf) rfl (Nat.le_of_ble_eq_true rfl) (q := 306) rfl wd_962 d_X12_whole_83 ?_
      refine lv_bipush (v := (8 : Int32)) hx hb d_X12_whole_86 (by decide) ?_
      refine lv_iload hx hb d_X12_whole_88 (lv_at hl 1 rfl) ?_
      refine lv_iadd hx hb d_X12_whole_90 ?_
      obtain ⟨hi14, h⟩ := gd_some h
      refine m_iald X hw (o_306 hf) (Nat.le_of_ble_eq_true rfl) hi14 d_X12_whole_91 ?_
      refine lv_iload_n hx hb d_X12_whole_92 rfl (lv_at hl 3 rfl) ?_
      refine lv_icmp_ne (tgt := 100) hx hb d_X12_whole_93 (by decide) (fun hc => ?_) (fun hc => ?_)
      · simp only [if_neg hc] at h
        refine lv_iconst (v := (0 : Int32)) hx hb d_X12_whole_100 (by decide) ?_
        exact j101_72 τ y1 y2 x4 x3 (0 : Int32) o h hk _ _ _ hw (lv_sub hl [2, 3, 4, 1] rfl)
      · simp only [if_pos hc] at h
        refine lv_iconst (v := (1 : Int32)) hx hb d_X12_whole_96 (by decide) ?_
        refine lv_goto (tgt := 101) hx hb d_X12_whole_97 (by decide) ?_
        exact j101_72 τ y1 y2 x4 x3 (1 : Int32) o h hk _ _ _ hw (lv_sub hl [2, 3, 4, 1] rfl)
  intro H locs ls hw hl
  have hl : lv_has ls 5 [(0, .ref (ga G 300))] := hl
  unfold f_X12_whole at h
  refine lv_aload_n hx hb d_X12_whole_0 rfl (lv_at hl 0 rfl) ?_
  refine lv_iconst (v := (0 : Int32)) hx hb d_X12_whole_1 (by decide) ?_
  refine m_puti (j := 0) X hw ct8 (o_300 hf) (Nat.le_of_ble_eq_true rfl) rfl (Nat.le_of_ble_eq_true rfl) rfl rfl rfl wd_956 d_X12_whole_2 (fun H locs hw => ?_)
  refine lv_iconst (v := (0 : Int32)) hx hb d_X12_whole_5 (by decide) ?_
  refine lv_istore_n (lv' := [(1, .int (0 : Int32)), (0, .ref (ga G 300))]) hx hb d_X12_whole_6 rfl hl (Nat.le_of_ble_eq_true rfl) rfl (fun ls hl => ?_)
  refine lv_iconst (v := (0 : Int32)) hx hb d_X12_whole_7 (by decide) ?_
  refine lv_istore_n (lv' := [(2, .int (0 : Int32)), (1, .int (0 : Int32)), (0, .ref (ga G 300))]) hx hb d_X12_whole_8 rfl hl (Nat.le_of_ble_eq_true rfl) rfl (fun ls hl => ?_)
  refine lv_iconst (v := (0 : Int32)) hx hb d_X12_whole_9 (by decide) ?_
  refine lv_istore_n (lv' := [(3, .int (0 : Int32)), (2, .int (0 : Int32)), (1, .int (0 : Int32)), (0, .ref (ga G 300))]) hx hb d_X12_whole_10 rfl hl (Nat.le_of_ble_eq_true rfl) rfl (fun ls hl => ?_)
  obtain ⟨z11, e12, h⟩ := bd_some h
  refine iter_w (Wh := fun z : Int32 × Int32 × Int32 => Wat p l e (rmk 3 67) s m args below meth c Q G 5 11 [] [(1, .int z.1), (2, .int z.2.1), (3, .int z.2.2), (0, .ref (ga G 300))] χ (sF σ 300 0 (0 : Int32))) (K := fun z : Int32 × Int32 => Wat p l e (rmk 3 67) s m args below meth c Q G 5 67 [] [(0, .ref (ga G 300)), (1, .int z.1), (2, .int z.2)] χ (sF σ 300 0 (0 : Int32))) (fun z o h1 h2 => b11 (sF σ 300 0 (0 : Int32)) z.1 z.2.1 z.2.2 o h1 h2) FU _ _ e12 ?_ _ _ _ hw (lv_sub hl [2, 1, 0, 3] rfl)
  intro H locs ls hw hl
  refine lv_iconst (v := (0 : Int32)) hx hb d_X12_whole_67 (by decide) ?_
  refine lv_istore_n (lv' := [(3, .int (0 : Int32)), (0, .ref (ga G 300)), (1, .int z11.1), (2, .int z11.2)]) hx hb d_X12_whole_68 rfl hl (Nat.le_of_ble_eq_true rfl) rfl (fun ls hl => ?_)
  refine lv_iconst (v := (0 : Int32)) hx hb d_X12_whole_69 (by decide) ?_
  refine lv_istore (lv' := [(4, .int (0 : Int32)), (3, .int (0 : Int32)), (0, .ref (ga G 300)), (1, .int z11.1), (2, .int z11.2)]) hx hb d_X12_whole_70 hl (Nat.le_of_ble_eq_true rfl) rfl (fun ls hl => ?_)
  obtain ⟨z17, e18, h⟩ := bd_some h
  refine iter_w (Wh := fun z : Int32 × Int32 => Wat p l e (rmk 3 67) s m args below meth c Q G 5 72 [] [(3, .int z.1), (4, .int z.2), (0, .ref (ga G 300)), (1, .int z11.1), (2, .int z11.2)] χ (sF σ 300 0 (0 : Int32))) (K := fun z : Int32 => Wat p l e (rmk 3 67) s m args below meth c Q G 5 112 [] [(0, .ref (ga G 300)), (1, .int z11.1), (2, .int z11.2), (3, .int z)] χ (sF σ 300 0 (0 : Int32))) (fun z o h1 h2 => b72 (sF σ 300 0 (0 : Int32)) z11.1 z11.2 z.1 z.2 o h1 h2) FU _ _ e18 ?_ _ _ _ hw (lv_sub hl [1, 0, 2, 3, 4] rfl)
  intro H locs ls hw hl
  refine lv_aload_n hx hb d_X12_whole_112 rfl (lv_at hl 0 rfl) ?_
  refine lv_iconst (v := (0 : Int32)) hx hb d_X12_whole_113 (by decide) ?_
  refine m_puti (j := 1) X hw ct8 (o_300 hf) (Nat.le_of_ble_eq_true rfl) rfl (Nat.le_of_ble_eq_true rfl) rfl rfl rfl wd_957 d_X12_whole_114 (fun H locs hw => ?_)
  refine lv_aload_n hx hb d_X12_whole_117 rfl (lv_at hl 0 rfl) ?_
  refine lv_iload_n hx hb d_X12_whole_118 rfl (lv_at hl 3 rfl) ?_
  refine lv_i2l hx hb d_X12_whole_119 rfl ?_
  obtain ⟨q20, e21, h⟩ := bd_some h
  refine r_callV (As := [.long z17.toInt64]) (rest := []) (st' := []) X hw hl mwX12_enters wd_1282 wp_38 wd_1280 (c_X12_enters hf e21) (r_recv X hw ct8 (o_300 hf)) rfl ⟨Nat.le_of_ble_eq_true rfl, Nat.le_of_ble_eq_true rfl⟩ ⟨Nat.le_refl _, Nat.le_refl _⟩ rfl rfl (Nat.le_of_ble_eq_true rfl) d_X12_whole_120 (fun H locs hw => ?_)
  refine lv_aload_n hx hb d_X12_whole_123 rfl (lv_at hl 0 rfl) ?_
  refine lv_iload_n hx hb d_X12_whole_124 rfl (lv_at hl 2 rfl) ?_
  refine lv_i2l hx hb d_X12_whole_125 rfl ?_
  obtain ⟨q22, e23, h⟩ := bd_some h
  refine r_callV (As := [.long (z11.2).toInt64]) (rest := []) (st' := []) X hw hl mwX12_enters wd_1282 wp_38 wd_1280 (c_X12_enters hf e23) (r_recv X hw ct8 (o_300 hf)) rfl ⟨Nat.le_of_ble_eq_true rfl, Nat.le_of_ble_eq_true rfl⟩ ⟨Nat.le_refl _, Nat.le_refl _⟩ rfl rfl (Nat.le_of_ble_eq_true rfl) d_X12_whole_126 (fun H locs hw => ?_)
  refine lv_iload_n hx hb d_X12_whole_129 rfl (lv_at hl 1 rfl) ?_
  obtain rfl := Option.some.inj h
  subst hQ
  exact r_iret X hr hlk hw d_X12_whole_130
abbrev yX12_apart : MethodName := ⟨"OysterBedsModel", "apart", "(II)I"⟩
theorem mwX12_apart : MW yX12_apart prog_14_method_72_code 2 (some .int) 2 := ⟨wd_1425, wd_10, by decide +kernel⟩
theorem d_X12_apart_0 : decode prog_14_method_72_code 0 = .ok (.iload_n 0, 1) := by decide +kernel
theorem d_X12_apart_1 : decode prog_14_method_72_code 1 = .ok (.iload_n 1, 1) := by decide +kernel
theorem d_X12_apart_2 : decode prog_14_method_72_code 2 = .ok (.ixor, 1) := by decide +kernel
theorem d_X12_apart_3 : decode prog_14_method_72_code 3 = .ok (.invokestatic 235, 3) := by decide +kernel
theorem d_X12_apart_6 : decode prog_14_method_72_code 6 = .ok (.ireturn, 1) := by decide +kernel
def f_X12_apart (a0 : Int32) (a1 : Int32) : Option (Int32) := (f_J6_bitCount_0f7a4 (a0 ^^^ a1)).bind (fun q1 => some q1)
theorem c_X12_apart {l : Launch} {G : gT} {χ σ : St} {a0 : Int32} {a1 : Int32} (hf : FW G) {q : Int32} (h : f_X12_apart a0 a1 = some q) : Ct l G yX12_apart prog_14_method_72_code 2 (some .int) 1 20 [.int a0, .int a1] χ σ (some (.int q)) χ σ := by
  refine Ct.of (by decide) (Nat.le_of_ble_eq_true rfl) ?_
  intro p e s m args below meth c Q X hr hlk hQ
  have hx := X.1
  have hb := X.2.1
  intro H locs ls hw hl
  have hl : lv_has ls 2 [(0, .int a0), (1, .int a1)] := hl
  unfold f_X12_apart at h
  refine lv_iload_n hx hb d_X12_apart_0 rfl (lv_at hl 0 rfl) ?_
  refine lv_iload_n hx hb d_X12_apart_1 rfl (lv_at hl 1 rfl) ?_
  refine lv_ixor hx hb d_X12_apart_2 ?_
  obtain ⟨q1, e2, h⟩ := bd_some h
  refine r_callS (As := [.int (a0 ^^^ a1)]) (rest := []) (st' := [.int q1]) X hw hl mwJ6_bitCount_0f7a4 wd_436 wd_1272 (c_J6_bitCount_0f7a4 e2) rfl ⟨Nat.le_of_ble_eq_true rfl, Nat.le_of_ble_eq_true rfl⟩ ⟨Nat.le_refl _, Nat.le_refl _⟩ rfl rfl (Nat.le_of_ble_eq_true rfl) d_X12_apart_3 (fun H locs hw => ?_)
  obtain rfl := Option.some.inj h
  subst hQ
  exact r_iret X hr hlk hw d_X12_apart_6
abbrev yX12_farOf : MethodName := ⟨"OysterBedsModel", "farOf", "(I)I"⟩
theorem mwX12_farOf : MW yX12_farOf prog_14_method_73_code 4 (some .int) 1 := ⟨wd_1422, wd_10, by decide +kernel⟩
theorem d_X12_farOf_0 : decode prog_14_method_73_code 0 = .ok (.iconst 0, 1) := by decide +kernel
theorem d_X12_farOf_1 : decode prog_14_method_73_code 1 = .ok (.istore_n 2, 1) := by decide +kernel
theorem d_X12_farOf_2 : decode prog_14_method_73_code 2 = .ok (.iconst 0, 1) := by decide +kernel
theorem d_X12_farOf_3 : decode prog_14_method_73_code 3 = .ok (.istore_n 3, 1) := by decide +kernel
theorem d_X12_farOf_4 : decode prog_14_method_73_code 4 = .ok (.iload_n 3, 1) := by decide +kernel
theorem d_X12_farOf_5 : decode prog_14_method_73_code 5 = .ok (.aload_n 0, 1) := by decide +kernel
theorem d_X12_farOf_6 : decode prog_14_method_73_code 6 = .ok (.getfield 102, 3) := by decide +kernel
theorem d_X12_farOf_9 : decode prog_14_method_73_code 9 = .ok (.if_icmp .ge 25, 3) := by decide +kernel
theorem d_X12_farOf_12 : decode prog_14_method_73_code 12 = .ok (.iload_n 2, 1) := by decide +kernel
theorem d_X12_farOf_13 : decode prog_14_method_73_code 13 = .ok (.iload_n 1, 1) := by decide +kernel
theorem d_X12_farOf_14 : decode prog_14_method_73_code 14 = .ok (.aload_n 0, 1) := by decide +kernel
theorem d_X12_farOf_15 : decode prog_14_method_73_code 15 = .ok (.getfield 17, 3) := by decide +kernel
theorem d_X12_farOf_18 : decode prog_14_method_73_code 18 = .ok (.bipush 8, 2) := by decide +kernel
theorem d_X12_farOf_20 : decode prog_14_method_73_code 20 = .ok (.iload_n 3, 1) := by decide +kernel
theorem d_X12_farOf_21 : decode prog_14_method_73_code 21 = .ok (.iadd, 1) := by decide +kernel
theorem d_X12_farOf_22 : decode prog_14_method_73_code 22 = .ok (.iaload, 1) := by decide +kernel
theorem d_X12_farOf_23 : decode prog_14_method_73_code 23 = .ok (.invokestatic 329, 3) := by decide +kernel
theorem d_X12_farOf_26 : decode prog_14_method_73_code 26 = .ok (.iadd, 1) := by decide +kernel
theorem d_X12_farOf_27 : decode prog_14_method_73_code 27 = .ok (.istore_n 2, 1) := by decide +kernel
theorem d_X12_farOf_28 : decode prog_14_method_73_code 28 = .ok (.iinc 3 1, 3) := by decide +kernel
theorem d_X12_farOf_31 : decode prog_14_method_73_code 31 = .ok (.goto (-27), 3) := by decide +kernel
theorem d_X12_farOf_34 : decode prog_14_method_73_code 34 = .ok (.iload_n 2, 1) := by decide +kernel
theorem d_X12_farOf_35 : decode prog_14_method_73_code 35 = .ok (.ireturn, 1) := by decide +kernel
def f_X12_farOf_s4 (σ : St) (y1 : Int32) (x2 : Int32) (x3 : Int32) : Option ((Int32 × Int32) ⊕ (Int32)) := (if (cF σ 300 3) ≤ x3 then some (.inr x2) else gd (inb ((8 : Int32) + x3) 34) ((f_X12_apart y1 (cA σ 306 ((8 : Int32) + x3).toNatClampNeg)).bind (fun q2 => some (.inl ((x2 + q2), (x3 + (1 : Int32)))))))
def f_X12_farOf (σ : St) (a1 : Int32) : Option (Int32) := (iter (fun z => f_X12_farOf_s4 σ a1 z.1 z.2) FU ((0 : Int32), (0 : Int32))).bind (fun z4 => some z4)
theorem c_X12_farOf {l : Launch} {G : gT} {χ σ : St} {a1 : Int32} (hf : FW G) {q : Int32} (h : f_X12_farOf σ a1 = some q) : Ct l G yX12_farOf prog_14_method_73_code 4 (some .int) 2 41 [.ref (ga G 300), .int a1] χ σ (some (.int q)) χ σ := by
  refine Ct.of (by decide) (Nat.le_of_ble_eq_true rfl) ?_
  intro p e s m args below meth c Q X hr hlk hQ
  have hx := X.1
  have hb := X.2.1
  have b4 : ∀ (y1 : Int32) (x2 : Int32) (x3 : Int32) (o : (Int32 × Int32) ⊕ (Int32)), f_X12_farOf_s4 σ y1 x2 x3 = some o → Sum.elim (fun z : Int32 × Int32 => Wat p l e (rmk 2 41) s m args below meth c Q G 4 4 [] [(2, .int z.1), (3, .int z.2), (0, .ref (ga G 300)), (1, .int y1)] χ σ) (fun z : Int32 => Wat p l e (rmk 2 41) s m args below meth c Q G 4 34 [] [(2, .int z)] χ σ) o → Wat p l e (rmk 2 41) s m args below meth c Q G 4 4 [] [(2, .int x2), (3, .int x3), (0, .ref (ga G 300)), (1, .int y1)] χ σ := by
    intro y1 x2 x3 o h hk H locs ls hw hl
    unfold f_X12_farOf_s4 at h
    refine lv_iload_n hx hb d_X12_farOf_4 rfl (lv_at hl 1 rfl) ?_
    refine lv_aload_n hx hb d_X12_farOf_5 rfl (lv_at hl 2 rfl) ?_
    refine m_geti (j := 3) X hw ct8 (o_300 hf) (Nat.le_of_ble_eq_true rfl) rfl (Nat.le_of_ble_eq_true rfl) wd_959 d_X12_farOf_6 ?_
    refine lv_icmp_ge (tgt := 34) hx hb d_X12_farOf_9 (by decide) (fun hc => ?_) (fun hc => ?_)
    · have h := ite_t h hc
      obtain rfl := Option.some.inj h
      dsimp only [Sum.elim_inr] at hk
      exact hk _ _ _ hw (lv_sub hl [0] rfl)
    · have h := ite_f h hc
      refine lv_iload_n hx hb d_X12_farOf_12 rfl (lv_at hl 0 rfl) ?_
      refine lv_iload_n hx hb d_X12_farOf_13 rfl (lv_at hl 3 rfl) ?_
      refine lv_aload_n hx hb d_X12_farOf_14 rfl (lv_at hl 2 rfl) ?_
      refine r_getr (j := 6) X hw ct8 (o_300 hf) rfl (Nat.le_of_ble_eq_true rfl) (q := 306) rfl wd_962 d_X12_farOf_15 ?_
      refine lv_bipush (v := (8 : Int32)) hx hb d_X12_farOf_18 (by decide) ?_
      refine lv_iload_n hx hb d_X12_farOf_20 rfl (lv_at hl 1 rfl) ?_
      refine lv_iadd hx hb d_X12_farOf_21 ?_
      obtain ⟨hi1, h⟩ := gd_some h
      refine m_iald X hw (o_306 hf) (Nat.le_of_ble_eq_true rfl) hi1 d_X12_farOf_22 ?_
      obtain ⟨q2, e3, h⟩ := bd_some h
      refine r_callS (As := [.int y1, .int (cA σ 306 ((8 : Int32) + x3).toNatClampNeg)]) (rest := [.int x2]) (st' := [.int q2, .int x2]) X hw hl mwX12_apart wd_1424 wd_1423 (c_X12_apart hf e3) rfl ⟨Nat.le_of_ble_eq_true rfl, Nat.le_of_ble_eq_true rfl⟩ ⟨Nat.le_refl _, Nat.le_refl _⟩ rfl rfl (Nat.le_of_ble_eq_true rfl) d_X12_farOf_23 (fun H locs hw => ?_)
      refine lv_iadd hx hb d_X12_farOf_26 ?_
      refine lv_istore_n (lv' := [(2, .int (x2 + q2)), (3, .int x3), (0, .ref (ga G 300)), (1, .int y1)]) hx hb d_X12_farOf_27 rfl hl (Nat.le_of_ble_eq_true rfl) rfl (fun ls hl => ?_)
      refine lv_iinc (v := (x3 + (1 : Int32))) (k := 1) (lv' := [(3, .int (x3 + (1 : Int32))), (2, .int (x2 + q2)), (0, .ref (ga G 300)), (1, .int y1)]) hx hb d_X12_farOf_28 hl rfl (by rfl) (Nat.le_of_ble_eq_true rfl) rfl (fun ls hl => ?_)
      refine lv_goto (tgt := 4) hx hb d_X12_farOf_31 (by decide) ?_
      obtain rfl := Option.some.inj h
      dsimp only [Sum.elim_inl] at hk
      exact hk _ _ _ hw (lv_sub hl [1, 0, 2, 3] rfl)
  intro H locs ls hw hl
  have hl : lv_has ls 4 [(0, .ref (ga G 300)), (1, .int a1)] := hl
  unfold f_X12_farOf at h
  refine lv_iconst (v := (0 : Int32)) hx hb d_X12_farOf_0 (by decide) ?_
  refine lv_istore_n (lv' := [(2, .int (0 : Int32)), (0, .ref (ga G 300)), (1, .int a1)]) hx hb d_X12_farOf_1 rfl hl (Nat.le_of_ble_eq_true rfl) rfl (fun ls hl => ?_)
  refine lv_iconst (v := (0 : Int32)) hx hb d_X12_farOf_2 (by decide) ?_
  refine lv_istore_n (lv' := [(3, .int (0 : Int32)), (2, .int (0 : Int32)), (0, .ref (ga G 300)), (1, .int a1)]) hx hb d_X12_farOf_3 rfl hl (Nat.le_of_ble_eq_true rfl) rfl (fun ls hl => ?_)
  obtain ⟨z4, e5, h⟩ := bd_some h
  refine iter_w (Wh := fun z : Int32 × Int32 => Wat p l e (rmk 2 41) s m args below meth c Q G 4 4 [] [(2, .int z.1), (3, .int z.2), (0, .ref (ga G 300)), (1, .int a1)] χ σ) (K := fun z : Int32 => Wat p l e (rmk 2 41) s m args below meth c Q G 4 34 [] [(2, .int z)] χ σ) (fun z o h1 h2 => b4 a1 z.1 z.2 o h1 h2) FU _ _ e5 ?_ _ _ _ hw (lv_sub hl [1, 0, 2, 3] rfl)
  intro H locs ls hw hl
  refine lv_iload_n hx hb d_X12_farOf_34 rfl (lv_at hl 0 rfl) ?_
  obtain rfl := Option.some.inj h
  subst hQ
  exact r_iret X hr hlk hw d_X12_farOf_35
abbrev yX12_middle : MethodName := ⟨"OysterBedsModel", "middle", "()I"⟩
theorem mwX12_middle : MW yX12_middle prog_14_method_74_code 4 (some .int) 0 := ⟨wd_1418, wd_10, by decide +kernel⟩
theorem d_X12_middle_0 : decode prog_14_method_74_code 0 = .ok (.aload_n 0, 1) := by decide +kernel
theorem d_X12_middle_1 : decode prog_14_method_74_code 1 = .ok (.iconst 0, 1) := by decide +kernel
theorem d_X12_middle_2 : decode prog_14_method_74_code 2 = .ok (.putfield 87, 3) := by decide +kernel
theorem d_X12_middle_5 : decode prog_14_method_74_code 5 = .ok (.iconst 0, 1) := by decide +kernel
theorem d_X12_middle_6 : decode prog_14_method_74_code 6 = .ok (.istore_n 1, 1) := by decide +kernel
theorem d_X12_middle_7 : decode prog_14_method_74_code 7 = .ok (.iconst 1, 1) := by decide +kernel
theorem d_X12_middle_8 : decode prog_14_method_74_code 8 = .ok (.istore_n 2, 1) := by decide +kernel
theorem d_X12_middle_9 : decode prog_14_method_74_code 9 = .ok (.iload_n 2, 1) := by decide +kernel
theorem d_X12_middle_10 : decode prog_14_method_74_code 10 = .ok (.bipush 16, 2) := by decide +kernel
theorem d_X12_middle_12 : decode prog_14_method_74_code 12 = .ok (.if_icmp .ge 28, 3) := by decide +kernel
theorem d_X12_middle_15 : decode prog_14_method_74_code 15 = .ok (.aload_n 0, 1) := by decide +kernel
theorem d_X12_middle_16 : decode prog_14_method_74_code 16 = .ok (.iload_n 2, 1) := by decide +kernel
theorem d_X12_middle_17 : decode prog_14_method_74_code 17 = .ok (.invokevirtual 332, 3) := by decide +kernel
theorem d_X12_middle_20 : decode prog_14_method_74_code 20 = .ok (.aload_n 0, 1) := by decide +kernel
theorem d_X12_middle_21 : decode prog_14_method_74_code 21 = .ok (.iload_n 1, 1) := by decide +kernel
theorem d_X12_middle_22 : decode prog_14_method_74_code 22 = .ok (.invokevirtual 332, 3) := by decide +kernel
theorem d_X12_middle_25 : decode prog_14_method_74_code 25 = .ok (.if_icmp .ge 7, 3) := by decide +kernel
theorem d_X12_middle_28 : decode prog_14_method_74_code 28 = .ok (.iload_n 2, 1) := by decide +kernel
theorem d_X12_middle_29 : decode prog_14_method_74_code 29 = .ok (.goto 4, 3) := by decide +kernel
theorem d_X12_middle_32 : decode prog_14_method_74_code 32 = .ok (.iload_n 1, 1) := by decide +kernel
theorem d_X12_middle_33 : decode prog_14_method_74_code 33 = .ok (.istore_n 1, 1) := by decide +kernel
theorem d_X12_middle_34 : decode prog_14_method_74_code 34 = .ok (.iinc 2 1, 3) := by decide +kernel
theorem d_X12_middle_37 : decode prog_14_method_74_code 37 = .ok (.goto (-28), 3) := by decide +kernel
theorem d_X12_middle_40 : decode prog_14_method_74_code 40 = .ok (.iconst 0, 1) := by decide +kernel
theorem d_X12_middle_41 : decode prog_14_method_74_code 41 = .ok (.istore_n 2, 1) := by decide +kernel
theorem d_X12_middle_42 : decode prog_14_method_74_code 42 = .ok (.iconst 0, 1) := by decide +kernel
theorem d_X12_middle_43 : decode prog_14_method_74_code 43 = .ok (.istore_n 3, 1) := by decide +kernel
theorem d_X12_middle_44 : decode prog_14_method_74_code 44 = .ok (.iload_n 3, 1) := by decide +kernel
theorem d_X12_middle_45 : decode prog_14_method_74_code 45 = .ok (.aload_n 0, 1) := by decide +kernel
theorem d_X12_middle_46 : decode prog_14_method_74_code 46 = .ok (.getfield 102, 3) := by decide +kernel
theorem d_X12_middle_49 : decode prog_14_method_74_code 49 = .ok (.if_icmp .ge 27, 3) := by decide +kernel
theorem d_X12_middle_52 : decode prog_14_method_74_code 52 = .ok (.iload_n 2, 1) := by decide +kernel
theorem d_X12_middle_53 : decode prog_14_method_74_code 53 = .ok (.iload_n 1, 1) := by decide +kernel
theorem d_X12_middle_54 : decode prog_14_method_74_code 54 = .ok (.aload_n 0, 1) := by decide +kernel
theorem d_X12_middle_55 : decode prog_14_method_74_code 55 = .ok (.getfield 17, 3) := by decide +kernel
theorem d_X12_middle_58 : decode prog_14_method_74_code 58 = .ok (.bipush 8, 2) := by decide +kernel
theorem d_X12_middle_60 : decode prog_14_method_74_code 60 = .ok (.iload_n 3, 1) := by decide +kernel
theorem d_X12_middle_61 : decode prog_14_method_74_code 61 = .ok (.iadd, 1) := by decide +kernel
theorem d_X12_middle_62 : decode prog_14_method_74_code 62 = .ok (.iaload, 1) := by decide +kernel
theorem d_X12_middle_63 : decode prog_14_method_74_code 63 = .ok (.invokestatic 329, 3) := by decide +kernel
theorem d_X12_middle_66 : decode prog_14_method_74_code 66 = .ok (.invokestatic 251, 3) := by decide +kernel
theorem d_X12_middle_69 : decode prog_14_method_74_code 69 = .ok (.istore_n 2, 1) := by decide +kernel
theorem d_X12_middle_70 : decode prog_14_method_74_code 70 = .ok (.iinc 3 1, 3) := by decide +kernel
theorem d_X12_middle_73 : decode prog_14_method_74_code 73 = .ok (.goto (-29), 3) := by decide +kernel
theorem d_X12_middle_76 : decode prog_14_method_74_code 76 = .ok (.aload_n 0, 1) := by decide +kernel
theorem d_X12_middle_77 : decode prog_14_method_74_code 77 = .ok (.iconst 0, 1) := by decide +kernel
theorem d_X12_middle_78 : decode prog_14_method_74_code 78 = .ok (.putfield 95, 3) := by decide +kernel
theorem d_X12_middle_81 : decode prog_14_method_74_code 81 = .ok (.aload_n 0, 1) := by decide +kernel
theorem d_X12_middle_82 : decode prog_14_method_74_code 82 = .ok (.aload_n 0, 1) := by decide +kernel
theorem d_X12_middle_83 : decode prog_14_method_74_code 83 = .ok (.iload_n 1, 1) := by decide +kernel
theorem d_X12_middle_84 : decode prog_14_method_74_code 84 = .ok (.invokevirtual 332, 3) := by decide +kernel
theorem d_X12_middle_87 : decode prog_14_method_74_code 87 = .ok (.i2l, 1) := by decide +kernel
theorem d_X12_middle_88 : decode prog_14_method_74_code 88 = .ok (.invokevirtual 98, 3) := by decide +kernel
theorem d_X12_middle_91 : decode prog_14_method_74_code 91 = .ok (.aload_n 0, 1) := by decide +kernel
theorem d_X12_middle_92 : decode prog_14_method_74_code 92 = .ok (.iload_n 2, 1) := by decide +kernel
theorem d_X12_middle_93 : decode prog_14_method_74_code 93 = .ok (.i2l, 1) := by decide +kernel
theorem d_X12_middle_94 : decode prog_14_method_74_code 94 = .ok (.invokevirtual 98, 3) := by decide +kernel
theorem d_X12_middle_97 : decode prog_14_method_74_code 97 = .ok (.iload_n 1, 1) := by decide +kernel
theorem d_X12_middle_98 : decode prog_14_method_74_code 98 = .ok (.ireturn, 1) := by decide +kernel
def f_X12_middle_j33_9 (τ : St) (x2 : Int32) (s0 : Int32) : Option ((Int32 × Int32) ⊕ (Int32)) := some (.inl (s0, (x2 + (1 : Int32))))
def f_X12_middle_s9 (τ : St) (x1 : Int32) (x2 : Int32) : Option ((Int32 × Int32) ⊕ (Int32)) := (if (16 : Int32) ≤ x2 then some (.inr x1) else (f_X12_farOf τ x2).bind (fun q1 => (f_X12_farOf τ x1).bind (fun q3 => f_X12_middle_j33_9 τ x2 (if q3 ≤ q1 then x1 else x2))))
def f_X12_middle_s44 (τ : St) (y1 : Int32) (x2 : Int32) (x3 : Int32) : Option ((Int32 × Int32) ⊕ (Int32)) := (if (cF τ 300 3) ≤ x3 then some (.inr x2) else gd (inb ((8 : Int32) + x3) 34) ((f_X12_apart y1 (cA τ 306 ((8 : Int32) + x3).toNatClampNeg)).bind (fun q9 => some (.inl ((if x2 < q9 then q9 else x2), (x3 + (1 : Int32)))))))
def f_X12_middle (σ : St) : Option (Int32 × St) := (iter (fun z => f_X12_middle_s9 (sF σ 300 0 (0 : Int32)) z.1 z.2) FU ((0 : Int32), (1 : Int32))).bind (fun z5 => (iter (fun z => f_X12_middle_s44 (sF σ 300 0 (0 : Int32)) z5 z.1 z.2) FU ((0 : Int32), (0 : Int32))).bind (fun z11 => (f_X12_farOf (sF (sF σ 300 0 (0 : Int32)) 300 1 (0 : Int32)) z5).bind (fun q14 => (f_X12_enters (sF (sF σ 300 0 (0 : Int32)) 300 1 (0 : Int32)) q14.toInt64).bind (fun q16 => (f_X12_enters q16 z11.toInt64).bind (fun q18 => some (z5, q18))))))
theorem c_X12_middle {l : Launch} {G : gT} {χ σ : St} (hf : FW G) {q : Int32 × St} (h : f_X12_middle σ = some q) : Ct l G yX12_middle prog_14_method_74_code 4 (some .int) 3 64 [.ref (ga G 300)] χ σ (some (.int q.1)) χ q.2 := by
  refine Ct.of (by decide) (Nat.le_of_ble_eq_true rfl) ?_
  intro p e s m args below meth c Q X hr hlk hQ
  have hx := X.1
  have hb := X.2.1
  have j33_9 : ∀ (τ : St) (x2 : Int32) (s0 : Int32) (o : (Int32 × Int32) ⊕ (Int32)), f_X12_middle_j33_9 τ x2 s0 = some o → Sum.elim (fun z : Int32 × Int32 => Wat p l e (rmk 3 64) s m args below meth c Q G 4 9 [] [(1, .int z.1), (2, .int z.2), (0, .ref (ga G 300))] χ τ) (fun z : Int32 => Wat p l e (rmk 3 64) s m args below meth c Q G 4 40 [] [(0, .ref (ga G 300)), (1, .int z)] χ τ) o → Wat p l e (rmk 3 64) s m args below meth c Q G 4 33 [.int s0] [(0, .ref (ga G 300)), (2, .int x2)] χ τ := by
    intro τ x2 s0 o h hk H locs ls hw hl
    unfold f_X12_middle_j33_9 at h
    refine lv_istore_n (lv' := [(1, .int s0), (0, .ref (ga G 300)), (2, .int x2)]) hx hb d_X12_middle_33 rfl hl (Nat.le_of_ble_eq_true rfl) rfl (fun ls hl => ?_)
    refine lv_iinc (v := (x2 + (1 : Int32))) (k := 2) (lv' := [(2, .int (x2 + (1 : Int32))), (1, .int s0), (0, .ref (ga G 300))]) hx hb d_X12_middle_34 hl rfl (by rfl) (Nat.le_of_ble_eq_true rfl) rfl (fun ls hl => ?_)
    refine lv_goto (tgt := 9) hx hb d_X12_middle_37 (by decide) ?_
    obtain rfl := Option.some.inj h
    dsimp only [Sum.elim_inl] at hk
    exact hk _ _ _ hw (lv_sub hl [1, 0, 2] rfl)
  have b9 : ∀ (τ : St) (x1 : Int32) (x2 : Int32) (o : (Int32 × Int32) ⊕ (Int32)), f_X12_middle_s9 τ x1 x2 = some o → Sum.elim (fun z : Int32 × Int32 => Wat p l e (rmk 3 64) s m args below meth c Q G 4 9 [] [(1, .int z.1), (2, .int z.2), (0, .ref (ga G 300))] χ τ) (fun z : Int32 => Wat p l e (rmk 3 64) s m args below meth c Q G 4 40 [] [(0, .ref (ga G 300)), (1, .int z)] χ τ) o → Wat p l e (rmk 3 64) s m args below meth c Q G 4 9 [] [(1, .int x1), (2, .int x2), (0, .ref (ga G 300))] χ τ := by
    intro τ x1 x2 o h hk H locs ls hw hl
    unfold f_X12_middle_s9 at h
    refine lv_iload_n hx hb d_X12_middle_9 rfl (lv_at hl 1 rfl) ?_
    refine lv_bipush (v := (16 : Int32)) hx hb d_X12_middle_10 (by decide) ?_
    refine lv_icmp_ge (tgt := 40) hx hb d_X12_middle_12 (by decide) (fun hc => ?_) (fun hc => ?_)
    · have h := ite_t h hc
      obtain rfl := Option.some.inj h
      dsimp only [Sum.elim_inr] at hk
      exact hk _ _ _ hw (lv_sub hl [2, 0] rfl)
    · have h := ite_f h hc
      refine lv_aload_n hx hb d_X12_middle_15 rfl (lv_at hl 2 rfl) ?_
      refine lv_iload_n hx hb d_X12_middle_16 rfl (lv_at hl 1 rfl) ?_
      obtain ⟨q1, e2, h⟩ := bd_some h
      refine r_callV (As := [.int x2]) (rest := []) (st' := [.int q1]) X hw hl mwX12_farOf wd_1421 wp_53 wd_1419 (c_X12_farOf hf e2) (r_recv X hw ct8 (o_300 hf)) rfl ⟨Nat.le_of_ble_eq_true rfl, Nat.le_of_ble_eq_true rfl⟩ ⟨Nat.le_refl _, Nat.le_refl _⟩ rfl rfl (Nat.le_of_ble_eq_true rfl) d_X12_middle_17 (fun H locs hw => ?_)
      refine lv_aload_n hx hb d_X12_middle_20 rfl (lv_at hl 2 rfl) ?_
      refine lv_iload_n hx hb d_X12_middle_21 rfl (lv_at hl 0 rfl) ?_
      obtain ⟨q3, e4, h⟩ := bd_some h
      refine r_callV (As := [.int x1]) (rest := [.int q1]) (st' := [.int q3, .int q1]) X hw hl mwX12_farOf wd_1421 wp_53 wd_1419 (c_X12_farOf hf e4) (r_recv X hw ct8 (o_300 hf)) rfl ⟨Nat.le_of_ble_eq_true rfl, Nat.le_of_ble_eq_true rfl⟩ ⟨Nat.le_refl _, Nat.le_refl _⟩ rfl rfl (Nat.le_of_ble_eq_true rfl) d_X12_middle_22 (fun H locs hw => ?_)
      refine lv_icmp_ge (tgt := 32) hx hb d_X12_middle_25 (by decide) (fun hc => ?_) (fun hc => ?_)
      · simp only [if_pos hc] at h
        refine lv_iload_n hx hb d_X12_middle_32 rfl (lv_at hl 0 rfl) ?_
        exact j33_9 τ x2 x1 o h hk _ _ _ hw (lv_sub hl [2, 1] rfl)
      · simp only [if_neg hc] at h
        refine lv_iload_n hx hb d_X12_middle_28 rfl (lv_at hl 1 rfl) ?_
        refine lv_goto (tgt := 33) hx hb d_X12_middle_29 (by decide) ?_
        exact j33_9 τ x2 x2 o h hk _ _ _ hw (lv_sub hl [2, 1] rfl)
  have b44 : ∀ (τ : St) (y1 : Int32) (x2 : Int32) (x3 : Int32) (o : (Int32 × Int32) ⊕ (Int32)), f_X12_middle_s44 τ y1 x2 x3 = some o → Sum.elim (fun z : Int32 × Int32 => Wat p l e (rmk 3 64) s m args below meth c Q G 4 44 [] [(2, .int z.1), (3, .int z.2), (0, .ref (ga G 300)), (1, .int y1)] χ τ) (fun z : Int32 => Wat p l e (rmk 3 64) s m args below meth c Q G 4 76 [] [(0, .ref (ga G 300)), (1, .int y1), (2, .int z)] χ τ) o → Wat p l e (rmk 3 64) s m args below meth c Q G 4 44 [] [(2, .int x2), (3, .int x3), (0, .ref (ga G 300)), (1, .int y1)] χ τ := by
    intro τ y1 x2 x3 o h hk H locs ls hw hl
    unfold f_X12_middle_s44 at h
    refine lv_iload_n hx hb d_X12_middle_44 rfl (lv_at hl 1 rfl) ?_
    refine lv_aload_n hx hb d_X12_middle_45 rfl (lv_at hl 2 rfl) ?_
    refine m_geti (j := 3) X hw ct8 (o_300 hf) (Nat.le_of_ble_eq_true rfl) rfl (Nat.le_of_ble_eq_true rfl) wd_959 d_X12_middle_46 ?_
    refine lv_icmp_ge (tgt := 76) hx hb d_X12_middle_49 (by decide) (fun hc => ?_) (fun hc => ?_)
    · have h := ite_t h hc
      obtain rfl := Option.some.inj h
      dsimp only [Sum.elim_inr] at hk
      exact hk _ _ _ hw (lv_sub hl [2, 3, 0] rfl)
    · have h := ite_f h hc
      refine lv_iload_n hx hb d_X12_middle_52 rfl (lv_at hl 0 rfl) ?_
      refine lv_iload_n hx hb d_X12_middle_53 rfl (lv_at hl 3 rfl) ?_
      refine lv_aload_n hx hb d_X12_middle_54 rfl (lv_at hl 2 rfl) ?_
      refine r_getr (j := 6) X hw ct8 (o_300 hf) rfl (Nat.le_of_ble_eq_true rfl) (q := 306) rfl wd_962 d_X12_middle_55 ?_
      refine lv_bipush (v := (8 : Int32)) hx hb d_X12_middle_58 (by decide) ?_
      refine lv_iload_n hx hb d_X12_middle_60 rfl (lv_at hl 1 rfl) ?_
      refine lv_iadd hx hb d_X12_middle_61 ?_
      obtain ⟨hi8, h⟩ := gd_some h
      refine m_iald X hw (o_306 hf) (Nat.le_of_ble_eq_true rfl) hi8 d_X12_middle_62 ?_
      obtain ⟨q9, e10, h⟩ := bd_some h
      refine r_callS (As := [.int y1, .int (cA τ 306 ((8 : Int32) + x3).toNatClampNeg)]) (rest := [.int x2]) (st' := [.int q9, .int x2]) X hw hl mwX12_apart wd_1424 wd_1423 (c_X12_apart hf e10) rfl ⟨Nat.le_of_ble_eq_true rfl, Nat.le_of_ble_eq_true rfl⟩ ⟨Nat.le_refl _, Nat.le_refl _⟩ rfl rfl (Nat.le_of_ble_eq_true rfl) d_X12_middle_63 (fun H locs hw => ?_)
      refine r_max X hl wd_1232 ⟨Nat.le_of_ble_eq_true rfl, Nat.le_of_ble_eq_true rfl⟩ ⟨Nat.le_refl _, Nat.le_refl _⟩ d_X12_middle_66 ?_
      refine lv_istore_n (lv' := [(2, .int (if x2 < q9 then q9 else x2)), (3, .int x3), (0, .ref (ga G 300)), (1, .int y1)]) hx hb d_X12_middle_69 rfl hl (Nat.le_of_ble_eq_true rfl) rfl (fun ls hl => ?_)
      refine lv_iinc (v := (x3 + (1 : Int32))) (k := 1) (lv' := [(3, .int (x3 + (1 : Int32))), (2, .int (if x2 < q9 then q9 else x2)), (0, .ref (ga G 300)), (1, .int y1)]) hx hb d_X12_middle_70 hl rfl (by rfl) (Nat.le_of_ble_eq_true rfl) rfl (fun ls hl => ?_)
      refine lv_goto (tgt := 44) hx hb d_X12_middle_73 (by decide) ?_
      obtain rfl := Option.some.inj h
      dsimp only [Sum.elim_inl] at hk
      exact hk _ _ _ hw (lv_sub hl [1, 0, 2, 3] rfl)
  intro H locs ls hw hl
  have hl : lv_has ls 4 [(0, .ref (ga G 300))] := hl
  unfold f_X12_middle at h
  refine lv_aload_n hx hb d_X12_middle_0 rfl (lv_at hl 0 rfl) ?_
  refine lv_iconst (v := (0 : Int32)) hx hb d_X12_middle_1 (by decide) ?_
  refine m_puti (j := 0) X hw ct8 (o_300 hf) (Nat.le_of_ble_eq_true rfl) rfl (Nat.le_of_ble_eq_true rfl) rfl rfl rfl wd_956 d_X12_middle_2 (fun H locs hw => ?_)
  refine lv_iconst (v := (0 : Int32)) hx hb d_X12_middle_5 (by decide) ?_
  refine lv_istore_n (lv' := [(1, .int (0 : Int32)), (0, .ref (ga G 300))]) hx hb d_X12_middle_6 rfl hl (Nat.le_of_ble_eq_true rfl) rfl (fun ls hl => ?_)
  refine lv_iconst (v := (1 : Int32)) hx hb d_X12_middle_7 (by decide) ?_
  refine lv_istore_n (lv' := [(2, .int (1 : Int32)), (1, .int (0 : Int32)), (0, .ref (ga G 300))]) hx hb d_X12_middle_8 rfl hl (Nat.le_of_ble_eq_true rfl) rfl (fun ls hl => ?_)
  obtain ⟨z5, e6, h⟩ := bd_some h
  refine iter_w (Wh := fun z : Int32 × Int32 => Wat p l e (rmk 3 64) s m args below meth c Q G 4 9 [] [(1, .int z.1), (2, .int z.2), (0, .ref (ga G 300))] χ (sF σ 300 0 (0 : Int32))) (K := fun z : Int32 => Wat p l e (rmk 3 64) s m args below meth c Q G 4 40 [] [(0, .ref (ga G 300)), (1, .int z)] χ (sF σ 300 0 (0 : Int32))) (fun z o h1 h2 => b9 (sF σ 300 0 (0 : Int32)) z.1 z.2 o h1 h2) FU _ _ e6 ?_ _ _ _ hw (lv_sub hl [1, 0, 2] rfl)
  intro H locs ls hw hl
  refine lv_iconst (v := (0 : Int32)) hx hb d_X12_middle_40 (by decide) ?_
  refine lv_istore_n (lv' := [(2, .int (0 : Int32)), (0, .ref (ga G 300)), (1, .int z5)]) hx hb d_X12_middle_41 rfl hl (Nat.le_of_ble_eq_true rfl) rfl (fun ls hl => ?_)
  refine lv_iconst (v := (0 : Int32)) hx hb d_X12_middle_42 (by decide) ?_
  refine lv_istore_n (lv' := [(3, .int (0 : Int32)), (2, .int (0 : Int32)), (0, .ref (ga G 300)), (1, .int z5)]) hx hb d_X12_middle_43 rfl hl (Nat.le_of_ble_eq_true rfl) rfl (fun ls hl => ?_)
  obtain ⟨z11, e12, h⟩ := bd_some h
  refine iter_w (Wh := fun z : Int32 × Int32 => Wat p l e (rmk 3 64) s m args below meth c Q G 4 44 [] [(2, .int z.1), (3, .int z.2), (0, .ref (ga G 300)), (1, .int z5)] χ (sF σ 300 0 (0 : Int32))) (K := fun z : Int32 => Wat p l e (rmk 3 64) s m args below meth c Q G 4 76 [] [(0, .ref (ga G 300)), (1, .int z5), (2, .int z)] χ (sF σ 300 0 (0 : Int32))) (fun z o h1 h2 => b44 (sF σ 300 0 (0 : Int32)) z5 z.1 z.2 o h1 h2) FU _ _ e12 ?_ _ _ _ hw (lv_sub hl [1, 0, 2, 3] rfl)
  intro H locs ls hw hl
  refine lv_aload_n hx hb d_X12_middle_76 rfl (lv_at hl 0 rfl) ?_
  refine lv_iconst (v := (0 : Int32)) hx hb d_X12_middle_77 (by decide) ?_
  refine m_puti (j := 1) X hw ct8 (o_300 hf) (Nat.le_of_ble_eq_true rfl) rfl (Nat.le_of_ble_eq_true rfl) rfl rfl rfl wd_957 d_X12_middle_78 (fun H locs hw => ?_)
  refine lv_aload_n hx hb d_X12_middle_81 rfl (lv_at hl 0 rfl) ?_
  refine lv_aload_n hx hb d_X12_middle_82 rfl (lv_at hl 0 rfl) ?_
  refine lv_iload_n hx hb d_X12_middle_83 rfl (lv_at hl 1 rfl) ?_
  obtain ⟨q14, e15, h⟩ := bd_some h
  refine r_callV (As := [.int z5]) (rest := [.ref (ga G 300)]) (st' := [.int q14, .ref (ga G 300)]) X hw hl mwX12_farOf wd_1421 wp_53 wd_1419 (c_X12_farOf hf e15) (r_recv X hw ct8 (o_300 hf)) rfl ⟨Nat.le_of_ble_eq_true rfl, Nat.le_of_ble_eq_true rfl⟩ ⟨Nat.le_refl _, Nat.le_refl _⟩ rfl rfl (Nat.le_of_ble_eq_true rfl) d_X12_middle_84 (fun H locs hw => ?_)
  refine lv_i2l hx hb d_X12_middle_87 rfl ?_
  obtain ⟨q16, e17, h⟩ := bd_some h
  refine r_callV (As := [.long q14.toInt64]) (rest := []) (st' := []) X hw hl mwX12_enters wd_1282 wp_38 wd_1280 (c_X12_enters hf e17) (r_recv X hw ct8 (o_300 hf)) rfl ⟨Nat.le_of_ble_eq_true rfl, Nat.le_of_ble_eq_true rfl⟩ ⟨Nat.le_refl _, Nat.le_refl _⟩ rfl rfl (Nat.le_of_ble_eq_true rfl) d_X12_middle_88 (fun H locs hw => ?_)
  refine lv_aload_n hx hb d_X12_middle_91 rfl (lv_at hl 0 rfl) ?_
  refine lv_iload_n hx hb d_X12_middle_92 rfl (lv_at hl 2 rfl) ?_
  refine lv_i2l hx hb d_X12_middle_93 rfl ?_
  obtain ⟨q18, e19, h⟩ := bd_some h
  refine r_callV (As := [.long z11.toInt64]) (rest := []) (st' := []) X hw hl mwX12_enters wd_1282 wp_38 wd_1280 (c_X12_enters hf e19) (r_recv X hw ct8 (o_300 hf)) rfl ⟨Nat.le_of_ble_eq_true rfl, Nat.le_of_ble_eq_true rfl⟩ ⟨Nat.le_refl _, Nat.le_refl _⟩ rfl rfl (Nat.le_of_ble_eq_true rfl) d_X12_middle_94 (fun H locs hw => ?_)
  refine lv_iload_n hx hb d_X12_middle_97 rfl (lv_at hl 1 rfl) ?_
  obtain rfl := Option.some.inj h
  subst hQ
  exact r_iret X hr hlk hw d_X12_middle_98
abbrev yX12_nearest : MethodName := ⟨"OysterBedsModel", "nearest", "()I"⟩
theorem mwX12_nearest : MW yX12_nearest prog_14_method_75_code 5 (some .int) 0 := ⟨wd_1429, wd_10, by decide +kernel⟩
theorem d_X12_nearest_0 : decode prog_14_method_75_code 0 = .ok (.aload_n 0, 1) := by decide +kernel
theorem d_X12_nearest_1 : decode prog_14_method_75_code 1 = .ok (.iconst 0, 1) := by decide +kernel
theorem d_X12_nearest_2 : decode prog_14_method_75_code 2 = .ok (.putfield 87, 3) := by decide +kernel
theorem d_X12_nearest_5 : decode prog_14_method_75_code 5 = .ok (.ldc_w 315, 3) := by decide +kernel
theorem d_X12_nearest_8 : decode prog_14_method_75_code 8 = .ok (.istore_n 1, 1) := by decide +kernel
theorem d_X12_nearest_9 : decode prog_14_method_75_code 9 = .ok (.iconst 0, 1) := by decide +kernel
theorem d_X12_nearest_10 : decode prog_14_method_75_code 10 = .ok (.istore_n 2, 1) := by decide +kernel
theorem d_X12_nearest_11 : decode prog_14_method_75_code 11 = .ok (.iload_n 2, 1) := by decide +kernel
theorem d_X12_nearest_12 : decode prog_14_method_75_code 12 = .ok (.aload_n 0, 1) := by decide +kernel
theorem d_X12_nearest_13 : decode prog_14_method_75_code 13 = .ok (.getfield 102, 3) := by decide +kernel
theorem d_X12_nearest_16 : decode prog_14_method_75_code 16 = .ok (.if_icmp .ge 76, 3) := by decide +kernel
theorem d_X12_nearest_19 : decode prog_14_method_75_code 19 = .ok (.iload_n 2, 1) := by decide +kernel
theorem d_X12_nearest_20 : decode prog_14_method_75_code 20 = .ok (.iconst 1, 1) := by decide +kernel
theorem d_X12_nearest_21 : decode prog_14_method_75_code 21 = .ok (.iadd, 1) := by decide +kernel
theorem d_X12_nearest_22 : decode prog_14_method_75_code 22 = .ok (.istore_n 3, 1) := by decide +kernel
theorem d_X12_nearest_23 : decode prog_14_method_75_code 23 = .ok (.iload_n 3, 1) := by decide +kernel
theorem d_X12_nearest_24 : decode prog_14_method_75_code 24 = .ok (.aload_n 0, 1) := by decide +kernel
theorem d_X12_nearest_25 : decode prog_14_method_75_code 25 = .ok (.getfield 102, 3) := by decide +kernel
theorem d_X12_nearest_28 : decode prog_14_method_75_code 28 = .ok (.if_icmp .ge 58, 3) := by decide +kernel
theorem d_X12_nearest_31 : decode prog_14_method_75_code 31 = .ok (.aload_n 0, 1) := by decide +kernel
theorem d_X12_nearest_32 : decode prog_14_method_75_code 32 = .ok (.getfield 17, 3) := by decide +kernel
theorem d_X12_nearest_35 : decode prog_14_method_75_code 35 = .ok (.bipush 8, 2) := by decide +kernel
theorem d_X12_nearest_37 : decode prog_14_method_75_code 37 = .ok (.iload_n 2, 1) := by decide +kernel
theorem d_X12_nearest_38 : decode prog_14_method_75_code 38 = .ok (.iadd, 1) := by decide +kernel
theorem d_X12_nearest_39 : decode prog_14_method_75_code 39 = .ok (.iaload, 1) := by decide +kernel
theorem d_X12_nearest_40 : decode prog_14_method_75_code 40 = .ok (.aload_n 0, 1) := by decide +kernel
theorem d_X12_nearest_41 : decode prog_14_method_75_code 41 = .ok (.getfield 17, 3) := by decide +kernel
theorem d_X12_nearest_44 : decode prog_14_method_75_code 44 = .ok (.bipush 8, 2) := by decide +kernel
theorem d_X12_nearest_46 : decode prog_14_method_75_code 46 = .ok (.iload_n 3, 1) := by decide +kernel
theorem d_X12_nearest_47 : decode prog_14_method_75_code 47 = .ok (.iadd, 1) := by decide +kernel
theorem d_X12_nearest_48 : decode prog_14_method_75_code 48 = .ok (.iaload, 1) := by decide +kernel
theorem d_X12_nearest_49 : decode prog_14_method_75_code 49 = .ok (.invokestatic 329, 3) := by decide +kernel
theorem d_X12_nearest_52 : decode prog_14_method_75_code 52 = .ok (.istore 4, 2) := by decide +kernel
theorem d_X12_nearest_54 : decode prog_14_method_75_code 54 = .ok (.iload 4, 2) := by decide +kernel
theorem d_X12_nearest_56 : decode prog_14_method_75_code 56 = .ok (.iload_n 1, 1) := by decide +kernel
theorem d_X12_nearest_57 : decode prog_14_method_75_code 57 = .ok (.if_icmp .ge 23, 3) := by decide +kernel
theorem d_X12_nearest_60 : decode prog_14_method_75_code 60 = .ok (.iload 4, 2) := by decide +kernel
theorem d_X12_nearest_62 : decode prog_14_method_75_code 62 = .ok (.istore_n 1, 1) := by decide +kernel
theorem d_X12_nearest_63 : decode prog_14_method_75_code 63 = .ok (.aload_n 0, 1) := by decide +kernel
theorem d_X12_nearest_64 : decode prog_14_method_75_code 64 = .ok (.iconst 0, 1) := by decide +kernel
theorem d_X12_nearest_65 : decode prog_14_method_75_code 65 = .ok (.putfield 95, 3) := by decide +kernel
theorem d_X12_nearest_68 : decode prog_14_method_75_code 68 = .ok (.aload_n 0, 1) := by decide +kernel
theorem d_X12_nearest_69 : decode prog_14_method_75_code 69 = .ok (.iload_n 2, 1) := by decide +kernel
theorem d_X12_nearest_70 : decode prog_14_method_75_code 70 = .ok (.i2l, 1) := by decide +kernel
theorem d_X12_nearest_71 : decode prog_14_method_75_code 71 = .ok (.invokevirtual 98, 3) := by decide +kernel
theorem d_X12_nearest_74 : decode prog_14_method_75_code 74 = .ok (.aload_n 0, 1) := by decide +kernel
theorem d_X12_nearest_75 : decode prog_14_method_75_code 75 = .ok (.iload_n 3, 1) := by decide +kernel
theorem d_X12_nearest_76 : decode prog_14_method_75_code 76 = .ok (.i2l, 1) := by decide +kernel
theorem d_X12_nearest_77 : decode prog_14_method_75_code 77 = .ok (.invokevirtual 98, 3) := by decide +kernel
theorem d_X12_nearest_80 : decode prog_14_method_75_code 80 = .ok (.iinc 3 1, 3) := by decide +kernel
theorem d_X12_nearest_83 : decode prog_14_method_75_code 83 = .ok (.goto (-60), 3) := by decide +kernel
theorem d_X12_nearest_86 : decode prog_14_method_75_code 86 = .ok (.iinc 2 1, 3) := by decide +kernel
theorem d_X12_nearest_89 : decode prog_14_method_75_code 89 = .ok (.goto (-78), 3) := by decide +kernel
theorem d_X12_nearest_92 : decode prog_14_method_75_code 92 = .ok (.iload_n 1, 1) := by decide +kernel
theorem d_X12_nearest_93 : decode prog_14_method_75_code 93 = .ok (.ldc_w 315, 3) := by decide +kernel
theorem d_X12_nearest_96 : decode prog_14_method_75_code 96 = .ok (.if_icmp .ne 8, 3) := by decide +kernel
theorem d_X12_nearest_99 : decode prog_14_method_75_code 99 = .ok (.bipush (-2), 2) := by decide +kernel
theorem d_X12_nearest_101 : decode prog_14_method_75_code 101 = .ok (.goto 4, 3) := by decide +kernel
theorem d_X12_nearest_104 : decode prog_14_method_75_code 104 = .ok (.iload_n 1, 1) := by decide +kernel
theorem d_X12_nearest_105 : decode prog_14_method_75_code 105 = .ok (.ireturn, 1) := by decide +kernel
def f_X12_nearest_j80_23 (τ : St) (x1 : Int32) (x2 : Int32) (x3 : Int32) : Option ((Int32 × Int32 × St) ⊕ (Int32 × St)) := some (.inl (x1, (x3 + (1 : Int32)), τ))
def f_X12_nearest_s23 (τ : St) (y2 : Int32) (x1 : Int32) (x3 : Int32) : Option ((Int32 × Int32 × St) ⊕ (Int32 × St)) := (if (cF τ 300 3) ≤ x3 then some (.inr (x1, τ)) else gd (inb ((8 : Int32) + y2) 34) (gd (inb ((8 : Int32) + x3) 34) ((f_X12_apart (cA τ 306 ((8 : Int32) + y2).toNatClampNeg) (cA τ 306 ((8 : Int32) + x3).toNatClampNeg)).bind (fun q3 => (if x1 ≤ q3 then f_X12_nearest_j80_23 τ x1 y2 x3 else (f_X12_enters (sF τ 300 1 (0 : Int32)) y2.toInt64).bind (fun q5 => (f_X12_enters q5 x3.toInt64).bind (fun q7 => f_X12_nearest_j80_23 q7 q3 y2 x3)))))))
def f_X12_nearest_s11 (τ : St) (x1 : Int32) (x2 : Int32) : Option ((Int32 × Int32 × St) ⊕ (Int32 × St)) := (if (cF τ 300 3) ≤ x2 then some (.inr (x1, τ)) else (iter (fun z => f_X12_nearest_s23 z.2.2 x2 z.1 z.2.1) FU (x1, (x2 + (1 : Int32)), τ)).bind (fun z9 => some (.inl (z9.1, (x2 + (1 : Int32)), z9.2))))
def f_X12_nearest (σ : St) : Option (Int32 × St) := (iter (fun z => f_X12_nearest_s11 z.2.2 z.1 z.2.1) FU ((1000000 : Int32), (0 : Int32), (sF σ 300 0 (0 : Int32)))).bind (fun z12 => some ((if z12.1 = (1000000 : Int32) then (-2 : Int32) else z12.1), z12.2))
theorem c_X12_nearest {l : Launch} {G : gT} {χ σ : St} (hf : FW G) {q : Int32 × St} (h : f_X12_nearest σ = some q) : Ct l G yX12_nearest prog_14_method_75_code 5 (some .int) 2 41 [.ref (ga G 300)] χ σ (some (.int q.1)) χ q.2 := by
  refine Ct.of (by decide) (Nat.le_of_ble_eq_true rfl) ?_
  intro p e s m args below meth c Q X hr hlk hQ
  have hx := X.1
  have hb := X.2.1
  have j80_23 : ∀ (τ : St) (x1 : Int32) (x2 : Int32) (x3 : Int32) (o : (Int32 × Int32 × St) ⊕ (Int32 × St)), f_X12_nearest_j80_23 τ x1 x2 x3 = some o → Sum.elim (fun z : Int32 × Int32 × St => Wat p l e (rmk 2 41) s m args below meth c Q G 5 23 [] [(1, .int z.1), (3, .int z.2.1), (0, .ref (ga G 300)), (2, .int x2)] χ z.2.2) (fun z : Int32 × St => Wat p l e (rmk 2 41) s m args below meth c Q G 5 86 [] [(0, .ref (ga G 300)), (1, .int z.1), (2, .int x2)] χ z.2) o → Wat p l e (rmk 2 41) s m args below meth c Q G 5 80 [] [(0, .ref (ga G 300)), (1, .int x1), (2, .int x2), (3, .int x3)] χ τ := by
    intro τ x1 x2 x3 o h hk H locs ls hw hl
    unfold f_X12_nearest_j80_23 at h
    refine lv_iinc (v := (x3 + (1 : Int32))) (k := 3) (lv' := [(3, .int (x3 + (1 : Int32))), (0, .ref (ga G 300)), (1, .int x1), (2, .int x2)]) hx hb d_X12_nearest_80 hl rfl (by rfl) (Nat.le_of_ble_eq_true rfl) rfl (fun ls hl => ?_)
    refine lv_goto (tgt := 23) hx hb d_X12_nearest_83 (by decide) ?_
    obtain rfl := Option.some.inj h
    dsimp only [Sum.elim_inl] at hk
    exact hk _ _ _ hw (lv_sub hl [2, 0, 1, 3] rfl)
  have b23 : ∀ (τ : St) (y2 : Int32) (x1 : Int32) (x3 : Int32) (o : (Int32 × Int32 × St) ⊕ (Int32 × St)), f_X12_nearest_s23 τ y2 x1 x3 = some o → Sum.elim (fun z : Int32 × Int32 × St => Wat p l e (rmk 2 41) s m args below meth c Q G 5 23 [] [(1, .int z.1), (3, .int z.2.1), (0, .ref (ga G 300)), (2, .int y2)] χ z.2.2) (fun z : Int32 × St => Wat p l e (rmk 2 41) s m args below meth c Q G 5 86 [] [(0, .ref (ga G 300)), (1, .int z.1), (2, .int y2)] χ z.2) o → Wat p l e (rmk 2 41) s m args below meth c Q G 5 23 [] [(1, .int x1), (3, .int x3), (0, .ref (ga G 300)), (2, .int y2)] χ τ := by
    intro τ y2 x1 x3 o h hk H locs ls hw hl
    unfold f_X12_nearest_s23 at h
    refine lv_iload_n hx hb d_X12_nearest_23 rfl (lv_at hl 1 rfl) ?_
    refine lv_aload_n hx hb d_X12_nearest_24 rfl (lv_at hl 2 rfl) ?_
    refine m_geti (j := 3) X hw ct8 (o_300 hf) (Nat.le_of_ble_eq_true rfl) rfl (Nat.le_of_ble_eq_true rfl) wd_959 d_X12_nearest_25 ?_
    refine lv_icmp_ge (tgt := 86) hx hb d_X12_nearest_28 (by decide) (fun hc => ?_) (fun hc => ?_)
    · have h := ite_t h hc
      obtain rfl := Option.some.inj h
      dsimp only [Sum.elim_inr] at hk
      exact hk _ _ _ hw (lv_sub hl [2, 0, 3] rfl)
    · have h := ite_f h hc
      refine lv_aload_n hx hb d_X12_nearest_31 rfl (lv_at hl 2 rfl) ?_
      refine r_getr (j := 6) X hw ct8 (o_300 hf) rfl (Nat.le_of_ble_eq_true rfl) (q := 306) rfl wd_962 d_X12_nearest_32 ?_
      refine lv_bipush (v := (8 : Int32)) hx hb d_X12_nearest_35 (by decide) ?_
      refine lv_iload_n hx hb d_X12_nearest_37 rfl (lv_at hl 3 rfl) ?_
      refine lv_iadd hx hb d_X12_nearest_38 ?_
      obtain ⟨hi1, h⟩ := gd_some h
      refine m_iald X hw (o_306 hf) (Nat.le_of_ble_eq_true rfl) hi1 d_X12_nearest_39 ?_
      refine lv_aload_n hx hb d_X12_nearest_40 rfl (lv_at hl 2 rfl) ?_
      refine r_getr (j := 6) X hw ct8 (o_300 hf) rfl (Nat.le_of_ble_eq_true rfl) (q := 306) rfl wd_962 d_X12_nearest_41 ?_
      refine lv_bipush (v := (8 : Int32)) hx hb d_X12_nearest_44 (by decide) ?_
      refine lv_iload_n hx hb d_X12_nearest_46 rfl (lv_at hl 1 rfl) ?_
      refine lv_iadd hx hb d_X12_nearest_47 ?_
      obtain ⟨hi2, h⟩ := gd_some h
      refine m_iald X hw (o_306 hf) (Nat.le_of_ble_eq_true rfl) hi2 d_X12_nearest_48 ?_
      obtain ⟨q3, e4, h⟩ := bd_some h
      refine r_callS (As := [.int (cA τ 306 ((8 : Int32) + y2).toNatClampNeg), .int (cA τ 306 ((8 : Int32) + x3).toNatClampNeg)]) (rest := []) (st' := [.int q3]) X hw hl mwX12_apart wd_1424 wd_1423 (c_X12_apart hf e4) rfl ⟨Nat.le_of_ble_eq_true rfl, Nat.le_of_ble_eq_true rfl⟩ ⟨Nat.le_refl _, Nat.le_refl _⟩ rfl rfl (Nat.le_of_ble_eq_true rfl) d_X12_nearest_49 (fun H locs hw => ?_)
      refine lv_istore (lv' := [(4, .int q3), (1, .int x1), (3, .int x3), (0, .ref (ga G 300)), (2, .int y2)]) hx hb d_X12_nearest_52 hl (Nat.le_of_ble_eq_true rfl) rfl (fun ls hl => ?_)
      refine lv_iload hx hb d_X12_nearest_54 (lv_at hl 0 rfl) ?_
      refine lv_iload_n hx hb d_X12_nearest_56 rfl (lv_at hl 1 rfl) ?_
      refine lv_icmp_ge (tgt := 80) hx hb d_X12_nearest_57 (by decide) (fun hc => ?_) (fun hc => ?_)
      · have h := ite_t h hc
        exact j80_23 τ x1 y2 x3 o h hk _ _ _ hw (lv_sub hl [3, 1, 4, 2] rfl)
      · have h := ite_f h hc
        refine lv_iload hx hb d_X12_nearest_60 (lv_at hl 0 rfl) ?_
        refine lv_istore_n (lv' := [(1, .int q3), (4, .int q3), (3, .int x3), (0, .ref (ga G 300)), (2, .int y2)]) hx hb d_X12_nearest_62 rfl hl (Nat.le_of_ble_eq_true rfl) rfl (fun ls hl => ?_)
        refine lv_aload_n hx hb d_X12_nearest_63 rfl (lv_at hl 3 rfl) ?_
        refine lv_iconst (v := (0 : Int32)) hx hb d_X12_nearest_64 (by decide) ?_
        refine m_puti (j := 1) X hw ct8 (o_300 hf) (Nat.le_of_ble_eq_true rfl) rfl (Nat.le_of_ble_eq_true rfl) rfl rfl rfl wd_957 d_X12_nearest_65 (fun H locs hw => ?_)
        refine lv_aload_n hx hb d_X12_nearest_68 rfl (lv_at hl 3 rfl) ?_
        refine lv_iload_n hx hb d_X12_nearest_69 rfl (lv_at hl 4 rfl) ?_
        refine lv_i2l hx hb d_X12_nearest_70 rfl ?_
        obtain ⟨q5, e6, h⟩ := bd_some h
        refine r_callV (As := [.long y2.toInt64]) (rest := []) (st' := []) X hw hl mwX12_enters wd_1282 wp_38 wd_1280 (c_X12_enters hf e6) (r_recv X hw ct8 (o_300 hf)) rfl ⟨Nat.le_of_ble_eq_true rfl, Nat.le_of_ble_eq_true rfl⟩ ⟨Nat.le_refl _, Nat.le_refl _⟩ rfl rfl (Nat.le_of_ble_eq_true rfl) d_X12_nearest_71 (fun H locs hw => ?_)
        refine lv_aload_n hx hb d_X12_nearest_74 rfl (lv_at hl 3 rfl) ?_
        refine lv_iload_n hx hb d_X12_nearest_75 rfl (lv_at hl 2 rfl) ?_
        refine lv_i2l hx hb d_X12_nearest_76 rfl ?_
        obtain ⟨q7, e8, h⟩ := bd_some h
        refine r_callV (As := [.long x3.toInt64]) (rest := []) (st' := []) X hw hl mwX12_enters wd_1282 wp_38 wd_1280 (c_X12_enters hf e8) (r_recv X hw ct8 (o_300 hf)) rfl ⟨Nat.le_of_ble_eq_true rfl, Nat.le_of_ble_eq_true rfl⟩ ⟨Nat.le_refl _, Nat.le_refl _⟩ rfl rfl (Nat.le_of_ble_eq_true rfl) d_X12_nearest_77 (fun H locs hw => ?_)
        exact j80_23 q7 q3 y2 x3 o h hk _ _ _ hw (lv_sub hl [3, 0, 4, 2] rfl)
  have b11 : ∀ (τ : St) (x1 : Int32) (x2 : Int32) (o : (Int32 × Int32 × St) ⊕ (Int32 × St)), f_X12_nearest_s11 τ x1 x2 = some o → Sum.elim (fun z : Int32 × Int32 × St => Wat p l e (rmk 2 41) s m args below meth c Q G 5 11 [] [(1, .int z.1), (2, .int z.2.1), (0, .ref (ga G 300))] χ z.2.2) (fun z : Int32 × St => Wat p l e (rmk 2 41) s m args below meth c Q G 5 92 [] [(1, .int z.1)] χ z.2) o → Wat p l e (rmk 2 41) s m args below meth c Q G 5 11 [] [(1, .int x1), (2, .int x2), (0, .ref (ga G 300))] χ τ := by
    intro τ x1 x2 o h hk H locs ls hw hl
    unfold f_X12_nearest_s11 at h
    refine lv_iload_n hx hb d_X12_nearest_11 rfl (lv_at hl 1 rfl) ?_
    refine lv_aload_n hx hb d_X12_nearest_12 rfl (lv_at hl 2 rfl) ?_
    refine m_geti (j := 3) X hw ct8 (o_300 hf) (Nat.le_of_ble_eq_true rfl) rfl (Nat.le_of_ble_eq_true rfl) wd_959 d_X12_nearest_13 ?_
    refine lv_icmp_ge (tgt := 92) hx hb d_X12_nearest_16 (by decide) (fun hc => ?_) (fun hc => ?_)
    · have h := ite_t h hc
      obtain rfl := Option.some.inj h
      dsimp only [Sum.elim_inr] at hk
      exact hk _ _ _ hw (lv_sub hl [0] rfl)
    · have h := ite_f h hc
      refine lv_iload_n hx hb d_X12_nearest_19 rfl (lv_at hl 1 rfl) ?_
      refine lv_iconst (v := (1 : Int32)) hx hb d_X12_nearest_20 (by decide) ?_
      refine lv_iadd hx hb d_X12_nearest_21 ?_
      refine lv_istore_n (lv' := [(3, .int (x2 + (1 : Int32))), (1, .int x1), (2, .int x2), (0, .ref (ga G 300))]) hx hb d_X12_nearest_22 rfl hl (Nat.le_of_ble_eq_true rfl) rfl (fun ls hl => ?_)
      obtain ⟨z9, e10, h⟩ := bd_some h
      refine iter_w (Wh := fun z : Int32 × Int32 × St => Wat p l e (rmk 2 41) s m args below meth c Q G 5 23 [] [(1, .int z.1), (3, .int z.2.1), (0, .ref (ga G 300)), (2, .int x2)] χ z.2.2) (K := fun z : Int32 × St => Wat p l e (rmk 2 41) s m args below meth c Q G 5 86 [] [(0, .ref (ga G 300)), (1, .int z.1), (2, .int x2)] χ z.2) (fun z o h1 h2 => b23 z.2.2 x2 z.1 z.2.1 o h1 h2) FU _ _ e10 ?_ _ _ _ hw (lv_sub hl [1, 0, 3, 2] rfl)
      intro H locs ls hw hl
      refine lv_iinc (v := (x2 + (1 : Int32))) (k := 2) (lv' := [(2, .int (x2 + (1 : Int32))), (0, .ref (ga G 300)), (1, .int z9.1)]) hx hb d_X12_nearest_86 hl rfl (by rfl) (Nat.le_of_ble_eq_true rfl) rfl (fun ls hl => ?_)
      refine lv_goto (tgt := 11) hx hb d_X12_nearest_89 (by decide) ?_
      obtain rfl := Option.some.inj h
      dsimp only [Sum.elim_inl] at hk
      exact hk _ _ _ hw (lv_sub hl [2, 0, 1] rfl)
  intro H locs ls hw hl
  have hl : lv_has ls 5 [(0, .ref (ga G 300))] := hl
  unfold f_X12_nearest at h
  refine lv_aload_n hx hb d_X12_nearest_0 rfl (lv_at hl 0 rfl) ?_
  refine lv_iconst (v := (0 : Int32)) hx hb d_X12_nearest_1 (by decide) ?_
  refine m_puti (j := 0) X hw ct8 (o_300 hf) (Nat.le_of_ble_eq_true rfl) rfl (Nat.le_of_ble_eq_true rfl) rfl rfl rfl wd_956 d_X12_nearest_2 (fun H locs hw => ?_)
  refine r_ldcw X wd_1368 d_X12_nearest_5 ?_
  refine lv_istore_n (lv' := [(1, .int (1000000 : Int32)), (0, .ref (ga G 300))]) hx hb d_X12_nearest_8 rfl hl (Nat.le_of_ble_eq_true rfl) rfl (fun ls hl => ?_)
  refine lv_iconst (v := (0 : Int32)) hx hb d_X12_nearest_9 (by decide) ?_
  refine lv_istore_n (lv' := [(2, .int (0 : Int32)), (1, .int (1000000 : Int32)), (0, .ref (ga G 300))]) hx hb d_X12_nearest_10 rfl hl (Nat.le_of_ble_eq_true rfl) rfl (fun ls hl => ?_)
  obtain ⟨z12, e13, h⟩ := bd_some h
  refine iter_w (Wh := fun z : Int32 × Int32 × St => Wat p l e (rmk 2 41) s m args below meth c Q G 5 11 [] [(1, .int z.1), (2, .int z.2.1), (0, .ref (ga G 300))] χ z.2.2) (K := fun z : Int32 × St => Wat p l e (rmk 2 41) s m args below meth c Q G 5 92 [] [(1, .int z.1)] χ z.2) (fun z o h1 h2 => b11 z.2.2 z.1 z.2.1 o h1 h2) FU _ _ e13 ?_ _ _ _ hw (lv_sub hl [1, 0, 2] rfl)
  intro H locs ls hw hl
  refine lv_iload_n hx hb d_X12_nearest_92 rfl (lv_at hl 0 rfl) ?_
  refine r_ldcw X wd_1368 d_X12_nearest_93 ?_
  refine lv_icmp_ne (tgt := 104) hx hb d_X12_nearest_96 (by decide) (fun hc => ?_) (fun hc => ?_)
  · simp only [if_neg hc] at h
    refine lv_iload_n hx hb d_X12_nearest_104 rfl (lv_at hl 0 rfl) ?_
    obtain rfl := Option.some.inj h
    subst hQ
    exact r_iret X hr hlk hw d_X12_nearest_105
  · simp only [if_pos hc] at h
    refine lv_bipush (v := (-2 : Int32)) hx hb d_X12_nearest_99 (by decide) ?_
    refine lv_goto (tgt := 105) hx hb d_X12_nearest_101 (by decide) ?_
    obtain rfl := Option.some.inj h
    subst hQ
    exact r_iret X hr hlk hw d_X12_nearest_105
abbrev yX12_alike : MethodName := ⟨"OysterBedsModel", "alike", "(I)I"⟩
theorem mwX12_alike : MW yX12_alike prog_14_method_76_code 4 (some .int) 1 := ⟨wd_1437, wd_10, by decide +kernel⟩
theorem d_X12_alike_0 : decode prog_14_method_76_code 0 = .ok (.iconst 0, 1) := by decide +kernel
theorem d_X12_alike_1 : decode prog_14_method_76_code 1 = .ok (.istore_n 2, 1) := by decide +kernel
theorem d_X12_alike_2 : decode prog_14_method_76_code 2 = .ok (.iconst 0, 1) := by decide +kernel
theorem d_X12_alike_3 : decode prog_14_method_76_code 3 = .ok (.istore_n 3, 1) := by decide +kernel
theorem d_X12_alike_4 : decode prog_14_method_76_code 4 = .ok (.iload_n 3, 1) := by decide +kernel
theorem d_X12_alike_5 : decode prog_14_method_76_code 5 = .ok (.aload_n 0, 1) := by decide +kernel
theorem d_X12_alike_6 : decode prog_14_method_76_code 6 = .ok (.getfield 102, 3) := by decide +kernel
theorem d_X12_alike_9 : decode prog_14_method_76_code 9 = .ok (.if_icmp .ge 32, 3) := by decide +kernel
theorem d_X12_alike_12 : decode prog_14_method_76_code 12 = .ok (.iload_n 2, 1) := by decide +kernel
theorem d_X12_alike_13 : decode prog_14_method_76_code 13 = .ok (.aload_n 0, 1) := by decide +kernel
theorem d_X12_alike_14 : decode prog_14_method_76_code 14 = .ok (.getfield 17, 3) := by decide +kernel
theorem d_X12_alike_17 : decode prog_14_method_76_code 17 = .ok (.bipush 8, 2) := by decide +kernel
theorem d_X12_alike_19 : decode prog_14_method_76_code 19 = .ok (.iload_n 3, 1) := by decide +kernel
theorem d_X12_alike_20 : decode prog_14_method_76_code 20 = .ok (.iadd, 1) := by decide +kernel
theorem d_X12_alike_21 : decode prog_14_method_76_code 21 = .ok (.iaload, 1) := by decide +kernel
theorem d_X12_alike_22 : decode prog_14_method_76_code 22 = .ok (.iload_n 1, 1) := by decide +kernel
theorem d_X12_alike_23 : decode prog_14_method_76_code 23 = .ok (.if_icmp .ne 9, 3) := by decide +kernel
theorem d_X12_alike_26 : decode prog_14_method_76_code 26 = .ok (.iconst 1, 1) := by decide +kernel
theorem d_X12_alike_27 : decode prog_14_method_76_code 27 = .ok (.iload_n 3, 1) := by decide +kernel
theorem d_X12_alike_28 : decode prog_14_method_76_code 28 = .ok (.ishl, 1) := by decide +kernel
theorem d_X12_alike_29 : decode prog_14_method_76_code 29 = .ok (.goto 4, 3) := by decide +kernel
theorem d_X12_alike_32 : decode prog_14_method_76_code 32 = .ok (.iconst 0, 1) := by decide +kernel
theorem d_X12_alike_33 : decode prog_14_method_76_code 33 = .ok (.ior, 1) := by decide +kernel
theorem d_X12_alike_34 : decode prog_14_method_76_code 34 = .ok (.istore_n 2, 1) := by decide +kernel
theorem d_X12_alike_35 : decode prog_14_method_76_code 35 = .ok (.iinc 3 1, 3) := by decide +kernel
theorem d_X12_alike_38 : decode prog_14_method_76_code 38 = .ok (.goto (-34), 3) := by decide +kernel
theorem d_X12_alike_41 : decode prog_14_method_76_code 41 = .ok (.iload_n 2, 1) := by decide +kernel
theorem d_X12_alike_42 : decode prog_14_method_76_code 42 = .ok (.ireturn, 1) := by decide +kernel
def f_X12_alike_j33_4 (σ : St) (x1 : Int32) (x3 : Int32) (s0 : Int32) (s1 : Int32) : Option ((Int32 × Int32) ⊕ (Int32)) := some (.inl ((s0 ||| s1), (x3 + (1 : Int32))))
def f_X12_alike_s4 (σ : St) (y1 : Int32) (x2 : Int32) (x3 : Int32) : Option ((Int32 × Int32) ⊕ (Int32)) := (if (cF σ 300 3) ≤ x3 then some (.inr x2) else gd (inb ((8 : Int32) + x3) 34) (f_X12_alike_j33_4 σ y1 x3 x2 (if (cA σ 306 ((8 : Int32) + x3).toNatClampNeg) = y1 then ((1 : Int32) <<< (x3 &&& 31)) else (0 : Int32))))
def f_X12_alike (σ : St) (a1 : Int32) : Option (Int32) := (iter (fun z => f_X12_alike_s4 σ a1 z.1 z.2) FU ((0 : Int32), (0 : Int32))).bind (fun z2 => some z2)
theorem c_X12_alike {l : Launch} {G : gT} {χ σ : St} {a1 : Int32} (hf : FW G) {q : Int32} (h : f_X12_alike σ a1 = some q) : Ct l G yX12_alike prog_14_method_76_code 4 (some .int) 0 0 [.ref (ga G 300), .int a1] χ σ (some (.int q)) χ σ := by
  refine Ct.of (by decide) (Nat.le_of_ble_eq_true rfl) ?_
  intro p e s m args below meth c Q X hr hlk hQ
  have hx := X.1
  have hb := X.2.1
  have j33_4 : ∀ (x1 : Int32) (x3 : Int32) (s0 : Int32) (s1 : Int32) (o : (Int32 × Int32) ⊕ (Int32)), f_X12_alike_j33_4 σ x1 x3 s0 s1 = some o → Sum.elim (fun z : Int32 × Int32 => Wat p l e (rmk 0 0) s m args below meth c Q G 4 4 [] [(2, .int z.1), (3, .int z.2), (0, .ref (ga G 300)), (1, .int x1)] χ σ) (fun z : Int32 => Wat p l e (rmk 0 0) s m args below meth c Q G 4 41 [] [(2, .int z)] χ σ) o → Wat p l e (rmk 0 0) s m args below meth c Q G 4 33 [.int s1, .int s0] [(0, .ref (ga G 300)), (1, .int x1), (3, .int x3)] χ σ := by
    intro x1 x3 s0 s1 o h hk H locs ls hw hl
    unfold f_X12_alike_j33_4 at h
    refine lv_ior hx hb d_X12_alike_33 ?_
    refine lv_istore_n (lv' := [(2, .int (s0 ||| s1)), (0, .ref (ga G 300)), (1, .int x1), (3, .int x3)]) hx hb d_X12_alike_34 rfl hl (Nat.le_of_ble_eq_true rfl) rfl (fun ls hl => ?_)
    refine lv_iinc (v := (x3 + (1 : Int32))) (k := 3) (lv' := [(3, .int (x3 + (1 : Int32))), (2, .int (s0 ||| s1)), (0, .ref (ga G 300)), (1, .int x1)]) hx hb d_X12_alike_35 hl rfl (by rfl) (Nat.le_of_ble_eq_true rfl) rfl (fun ls hl => ?_)
    refine lv_goto (tgt := 4) hx hb d_X12_alike_38 (by decide) ?_
    obtain rfl := Option.some.inj h
    dsimp only [Sum.elim_inl] at hk
    exact hk _ _ _ hw (lv_sub hl [1, 0, 2, 3] rfl)
  have b4 : ∀ (y1 : Int32) (x2 : Int32) (x3 : Int32) (o : (Int32 × Int32) ⊕ (Int32)), f_X12_alike_s4 σ y1 x2 x3 = some o → Sum.elim (fun z : Int32 × Int32 => Wat p l e (rmk 0 0) s m args below meth c Q G 4 4 [] [(2, .int z.1), (3, .int z.2), (0, .ref (ga G 300)), (1, .int y1)] χ σ) (fun z : Int32 => Wat p l e (rmk 0 0) s m args below meth c Q G 4 41 [] [(2, .int z)] χ σ) o → Wat p l e (rmk 0 0) s m args below meth c Q G 4 4 [] [(2, .int x2), (3, .int x3), (0, .ref (ga G 300)), (1, .int y1)] χ σ := by
    intro y1 x2 x3 o h hk H locs ls hw hl
    unfold f_X12_alike_s4 at h
    refine lv_iload_n hx hb d_X12_alike_4 rfl (lv_at hl 1 rfl) ?_
    refine lv_aload_n hx hb d_X12_alike_5 rfl (lv_at hl 2 rfl) ?_
    refine m_geti (j := 3) X hw ct8 (o_300 hf) (Nat.le_of_ble_eq_true rfl) rfl (Nat.le_of_ble_eq_true rfl) wd_959 d_X12_alike_6 ?_
    refine lv_icmp_ge (tgt := 41) hx hb d_X12_alike_9 (by decide) (fun hc => ?_) (fun hc => ?_)
    · have h := ite_t h hc
      obtain rfl := Option.some.inj h
      dsimp only [Sum.elim_inr] at hk
      exact hk _ _ _ hw (lv_sub hl [0] rfl)
    · have h := ite_f h hc
      refine lv_iload_n hx hb d_X12_alike_12 rfl (lv_at hl 0 rfl) ?_
      refine lv_aload_n hx hb d_X12_alike_13 rfl (lv_at hl 2 rfl) ?_
      refine r_getr (j := 6) X hw ct8 (o_300 hf) rfl (Nat.le_of_ble_eq_true rfl) (q := 306) rfl wd_962 d_X12_alike_14 ?_
      refine lv_bipush (v := (8 : Int32)) hx hb d_X12_alike_17 (by decide) ?_
      refine lv_iload_n hx hb d_X12_alike_19 rfl (lv_at hl 1 rfl) ?_
      refine lv_iadd hx hb d_X12_alike_20 ?_
      obtain ⟨hi1, h⟩ := gd_some h
      refine m_iald X hw (o_306 hf) (Nat.le_of_ble_eq_true rfl) hi1 d_X12_alike_21 ?_
      refine lv_iload_n hx hb d_X12_alike_22 rfl (lv_at hl 3 rfl) ?_
      refine lv_icmp_ne (tgt := 32) hx hb d_X12_alike_23 (by decide) (fun hc => ?_) (fun hc => ?_)
      · simp only [if_neg hc] at h
        refine lv_iconst (v := (0 : Int32)) hx hb d_X12_alike_32 (by decide) ?_
        exact j33_4 y1 x3 x2 (0 : Int32) o h hk _ _ _ hw (lv_sub hl [2, 3, 1] rfl)
      · simp only [if_pos hc] at h
        refine lv_iconst (v := (1 : Int32)) hx hb d_X12_alike_26 (by decide) ?_
        refine lv_iload_n hx hb d_X12_alike_27 rfl (lv_at hl 1 rfl) ?_
        refine lv_ishl hx hb d_X12_alike_28 ?_
        refine lv_goto (tgt := 33) hx hb d_X12_alike_29 (by decide) ?_
        exact j33_4 y1 x3 x2 ((1 : Int32) <<< (x3 &&& 31)) o h hk _ _ _ hw (lv_sub hl [2, 3, 1] rfl)
  intro H locs ls hw hl
  have hl : lv_has ls 4 [(0, .ref (ga G 300)), (1, .int a1)] := hl
  unfold f_X12_alike at h
  refine lv_iconst (v := (0 : Int32)) hx hb d_X12_alike_0 (by decide) ?_
  refine lv_istore_n (lv' := [(2, .int (0 : Int32)), (0, .ref (ga G 300)), (1, .int a1)]) hx hb d_X12_alike_1 rfl hl (Nat.le_of_ble_eq_true rfl) rfl (fun ls hl => ?_)
  refine lv_iconst (v := (0 : Int32)) hx hb d_X12_alike_2 (by decide) ?_
  refine lv_istore_n (lv' := [(3, .int (0 : Int32)), (2, .int (0 : Int32)), (0, .ref (ga G 300)), (1, .int a1)]) hx hb d_X12_alike_3 rfl hl (Nat.le_of_ble_eq_true rfl) rfl (fun ls hl => ?_)
  obtain ⟨z2, e3, h⟩ := bd_some h
  refine iter_w (Wh := fun z : Int32 × Int32 => Wat p l e (rmk 0 0) s m args below meth c Q G 4 4 [] [(2, .int z.1), (3, .int z.2), (0, .ref (ga G 300)), (1, .int a1)] χ σ) (K := fun z : Int32 => Wat p l e (rmk 0 0) s m args below meth c Q G 4 41 [] [(2, .int z)] χ σ) (fun z o h1 h2 => b4 a1 z.1 z.2 o h1 h2) FU _ _ e3 ?_ _ _ _ hw (lv_sub hl [1, 0, 2, 3] rfl)
  intro H locs ls hw hl
  refine lv_iload_n hx hb d_X12_alike_41 rfl (lv_at hl 0 rfl) ?_
  obtain rfl := Option.some.inj h
  subst hQ
  exact r_iret X hr hlk hw d_X12_alike_42
abbrev yX12_sorts : MethodName := ⟨"OysterBedsModel", "sorts", "()I"⟩
theorem mwX12_sorts : MW yX12_sorts prog_14_method_77_code 6 (some .int) 0 := ⟨wd_1433, wd_10, by decide +kernel⟩
theorem d_X12_sorts_0 : decode prog_14_method_77_code 0 = .ok (.aload_n 0, 1) := by decide +kernel
theorem d_X12_sorts_1 : decode prog_14_method_77_code 1 = .ok (.iconst 0, 1) := by decide +kernel
theorem d_X12_sorts_2 : decode prog_14_method_77_code 2 = .ok (.putfield 87, 3) := by decide +kernel
theorem d_X12_sorts_5 : decode prog_14_method_77_code 5 = .ok (.iconst 0, 1) := by decide +kernel
theorem d_X12_sorts_6 : decode prog_14_method_77_code 6 = .ok (.istore_n 1, 1) := by decide +kernel
theorem d_X12_sorts_7 : decode prog_14_method_77_code 7 = .ok (.iconst 0, 1) := by decide +kernel
theorem d_X12_sorts_8 : decode prog_14_method_77_code 8 = .ok (.istore_n 2, 1) := by decide +kernel
theorem d_X12_sorts_9 : decode prog_14_method_77_code 9 = .ok (.iconst 0, 1) := by decide +kernel
theorem d_X12_sorts_10 : decode prog_14_method_77_code 10 = .ok (.istore_n 3, 1) := by decide +kernel
theorem d_X12_sorts_11 : decode prog_14_method_77_code 11 = .ok (.iload_n 3, 1) := by decide +kernel
theorem d_X12_sorts_12 : decode prog_14_method_77_code 12 = .ok (.aload_n 0, 1) := by decide +kernel
theorem d_X12_sorts_13 : decode prog_14_method_77_code 13 = .ok (.getfield 102, 3) := by decide +kernel
theorem d_X12_sorts_16 : decode prog_14_method_77_code 16 = .ok (.if_icmp .ge 72, 3) := by decide +kernel
theorem d_X12_sorts_19 : decode prog_14_method_77_code 19 = .ok (.aload_n 0, 1) := by decide +kernel
theorem d_X12_sorts_20 : decode prog_14_method_77_code 20 = .ok (.aload_n 0, 1) := by decide +kernel
theorem d_X12_sorts_21 : decode prog_14_method_77_code 21 = .ok (.getfield 17, 3) := by decide +kernel
theorem d_X12_sorts_24 : decode prog_14_method_77_code 24 = .ok (.bipush 8, 2) := by decide +kernel
theorem d_X12_sorts_26 : decode prog_14_method_77_code 26 = .ok (.iload_n 3, 1) := by decide +kernel
theorem d_X12_sorts_27 : decode prog_14_method_77_code 27 = .ok (.iadd, 1) := by decide +kernel
theorem d_X12_sorts_28 : decode prog_14_method_77_code 28 = .ok (.iaload, 1) := by decide +kernel
theorem d_X12_sorts_29 : decode prog_14_method_77_code 29 = .ok (.invokevirtual 335, 3) := by decide +kernel
theorem d_X12_sorts_32 : decode prog_14_method_77_code 32 = .ok (.istore 4, 2) := by decide +kernel
theorem d_X12_sorts_34 : decode prog_14_method_77_code 34 = .ok (.iload 4, 2) := by decide +kernel
theorem d_X12_sorts_36 : decode prog_14_method_77_code 36 = .ok (.invokestatic 338, 3) := by decide +kernel
theorem d_X12_sorts_39 : decode prog_14_method_77_code 39 = .ok (.iload_n 3, 1) := by decide +kernel
theorem d_X12_sorts_40 : decode prog_14_method_77_code 40 = .ok (.if_icmp .ne 7, 3) := by decide +kernel
theorem d_X12_sorts_43 : decode prog_14_method_77_code 43 = .ok (.iconst 1, 1) := by decide +kernel
theorem d_X12_sorts_44 : decode prog_14_method_77_code 44 = .ok (.goto 4, 3) := by decide +kernel
theorem d_X12_sorts_47 : decode prog_14_method_77_code 47 = .ok (.iconst 0, 1) := by decide +kernel
theorem d_X12_sorts_48 : decode prog_14_method_77_code 48 = .ok (.istore 5, 2) := by decide +kernel
theorem d_X12_sorts_50 : decode prog_14_method_77_code 50 = .ok (.iload 5, 2) := by decide +kernel
theorem d_X12_sorts_52 : decode prog_14_method_77_code 52 = .ok (.ifCond .eq 20, 3) := by decide +kernel
theorem d_X12_sorts_55 : decode prog_14_method_77_code 55 = .ok (.iload 4, 2) := by decide +kernel
theorem d_X12_sorts_57 : decode prog_14_method_77_code 57 = .ok (.invokestatic 235, 3) := by decide +kernel
theorem d_X12_sorts_60 : decode prog_14_method_77_code 60 = .ok (.iload_n 1, 1) := by decide +kernel
theorem d_X12_sorts_61 : decode prog_14_method_77_code 61 = .ok (.invokestatic 235, 3) := by decide +kernel
theorem d_X12_sorts_64 : decode prog_14_method_77_code 64 = .ok (.if_icmp .le 8, 3) := by decide +kernel
theorem d_X12_sorts_67 : decode prog_14_method_77_code 67 = .ok (.iload 4, 2) := by decide +kernel
theorem d_X12_sorts_69 : decode prog_14_method_77_code 69 = .ok (.goto 4, 3) := by decide +kernel
theorem d_X12_sorts_72 : decode prog_14_method_77_code 72 = .ok (.iload_n 1, 1) := by decide +kernel
theorem d_X12_sorts_73 : decode prog_14_method_77_code 73 = .ok (.istore_n 1, 1) := by decide +kernel
theorem d_X12_sorts_74 : decode prog_14_method_77_code 74 = .ok (.iload_n 2, 1) := by decide +kernel
theorem d_X12_sorts_75 : decode prog_14_method_77_code 75 = .ok (.iload 5, 2) := by decide +kernel
theorem d_X12_sorts_77 : decode prog_14_method_77_code 77 = .ok (.invokestatic 135, 3) := by decide +kernel
theorem d_X12_sorts_80 : decode prog_14_method_77_code 80 = .ok (.iadd, 1) := by decide +kernel
theorem d_X12_sorts_81 : decode prog_14_method_77_code 81 = .ok (.istore_n 2, 1) := by decide +kernel
theorem d_X12_sorts_82 : decode prog_14_method_77_code 82 = .ok (.iinc 3 1, 3) := by decide +kernel
theorem d_X12_sorts_85 : decode prog_14_method_77_code 85 = .ok (.goto (-74), 3) := by decide +kernel
theorem d_X12_sorts_88 : decode prog_14_method_77_code 88 = .ok (.aload_n 0, 1) := by decide +kernel
theorem d_X12_sorts_89 : decode prog_14_method_77_code 89 = .ok (.iconst 0, 1) := by decide +kernel
theorem d_X12_sorts_90 : decode prog_14_method_77_code 90 = .ok (.putfield 95, 3) := by decide +kernel
theorem d_X12_sorts_93 : decode prog_14_method_77_code 93 = .ok (.iload_n 2, 1) := by decide +kernel
theorem d_X12_sorts_94 : decode prog_14_method_77_code 94 = .ok (.ifCond .le 9, 3) := by decide +kernel
theorem d_X12_sorts_97 : decode prog_14_method_77_code 97 = .ok (.aload_n 0, 1) := by decide +kernel
theorem d_X12_sorts_98 : decode prog_14_method_77_code 98 = .ok (.iload_n 1, 1) := by decide +kernel
theorem d_X12_sorts_99 : decode prog_14_method_77_code 99 = .ok (.i2l, 1) := by decide +kernel
theorem d_X12_sorts_100 : decode prog_14_method_77_code 100 = .ok (.invokevirtual 98, 3) := by decide +kernel
theorem d_X12_sorts_103 : decode prog_14_method_77_code 103 = .ok (.iload_n 2, 1) := by decide +kernel
theorem d_X12_sorts_104 : decode prog_14_method_77_code 104 = .ok (.ireturn, 1) := by decide +kernel
def f_X12_sorts_j73_11 (τ : St) (x2 : Int32) (x3 : Int32) (x5 : Int32) (s0 : Int32) : Option ((Int32 × Int32 × Int32) ⊕ (Int32 × Int32)) := (f_X12_flag x5).bind (fun q6 => some (.inl (s0, (x2 + q6), (x3 + (1 : Int32)))))
def f_X12_sorts_j48_11 (τ : St) (x1 : Int32) (x2 : Int32) (x3 : Int32) (x4 : Int32) (s0 : Int32) : Option ((Int32 × Int32 × Int32) ⊕ (Int32 × Int32)) := (if s0 = 0 then f_X12_sorts_j73_11 τ x2 x3 s0 x1 else (f_J6_bitCount_0f7a4 x4).bind (fun q8 => (f_J6_bitCount_0f7a4 x1).bind (fun q10 => f_X12_sorts_j73_11 τ x2 x3 s0 (if q8 ≤ q10 then x1 else x4))))
def f_X12_sorts_s11 (τ : St) (x1 : Int32) (x2 : Int32) (x3 : Int32) : Option ((Int32 × Int32 × Int32) ⊕ (Int32 × Int32)) := (if (cF τ 300 3) ≤ x3 then some (.inr (x1, x2)) else gd (inb ((8 : Int32) + x3) 34) ((f_X12_alike τ (cA τ 306 ((8 : Int32) + x3).toNatClampNeg)).bind (fun q2 => (f_J6_numberOfTrailingZeros_0f7a4 q2).bind (fun q4 => f_X12_sorts_j48_11 τ x1 x2 x3 q2 (if q4 = x3 then (1 : Int32) else (0 : Int32))))))
def f_X12_sorts (σ : St) : Option (Int32 × St) := (iter (fun z => f_X12_sorts_s11 (sF σ 300 0 (0 : Int32)) z.1 z.2.1 z.2.2) FU ((0 : Int32), (0 : Int32), (0 : Int32))).bind (fun z12 => (if z12.2 ≤ 0 then some (z12.2, (sF (sF σ 300 0 (0 : Int32)) 300 1 (0 : Int32))) else (f_X12_enters (sF (sF σ 300 0 (0 : Int32)) 300 1 (0 : Int32)) (z12.1).toInt64).bind (fun q15 => some (z12.2, q15))))
theorem c_X12_sorts {l : Launch} {G : gT} {χ σ : St} (hf : FW G) {q : Int32 × St} (h : f_X12_sorts σ = some q) : Ct l G yX12_sorts prog_14_method_77_code 6 (some .int) 1 23 [.ref (ga G 300)] χ σ (some (.int q.1)) χ q.2 := by
  refine Ct.of (by decide) (Nat.le_of_ble_eq_true rfl) ?_
  intro p e s m args below meth c Q X hr hlk hQ
  have hx := X.1
  have hb := X.2.1
  have j73_11 : ∀ (τ : St) (x2 : Int32) (x3 : Int32) (x5 : Int32) (s0 : Int32) (o : (Int32 × Int32 × Int32) ⊕ (Int32 × Int32)), f_X12_sorts_j73_11 τ x2 x3 x5 s0 = some o → Sum.elim (fun z : Int32 × Int32 × Int32 => Wat p l e (rmk 1 23) s m args below meth c Q G 6 11 [] [(1, .int z.1), (2, .int z.2.1), (3, .int z.2.2), (0, .ref (ga G 300))] χ τ) (fun z : Int32 × Int32 => Wat p l e (rmk 1 23) s m args below meth c Q G 6 88 [] [(0, .ref (ga G 300)), (1, .int z.1), (2, .int z.2)] χ τ) o → Wat p l e (rmk 1 23) s m args below meth c Q G 6 73 [.int s0] [(0, .ref (ga G 300)), (2, .int x2), (3, .int x3), (5, .int x5)] χ τ := by
    intro τ x2 x3 x5 s0 o h hk H locs ls hw hl
    unfold f_X12_sorts_j73_11 at h
    refine lv_istore_n (lv' := [(1, .int s0), (0, .ref (ga G 300)), (2, .int x2), (3, .int x3), (5, .int x5)]) hx hb d_X12_sorts_73 rfl hl (Nat.le_of_ble_eq_true rfl) rfl (fun ls hl => ?_)
    refine lv_iload_n hx hb d_X12_sorts_74 rfl (lv_at hl 2 rfl) ?_
    refine lv_iload hx hb d_X12_sorts_75 (lv_at hl 4 rfl) ?_
    obtain ⟨q6, e7, h⟩ := bd_some h
    refine r_callS (As := [.int x5]) (rest := [.int x2]) (st' := [.int q6, .int x2]) X hw hl mwX12_flag wd_1180 wd_1179 (c_X12_flag hf e7) rfl ⟨Nat.le_of_ble_eq_true rfl, Nat.le_of_ble_eq_true rfl⟩ ⟨Nat.le_refl _, Nat.le_refl _⟩ rfl rfl (Nat.le_of_ble_eq_true rfl) d_X12_sorts_77 (fun H locs hw => ?_)
    refine lv_iadd hx hb d_X12_sorts_80 ?_
    refine lv_istore_n (lv' := [(2, .int (x2 + q6)), (1, .int s0), (0, .ref (ga G 300)), (3, .int x3), (5, .int x5)]) hx hb d_X12_sorts_81 rfl hl (Nat.le_of_ble_eq_true rfl) rfl (fun ls hl => ?_)
    refine lv_iinc (v := (x3 + (1 : Int32))) (k := 3) (lv' := [(3, .int (x3 + (1 : Int32))), (2, .int (x2 + q6)), (1, .int s0), (0, .ref (ga G 300)), (5, .int x5)]) hx hb d_X12_sorts_82 hl rfl (by rfl) (Nat.le_of_ble_eq_true rfl) rfl (fun ls hl => ?_)
    refine lv_goto (tgt := 11) hx hb d_X12_sorts_85 (by decide) ?_
    obtain rfl := Option.some.inj h
    dsimp only [Sum.elim_inl] at hk
    exact hk _ _ _ hw (lv_sub hl [2, 1, 0, 3] rfl)
  have j48_11 : ∀ (τ : St) (x1 : Int32) (x2 : Int32) (x3 : Int32) (x4 : Int32) (s0 : Int32) (o : (Int32 × Int32 × Int32) ⊕ (Int32 × Int32)), f_X12_sorts_j48_11 τ x1 x2 x3 x4 s0 = some o → Sum.elim (fun z : Int32 × Int32 × Int32 => Wat p l e (rmk 1 23) s m args below meth c Q G 6 11 [] [(1, .int z.1), (2, .int z.2.1), (3, .int z.2.2), (0, .ref (ga G 300))] χ τ) (fun z : Int32 × Int32 => Wat p l e (rmk 1 23) s m args below meth c Q G 6 88 [] [(0, .ref (ga G 300)), (1, .int z.1), (2, .int z.2)] χ τ) o → Wat p l e (rmk 1 23) s m args below meth c Q G 6 48 [.int s0] [(0, .ref (ga G 300)), (1, .int x1), (2, .int x2), (3, .int x3), (4, .int x4)] χ τ := by
    intro τ x1 x2 x3 x4 s0 o h hk H locs ls hw hl
    unfold f_X12_sorts_j48_11 at h
    refine lv_istore (lv' := [(5, .int s0), (0, .ref (ga G 300)), (1, .int x1), (2, .int x2), (3, .int x3), (4, .int x4)]) hx hb d_X12_sorts_48 hl (Nat.le_of_ble_eq_true rfl) rfl (fun ls hl => ?_)
    refine lv_iload hx hb d_X12_sorts_50 (lv_at hl 0 rfl) ?_
    refine lv_if_eq (tgt := 72) hx hb d_X12_sorts_52 (by decide) (fun hc => ?_) (fun hc => ?_)
    · have h := ite_t h hc
      refine lv_iload_n hx hb d_X12_sorts_72 rfl (lv_at hl 2 rfl) ?_
      exact j73_11 τ x2 x3 s0 x1 o h hk _ _ _ hw (lv_sub hl [1, 3, 4, 0] rfl)
    · have h := ite_f h hc
      refine lv_iload hx hb d_X12_sorts_55 (lv_at hl 5 rfl) ?_
      obtain ⟨q8, e9, h⟩ := bd_some h
      refine r_callS (As := [.int x4]) (rest := []) (st' := [.int q8]) X hw hl mwJ6_bitCount_0f7a4 wd_436 wd_1272 (c_J6_bitCount_0f7a4 e9) rfl ⟨Nat.le_of_ble_eq_true rfl, Nat.le_of_ble_eq_true rfl⟩ ⟨Nat.le_refl _, Nat.le_refl _⟩ rfl rfl (Nat.le_of_ble_eq_true rfl) d_X12_sorts_57 (fun H locs hw => ?_)
      refine lv_iload_n hx hb d_X12_sorts_60 rfl (lv_at hl 2 rfl) ?_
      obtain ⟨q10, e11, h⟩ := bd_some h
      refine r_callS (As := [.int x1]) (rest := [.int q8]) (st' := [.int q10, .int q8]) X hw hl mwJ6_bitCount_0f7a4 wd_436 wd_1272 (c_J6_bitCount_0f7a4 e11) rfl ⟨Nat.le_of_ble_eq_true rfl, Nat.le_of_ble_eq_true rfl⟩ ⟨Nat.le_refl _, Nat.le_refl _⟩ rfl rfl (Nat.le_of_ble_eq_true rfl) d_X12_sorts_61 (fun H locs hw => ?_)
      refine lv_icmp_le (tgt := 72) hx hb d_X12_sorts_64 (by decide) (fun hc => ?_) (fun hc => ?_)
      · simp only [if_pos hc] at h
        refine lv_iload_n hx hb d_X12_sorts_72 rfl (lv_at hl 2 rfl) ?_
        exact j73_11 τ x2 x3 s0 x1 o h hk _ _ _ hw (lv_sub hl [1, 3, 4, 0] rfl)
      · simp only [if_neg hc] at h
        refine lv_iload hx hb d_X12_sorts_67 (lv_at hl 5 rfl) ?_
        refine lv_goto (tgt := 73) hx hb d_X12_sorts_69 (by decide) ?_
        exact j73_11 τ x2 x3 s0 x4 o h hk _ _ _ hw (lv_sub hl [1, 3, 4, 0] rfl)
  have b11 : ∀ (τ : St) (x1 : Int32) (x2 : Int32) (x3 : Int32) (o : (Int32 × Int32 × Int32) ⊕ (Int32 × Int32)), f_X12_sorts_s11 τ x1 x2 x3 = some o → Sum.elim (fun z : Int32 × Int32 × Int32 => Wat p l e (rmk 1 23) s m args below meth c Q G 6 11 [] [(1, .int z.1), (2, .int z.2.1), (3, .int z.2.2), (0, .ref (ga G 300))] χ τ) (fun z : Int32 × Int32 => Wat p l e (rmk 1 23) s m args below meth c Q G 6 88 [] [(0, .ref (ga G 300)), (1, .int z.1), (2, .int z.2)] χ τ) o → Wat p l e (rmk 1 23) s m args below meth c Q G 6 11 [] [(1, .int x1), (2, .int x2), (3, .int x3), (0, .ref (ga G 300))] χ τ := by
    intro τ x1 x2 x3 o h hk H locs ls hw hl
    unfold f_X12_sorts_s11 at h
    refine lv_iload_n hx hb d_X12_sorts_11 rfl (lv_at hl 2 rfl) ?_
    refine lv_aload_n hx hb d_X12_sorts_12 rfl (lv_at hl 3 rfl) ?_
    refine m_geti (j := 3) X hw ct8 (o_300 hf) (Nat.le_of_ble_eq_true rfl) rfl (Nat.le_of_ble_eq_true rfl) wd_959 d_X12_sorts_13 ?_
    refine lv_icmp_ge (tgt := 88) hx hb d_X12_sorts_16 (by decide) (fun hc => ?_) (fun hc => ?_)
    · have h := ite_t h hc
      obtain rfl := Option.some.inj h
      dsimp only [Sum.elim_inr] at hk
      exact hk _ _ _ hw (lv_sub hl [3, 0, 1] rfl)
    · have h := ite_f h hc
      refine lv_aload_n hx hb d_X12_sorts_19 rfl (lv_at hl 3 rfl) ?_
      refine lv_aload_n hx hb d_X12_sorts_20 rfl (lv_at hl 3 rfl) ?_
      refine r_getr (j := 6) X hw ct8 (o_300 hf) rfl (Nat.le_of_ble_eq_true rfl) (q := 306) rfl wd_962 d_X12_sorts_21 ?_
      refine lv_bipush (v := (8 : Int32)) hx hb d_X12_sorts_24 (by decide) ?_
      refine lv_iload_n hx hb d_X12_sorts_26 rfl (lv_at hl 2 rfl) ?_
      refine lv_iadd hx hb d_X12_sorts_27 ?_
      obtain ⟨hi1, h⟩ := gd_some h
      refine m_iald X hw (o_306 hf) (Nat.le_of_ble_eq_true rfl) hi1 d_X12_sorts_28 ?_
      obtain ⟨q2, e3, h⟩ := bd_some h
      refine r_callV (As := [.int (cA τ 306 ((8 : Int32) + x3).toNatClampNeg)]) (rest := []) (st' := [.int q2]) X hw hl mwX12_alike wd_1436 wp_54 wd_1434 (c_X12_alike hf e3) (r_recv X hw ct8 (o_300 hf)) rfl ⟨Nat.le_of_ble_eq_true rfl, Nat.le_of_ble_eq_true rfl⟩ ⟨Nat.le_refl _, Nat.le_refl _⟩ rfl rfl (Nat.le_of_ble_eq_true rfl) d_X12_sorts_29 (fun H locs hw => ?_)
      refine lv_istore (lv' := [(4, .int q2), (1, .int x1), (2, .int x2), (3, .int x3), (0, .ref (ga G 300))]) hx hb d_X12_sorts_32 hl (Nat.le_of_ble_eq_true rfl) rfl (fun ls hl => ?_)
      refine lv_iload hx hb d_X12_sorts_34 (lv_at hl 0 rfl) ?_
      obtain ⟨q4, e5, h⟩ := bd_some h
      refine r_callS (As := [.int q2]) (rest := []) (st' := [.int q4]) X hw hl mwJ6_numberOfTrailingZeros_0f7a4 wd_1439 wd_1438 (c_J6_numberOfTrailingZeros_0f7a4 e5) rfl ⟨Nat.le_of_ble_eq_true rfl, Nat.le_of_ble_eq_true rfl⟩ ⟨Nat.le_refl _, Nat.le_refl _⟩ rfl rfl (Nat.le_of_ble_eq_true rfl) d_X12_sorts_36 (fun H locs hw => ?_)
      refine lv_iload_n hx hb d_X12_sorts_39 rfl (lv_at hl 3 rfl) ?_
      refine lv_icmp_ne (tgt := 47) hx hb d_X12_sorts_40 (by decide) (fun hc => ?_) (fun hc => ?_)
      · simp only [if_neg hc] at h
        refine lv_iconst (v := (0 : Int32)) hx hb d_X12_sorts_47 (by decide) ?_
        exact j48_11 τ x1 x2 x3 q2 (0 : Int32) o h hk _ _ _ hw (lv_sub hl [4, 1, 2, 3, 0] rfl)
      · simp only [if_pos hc] at h
        refine lv_iconst (v := (1 : Int32)) hx hb d_X12_sorts_43 (by decide) ?_
        refine lv_goto (tgt := 48) hx hb d_X12_sorts_44 (by decide) ?_
        exact j48_11 τ x1 x2 x3 q2 (1 : Int32) o h hk _ _ _ hw (lv_sub hl [4, 1, 2, 3, 0] rfl)
  intro H locs ls hw hl
  have hl : lv_has ls 6 [(0, .ref (ga G 300))] := hl
  unfold f_X12_sorts at h
  refine lv_aload_n hx hb d_X12_sorts_0 rfl (lv_at hl 0 rfl) ?_
  refine lv_iconst (v := (0 : Int32)) hx hb d_X12_sorts_1 (by decide) ?_
  refine m_puti (j := 0) X hw ct8 (o_300 hf) (Nat.le_of_ble_eq_true rfl) rfl (Nat.le_of_ble_eq_true rfl) rfl rfl rfl wd_956 d_X12_sorts_2 (fun H locs hw => ?_)
  refine lv_iconst (v := (0 : Int32)) hx hb d_X12_sorts_5 (by decide) ?_
  refine lv_istore_n (lv' := [(1, .int (0 : Int32)), (0, .ref (ga G 300))]) hx hb d_X12_sorts_6 rfl hl (Nat.le_of_ble_eq_true rfl) rfl (fun ls hl => ?_)
  refine lv_iconst (v := (0 : Int32)) hx hb d_X12_sorts_7 (by decide) ?_
  refine lv_istore_n (lv' := [(2, .int (0 : Int32)), (1, .int (0 : Int32)), (0, .ref (ga G 300))]) hx hb d_X12_sorts_8 rfl hl (Nat.le_of_ble_eq_true rfl) rfl (fun ls hl => ?_)
  refine lv_iconst (v := (0 : Int32)) hx hb d_X12_sorts_9 (by decide) ?_
  refine lv_istore_n (lv' := [(3, .int (0 : Int32)), (2, .int (0 : Int32)), (1, .int (0 : Int32)), (0, .ref (ga G 300))]) hx hb d_X12_sorts_10 rfl hl (Nat.le_of_ble_eq_true rfl) rfl (fun ls hl => ?_)
  obtain ⟨z12, e13, h⟩ := bd_some h
  refine iter_w (Wh := fun z : Int32 × Int32 × Int32 => Wat p l e (rmk 1 23) s m args below meth c Q G 6 11 [] [(1, .int z.1), (2, .int z.2.1), (3, .int z.2.2), (0, .ref (ga G 300))] χ (sF σ 300 0 (0 : Int32))) (K := fun z : Int32 × Int32 => Wat p l e (rmk 1 23) s m args below meth c Q G 6 88 [] [(0, .ref (ga G 300)), (1, .int z.1), (2, .int z.2)] χ (sF σ 300 0 (0 : Int32))) (fun z o h1 h2 => b11 (sF σ 300 0 (0 : Int32)) z.1 z.2.1 z.2.2 o h1 h2) FU _ _ e13 ?_ _ _ _ hw (lv_sub hl [2, 1, 0, 3] rfl)
  intro H locs ls hw hl
  refine lv_aload_n hx hb d_X12_sorts_88 rfl (lv_at hl 0 rfl) ?_
  refine lv_iconst (v := (0 : Int32)) hx hb d_X12_sorts_89 (by decide) ?_
  refine m_puti (j := 1) X hw ct8 (o_300 hf) (Nat.le_of_ble_eq_true rfl) rfl (Nat.le_of_ble_eq_true rfl) rfl rfl rfl wd_957 d_X12_sorts_90 (fun H locs hw => ?_)
  refine lv_iload_n hx hb d_X12_sorts_93 rfl (lv_at hl 2 rfl) ?_
  refine lv_if_le (tgt := 103) hx hb d_X12_sorts_94 (by decide) (fun hc => ?_) (fun hc => ?_)
  · have h := ite_t h hc
    refine lv_iload_n hx hb d_X12_sorts_103 rfl (lv_at hl 2 rfl) ?_
    obtain rfl := Option.some.inj h
    subst hQ
    exact r_iret X hr hlk hw d_X12_sorts_104
  · have h := ite_f h hc
    refine lv_aload_n hx hb d_X12_sorts_97 rfl (lv_at hl 0 rfl) ?_
    refine lv_iload_n hx hb d_X12_sorts_98 rfl (lv_at hl 1 rfl) ?_
    refine lv_i2l hx hb d_X12_sorts_99 rfl ?_
    obtain ⟨q15, e16, h⟩ := bd_some h
    refine r_callV (As := [.long (z12.1).toInt64]) (rest := []) (st' := []) X hw hl mwX12_enters wd_1282 wp_38 wd_1280 (c_X12_enters hf e16) (r_recv X hw ct8 (o_300 hf)) rfl ⟨Nat.le_of_ble_eq_true rfl, Nat.le_of_ble_eq_true rfl⟩ ⟨Nat.le_refl _, Nat.le_refl _⟩ rfl rfl (Nat.le_of_ble_eq_true rfl) d_X12_sorts_100 (fun H locs hw => ?_)
    refine lv_iload_n hx hb d_X12_sorts_103 rfl (lv_at hl 2 rfl) ?_
    obtain rfl := Option.some.inj h
    subst hQ
    exact r_iret X hr hlk hw d_X12_sorts_104
abbrev yX12_isFewer : MethodName := ⟨"OysterBedsModel", "isFewer", "(II)Z"⟩
theorem mwX12_isFewer : MW yX12_isFewer prog_14_method_78_code 2 (some .boolean) 2 := ⟨wd_1452, wd_10, by decide +kernel⟩
theorem d_X12_isFewer_0 : decode prog_14_method_78_code 0 = .ok (.iload_n 1, 1) := by decide +kernel
theorem d_X12_isFewer_1 : decode prog_14_method_78_code 1 = .ok (.ifCond .lt 14, 3) := by decide +kernel
theorem d_X12_isFewer_4 : decode prog_14_method_78_code 4 = .ok (.iload_n 0, 1) := by decide +kernel
theorem d_X12_isFewer_5 : decode prog_14_method_78_code 5 = .ok (.invokestatic 235, 3) := by decide +kernel
theorem d_X12_isFewer_8 : decode prog_14_method_78_code 8 = .ok (.iload_n 1, 1) := by decide +kernel
theorem d_X12_isFewer_9 : decode prog_14_method_78_code 9 = .ok (.invokestatic 235, 3) := by decide +kernel
theorem d_X12_isFewer_12 : decode prog_14_method_78_code 12 = .ok (.if_icmp .ge 7, 3) := by decide +kernel
theorem d_X12_isFewer_15 : decode prog_14_method_78_code 15 = .ok (.iconst 1, 1) := by decide +kernel
theorem d_X12_isFewer_16 : decode prog_14_method_78_code 16 = .ok (.goto 4, 3) := by decide +kernel
theorem d_X12_isFewer_19 : decode prog_14_method_78_code 19 = .ok (.iconst 0, 1) := by decide +kernel
theorem d_X12_isFewer_20 : decode prog_14_method_78_code 20 = .ok (.ireturn, 1) := by decide +kernel
def f_X12_isFewer (a0 : Int32) (a1 : Int32) : Option (Int32) := (if a1 < 0 then some (1 : Int32) else (f_J6_bitCount_0f7a4 a0).bind (fun q1 => (f_J6_bitCount_0f7a4 a1).bind (fun q3 => some (if q3 ≤ q1 then (0 : Int32) else (1 : Int32)))))
theorem c_X12_isFewer {l : Launch} {G : gT} {χ σ : St} {a0 : Int32} {a1 : Int32} (hf : FW G) {q : Int32} (h : f_X12_isFewer a0 a1 = some q) : Ct l G yX12_isFewer prog_14_method_78_code 2 (some .boolean) 1 20 [.int a0, .int a1] χ σ (some (.int q)) χ σ := by
  refine Ct.of (by decide) (Nat.le_of_ble_eq_true rfl) ?_
  intro p e s m args below meth c Q X hr hlk hQ
  have hx := X.1
  have hb := X.2.1
  intro H locs ls hw hl
  have hl : lv_has ls 2 [(0, .int a0), (1, .int a1)] := hl
  unfold f_X12_isFewer at h
  refine lv_iload_n hx hb d_X12_isFewer_0 rfl (lv_at hl 1 rfl) ?_
  refine lv_if_lt (tgt := 15) hx hb d_X12_isFewer_1 (by decide) (fun hc => ?_) (fun hc => ?_)
  · have h := ite_t h hc
    refine lv_iconst (v := (1 : Int32)) hx hb d_X12_isFewer_15 (by decide) ?_
    refine lv_goto (tgt := 20) hx hb d_X12_isFewer_16 (by decide) ?_
    obtain rfl := Option.some.inj h
    subst hQ
    exact r_zret X hr nbz1 hlk hw d_X12_isFewer_20
  · have h := ite_f h hc
    refine lv_iload_n hx hb d_X12_isFewer_4 rfl (lv_at hl 0 rfl) ?_
    obtain ⟨q1, e2, h⟩ := bd_some h
    refine r_callS (As := [.int a0]) (rest := []) (st' := [.int q1]) X hw hl mwJ6_bitCount_0f7a4 wd_436 wd_1272 (c_J6_bitCount_0f7a4 e2) rfl ⟨Nat.le_of_ble_eq_true rfl, Nat.le_of_ble_eq_true rfl⟩ ⟨Nat.le_refl _, Nat.le_refl _⟩ rfl rfl (Nat.le_of_ble_eq_true rfl) d_X12_isFewer_5 (fun H locs hw => ?_)
    refine lv_iload_n hx hb d_X12_isFewer_8 rfl (lv_at hl 1 rfl) ?_
    obtain ⟨q3, e4, h⟩ := bd_some h
    refine r_callS (As := [.int a1]) (rest := [.int q1]) (st' := [.int q3, .int q1]) X hw hl mwJ6_bitCount_0f7a4 wd_436 wd_1272 (c_J6_bitCount_0f7a4 e4) rfl ⟨Nat.le_of_ble_eq_true rfl, Nat.le_of_ble_eq_true rfl⟩ ⟨Nat.le_refl _, Nat.le_refl _⟩ rfl rfl (Nat.le_of_ble_eq_true rfl) d_X12_isFewer_9 (fun H locs hw => ?_)
    refine lv_icmp_ge (tgt := 19) hx hb d_X12_isFewer_12 (by decide) (fun hc => ?_) (fun hc => ?_)
    · simp only [if_pos hc] at h
      refine lv_iconst (v := (0 : Int32)) hx hb d_X12_isFewer_19 (by decide) ?_
      obtain rfl := Option.some.inj h
      subst hQ
      exact r_zret X hr nbz0 hlk hw d_X12_isFewer_20
    · simp only [if_neg hc] at h
      refine lv_iconst (v := (1 : Int32)) hx hb d_X12_isFewer_15 (by decide) ?_
      refine lv_goto (tgt := 20) hx hb d_X12_isFewer_16 (by decide) ?_
      obtain rfl := Option.some.inj h
      subst hQ
      exact r_zret X hr nbz1 hlk hw d_X12_isFewer_20
abbrev yX12_entersFewest : MethodName := ⟨"OysterBedsModel", "entersFewest", "(I)I"⟩
theorem mwX12_entersFewest : MW yX12_entersFewest prog_14_method_79_code 2 (some .int) 1 := ⟨wd_1456, wd_10, by decide +kernel⟩
theorem d_X12_entersFewest_0 : decode prog_14_method_79_code 0 = .ok (.iload_n 1, 1) := by decide +kernel
theorem d_X12_entersFewest_1 : decode prog_14_method_79_code 1 = .ok (.ifCond .ge 6, 3) := by decide +kernel
theorem d_X12_entersFewest_4 : decode prog_14_method_79_code 4 = .ok (.bipush (-2), 2) := by decide +kernel
theorem d_X12_entersFewest_6 : decode prog_14_method_79_code 6 = .ok (.ireturn, 1) := by decide +kernel
theorem d_X12_entersFewest_7 : decode prog_14_method_79_code 7 = .ok (.aload_n 0, 1) := by decide +kernel
theorem d_X12_entersFewest_8 : decode prog_14_method_79_code 8 = .ok (.iconst 0, 1) := by decide +kernel
theorem d_X12_entersFewest_9 : decode prog_14_method_79_code 9 = .ok (.putfield 95, 3) := by decide +kernel
theorem d_X12_entersFewest_12 : decode prog_14_method_79_code 12 = .ok (.aload_n 0, 1) := by decide +kernel
theorem d_X12_entersFewest_13 : decode prog_14_method_79_code 13 = .ok (.iload_n 1, 1) := by decide +kernel
theorem d_X12_entersFewest_14 : decode prog_14_method_79_code 14 = .ok (.i2l, 1) := by decide +kernel
theorem d_X12_entersFewest_15 : decode prog_14_method_79_code 15 = .ok (.invokevirtual 98, 3) := by decide +kernel
theorem d_X12_entersFewest_18 : decode prog_14_method_79_code 18 = .ok (.iload_n 1, 1) := by decide +kernel
theorem d_X12_entersFewest_19 : decode prog_14_method_79_code 19 = .ok (.invokestatic 235, 3) := by decide +kernel
theorem d_X12_entersFewest_22 : decode prog_14_method_79_code 22 = .ok (.ireturn, 1) := by decide +kernel
def f_X12_entersFewest (σ : St) (a1 : Int32) : Option (Int32 × St) := (if 0 ≤ a1 then (f_X12_enters (sF σ 300 1 (0 : Int32)) a1.toInt64).bind (fun q1 => (f_J6_bitCount_0f7a4 a1).bind (fun q3 => some (q3, q1))) else some ((-2 : Int32), σ))
theorem c_X12_entersFewest {l : Launch} {G : gT} {χ σ : St} {a1 : Int32} (hf : FW G) {q : Int32 × St} (h : f_X12_entersFewest σ a1 = some q) : Ct l G yX12_entersFewest prog_14_method_79_code 2 (some .int) 1 22 [.ref (ga G 300), .int a1] χ σ (some (.int q.1)) χ q.2 := by
  refine Ct.of (by decide) (Nat.le_of_ble_eq_true rfl) ?_
  intro p e s m args below meth c Q X hr hlk hQ
  have hx := X.1
  have hb := X.2.1
  intro H locs ls hw hl
  have hl : lv_has ls 2 [(0, .ref (ga G 300)), (1, .int a1)] := hl
  unfold f_X12_entersFewest at h
  refine lv_iload_n hx hb d_X12_entersFewest_0 rfl (lv_at hl 1 rfl) ?_
  refine lv_if_ge (tgt := 7) hx hb d_X12_entersFewest_1 (by decide) (fun hc => ?_) (fun hc => ?_)
  · have h := ite_t h hc
    refine lv_aload_n hx hb d_X12_entersFewest_7 rfl (lv_at hl 0 rfl) ?_
    refine lv_iconst (v := (0 : Int32)) hx hb d_X12_entersFewest_8 (by decide) ?_
    refine m_puti (j := 1) X hw ct8 (o_300 hf) (Nat.le_of_ble_eq_true rfl) rfl (Nat.le_of_ble_eq_true rfl) rfl rfl rfl wd_957 d_X12_entersFewest_9 (fun H locs hw => ?_)
    refine lv_aload_n hx hb d_X12_entersFewest_12 rfl (lv_at hl 0 rfl) ?_
    refine lv_iload_n hx hb d_X12_entersFewest_13 rfl (lv_at hl 1 rfl) ?_
    refine lv_i2l hx hb d_X12_entersFewest_14 rfl ?_
    obtain ⟨q1, e2, h⟩ := bd_some h
    refine r_callV (As := [.long a1.toInt64]) (rest := []) (st' := []) X hw hl mwX12_enters wd_1282 wp_38 wd_1280 (c_X12_enters hf e2) (r_recv X hw ct8 (o_300 hf)) rfl ⟨Nat.le_of_ble_eq_true rfl, Nat.le_of_ble_eq_true rfl⟩ ⟨Nat.le_refl _, Nat.le_refl _⟩ rfl rfl (Nat.le_of_ble_eq_true rfl) d_X12_entersFewest_15 (fun H locs hw => ?_)
    refine lv_iload_n hx hb d_X12_entersFewest_18 rfl (lv_at hl 1 rfl) ?_
    obtain ⟨q3, e4, h⟩ := bd_some h
    refine r_callS (As := [.int a1]) (rest := []) (st' := [.int q3]) X hw hl mwJ6_bitCount_0f7a4 wd_436 wd_1272 (c_J6_bitCount_0f7a4 e4) rfl ⟨Nat.le_of_ble_eq_true rfl, Nat.le_of_ble_eq_true rfl⟩ ⟨Nat.le_refl _, Nat.le_refl _⟩ rfl rfl (Nat.le_of_ble_eq_true rfl) d_X12_entersFewest_19 (fun H locs hw => ?_)
    obtain rfl := Option.some.inj h
    subst hQ
    exact r_iret X hr hlk hw d_X12_entersFewest_22
  · have h := ite_f h hc
    refine lv_bipush (v := (-2 : Int32)) hx hb d_X12_entersFewest_4 (by decide) ?_
    obtain rfl := Option.some.inj h
    subst hQ
    exact r_iret X hr hlk hw d_X12_entersFewest_6
abbrev yX12_tellsApart : MethodName := ⟨"OysterBedsModel", "tellsApart", "(I)Z"⟩
theorem mwX12_tellsApart : MW yX12_tellsApart prog_14_method_80_code 6 (some .boolean) 1 := ⟨wd_1449, wd_10, by decide +kernel⟩
theorem d_X12_tellsApart_0 : decode prog_14_method_80_code 0 = .ok (.iconst 1, 1) := by decide +kernel
theorem d_X12_tellsApart_1 : decode prog_14_method_80_code 1 = .ok (.istore_n 2, 1) := by decide +kernel
theorem d_X12_tellsApart_2 : decode prog_14_method_80_code 2 = .ok (.iconst 0, 1) := by decide +kernel
theorem d_X12_tellsApart_3 : decode prog_14_method_80_code 3 = .ok (.istore_n 3, 1) := by decide +kernel
theorem d_X12_tellsApart_4 : decode prog_14_method_80_code 4 = .ok (.iload_n 3, 1) := by decide +kernel
theorem d_X12_tellsApart_5 : decode prog_14_method_80_code 5 = .ok (.aload_n 0, 1) := by decide +kernel
theorem d_X12_tellsApart_6 : decode prog_14_method_80_code 6 = .ok (.getfield 102, 3) := by decide +kernel
theorem d_X12_tellsApart_9 : decode prog_14_method_80_code 9 = .ok (.if_icmp .ge 68, 3) := by decide +kernel
theorem d_X12_tellsApart_12 : decode prog_14_method_80_code 12 = .ok (.iconst 0, 1) := by decide +kernel
theorem d_X12_tellsApart_13 : decode prog_14_method_80_code 13 = .ok (.istore 4, 2) := by decide +kernel
theorem d_X12_tellsApart_15 : decode prog_14_method_80_code 15 = .ok (.iload 4, 2) := by decide +kernel
theorem d_X12_tellsApart_17 : decode prog_14_method_80_code 17 = .ok (.iload_n 3, 1) := by decide +kernel
theorem d_X12_tellsApart_18 : decode prog_14_method_80_code 18 = .ok (.if_icmp .ge 53, 3) := by decide +kernel
theorem d_X12_tellsApart_21 : decode prog_14_method_80_code 21 = .ok (.aload_n 0, 1) := by decide +kernel
theorem d_X12_tellsApart_22 : decode prog_14_method_80_code 22 = .ok (.getfield 17, 3) := by decide +kernel
theorem d_X12_tellsApart_25 : decode prog_14_method_80_code 25 = .ok (.bipush 8, 2) := by decide +kernel
theorem d_X12_tellsApart_27 : decode prog_14_method_80_code 27 = .ok (.iload_n 3, 1) := by decide +kernel
theorem d_X12_tellsApart_28 : decode prog_14_method_80_code 28 = .ok (.iadd, 1) := by decide +kernel
theorem d_X12_tellsApart_29 : decode prog_14_method_80_code 29 = .ok (.iaload, 1) := by decide +kernel
theorem d_X12_tellsApart_30 : decode prog_14_method_80_code 30 = .ok (.aload_n 0, 1) := by decide +kernel
theorem d_X12_tellsApart_31 : decode prog_14_method_80_code 31 = .ok (.getfield 17, 3) := by decide +kernel
theorem d_X12_tellsApart_34 : decode prog_14_method_80_code 34 = .ok (.bipush 8, 2) := by decide +kernel
theorem d_X12_tellsApart_36 : decode prog_14_method_80_code 36 = .ok (.iload 4, 2) := by decide +kernel
theorem d_X12_tellsApart_38 : decode prog_14_method_80_code 38 = .ok (.iadd, 1) := by decide +kernel
theorem d_X12_tellsApart_39 : decode prog_14_method_80_code 39 = .ok (.iaload, 1) := by decide +kernel
theorem d_X12_tellsApart_40 : decode prog_14_method_80_code 40 = .ok (.ixor, 1) := by decide +kernel
theorem d_X12_tellsApart_41 : decode prog_14_method_80_code 41 = .ok (.istore 5, 2) := by decide +kernel
theorem d_X12_tellsApart_43 : decode prog_14_method_80_code 43 = .ok (.iload_n 2, 1) := by decide +kernel
theorem d_X12_tellsApart_44 : decode prog_14_method_80_code 44 = .ok (.ifCond .eq 19, 3) := by decide +kernel
theorem d_X12_tellsApart_47 : decode prog_14_method_80_code 47 = .ok (.iload 5, 2) := by decide +kernel
theorem d_X12_tellsApart_49 : decode prog_14_method_80_code 49 = .ok (.ifCond .eq 10, 3) := by decide +kernel
theorem d_X12_tellsApart_52 : decode prog_14_method_80_code 52 = .ok (.iload 5, 2) := by decide +kernel
theorem d_X12_tellsApart_54 : decode prog_14_method_80_code 54 = .ok (.iload_n 1, 1) := by decide +kernel
theorem d_X12_tellsApart_55 : decode prog_14_method_80_code 55 = .ok (.iand, 1) := by decide +kernel
theorem d_X12_tellsApart_56 : decode prog_14_method_80_code 56 = .ok (.ifCond .eq 7, 3) := by decide +kernel
theorem d_X12_tellsApart_59 : decode prog_14_method_80_code 59 = .ok (.iconst 1, 1) := by decide +kernel
theorem d_X12_tellsApart_60 : decode prog_14_method_80_code 60 = .ok (.goto 4, 3) := by decide +kernel
theorem d_X12_tellsApart_63 : decode prog_14_method_80_code 63 = .ok (.iconst 0, 1) := by decide +kernel
theorem d_X12_tellsApart_64 : decode prog_14_method_80_code 64 = .ok (.istore_n 2, 1) := by decide +kernel
theorem d_X12_tellsApart_65 : decode prog_14_method_80_code 65 = .ok (.iinc 4 1, 3) := by decide +kernel
theorem d_X12_tellsApart_68 : decode prog_14_method_80_code 68 = .ok (.goto (-53), 3) := by decide +kernel
theorem d_X12_tellsApart_71 : decode prog_14_method_80_code 71 = .ok (.iinc 3 1, 3) := by decide +kernel
theorem d_X12_tellsApart_74 : decode prog_14_method_80_code 74 = .ok (.goto (-70), 3) := by decide +kernel
theorem d_X12_tellsApart_77 : decode prog_14_method_80_code 77 = .ok (.iload_n 2, 1) := by decide +kernel
theorem d_X12_tellsApart_78 : decode prog_14_method_80_code 78 = .ok (.ireturn, 1) := by decide +kernel
def f_X12_tellsApart_j64_15 (σ : St) (x1 : Int32) (x3 : Int32) (x4 : Int32) (s0 : Int32) : Option ((Int32 × Int32) ⊕ (Int32)) := some (.inl (s0, (x4 + (1 : Int32))))
def f_X12_tellsApart_j59_15 (σ : St) (x1 : Int32) (x3 : Int32) (x4 : Int32) : Option ((Int32 × Int32) ⊕ (Int32)) := f_X12_tellsApart_j64_15 σ x1 x3 x4 (1 : Int32)
def f_X12_tellsApart_s15 (σ : St) (y1 : Int32) (y3 : Int32) (x2 : Int32) (x4 : Int32) : Option ((Int32 × Int32) ⊕ (Int32)) := (if y3 ≤ x4 then some (.inr x2) else gd (inb ((8 : Int32) + y3) 34) (gd (inb ((8 : Int32) + x4) 34) ((if x2 = 0 then f_X12_tellsApart_j64_15 σ y1 y3 x4 (0 : Int32) else (if ((cA σ 306 ((8 : Int32) + y3).toNatClampNeg) ^^^ (cA σ 306 ((8 : Int32) + x4).toNatClampNeg)) = 0 then f_X12_tellsApart_j59_15 σ y1 y3 x4 else (if (((cA σ 306 ((8 : Int32) + y3).toNatClampNeg) ^^^ (cA σ 306 ((8 : Int32) + x4).toNatClampNeg)) &&& y1) = 0 then f_X12_tellsApart_j64_15 σ y1 y3 x4 (0 : Int32) else f_X12_tellsApart_j59_15 σ y1 y3 x4))))))
def f_X12_tellsApart_s4 (σ : St) (y1 : Int32) (x2 : Int32) (x3 : Int32) : Option ((Int32 × Int32) ⊕ (Int32)) := (if (cF σ 300 3) ≤ x3 then some (.inr x2) else (iter (fun z => f_X12_tellsApart_s15 σ y1 x3 z.1 z.2) FU (x2, (0 : Int32))).bind (fun z3 => some (.inl (z3, (x3 + (1 : Int32))))))
def f_X12_tellsApart (σ : St) (a1 : Int32) : Option (Int32) := (iter (fun z => f_X12_tellsApart_s4 σ a1 z.1 z.2) FU ((1 : Int32), (0 : Int32))).bind (fun z6 => gd (nb z6) (some z6))
theorem c_X12_tellsApart {l : Launch} {G : gT} {χ σ : St} {a1 : Int32} (hf : FW G) {q : Int32} (h : f_X12_tellsApart σ a1 = some q) : Ct l G yX12_tellsApart prog_14_method_80_code 6 (some .boolean) 0 0 [.ref (ga G 300), .int a1] χ σ (some (.int q)) χ σ := by
  refine Ct.of (by decide) (Nat.le_of_ble_eq_true rfl) ?_
  intro p e s m args below meth c Q X hr hlk hQ
  have hx := X.1
  have hb := X.2.1
  have j64_15 : ∀ (x1 : Int32) (x3 : Int32) (x4 : Int32) (s0 : Int32) (o : (Int32 × Int32) ⊕ (Int32)), f_X12_tellsApart_j64_15 σ x1 x3 x4 s0 = some o → Sum.elim (fun z : Int32 × Int32 => Wat p l e (rmk 0 0) s m args below meth c Q G 6 15 [] [(2, .int z.1), (4, .int z.2), (0, .ref (ga G 300)), (1, .int x1), (3, .int x3)] χ σ) (fun z : Int32 => Wat p l e (rmk 0 0) s m args below meth c Q G 6 71 [] [(0, .ref (ga G 300)), (1, .int x1), (2, .int z), (3, .int x3)] χ σ) o → Wat p l e (rmk 0 0) s m args below meth c Q G 6 64 [.int s0] [(0, .ref (ga G 300)), (1, .int x1), (3, .int x3), (4, .int x4)] χ σ := by
    intro x1 x3 x4 s0 o h hk H locs ls hw hl
    unfold f_X12_tellsApart_j64_15 at h
    refine lv_istore_n (lv' := [(2, .int s0), (0, .ref (ga G 300)), (1, .int x1), (3, .int x3), (4, .int x4)]) hx hb d_X12_tellsApart_64 rfl hl (Nat.le_of_ble_eq_true rfl) rfl (fun ls hl => ?_)
    refine lv_iinc (v := (x4 + (1 : Int32))) (k := 4) (lv' := [(4, .int (x4 + (1 : Int32))), (2, .int s0), (0, .ref (ga G 300)), (1, .int x1), (3, .int x3)]) hx hb d_X12_tellsApart_65 hl rfl (by rfl) (Nat.le_of_ble_eq_true rfl) rfl (fun ls hl => ?_)
    refine lv_goto (tgt := 15) hx hb d_X12_tellsApart_68 (by decide) ?_
    obtain rfl := Option.some.inj h
    dsimp only [Sum.elim_inl] at hk
    exact hk _ _ _ hw (lv_sub hl [1, 0, 2, 3, 4] rfl)
  have j59_15 : ∀ (x1 : Int32) (x3 : Int32) (x4 : Int32) (o : (Int32 × Int32) ⊕ (Int32)), f_X12_tellsApart_j59_15 σ x1 x3 x4 = some o → Sum.elim (fun z : Int32 × Int32 => Wat p l e (rmk 0 0) s m args below meth c Q G 6 15 [] [(2, .int z.1), (4, .int z.2), (0, .ref (ga G 300)), (1, .int x1), (3, .int x3)] χ σ) (fun z : Int32 => Wat p l e (rmk 0 0) s m args below meth c Q G 6 71 [] [(0, .ref (ga G 300)), (1, .int x1), (2, .int z), (3, .int x3)] χ σ) o → Wat p l e (rmk 0 0) s m args below meth c Q G 6 59 [] [(0, .ref (ga G 300)), (1, .int x1), (3, .int x3), (4, .int x4)] χ σ := by
    intro x1 x3 x4 o h hk H locs ls hw hl
    unfold f_X12_tellsApart_j59_15 at h
    refine lv_iconst (v := (1 : Int32)) hx hb d_X12_tellsApart_59 (by decide) ?_
    refine lv_goto (tgt := 64) hx hb d_X12_tellsApart_60 (by decide) ?_
    exact j64_15 x1 x3 x4 (1 : Int32) o h hk _ _ _ hw (lv_sub hl [0, 1, 2, 3] rfl)
  have b15 : ∀ (y1 : Int32) (y3 : Int32) (x2 : Int32) (x4 : Int32) (o : (Int32 × Int32) ⊕ (Int32)), f_X12_tellsApart_s15 σ y1 y3 x2 x4 = some o → Sum.elim (fun z : Int32 × Int32 => Wat p l e (rmk 0 0) s m args below meth c Q G 6 15 [] [(2, .int z.1), (4, .int z.2), (0, .ref (ga G 300)), (1, .int y1), (3, .int y3)] χ σ) (fun z : Int32 => Wat p l e (rmk 0 0) s m args below meth c Q G 6 71 [] [(0, .ref (ga G 300)), (1, .int y1), (2, .int z), (3, .int y3)] χ σ) o → Wat p l e (rmk 0 0) s m args below meth c Q G 6 15 [] [(2, .int x2), (4, .int x4), (0, .ref (ga G 300)), (1, .int y1), (3, .int y3)] χ σ := by
    intro y1 y3 x2 x4 o h hk H locs ls hw hl
    unfold f_X12_tellsApart_s15 at h
    refine lv_iload hx hb d_X12_tellsApart_15 (lv_at hl 1 rfl) ?_
    refine lv_iload_n hx hb d_X12_tellsApart_17 rfl (lv_at hl 4 rfl) ?_
    refine lv_icmp_ge (tgt := 71) hx hb d_X12_tellsApart_18 (by decide) (fun hc => ?_) (fun hc => ?_)
    · have h := ite_t h hc
      obtain rfl := Option.some.inj h
      dsimp only [Sum.elim_inr] at hk
      exact hk _ _ _ hw (lv_sub hl [2, 3, 0, 4] rfl)
    · have h := ite_f h hc
      refine lv_aload_n hx hb d_X12_tellsApart_21 rfl (lv_at hl 2 rfl) ?_
      refine r_getr (j := 6) X hw ct8 (o_300 hf) rfl (Nat.le_of_ble_eq_true rfl) (q := 306) rfl wd_962 d_X12_tellsApart_22 ?_
      refine lv_bipush (v := (8 : Int32)) hx hb d_X12_tellsApart_25 (by decide) ?_
      refine lv_iload_n hx hb d_X12_tellsApart_27 rfl (lv_at hl 4 rfl) ?_
      refine lv_iadd hx hb d_X12_tellsApart_28 ?_
      obtain ⟨hi1, h⟩ := gd_some h
      refine m_iald X hw (o_306 hf) (Nat.le_of_ble_eq_true rfl) hi1 d_X12_tellsApart_29 ?_
      refine lv_aload_n hx hb d_X12_tellsApart_30 rfl (lv_at hl 2 rfl) ?_
      refine r_getr (j := 6) X hw ct8 (o_300 hf) rfl (Nat.le_of_ble_eq_true rfl) (q := 306) rfl wd_962 d_X12_tellsApart_31 ?_
      refine lv_bipush (v := (8 : Int32)) hx hb d_X12_tellsApart_34 (by decide) ?_
      refine lv_iload hx hb d_X12_tellsApart_36 (lv_at hl 1 rfl) ?_
      refine lv_iadd hx hb d_X12_tellsApart_38 ?_
      obtain ⟨hi2, h⟩ := gd_some h
      refine m_iald X hw (o_306 hf) (Nat.le_of_ble_eq_true rfl) hi2 d_X12_tellsApart_39 ?_
      refine lv_ixor hx hb d_X12_tellsApart_40 ?_
      refine lv_istore (lv' := [(5, .int ((cA σ 306 ((8 : Int32) + y3).toNatClampNeg) ^^^ (cA σ 306 ((8 : Int32) + x4).toNatClampNeg))), (2, .int x2), (4, .int x4), (0, .ref (ga G 300)), (1, .int y1), (3, .int y3)]) hx hb d_X12_tellsApart_41 hl (Nat.le_of_ble_eq_true rfl) rfl (fun ls hl => ?_)
      refine lv_iload_n hx hb d_X12_tellsApart_43 rfl (lv_at hl 1 rfl) ?_
      refine lv_if_eq (tgt := 63) hx hb d_X12_tellsApart_44 (by decide) (fun hc => ?_) (fun hc => ?_)
      · have h := ite_t h hc
        refine lv_iconst (v := (0 : Int32)) hx hb d_X12_tellsApart_63 (by decide) ?_
        exact j64_15 y1 y3 x4 (0 : Int32) o h hk _ _ _ hw (lv_sub hl [3, 4, 5, 2] rfl)
      · have h := ite_f h hc
        refine lv_iload hx hb d_X12_tellsApart_47 (lv_at hl 0 rfl) ?_
        refine lv_if_eq (tgt := 59) hx hb d_X12_tellsApart_49 (by decide) (fun hc => ?_) (fun hc => ?_)
        · have h := ite_t h hc
          exact j59_15 y1 y3 x4 o h hk _ _ _ hw (lv_sub hl [3, 4, 5, 2] rfl)
        · have h := ite_f h hc
          refine lv_iload hx hb d_X12_tellsApart_52 (lv_at hl 0 rfl) ?_
          refine lv_iload_n hx hb d_X12_tellsApart_54 rfl (lv_at hl 4 rfl) ?_
          refine lv_iand hx hb d_X12_tellsApart_55 ?_
          refine lv_if_eq (tgt := 63) hx hb d_X12_tellsApart_56 (by decide) (fun hc => ?_) (fun hc => ?_)
          · have h := ite_t h hc
            refine lv_iconst (v := (0 : Int32)) hx hb d_X12_tellsApart_63 (by decide) ?_
            exact j64_15 y1 y3 x4 (0 : Int32) o h hk _ _ _ hw (lv_sub hl [3, 4, 5, 2] rfl)
          · have h := ite_f h hc
            exact j59_15 y1 y3 x4 o h hk _ _ _ hw (lv_sub hl [3, 4, 5, 2] rfl)
  have b4 : ∀ (y1 : Int32) (x2 : Int32) (x3 : Int32) (o : (Int32 × Int32) ⊕ (Int32)), f_X12_tellsApart_s4 σ y1 x2 x3 = some o → Sum.elim (fun z : Int32 × Int32 => Wat p l e (rmk 0 0) s m args below meth c Q G 6 4 [] [(2, .int z.1), (3, .int z.2), (0, .ref (ga G 300)), (1, .int y1)] χ σ) (fun z : Int32 => Wat p l e (rmk 0 0) s m args below meth c Q G 6 77 [] [(2, .int z)] χ σ) o → Wat p l e (rmk 0 0) s m args below meth c Q G 6 4 [] [(2, .int x2), (3, .int x3), (0, .ref (ga G 300)), (1, .int y1)] χ σ := by
    intro y1 x2 x3 o h hk H locs ls hw hl
    unfold f_X12_tellsApart_s4 at h
    refine lv_iload_n hx hb d_X12_tellsApart_4 rfl (lv_at hl 1 rfl) ?_
    refine lv_aload_n hx hb d_X12_tellsApart_5 rfl (lv_at hl 2 rfl) ?_
    refine m_geti (j := 3) X hw ct8 (o_300 hf) (Nat.le_of_ble_eq_true rfl) rfl (Nat.le_of_ble_eq_true rfl) wd_959 d_X12_tellsApart_6 ?_
    refine lv_icmp_ge (tgt := 77) hx hb d_X12_tellsApart_9 (by decide) (fun hc => ?_) (fun hc => ?_)
    · have h := ite_t h hc
      obtain rfl := Option.some.inj h
      dsimp only [Sum.elim_inr] at hk
      exact hk _ _ _ hw (lv_sub hl [0] rfl)
    · have h := ite_f h hc
      refine lv_iconst (v := (0 : Int32)) hx hb d_X12_tellsApart_12 (by decide) ?_
      refine lv_istore (lv' := [(4, .int (0 : Int32)), (2, .int x2), (3, .int x3), (0, .ref (ga G 300)), (1, .int y1)]) hx hb d_X12_tellsApart_13 hl (Nat.le_of_ble_eq_true rfl) rfl (fun ls hl => ?_)
      obtain ⟨z3, e4, h⟩ := bd_some h
      refine iter_w (Wh := fun z : Int32 × Int32 => Wat p l e (rmk 0 0) s m args below meth c Q G 6 15 [] [(2, .int z.1), (4, .int z.2), (0, .ref (ga G 300)), (1, .int y1), (3, .int x3)] χ σ) (K := fun z : Int32 => Wat p l e (rmk 0 0) s m args below meth c Q G 6 71 [] [(0, .ref (ga G 300)), (1, .int y1), (2, .int z), (3, .int x3)] χ σ) (fun z o h1 h2 => b15 y1 x3 z.1 z.2 o h1 h2) FU _ _ e4 ?_ _ _ _ hw (lv_sub hl [1, 0, 3, 4, 2] rfl)
      intro H locs ls hw hl
      refine lv_iinc (v := (x3 + (1 : Int32))) (k := 3) (lv' := [(3, .int (x3 + (1 : Int32))), (0, .ref (ga G 300)), (1, .int y1), (2, .int z3)]) hx hb d_X12_tellsApart_71 hl rfl (by rfl) (Nat.le_of_ble_eq_true rfl) rfl (fun ls hl => ?_)
      refine lv_goto (tgt := 4) hx hb d_X12_tellsApart_74 (by decide) ?_
      obtain rfl := Option.some.inj h
      dsimp only [Sum.elim_inl] at hk
      exact hk _ _ _ hw (lv_sub hl [3, 0, 1, 2] rfl)
  intro H locs ls hw hl
  have hl : lv_has ls 6 [(0, .ref (ga G 300)), (1, .int a1)] := hl
  unfold f_X12_tellsApart at h
  refine lv_iconst (v := (1 : Int32)) hx hb d_X12_tellsApart_0 (by decide) ?_
  refine lv_istore_n (lv' := [(2, .int (1 : Int32)), (0, .ref (ga G 300)), (1, .int a1)]) hx hb d_X12_tellsApart_1 rfl hl (Nat.le_of_ble_eq_true rfl) rfl (fun ls hl => ?_)
  refine lv_iconst (v := (0 : Int32)) hx hb d_X12_tellsApart_2 (by decide) ?_
  refine lv_istore_n (lv' := [(3, .int (0 : Int32)), (2, .int (1 : Int32)), (0, .ref (ga G 300)), (1, .int a1)]) hx hb d_X12_tellsApart_3 rfl hl (Nat.le_of_ble_eq_true rfl) rfl (fun ls hl => ?_)
  obtain ⟨z6, e7, h⟩ := bd_some h
  refine iter_w (Wh := fun z : Int32 × Int32 => Wat p l e (rmk 0 0) s m args below meth c Q G 6 4 [] [(2, .int z.1), (3, .int z.2), (0, .ref (ga G 300)), (1, .int a1)] χ σ) (K := fun z : Int32 => Wat p l e (rmk 0 0) s m args below meth c Q G 6 77 [] [(2, .int z)] χ σ) (fun z o h1 h2 => b4 a1 z.1 z.2 o h1 h2) FU _ _ e7 ?_ _ _ _ hw (lv_sub hl [1, 0, 2, 3] rfl)
  intro H locs ls hw hl
  refine lv_iload_n hx hb d_X12_tellsApart_77 rfl (lv_at hl 0 rfl) ?_
  obtain ⟨hv9, h⟩ := gd_some h
  obtain rfl := Option.some.inj h
  subst hQ
  exact r_zret X hr (nb_of hv9) hlk hw d_X12_tellsApart_78
abbrev yX12_tells : MethodName := ⟨"OysterBedsModel", "tells", "()I"⟩
theorem mwX12_tells : MW yX12_tells prog_14_method_81_code 3 (some .int) 0 := ⟨wd_1445, wd_10, by decide +kernel⟩
theorem d_X12_tells_0 : decode prog_14_method_81_code 0 = .ok (.aload_n 0, 1) := by decide +kernel
theorem d_X12_tells_1 : decode prog_14_method_81_code 1 = .ok (.iconst 0, 1) := by decide +kernel
theorem d_X12_tells_2 : decode prog_14_method_81_code 2 = .ok (.putfield 87, 3) := by decide +kernel
theorem d_X12_tells_5 : decode prog_14_method_81_code 5 = .ok (.iconst (-1), 1) := by decide +kernel
theorem d_X12_tells_6 : decode prog_14_method_81_code 6 = .ok (.istore_n 1, 1) := by decide +kernel
theorem d_X12_tells_7 : decode prog_14_method_81_code 7 = .ok (.iconst 0, 1) := by decide +kernel
theorem d_X12_tells_8 : decode prog_14_method_81_code 8 = .ok (.istore_n 2, 1) := by decide +kernel
theorem d_X12_tells_9 : decode prog_14_method_81_code 9 = .ok (.iload_n 2, 1) := by decide +kernel
theorem d_X12_tells_10 : decode prog_14_method_81_code 10 = .ok (.bipush 16, 2) := by decide +kernel
theorem d_X12_tells_12 : decode prog_14_method_81_code 12 = .ok (.if_icmp .ge 31, 3) := by decide +kernel
theorem d_X12_tells_15 : decode prog_14_method_81_code 15 = .ok (.aload_n 0, 1) := by decide +kernel
theorem d_X12_tells_16 : decode prog_14_method_81_code 16 = .ok (.iload_n 2, 1) := by decide +kernel
theorem d_X12_tells_17 : decode prog_14_method_81_code 17 = .ok (.invokevirtual 341, 3) := by decide +kernel
theorem d_X12_tells_20 : decode prog_14_method_81_code 20 = .ok (.ifCond .eq 15, 3) := by decide +kernel
theorem d_X12_tells_23 : decode prog_14_method_81_code 23 = .ok (.iload_n 2, 1) := by decide +kernel
theorem d_X12_tells_24 : decode prog_14_method_81_code 24 = .ok (.iload_n 1, 1) := by decide +kernel
theorem d_X12_tells_25 : decode prog_14_method_81_code 25 = .ok (.invokestatic 344, 3) := by decide +kernel
theorem d_X12_tells_28 : decode prog_14_method_81_code 28 = .ok (.ifCond .eq 7, 3) := by decide +kernel
theorem d_X12_tells_31 : decode prog_14_method_81_code 31 = .ok (.iload_n 2, 1) := by decide +kernel
theorem d_X12_tells_32 : decode prog_14_method_81_code 32 = .ok (.goto 4, 3) := by decide +kernel
theorem d_X12_tells_35 : decode prog_14_method_81_code 35 = .ok (.iload_n 1, 1) := by decide +kernel
theorem d_X12_tells_36 : decode prog_14_method_81_code 36 = .ok (.istore_n 1, 1) := by decide +kernel
theorem d_X12_tells_37 : decode prog_14_method_81_code 37 = .ok (.iinc 2 1, 3) := by decide +kernel
theorem d_X12_tells_40 : decode prog_14_method_81_code 40 = .ok (.goto (-31), 3) := by decide +kernel
theorem d_X12_tells_43 : decode prog_14_method_81_code 43 = .ok (.aload_n 0, 1) := by decide +kernel
theorem d_X12_tells_44 : decode prog_14_method_81_code 44 = .ok (.iload_n 1, 1) := by decide +kernel
theorem d_X12_tells_45 : decode prog_14_method_81_code 45 = .ok (.invokevirtual 347, 3) := by decide +kernel
theorem d_X12_tells_48 : decode prog_14_method_81_code 48 = .ok (.ireturn, 1) := by decide +kernel
def f_X12_tells_j36_9 (τ : St) (x2 : Int32) (s0 : Int32) : Option ((Int32 × Int32) ⊕ (Int32)) := some (.inl (s0, (x2 + (1 : Int32))))
def f_X12_tells_s9 (τ : St) (x1 : Int32) (x2 : Int32) : Option ((Int32 × Int32) ⊕ (Int32)) := (if (16 : Int32) ≤ x2 then some (.inr x1) else (f_X12_tellsApart τ x2).bind (fun q1 => (if q1 = 0 then f_X12_tells_j36_9 τ x2 x1 else (f_X12_isFewer x2 x1).bind (fun q3 => f_X12_tells_j36_9 τ x2 (if q3 = 0 then x1 else x2)))))
def f_X12_tells (σ : St) : Option (Int32 × St) := (iter (fun z => f_X12_tells_s9 (sF σ 300 0 (0 : Int32)) z.1 z.2) FU ((-1 : Int32), (0 : Int32))).bind (fun z5 => (f_X12_entersFewest (sF σ 300 0 (0 : Int32)) z5).bind (fun q8 => some (q8.1, q8.2)))
theorem c_X12_tells {l : Launch} {G : gT} {χ σ : St} (hf : FW G) {q : Int32 × St} (h : f_X12_tells σ = some q) : Ct l G yX12_tells prog_14_method_81_code 3 (some .int) 2 43 [.ref (ga G 300)] χ σ (some (.int q.1)) χ q.2 := by
  refine Ct.of (by decide) (Nat.le_of_ble_eq_true rfl) ?_
  intro p e s m args below meth c Q X hr hlk hQ
  have hx := X.1
  have hb := X.2.1
  have j36_9 : ∀ (τ : St) (x2 : Int32) (s0 : Int32) (o : (Int32 × Int32) ⊕ (Int32)), f_X12_tells_j36_9 τ x2 s0 = some o → Sum.elim (fun z : Int32 × Int32 => Wat p l e (rmk 2 43) s m args below meth c Q G 3 9 [] [(1, .int z.1), (2, .int z.2), (0, .ref (ga G 300))] χ τ) (fun z : Int32 => Wat p l e (rmk 2 43) s m args below meth c Q G 3 43 [] [(0, .ref (ga G 300)), (1, .int z)] χ τ) o → Wat p l e (rmk 2 43) s m args below meth c Q G 3 36 [.int s0] [(0, .ref (ga G 300)), (2, .int x2)] χ τ := by
    intro τ x2 s0 o h hk H locs ls hw hl
    unfold f_X12_tells_j36_9 at h
    refine lv_istore_n (lv' := [(1, .int s0), (0, .ref (ga G 300)), (2, .int x2)]) hx hb d_X12_tells_36 rfl hl (Nat.le_of_ble_eq_true rfl) rfl (fun ls hl => ?_)
    refine lv_iinc (v := (x2 + (1 : Int32))) (k := 2) (lv' := [(2, .int (x2 + (1 : Int32))), (1, .int s0), (0, .ref (ga G 300))]) hx hb d_X12_tells_37 hl rfl (by rfl) (Nat.le_of_ble_eq_true rfl) rfl (fun ls hl => ?_)
    refine lv_goto (tgt := 9) hx hb d_X12_tells_40 (by decide) ?_
    obtain rfl := Option.some.inj h
    dsimp only [Sum.elim_inl] at hk
    exact hk _ _ _ hw (lv_sub hl [1, 0, 2] rfl)
  have b9 : ∀ (τ : St) (x1 : Int32) (x2 : Int32) (o : (Int32 × Int32) ⊕ (Int32)), f_X12_tells_s9 τ x1 x2 = some o → Sum.elim (fun z : Int32 × Int32 => Wat p l e (rmk 2 43) s m args below meth c Q G 3 9 [] [(1, .int z.1), (2, .int z.2), (0, .ref (ga G 300))] χ τ) (fun z : Int32 => Wat p l e (rmk 2 43) s m args below meth c Q G 3 43 [] [(0, .ref (ga G 300)), (1, .int z)] χ τ) o → Wat p l e (rmk 2 43) s m args below meth c Q G 3 9 [] [(1, .int x1), (2, .int x2), (0, .ref (ga G 300))] χ τ := by
    intro τ x1 x2 o h hk H locs ls hw hl
    unfold f_X12_tells_s9 at h
    refine lv_iload_n hx hb d_X12_tells_9 rfl (lv_at hl 1 rfl) ?_
    refine lv_bipush (v := (16 : Int32)) hx hb d_X12_tells_10 (by decide) ?_
    refine lv_icmp_ge (tgt := 43) hx hb d_X12_tells_12 (by decide) (fun hc => ?_) (fun hc => ?_)
    · have h := ite_t h hc
      obtain rfl := Option.some.inj h
      dsimp only [Sum.elim_inr] at hk
      exact hk _ _ _ hw (lv_sub hl [2, 0] rfl)
    · have h := ite_f h hc
      refine lv_aload_n hx hb d_X12_tells_15 rfl (lv_at hl 2 rfl) ?_
      refine lv_iload_n hx hb d_X12_tells_16 rfl (lv_at hl 1 rfl) ?_
      obtain ⟨q1, e2, h⟩ := bd_some h
      refine r_callV (As := [.int x2]) (rest := []) (st' := [.int q1]) X hw hl mwX12_tellsApart wd_1448 wp_55 wd_1446 (c_X12_tellsApart hf e2) (r_recv X hw ct8 (o_300 hf)) rfl ⟨Nat.le_of_ble_eq_true rfl, Nat.le_of_ble_eq_true rfl⟩ ⟨Nat.le_refl _, Nat.le_refl _⟩ rfl rfl (Nat.le_of_ble_eq_true rfl) d_X12_tells_17 (fun H locs hw => ?_)
      refine lv_if_eq (tgt := 35) hx hb d_X12_tells_20 (by decide) (fun hc => ?_) (fun hc => ?_)
      · have h := ite_t h hc
        refine lv_iload_n hx hb d_X12_tells_35 rfl (lv_at hl 0 rfl) ?_
        exact j36_9 τ x2 x1 o h hk _ _ _ hw (lv_sub hl [2, 1] rfl)
      · have h := ite_f h hc
        refine lv_iload_n hx hb d_X12_tells_23 rfl (lv_at hl 1 rfl) ?_
        refine lv_iload_n hx hb d_X12_tells_24 rfl (lv_at hl 0 rfl) ?_
        obtain ⟨q3, e4, h⟩ := bd_some h
        refine r_callS (As := [.int x2, .int x1]) (rest := []) (st' := [.int q3]) X hw hl mwX12_isFewer wd_1451 wd_1450 (c_X12_isFewer hf e4) rfl ⟨Nat.le_of_ble_eq_true rfl, Nat.le_of_ble_eq_true rfl⟩ ⟨Nat.le_refl _, Nat.le_refl _⟩ rfl rfl (Nat.le_of_ble_eq_true rfl) d_X12_tells_25 (fun H locs hw => ?_)
        refine lv_if_eq (tgt := 35) hx hb d_X12_tells_28 (by decide) (fun hc => ?_) (fun hc => ?_)
        · simp only [if_pos hc] at h
          refine lv_iload_n hx hb d_X12_tells_35 rfl (lv_at hl 0 rfl) ?_
          exact j36_9 τ x2 x1 o h hk _ _ _ hw (lv_sub hl [2, 1] rfl)
        · simp only [if_neg hc] at h
          refine lv_iload_n hx hb d_X12_tells_31 rfl (lv_at hl 1 rfl) ?_
          refine lv_goto (tgt := 36) hx hb d_X12_tells_32 (by decide) ?_
          exact j36_9 τ x2 x2 o h hk _ _ _ hw (lv_sub hl [2, 1] rfl)
  intro H locs ls hw hl
  have hl : lv_has ls 3 [(0, .ref (ga G 300))] := hl
  unfold f_X12_tells at h
  refine lv_aload_n hx hb d_X12_tells_0 rfl (lv_at hl 0 rfl) ?_
  refine lv_iconst (v := (0 : Int32)) hx hb d_X12_tells_1 (by decide) ?_
  refine m_puti (j := 0) X hw ct8 (o_300 hf) (Nat.le_of_ble_eq_true rfl) rfl (Nat.le_of_ble_eq_true rfl) rfl rfl rfl wd_956 d_X12_tells_2 (fun H locs hw => ?_)
  refine lv_iconst (v := (-1 : Int32)) hx hb d_X12_tells_5 (by decide) ?_
  refine lv_istore_n (lv' := [(1, .int (-1 : Int32)), (0, .ref (ga G 300))]) hx hb d_X12_tells_6 rfl hl (Nat.le_of_ble_eq_true rfl) rfl (fun ls hl => ?_)
  refine lv_iconst (v := (0 : Int32)) hx hb d_X12_tells_7 (by decide) ?_
  refine lv_istore_n (lv' := [(2, .int (0 : Int32)), (1, .int (-1 : Int32)), (0, .ref (ga G 300))]) hx hb d_X12_tells_8 rfl hl (Nat.le_of_ble_eq_true rfl) rfl (fun ls hl => ?_)
  obtain ⟨z5, e6, h⟩ := bd_some h
  refine iter_w (Wh := fun z : Int32 × Int32 => Wat p l e (rmk 2 43) s m args below meth c Q G 3 9 [] [(1, .int z.1), (2, .int z.2), (0, .ref (ga G 300))] χ (sF σ 300 0 (0 : Int32))) (K := fun z : Int32 => Wat p l e (rmk 2 43) s m args below meth c Q G 3 43 [] [(0, .ref (ga G 300)), (1, .int z)] χ (sF σ 300 0 (0 : Int32))) (fun z o h1 h2 => b9 (sF σ 300 0 (0 : Int32)) z.1 z.2 o h1 h2) FU _ _ e6 ?_ _ _ _ hw (lv_sub hl [1, 0, 2] rfl)
  intro H locs ls hw hl
  refine lv_aload_n hx hb d_X12_tells_43 rfl (lv_at hl 0 rfl) ?_
  refine lv_iload_n hx hb d_X12_tells_44 rfl (lv_at hl 1 rfl) ?_
  obtain ⟨q8, e9, h⟩ := bd_some h
  refine r_callV (As := [.int z5]) (rest := []) (st' := [.int q8.1]) X hw hl mwX12_entersFewest wd_1455 wp_56 wd_1453 (c_X12_entersFewest hf e9) (r_recv X hw ct8 (o_300 hf)) rfl ⟨Nat.le_of_ble_eq_true rfl, Nat.le_of_ble_eq_true rfl⟩ ⟨Nat.le_refl _, Nat.le_refl _⟩ rfl rfl (Nat.le_of_ble_eq_true rfl) d_X12_tells_45 (fun H locs hw => ?_)
  obtain rfl := Option.some.inj h
  subst hQ
  exact r_iret X hr hlk hw d_X12_tells_48
abbrev yX12_answersAs : MethodName := ⟨"OysterBedsModel", "answersAs", "(I)Z"⟩
theorem mwX12_answersAs : MW yX12_answersAs prog_14_method_82_code 4 (some .boolean) 1 := ⟨wd_1464, wd_10, by decide +kernel⟩
theorem d_X12_answersAs_0 : decode prog_14_method_82_code 0 = .ok (.iconst 1, 1) := by decide +kernel
theorem d_X12_answersAs_1 : decode prog_14_method_82_code 1 = .ok (.istore_n 2, 1) := by decide +kernel
theorem d_X12_answersAs_2 : decode prog_14_method_82_code 2 = .ok (.iconst 0, 1) := by decide +kernel
theorem d_X12_answersAs_3 : decode prog_14_method_82_code 3 = .ok (.istore_n 3, 1) := by decide +kernel
theorem d_X12_answersAs_4 : decode prog_14_method_82_code 4 = .ok (.iload_n 3, 1) := by decide +kernel
theorem d_X12_answersAs_5 : decode prog_14_method_82_code 5 = .ok (.iconst 4, 1) := by decide +kernel
theorem d_X12_answersAs_6 : decode prog_14_method_82_code 6 = .ok (.if_icmp .ge 53, 3) := by decide +kernel
theorem d_X12_answersAs_9 : decode prog_14_method_82_code 9 = .ok (.iload_n 2, 1) := by decide +kernel
theorem d_X12_answersAs_10 : decode prog_14_method_82_code 10 = .ok (.ifCond .eq 41, 3) := by decide +kernel
theorem d_X12_answersAs_13 : decode prog_14_method_82_code 13 = .ok (.aload_n 0, 1) := by decide +kernel
theorem d_X12_answersAs_14 : decode prog_14_method_82_code 14 = .ok (.iload_n 1, 1) := by decide +kernel
theorem d_X12_answersAs_15 : decode prog_14_method_82_code 15 = .ok (.iload_n 3, 1) := by decide +kernel
theorem d_X12_answersAs_16 : decode prog_14_method_82_code 16 = .ok (.invokevirtual 326, 3) := by decide +kernel
theorem d_X12_answersAs_19 : decode prog_14_method_82_code 19 = .ok (.ifCond .le 7, 3) := by decide +kernel
theorem d_X12_answersAs_22 : decode prog_14_method_82_code 22 = .ok (.iconst 1, 1) := by decide +kernel
theorem d_X12_answersAs_23 : decode prog_14_method_82_code 23 = .ok (.goto 4, 3) := by decide +kernel
theorem d_X12_answersAs_26 : decode prog_14_method_82_code 26 = .ok (.iconst 0, 1) := by decide +kernel
theorem d_X12_answersAs_27 : decode prog_14_method_82_code 27 = .ok (.aload_n 0, 1) := by decide +kernel
theorem d_X12_answersAs_28 : decode prog_14_method_82_code 28 = .ok (.aload_n 0, 1) := by decide +kernel
theorem d_X12_answersAs_29 : decode prog_14_method_82_code 29 = .ok (.invokevirtual 323, 3) := by decide +kernel
theorem d_X12_answersAs_32 : decode prog_14_method_82_code 32 = .ok (.iload_n 3, 1) := by decide +kernel
theorem d_X12_answersAs_33 : decode prog_14_method_82_code 33 = .ok (.invokevirtual 326, 3) := by decide +kernel
theorem d_X12_answersAs_36 : decode prog_14_method_82_code 36 = .ok (.ifCond .le 7, 3) := by decide +kernel
theorem d_X12_answersAs_39 : decode prog_14_method_82_code 39 = .ok (.iconst 1, 1) := by decide +kernel
theorem d_X12_answersAs_40 : decode prog_14_method_82_code 40 = .ok (.goto 4, 3) := by decide +kernel
theorem d_X12_answersAs_43 : decode prog_14_method_82_code 43 = .ok (.iconst 0, 1) := by decide +kernel
theorem d_X12_answersAs_44 : decode prog_14_method_82_code 44 = .ok (.if_icmp .ne 7, 3) := by decide +kernel
theorem d_X12_answersAs_47 : decode prog_14_method_82_code 47 = .ok (.iconst 1, 1) := by decide +kernel
theorem d_X12_answersAs_48 : decode prog_14_method_82_code 48 = .ok (.goto 4, 3) := by decide +kernel
theorem d_X12_answersAs_51 : decode prog_14_method_82_code 51 = .ok (.iconst 0, 1) := by decide +kernel
theorem d_X12_answersAs_52 : decode prog_14_method_82_code 52 = .ok (.istore_n 2, 1) := by decide +kernel
theorem d_X12_answersAs_53 : decode prog_14_method_82_code 53 = .ok (.iinc 3 1, 3) := by decide +kernel
theorem d_X12_answersAs_56 : decode prog_14_method_82_code 56 = .ok (.goto (-52), 3) := by decide +kernel
theorem d_X12_answersAs_59 : decode prog_14_method_82_code 59 = .ok (.iload_n 2, 1) := by decide +kernel
theorem d_X12_answersAs_60 : decode prog_14_method_82_code 60 = .ok (.ireturn, 1) := by decide +kernel
def f_X12_answersAs_j52_4 (σ : St) (x1 : Int32) (x3 : Int32) (s0 : Int32) : Option ((Int32 × Int32) ⊕ (Int32)) := some (.inl (s0, (x3 + (1 : Int32))))
def f_X12_answersAs_j44_4 (σ : St) (x1 : Int32) (x3 : Int32) (s0 : Int32) (s1 : Int32) : Option ((Int32 × Int32) ⊕ (Int32)) := f_X12_answersAs_j52_4 σ x1 x3 (if s0 = s1 then (1 : Int32) else (0 : Int32))
def f_X12_answersAs_j27_4 (σ : St) (x1 : Int32) (x3 : Int32) (s0 : Int32) : Option ((Int32 × Int32) ⊕ (Int32)) := (f_X12_all σ).bind (fun q3 => (f_X12_moreOf σ q3 x3).bind (fun q5 => f_X12_answersAs_j44_4 σ x1 x3 s0 (if q5 ≤ 0 then (0 : Int32) else (1 : Int32))))
def f_X12_answersAs_s4 (σ : St) (y1 : Int32) (x2 : Int32) (x3 : Int32) : Option ((Int32 × Int32) ⊕ (Int32)) := (if (4 : Int32) ≤ x3 then some (.inr x2) else (if x2 = 0 then f_X12_answersAs_j52_4 σ y1 x3 (0 : Int32) else (f_X12_moreOf σ y1 x3).bind (fun q1 => f_X12_answersAs_j27_4 σ y1 x3 (if q1 ≤ 0 then (0 : Int32) else (1 : Int32)))))
def f_X12_answersAs (σ : St) (a1 : Int32) : Option (Int32) := (iter (fun z => f_X12_answersAs_s4 σ a1 z.1 z.2) FU ((1 : Int32), (0 : Int32))).bind (fun z7 => gd (nb z7) (some z7))
theorem c_X12_answersAs {l : Launch} {G : gT} {χ σ : St} {a1 : Int32} (hf : FW G) {q : Int32} (h : f_X12_answersAs σ a1 = some q) : Ct l G yX12_answersAs prog_14_method_82_code 4 (some .boolean) 3 67 [.ref (ga G 300), .int a1] χ σ (some (.int q)) χ σ := by
  refine Ct.of (by decide) (Nat.le_of_ble_eq_true rfl) ?_
  intro p e s m args below meth c Q X hr hlk hQ
  have hx := X.1
  have hb := X.2.1
  have j52_4 : ∀ (x1 : Int32) (x3 : Int32) (s0 : Int32) (o : (Int32 × Int32) ⊕ (Int32)), f_X12_answersAs_j52_4 σ x1 x3 s0 = some o → Sum.elim (fun z : Int32 × Int32 => Wat p l e (rmk 3 67) s m args below meth c Q G 4 4 [] [(2, .int z.1), (3, .int z.2), (0, .ref (ga G 300)), (1, .int x1)] χ σ) (fun z : Int32 => Wat p l e (rmk 3 67) s m args below meth c Q G 4 59 [] [(2, .int z)] χ σ) o → Wat p l e (rmk 3 67) s m args below meth c Q G 4 52 [.int s0] [(0, .ref (ga G 300)), (1, .int x1), (3, .int x3)] χ σ := by
    intro x1 x3 s0 o h hk H locs ls hw hl
    unfold f_X12_answersAs_j52_4 at h
    refine lv_istore_n (lv' := [(2, .int s0), (0, .ref (ga G 300)), (1, .int x1), (3, .int x3)]) hx hb d_X12_answersAs_52 rfl hl (Nat.le_of_ble_eq_true rfl) rfl (fun ls hl => ?_)
    refine lv_iinc (v := (x3 + (1 : Int32))) (k := 3) (lv' := [(3, .int (x3 + (1 : Int32))), (2, .int s0), (0, .ref (ga G 300)), (1, .int x1)]) hx hb d_X12_answersAs_53 hl rfl (by rfl) (Nat.le_of_ble_eq_true rfl) rfl (fun ls hl => ?_)
    refine lv_goto (tgt := 4) hx hb d_X12_answersAs_56 (by decide) ?_
    obtain rfl := Option.some.inj h
    dsimp only [Sum.elim_inl] at hk
    exact hk _ _ _ hw (lv_sub hl [1, 0, 2, 3] rfl)
  have j44_4 : ∀ (x1 : Int32) (x3 : Int32) (s0 : Int32) (s1 : Int32) (o : (Int32 × Int32) ⊕ (Int32)), f_X12_answersAs_j44_4 σ x1 x3 s0 s1 = some o → Sum.elim (fun z : Int32 × Int32 => Wat p l e (rmk 3 67) s m args below meth c Q G 4 4 [] [(2, .int z.1), (3, .int z.2), (0, .ref (ga G 300)), (1, .int x1)] χ σ) (fun z : Int32 => Wat p l e (rmk 3 67) s m args below meth c Q G 4 59 [] [(2, .int z)] χ σ) o → Wat p l e (rmk 3 67) s m args below meth c Q G 4 44 [.int s1, .int s0] [(0, .ref (ga G 300)), (1, .int x1), (3, .int x3)] χ σ := by
    intro x1 x3 s0 s1 o h hk H locs ls hw hl
    unfold f_X12_answersAs_j44_4 at h
    refine lv_icmp_ne (tgt := 51) hx hb d_X12_answersAs_44 (by decide) (fun hc => ?_) (fun hc => ?_)
    · simp only [if_neg hc] at h
      refine lv_iconst (v := (0 : Int32)) hx hb d_X12_answersAs_51 (by decide) ?_
      exact j52_4 x1 x3 (0 : Int32) o h hk _ _ _ hw (lv_sub hl [0, 1, 2] rfl)
    · simp only [if_pos hc] at h
      refine lv_iconst (v := (1 : Int32)) hx hb d_X12_answersAs_47 (by decide) ?_
      refine lv_goto (tgt := 52) hx hb d_X12_answersAs_48 (by decide) ?_
      exact j52_4 x1 x3 (1 : Int32) o h hk _ _ _ hw (lv_sub hl [0, 1, 2] rfl)
  have j27_4 : ∀ (x1 : Int32) (x3 : Int32) (s0 : Int32) (o : (Int32 × Int32) ⊕ (Int32)), f_X12_answersAs_j27_4 σ x1 x3 s0 = some o → Sum.elim (fun z : Int32 × Int32 => Wat p l e (rmk 3 67) s m args below meth c Q G 4 4 [] [(2, .int z.1), (3, .int z.2), (0, .ref (ga G 300)), (1, .int x1)] χ σ) (fun z : Int32 => Wat p l e (rmk 3 67) s m args below meth c Q G 4 59 [] [(2, .int z)] χ σ) o → Wat p l e (rmk 3 67) s m args below meth c Q G 4 27 [.int s0] [(0, .ref (ga G 300)), (1, .int x1), (3, .int x3)] χ σ := by
    intro x1 x3 s0 o h hk H locs ls hw hl
    unfold f_X12_answersAs_j27_4 at h
    refine lv_aload_n hx hb d_X12_answersAs_27 rfl (lv_at hl 0 rfl) ?_
    refine lv_aload_n hx hb d_X12_answersAs_28 rfl (lv_at hl 0 rfl) ?_
    obtain ⟨q3, e4, h⟩ := bd_some h
    refine r_callV (As := []) (rest := [.ref (ga G 300), .int s0]) (st' := [.int q3, .ref (ga G 300), .int s0]) X hw hl mwX12_all wd_1409 wp_51 wd_1407 (c_X12_all hf e4) (r_recv X hw ct8 (o_300 hf)) rfl ⟨Nat.le_of_ble_eq_true rfl, Nat.le_of_ble_eq_true rfl⟩ ⟨Nat.le_refl _, Nat.le_refl _⟩ rfl rfl (Nat.le_of_ble_eq_true rfl) d_X12_answersAs_29 (fun H locs hw => ?_)
    refine lv_iload_n hx hb d_X12_answersAs_32 rfl (lv_at hl 2 rfl) ?_
    obtain ⟨q5, e6, h⟩ := bd_some h
    refine r_callV (As := [.int q3, .int x3]) (rest := [.int s0]) (st' := [.int q5, .int s0]) X hw hl mwX12_moreOf wd_1413 wp_52 wd_1411 (c_X12_moreOf hf e6) (r_recv X hw ct8 (o_300 hf)) rfl ⟨Nat.le_of_ble_eq_true rfl, Nat.le_of_ble_eq_true rfl⟩ ⟨Nat.le_refl _, Nat.le_refl _⟩ rfl rfl (Nat.le_of_ble_eq_true rfl) d_X12_answersAs_33 (fun H locs hw => ?_)
    refine lv_if_le (tgt := 43) hx hb d_X12_answersAs_36 (by decide) (fun hc => ?_) (fun hc => ?_)
    · simp only [if_pos hc] at h
      refine lv_iconst (v := (0 : Int32)) hx hb d_X12_answersAs_43 (by decide) ?_
      exact j44_4 x1 x3 s0 (0 : Int32) o h hk _ _ _ hw (lv_sub hl [0, 1, 2] rfl)
    · simp only [if_neg hc] at h
      refine lv_iconst (v := (1 : Int32)) hx hb d_X12_answersAs_39 (by decide) ?_
      refine lv_goto (tgt := 44) hx hb d_X12_answersAs_40 (by decide) ?_
      exact j44_4 x1 x3 s0 (1 : Int32) o h hk _ _ _ hw (lv_sub hl [0, 1, 2] rfl)
  have b4 : ∀ (y1 : Int32) (x2 : Int32) (x3 : Int32) (o : (Int32 × Int32) ⊕ (Int32)), f_X12_answersAs_s4 σ y1 x2 x3 = some o → Sum.elim (fun z : Int32 × Int32 => Wat p l e (rmk 3 67) s m args below meth c Q G 4 4 [] [(2, .int z.1), (3, .int z.2), (0, .ref (ga G 300)), (1, .int y1)] χ σ) (fun z : Int32 => Wat p l e (rmk 3 67) s m args below meth c Q G 4 59 [] [(2, .int z)] χ σ) o → Wat p l e (rmk 3 67) s m args below meth c Q G 4 4 [] [(2, .int x2), (3, .int x3), (0, .ref (ga G 300)), (1, .int y1)] χ σ := by
    intro y1 x2 x3 o h hk H locs ls hw hl
    unfold f_X12_answersAs_s4 at h
    refine lv_iload_n hx hb d_X12_answersAs_4 rfl (lv_at hl 1 rfl) ?_
    refine lv_iconst (v := (4 : Int32)) hx hb d_X12_answersAs_5 (by decide) ?_
    refine lv_icmp_ge (tgt := 59) hx hb d_X12_answersAs_6 (by decide) (fun hc => ?_) (fun hc => ?_)
    · have h := ite_t h hc
      obtain rfl := Option.some.inj h
      dsimp only [Sum.elim_inr] at hk
      exact hk _ _ _ hw (lv_sub hl [0] rfl)
    · have h := ite_f h hc
      refine lv_iload_n hx hb d_X12_answersAs_9 rfl (lv_at hl 0 rfl) ?_
      refine lv_if_eq (tgt := 51) hx hb d_X12_answersAs_10 (by decide) (fun hc => ?_) (fun hc => ?_)
      · have h := ite_t h hc
        refine lv_iconst (v := (0 : Int32)) hx hb d_X12_answersAs_51 (by decide) ?_
        exact j52_4 y1 x3 (0 : Int32) o h hk _ _ _ hw (lv_sub hl [2, 3, 1] rfl)
      · have h := ite_f h hc
        refine lv_aload_n hx hb d_X12_answersAs_13 rfl (lv_at hl 2 rfl) ?_
        refine lv_iload_n hx hb d_X12_answersAs_14 rfl (lv_at hl 3 rfl) ?_
        refine lv_iload_n hx hb d_X12_answersAs_15 rfl (lv_at hl 1 rfl) ?_
        obtain ⟨q1, e2, h⟩ := bd_some h
        refine r_callV (As := [.int y1, .int x3]) (rest := []) (st' := [.int q1]) X hw hl mwX12_moreOf wd_1413 wp_52 wd_1411 (c_X12_moreOf hf e2) (r_recv X hw ct8 (o_300 hf)) rfl ⟨Nat.le_of_ble_eq_true rfl, Nat.le_of_ble_eq_true rfl⟩ ⟨Nat.le_refl _, Nat.le_refl _⟩ rfl rfl (Nat.le_of_ble_eq_true rfl) d_X12_answersAs_16 (fun H locs hw => ?_)
        refine lv_if_le (tgt := 26) hx hb d_X12_answersAs_19 (by decide) (fun hc => ?_) (fun hc => ?_)
        · simp only [if_pos hc] at h
          refine lv_iconst (v := (0 : Int32)) hx hb d_X12_answersAs_26 (by decide) ?_
          exact j27_4 y1 x3 (0 : Int32) o h hk _ _ _ hw (lv_sub hl [2, 3, 1] rfl)
        · simp only [if_neg hc] at h
          refine lv_iconst (v := (1 : Int32)) hx hb d_X12_answersAs_22 (by decide) ?_
          refine lv_goto (tgt := 27) hx hb d_X12_answersAs_23 (by decide) ?_
          exact j27_4 y1 x3 (1 : Int32) o h hk _ _ _ hw (lv_sub hl [2, 3, 1] rfl)
  intro H locs ls hw hl
  have hl : lv_has ls 4 [(0, .ref (ga G 300)), (1, .int a1)] := hl
  unfold f_X12_answersAs at h
  refine lv_iconst (v := (1 : Int32)) hx hb d_X12_answersAs_0 (by decide) ?_
  refine lv_istore_n (lv' := [(2, .int (1 : Int32)), (0, .ref (ga G 300)), (1, .int a1)]) hx hb d_X12_answersAs_1 rfl hl (Nat.le_of_ble_eq_true rfl) rfl (fun ls hl => ?_)
  refine lv_iconst (v := (0 : Int32)) hx hb d_X12_answersAs_2 (by decide) ?_
  refine lv_istore_n (lv' := [(3, .int (0 : Int32)), (2, .int (1 : Int32)), (0, .ref (ga G 300)), (1, .int a1)]) hx hb d_X12_answersAs_3 rfl hl (Nat.le_of_ble_eq_true rfl) rfl (fun ls hl => ?_)
  obtain ⟨z7, e8, h⟩ := bd_some h
  refine iter_w (Wh := fun z : Int32 × Int32 => Wat p l e (rmk 3 67) s m args below meth c Q G 4 4 [] [(2, .int z.1), (3, .int z.2), (0, .ref (ga G 300)), (1, .int a1)] χ σ) (K := fun z : Int32 => Wat p l e (rmk 3 67) s m args below meth c Q G 4 59 [] [(2, .int z)] χ σ) (fun z o h1 h2 => b4 a1 z.1 z.2 o h1 h2) FU _ _ e8 ?_ _ _ _ hw (lv_sub hl [1, 0, 2, 3] rfl)
  intro H locs ls hw hl
  refine lv_iload_n hx hb d_X12_answersAs_59 rfl (lv_at hl 0 rfl) ?_
  obtain ⟨hv10, h⟩ := gd_some h
  obtain rfl := Option.some.inj h
  subst hQ
  exact r_zret X hr (nb_of hv10) hlk hw d_X12_answersAs_60
abbrev yX12_jury : MethodName := ⟨"OysterBedsModel", "jury", "()I"⟩
theorem mwX12_jury : MW yX12_jury prog_14_method_83_code 4 (some .int) 0 := ⟨wd_1460, wd_10, by decide +kernel⟩
theorem d_X12_jury_0 : decode prog_14_method_83_code 0 = .ok (.aload_n 0, 1) := by decide +kernel
theorem d_X12_jury_1 : decode prog_14_method_83_code 1 = .ok (.iconst 0, 1) := by decide +kernel
theorem d_X12_jury_2 : decode prog_14_method_83_code 2 = .ok (.putfield 87, 3) := by decide +kernel
theorem d_X12_jury_5 : decode prog_14_method_83_code 5 = .ok (.iconst (-1), 1) := by decide +kernel
theorem d_X12_jury_6 : decode prog_14_method_83_code 6 = .ok (.istore_n 1, 1) := by decide +kernel
theorem d_X12_jury_7 : decode prog_14_method_83_code 7 = .ok (.iconst 1, 1) := by decide +kernel
theorem d_X12_jury_8 : decode prog_14_method_83_code 8 = .ok (.istore_n 2, 1) := by decide +kernel
theorem d_X12_jury_9 : decode prog_14_method_83_code 9 = .ok (.iload_n 2, 1) := by decide +kernel
theorem d_X12_jury_10 : decode prog_14_method_83_code 10 = .ok (.aload_n 0, 1) := by decide +kernel
theorem d_X12_jury_11 : decode prog_14_method_83_code 11 = .ok (.invokevirtual 323, 3) := by decide +kernel
theorem d_X12_jury_14 : decode prog_14_method_83_code 14 = .ok (.if_icmp .gt 51, 3) := by decide +kernel
theorem d_X12_jury_17 : decode prog_14_method_83_code 17 = .ok (.iload_n 2, 1) := by decide +kernel
theorem d_X12_jury_18 : decode prog_14_method_83_code 18 = .ok (.invokestatic 235, 3) := by decide +kernel
theorem d_X12_jury_21 : decode prog_14_method_83_code 21 = .ok (.iconst 2, 1) := by decide +kernel
theorem d_X12_jury_22 : decode prog_14_method_83_code 22 = .ok (.irem, 1) := by decide +kernel
theorem d_X12_jury_23 : decode prog_14_method_83_code 23 = .ok (.iconst 1, 1) := by decide +kernel
theorem d_X12_jury_24 : decode prog_14_method_83_code 24 = .ok (.if_icmp .ne 23, 3) := by decide +kernel
theorem d_X12_jury_27 : decode prog_14_method_83_code 27 = .ok (.iload_n 2, 1) := by decide +kernel
theorem d_X12_jury_28 : decode prog_14_method_83_code 28 = .ok (.iload_n 1, 1) := by decide +kernel
theorem d_X12_jury_29 : decode prog_14_method_83_code 29 = .ok (.invokestatic 344, 3) := by decide +kernel
theorem d_X12_jury_32 : decode prog_14_method_83_code 32 = .ok (.ifCond .eq 15, 3) := by decide +kernel
theorem d_X12_jury_35 : decode prog_14_method_83_code 35 = .ok (.aload_n 0, 1) := by decide +kernel
theorem d_X12_jury_36 : decode prog_14_method_83_code 36 = .ok (.iload_n 2, 1) := by decide +kernel
theorem d_X12_jury_37 : decode prog_14_method_83_code 37 = .ok (.invokevirtual 350, 3) := by decide +kernel
theorem d_X12_jury_40 : decode prog_14_method_83_code 40 = .ok (.ifCond .eq 7, 3) := by decide +kernel
theorem d_X12_jury_43 : decode prog_14_method_83_code 43 = .ok (.iconst 1, 1) := by decide +kernel
theorem d_X12_jury_44 : decode prog_14_method_83_code 44 = .ok (.goto 4, 3) := by decide +kernel
theorem d_X12_jury_47 : decode prog_14_method_83_code 47 = .ok (.iconst 0, 1) := by decide +kernel
theorem d_X12_jury_48 : decode prog_14_method_83_code 48 = .ok (.istore_n 3, 1) := by decide +kernel
theorem d_X12_jury_49 : decode prog_14_method_83_code 49 = .ok (.iload_n 3, 1) := by decide +kernel
theorem d_X12_jury_50 : decode prog_14_method_83_code 50 = .ok (.ifCond .eq 7, 3) := by decide +kernel
theorem d_X12_jury_53 : decode prog_14_method_83_code 53 = .ok (.iload_n 2, 1) := by decide +kernel
theorem d_X12_jury_54 : decode prog_14_method_83_code 54 = .ok (.goto 4, 3) := by decide +kernel
theorem d_X12_jury_57 : decode prog_14_method_83_code 57 = .ok (.iload_n 1, 1) := by decide +kernel
theorem d_X12_jury_58 : decode prog_14_method_83_code 58 = .ok (.istore_n 1, 1) := by decide +kernel
theorem d_X12_jury_59 : decode prog_14_method_83_code 59 = .ok (.iinc 2 1, 3) := by decide +kernel
theorem d_X12_jury_62 : decode prog_14_method_83_code 62 = .ok (.goto (-53), 3) := by decide +kernel
theorem d_X12_jury_65 : decode prog_14_method_83_code 65 = .ok (.aload_n 0, 1) := by decide +kernel
theorem d_X12_jury_66 : decode prog_14_method_83_code 66 = .ok (.iload_n 1, 1) := by decide +kernel
theorem d_X12_jury_67 : decode prog_14_method_83_code 67 = .ok (.invokevirtual 347, 3) := by decide +kernel
theorem d_X12_jury_70 : decode prog_14_method_83_code 70 = .ok (.ireturn, 1) := by decide +kernel
def f_X12_jury_j58_9 (τ : St) (x2 : Int32) (s0 : Int32) : Option ((Int32 × Int32) ⊕ (Int32)) := some (.inl (s0, (x2 + (1 : Int32))))
def f_X12_jury_j48_9 (τ : St) (x1 : Int32) (x2 : Int32) (s0 : Int32) : Option ((Int32 × Int32) ⊕ (Int32)) := f_X12_jury_j58_9 τ x2 (if s0 = 0 then x1 else x2)
def f_X12_jury_s9 (τ : St) (x1 : Int32) (x2 : Int32) : Option ((Int32 × Int32) ⊕ (Int32)) := (f_X12_all τ).bind (fun q1 => (if q1 < x2 then some (.inr x1) else (f_J6_bitCount_0f7a4 x2).bind (fun q3 => (if (q3 - q3 / (2 : Int32) * (2 : Int32)) = (1 : Int32) then (f_X12_isFewer x2 x1).bind (fun q5 => (if q5 = 0 then f_X12_jury_j48_9 τ x1 x2 (0 : Int32) else (f_X12_answersAs τ x2).bind (fun q7 => f_X12_jury_j48_9 τ x1 x2 (if q7 = 0 then (0 : Int32) else (1 : Int32))))) else f_X12_jury_j48_9 τ x1 x2 (0 : Int32)))))
def f_X12_jury (σ : St) : Option (Int32 × St) := (iter (fun z => f_X12_jury_s9 (sF σ 300 0 (0 : Int32)) z.1 z.2) FU ((-1 : Int32), (1 : Int32))).bind (fun z9 => (f_X12_entersFewest (sF σ 300 0 (0 : Int32)) z9).bind (fun q12 => some (q12.1, q12.2)))
theorem c_X12_jury {l : Launch} {G : gT} {χ σ : St} (hf : FW G) {q : Int32 × St} (h : f_X12_jury σ = some q) : Ct l G yX12_jury prog_14_method_83_code 4 (some .int) 4 90 [.ref (ga G 300)] χ σ (some (.int q.1)) χ q.2 := by
  refine Ct.of (by decide) (Nat.le_of_ble_eq_true rfl) ?_
  intro p e s m args below meth c Q X hr hlk hQ
  have hx := X.1
  have hb := X.2.1
  have j58_9 : ∀ (τ : St) (x2 : Int32) (s0 : Int32) (o : (Int32 × Int32) ⊕ (Int32)), f_X12_jury_j58_9 τ x2 s0 = some o → Sum.elim (fun z : Int32 × Int32 => Wat p l e (rmk 4 90) s m args below meth c Q G 4 9 [] [(1, .int z.1), (2, .int z.2), (0, .ref (ga G 300))] χ τ) (fun z : Int32 => Wat p l e (rmk 4 90) s m args below meth c Q G 4 65 [] [(0, .ref (ga G 300)), (1, .int z)] χ τ) o → Wat p l e (rmk 4 90) s m args below meth c Q G 4 58 [.int s0] [(0, .ref (ga G 300)), (2, .int x2)] χ τ := by
    intro τ x2 s0 o h hk H locs ls hw hl
    unfold f_X12_jury_j58_9 at h
    refine lv_istore_n (lv' := [(1, .int s0), (0, .ref (ga G 300)), (2, .int x2)]) hx hb d_X12_jury_58 rfl hl (Nat.le_of_ble_eq_true rfl) rfl (fun ls hl => ?_)
    refine lv_iinc (v := (x2 + (1 : Int32))) (k := 2) (lv' := [(2, .int (x2 + (1 : Int32))), (1, .int s0), (0, .ref (ga G 300))]) hx hb d_X12_jury_59 hl rfl (by rfl) (Nat.le_of_ble_eq_true rfl) rfl (fun ls hl => ?_)
    refine lv_goto (tgt := 9) hx hb d_X12_jury_62 (by decide) ?_
    obtain rfl := Option.some.inj h
    dsimp only [Sum.elim_inl] at hk
    exact hk _ _ _ hw (lv_sub hl [1, 0, 2] rfl)
  have j48_9 : ∀ (τ : St) (x1 : Int32) (x2 : Int32) (s0 : Int32) (o : (Int32 × Int32) ⊕ (Int32)), f_X12_jury_j48_9 τ x1 x2 s0 = some o → Sum.elim (fun z : Int32 × Int32 => Wat p l e (rmk 4 90) s m args below meth c Q G 4 9 [] [(1, .int z.1), (2, .int z.2), (0, .ref (ga G 300))] χ τ) (fun z : Int32 => Wat p l e (rmk 4 90) s m args below meth c Q G 4 65 [] [(0, .ref (ga G 300)), (1, .int z)] χ τ) o → Wat p l e (rmk 4 90) s m args below meth c Q G 4 48 [.int s0] [(0, .ref (ga G 300)), (1, .int x1), (2, .int x2)] χ τ := by
    intro τ x1 x2 s0 o h hk H locs ls hw hl
    unfold f_X12_jury_j48_9 at h
    refine lv_istore_n (lv' := [(3, .int s0), (0, .ref (ga G 300)), (1, .int x1), (2, .int x2)]) hx hb d_X12_jury_48 rfl hl (Nat.le_of_ble_eq_true rfl) rfl (fun ls hl => ?_)
    refine lv_iload_n hx hb d_X12_jury_49 rfl (lv_at hl 0 rfl) ?_
    refine lv_if_eq (tgt := 57) hx hb d_X12_jury_50 (by decide) (fun hc => ?_) (fun hc => ?_)
    · simp only [if_pos hc] at h
      refine lv_iload_n hx hb d_X12_jury_57 rfl (lv_at hl 2 rfl) ?_
      exact j58_9 τ x2 x1 o h hk _ _ _ hw (lv_sub hl [1, 3] rfl)
    · simp only [if_neg hc] at h
      refine lv_iload_n hx hb d_X12_jury_53 rfl (lv_at hl 3 rfl) ?_
      refine lv_goto (tgt := 58) hx hb d_X12_jury_54 (by decide) ?_
      exact j58_9 τ x2 x2 o h hk _ _ _ hw (lv_sub hl [1, 3] rfl)
  have b9 : ∀ (τ : St) (x1 : Int32) (x2 : Int32) (o : (Int32 × Int32) ⊕ (Int32)), f_X12_jury_s9 τ x1 x2 = some o → Sum.elim (fun z : Int32 × Int32 => Wat p l e (rmk 4 90) s m args below meth c Q G 4 9 [] [(1, .int z.1), (2, .int z.2), (0, .ref (ga G 300))] χ τ) (fun z : Int32 => Wat p l e (rmk 4 90) s m args below meth c Q G 4 65 [] [(0, .ref (ga G 300)), (1, .int z)] χ τ) o → Wat p l e (rmk 4 90) s m args below meth c Q G 4 9 [] [(1, .int x1), (2, .int x2), (0, .ref (ga G 300))] χ τ := by
    intro τ x1 x2 o h hk H locs ls hw hl
    unfold f_X12_jury_s9 at h
    refine lv_iload_n hx hb d_X12_jury_9 rfl (lv_at hl 1 rfl) ?_
    refine lv_aload_n hx hb d_X12_jury_10 rfl (lv_at hl 2 rfl) ?_
    obtain ⟨q1, e2, h⟩ := bd_some h
    refine r_callV (As := []) (rest := [.int x2]) (st' := [.int q1, .int x2]) X hw hl mwX12_all wd_1409 wp_51 wd_1407 (c_X12_all hf e2) (r_recv X hw ct8 (o_300 hf)) rfl ⟨Nat.le_of_ble_eq_true rfl, Nat.le_of_ble_eq_true rfl⟩ ⟨Nat.le_refl _, Nat.le_refl _⟩ rfl rfl (Nat.le_of_ble_eq_true rfl) d_X12_jury_11 (fun H locs hw => ?_)
    refine lv_icmp_gt (tgt := 65) hx hb d_X12_jury_14 (by decide) (fun hc => ?_) (fun hc => ?_)
    · have h := ite_t h hc
      obtain rfl := Option.some.inj h
      dsimp only [Sum.elim_inr] at hk
      exact hk _ _ _ hw (lv_sub hl [2, 0] rfl)
    · have h := ite_f h hc
      refine lv_iload_n hx hb d_X12_jury_17 rfl (lv_at hl 1 rfl) ?_
      obtain ⟨q3, e4, h⟩ := bd_some h
      refine r_callS (As := [.int x2]) (rest := []) (st' := [.int q3]) X hw hl mwJ6_bitCount_0f7a4 wd_436 wd_1272 (c_J6_bitCount_0f7a4 e4) rfl ⟨Nat.le_of_ble_eq_true rfl, Nat.le_of_ble_eq_true rfl⟩ ⟨Nat.le_refl _, Nat.le_refl _⟩ rfl rfl (Nat.le_of_ble_eq_true rfl) d_X12_jury_18 (fun H locs hw => ?_)
      refine lv_iconst (v := (2 : Int32)) hx hb d_X12_jury_21 (by decide) ?_
      refine lv_irem hx hb d_X12_jury_22 (by decide) ?_
      refine lv_iconst (v := (1 : Int32)) hx hb d_X12_jury_23 (by decide) ?_
      refine lv_icmp_ne (tgt := 47) hx hb d_X12_jury_24 (by decide) (fun hc => ?_) (fun hc => ?_)
      · have h := ite_f h hc
        refine lv_iconst (v := (0 : Int32)) hx hb d_X12_jury_47 (by decide) ?_
        exact j48_9 τ x1 x2 (0 : Int32) o h hk _ _ _ hw (lv_sub hl [2, 0, 1] rfl)
      · have h := ite_t h hc
        refine lv_iload_n hx hb d_X12_jury_27 rfl (lv_at hl 1 rfl) ?_
        refine lv_iload_n hx hb d_X12_jury_28 rfl (lv_at hl 0 rfl) ?_
        obtain ⟨q5, e6, h⟩ := bd_some h
        refine r_callS (As := [.int x2, .int x1]) (rest := []) (st' := [.int q5]) X hw hl mwX12_isFewer wd_1451 wd_1450 (c_X12_isFewer hf e6) rfl ⟨Nat.le_of_ble_eq_true rfl, Nat.le_of_ble_eq_true rfl⟩ ⟨Nat.le_refl _, Nat.le_refl _⟩ rfl rfl (Nat.le_of_ble_eq_true rfl) d_X12_jury_29 (fun H locs hw => ?_)
        refine lv_if_eq (tgt := 47) hx hb d_X12_jury_32 (by decide) (fun hc => ?_) (fun hc => ?_)
        · have h := ite_t h hc
          refine lv_iconst (v := (0 : Int32)) hx hb d_X12_jury_47 (by decide) ?_
          exact j48_9 τ x1 x2 (0 : Int32) o h hk _ _ _ hw (lv_sub hl [2, 0, 1] rfl)
        · have h := ite_f h hc
          refine lv_aload_n hx hb d_X12_jury_35 rfl (lv_at hl 2 rfl) ?_
          refine lv_iload_n hx hb d_X12_jury_36 rfl (lv_at hl 1 rfl) ?_
          obtain ⟨q7, e8, h⟩ := bd_some h
          refine r_callV (As := [.int x2]) (rest := []) (st' := [.int q7]) X hw hl mwX12_answersAs wd_1463 wp_57 wd_1461 (c_X12_answersAs hf e8) (r_recv X hw ct8 (o_300 hf)) rfl ⟨Nat.le_of_ble_eq_true rfl, Nat.le_of_ble_eq_true rfl⟩ ⟨Nat.le_refl _, Nat.le_refl _⟩ rfl rfl (Nat.le_of_ble_eq_true rfl) d_X12_jury_37 (fun H locs hw => ?_)
          refine lv_if_eq (tgt := 47) hx hb d_X12_jury_40 (by decide) (fun hc => ?_) (fun hc => ?_)
          · simp only [if_pos hc] at h
            refine lv_iconst (v := (0 : Int32)) hx hb d_X12_jury_47 (by decide) ?_
            exact j48_9 τ x1 x2 (0 : Int32) o h hk _ _ _ hw (lv_sub hl [2, 0, 1] rfl)
          · simp only [if_neg hc] at h
            refine lv_iconst (v := (1 : Int32)) hx hb d_X12_jury_43 (by decide) ?_
            refine lv_goto (tgt := 48) hx hb d_X12_jury_44 (by decide) ?_
            exact j48_9 τ x1 x2 (1 : Int32) o h hk _ _ _ hw (lv_sub hl [2, 0, 1] rfl)
  intro H locs ls hw hl
  have hl : lv_has ls 4 [(0, .ref (ga G 300))] := hl
  unfold f_X12_jury at h
  refine lv_aload_n hx hb d_X12_jury_0 rfl (lv_at hl 0 rfl) ?_
  refine lv_iconst (v := (0 : Int32)) hx hb d_X12_jury_1 (by decide) ?_
  refine m_puti (j := 0) X hw ct8 (o_300 hf) (Nat.le_of_ble_eq_true rfl) rfl (Nat.le_of_ble_eq_true rfl) rfl rfl rfl wd_956 d_X12_jury_2 (fun H locs hw => ?_)
  refine lv_iconst (v := (-1 : Int32)) hx hb d_X12_jury_5 (by decide) ?_
  refine lv_istore_n (lv' := [(1, .int (-1 : Int32)), (0, .ref (ga G 300))]) hx hb d_X12_jury_6 rfl hl (Nat.le_of_ble_eq_true rfl) rfl (fun ls hl => ?_)
  refine lv_iconst (v := (1 : Int32)) hx hb d_X12_jury_7 (by decide) ?_
  refine lv_istore_n (lv' := [(2, .int (1 : Int32)), (1, .int (-1 : Int32)), (0, .ref (ga G 300))]) hx hb d_X12_jury_8 rfl hl (Nat.le_of_ble_eq_true rfl) rfl (fun ls hl => ?_)
  obtain ⟨z9, e10, h⟩ := bd_some h
  refine iter_w (Wh := fun z : Int32 × Int32 => Wat p l e (rmk 4 90) s m args below meth c Q G 4 9 [] [(1, .int z.1), (2, .int z.2), (0, .ref (ga G 300))] χ (sF σ 300 0 (0 : Int32))) (K := fun z : Int32 => Wat p l e (rmk 4 90) s m args below meth c Q G 4 65 [] [(0, .ref (ga G 300)), (1, .int z)] χ (sF σ 300 0 (0 : Int32))) (fun z o h1 h2 => b9 (sF σ 300 0 (0 : Int32)) z.1 z.2 o h1 h2) FU _ _ e10 ?_ _ _ _ hw (lv_sub hl [1, 0, 2] rfl)
  intro H locs ls hw hl
  refine lv_aload_n hx hb d_X12_jury_65 rfl (lv_at hl 0 rfl) ?_
  refine lv_iload_n hx hb d_X12_jury_66 rfl (lv_at hl 1 rfl) ?_
  obtain ⟨q12, e13, h⟩ := bd_some h
  refine r_callV (As := [.int z9]) (rest := []) (st' := [.int q12.1]) X hw hl mwX12_entersFewest wd_1455 wp_56 wd_1453 (c_X12_entersFewest hf e13) (r_recv X hw ct8 (o_300 hf)) rfl ⟨Nat.le_of_ble_eq_true rfl, Nat.le_of_ble_eq_true rfl⟩ ⟨Nat.le_refl _, Nat.le_refl _⟩ rfl rfl (Nat.le_of_ble_eq_true rfl) d_X12_jury_67 (fun H locs hw => ?_)
  obtain rfl := Option.some.inj h
  subst hQ
  exact r_iret X hr hlk hw d_X12_jury_70
abbrev yX12_counts : MethodName := ⟨"OysterBedsModel", "counts", "(I)I"⟩
theorem mwX12_counts : MW yX12_counts prog_14_method_84_code 4 (some .int) 1 := ⟨wd_1480, wd_10, by decide +kernel⟩
theorem d_X12_counts_0 : decode prog_14_method_84_code 0 = .ok (.iconst 0, 1) := by decide +kernel
theorem d_X12_counts_1 : decode prog_14_method_84_code 1 = .ok (.istore_n 2, 1) := by decide +kernel
theorem d_X12_counts_2 : decode prog_14_method_84_code 2 = .ok (.iconst 0, 1) := by decide +kernel
theorem d_X12_counts_3 : decode prog_14_method_84_code 3 = .ok (.istore_n 3, 1) := by decide +kernel
theorem d_X12_counts_4 : decode prog_14_method_84_code 4 = .ok (.iload_n 3, 1) := by decide +kernel
theorem d_X12_counts_5 : decode prog_14_method_84_code 5 = .ok (.aload_n 0, 1) := by decide +kernel
theorem d_X12_counts_6 : decode prog_14_method_84_code 6 = .ok (.getfield 102, 3) := by decide +kernel
theorem d_X12_counts_9 : decode prog_14_method_84_code 9 = .ok (.if_icmp .ge 33, 3) := by decide +kernel
theorem d_X12_counts_12 : decode prog_14_method_84_code 12 = .ok (.iload_n 2, 1) := by decide +kernel
theorem d_X12_counts_13 : decode prog_14_method_84_code 13 = .ok (.iload_n 1, 1) := by decide +kernel
theorem d_X12_counts_14 : decode prog_14_method_84_code 14 = .ok (.iload_n 3, 1) := by decide +kernel
theorem d_X12_counts_15 : decode prog_14_method_84_code 15 = .ok (.invokestatic 113, 3) := by decide +kernel
theorem d_X12_counts_18 : decode prog_14_method_84_code 18 = .ok (.ifCond .eq 15, 3) := by decide +kernel
theorem d_X12_counts_21 : decode prog_14_method_84_code 21 = .ok (.bipush 10, 2) := by decide +kernel
theorem d_X12_counts_23 : decode prog_14_method_84_code 23 = .ok (.aload_n 0, 1) := by decide +kernel
theorem d_X12_counts_24 : decode prog_14_method_84_code 24 = .ok (.getfield 17, 3) := by decide +kernel
theorem d_X12_counts_27 : decode prog_14_method_84_code 27 = .ok (.iload_n 3, 1) := by decide +kernel
theorem d_X12_counts_28 : decode prog_14_method_84_code 28 = .ok (.iaload, 1) := by decide +kernel
theorem d_X12_counts_29 : decode prog_14_method_84_code 29 = .ok (.isub, 1) := by decide +kernel
theorem d_X12_counts_30 : decode prog_14_method_84_code 30 = .ok (.goto 4, 3) := by decide +kernel
theorem d_X12_counts_33 : decode prog_14_method_84_code 33 = .ok (.iconst 0, 1) := by decide +kernel
theorem d_X12_counts_34 : decode prog_14_method_84_code 34 = .ok (.iadd, 1) := by decide +kernel
theorem d_X12_counts_35 : decode prog_14_method_84_code 35 = .ok (.istore_n 2, 1) := by decide +kernel
theorem d_X12_counts_36 : decode prog_14_method_84_code 36 = .ok (.iinc 3 1, 3) := by decide +kernel
theorem d_X12_counts_39 : decode prog_14_method_84_code 39 = .ok (.goto (-35), 3) := by decide +kernel
theorem d_X12_counts_42 : decode prog_14_method_84_code 42 = .ok (.iload_n 2, 1) := by decide +kernel
theorem d_X12_counts_43 : decode prog_14_method_84_code 43 = .ok (.ireturn, 1) := by decide +kernel
def f_X12_counts_j34_4 (σ : St) (x1 : Int32) (x3 : Int32) (s0 : Int32) (s1 : Int32) : Option ((Int32 × Int32) ⊕ (Int32)) := some (.inl ((s0 + s1), (x3 + (1 : Int32))))
def f_X12_counts_s4 (σ : St) (y1 : Int32) (x2 : Int32) (x3 : Int32) : Option ((Int32 × Int32) ⊕ (Int32)) := (if (cF σ 300 3) ≤ x3 then some (.inr x2) else (f_X12_has y1 x3).bind (fun q1 => (if q1 = 0 then f_X12_counts_j34_4 σ y1 x3 x2 (0 : Int32) else gd (inb x3 34) (f_X12_counts_j34_4 σ y1 x3 x2 ((10 : Int32) - (cA σ 306 x3.toNatClampNeg))))))
def f_X12_counts (σ : St) (a1 : Int32) : Option (Int32) := (iter (fun z => f_X12_counts_s4 σ a1 z.1 z.2) FU ((0 : Int32), (0 : Int32))).bind (fun z4 => some z4)
theorem c_X12_counts {l : Launch} {G : gT} {χ σ : St} {a1 : Int32} (hf : FW G) {q : Int32} (h : f_X12_counts σ a1 = some q) : Ct l G yX12_counts prog_14_method_84_code 4 (some .int) 1 21 [.ref (ga G 300), .int a1] χ σ (some (.int q)) χ σ := by
  refine Ct.of (by decide) (Nat.le_of_ble_eq_true rfl) ?_
  intro p e s m args below meth c Q X hr hlk hQ
  have hx := X.1
  have hb := X.2.1
  have j34_4 : ∀ (x1 : Int32) (x3 : Int32) (s0 : Int32) (s1 : Int32) (o : (Int32 × Int32) ⊕ (Int32)), f_X12_counts_j34_4 σ x1 x3 s0 s1 = some o → Sum.elim (fun z : Int32 × Int32 => Wat p l e (rmk 1 21) s m args below meth c Q G 4 4 [] [(2, .int z.1), (3, .int z.2), (0, .ref (ga G 300)), (1, .int x1)] χ σ) (fun z : Int32 => Wat p l e (rmk 1 21) s m args below meth c Q G 4 42 [] [(2, .int z)] χ σ) o → Wat p l e (rmk 1 21) s m args below meth c Q G 4 34 [.int s1, .int s0] [(0, .ref (ga G 300)), (1, .int x1), (3, .int x3)] χ σ := by
    intro x1 x3 s0 s1 o h hk H locs ls hw hl
    unfold f_X12_counts_j34_4 at h
    refine lv_iadd hx hb d_X12_counts_34 ?_
    refine lv_istore_n (lv' := [(2, .int (s0 + s1)), (0, .ref (ga G 300)), (1, .int x1), (3, .int x3)]) hx hb d_X12_counts_35 rfl hl (Nat.le_of_ble_eq_true rfl) rfl (fun ls hl => ?_)
    refine lv_iinc (v := (x3 + (1 : Int32))) (k := 3) (lv' := [(3, .int (x3 + (1 : Int32))), (2, .int (s0 + s1)), (0, .ref (ga G 300)), (1, .int x1)]) hx hb d_X12_counts_36 hl rfl (by rfl) (Nat.le_of_ble_eq_true rfl) rfl (fun ls hl => ?_)
    refine lv_goto (tgt := 4) hx hb d_X12_counts_39 (by decide) ?_
    obtain rfl := Option.some.inj h
    dsimp only [Sum.elim_inl] at hk
    exact hk _ _ _ hw (lv_sub hl [1, 0, 2, 3] rfl)
  have b4 : ∀ (y1 : Int32) (x2 : Int32) (x3 : Int32) (o : (Int32 × Int32) ⊕ (Int32)), f_X12_counts_s4 σ y1 x2 x3 = some o → Sum.elim (fun z : Int32 × Int32 => Wat p l e (rmk 1 21) s m args below meth c Q G 4 4 [] [(2, .int z.1), (3, .int z.2), (0, .ref (ga G 300)), (1, .int y1)] χ σ) (fun z : Int32 => Wat p l e (rmk 1 21) s m args below meth c Q G 4 42 [] [(2, .int z)] χ σ) o → Wat p l e (rmk 1 21) s m args below meth c Q G 4 4 [] [(2, .int x2), (3, .int x3), (0, .ref (ga G 300)), (1, .int y1)] χ σ := by
    intro y1 x2 x3 o h hk H locs ls hw hl
    unfold f_X12_counts_s4 at h
    refine lv_iload_n hx hb d_X12_counts_4 rfl (lv_at hl 1 rfl) ?_
    refine lv_aload_n hx hb d_X12_counts_5 rfl (lv_at hl 2 rfl) ?_
    refine m_geti (j := 3) X hw ct8 (o_300 hf) (Nat.le_of_ble_eq_true rfl) rfl (Nat.le_of_ble_eq_true rfl) wd_959 d_X12_counts_6 ?_
    refine lv_icmp_ge (tgt := 42) hx hb d_X12_counts_9 (by decide) (fun hc => ?_) (fun hc => ?_)
    · have h := ite_t h hc
      obtain rfl := Option.some.inj h
      dsimp only [Sum.elim_inr] at hk
      exact hk _ _ _ hw (lv_sub hl [0] rfl)
    · have h := ite_f h hc
      refine lv_iload_n hx hb d_X12_counts_12 rfl (lv_at hl 0 rfl) ?_
      refine lv_iload_n hx hb d_X12_counts_13 rfl (lv_at hl 3 rfl) ?_
      refine lv_iload_n hx hb d_X12_counts_14 rfl (lv_at hl 1 rfl) ?_
      obtain ⟨q1, e2, h⟩ := bd_some h
      refine r_callS (As := [.int y1, .int x3]) (rest := [.int x2]) (st' := [.int q1, .int x2]) X hw hl mwX12_has wd_1266 wd_1265 (c_X12_has hf e2) rfl ⟨Nat.le_of_ble_eq_true rfl, Nat.le_of_ble_eq_true rfl⟩ ⟨Nat.le_refl _, Nat.le_refl _⟩ rfl rfl (Nat.le_of_ble_eq_true rfl) d_X12_counts_15 (fun H locs hw => ?_)
      refine lv_if_eq (tgt := 33) hx hb d_X12_counts_18 (by decide) (fun hc => ?_) (fun hc => ?_)
      · have h := ite_t h hc
        refine lv_iconst (v := (0 : Int32)) hx hb d_X12_counts_33 (by decide) ?_
        exact j34_4 y1 x3 x2 (0 : Int32) o h hk _ _ _ hw (lv_sub hl [2, 3, 1] rfl)
      · have h := ite_f h hc
        refine lv_bipush (v := (10 : Int32)) hx hb d_X12_counts_21 (by decide) ?_
        refine lv_aload_n hx hb d_X12_counts_23 rfl (lv_at hl 2 rfl) ?_
        refine r_getr (j := 6) X hw ct8 (o_300 hf) rfl (Nat.le_of_ble_eq_true rfl) (q := 306) rfl wd_962 d_X12_counts_24 ?_
        refine lv_iload_n hx hb d_X12_counts_27 rfl (lv_at hl 1 rfl) ?_
        obtain ⟨hi3, h⟩ := gd_some h
        refine m_iald X hw (o_306 hf) (Nat.le_of_ble_eq_true rfl) hi3 d_X12_counts_28 ?_
        refine lv_isub hx hb d_X12_counts_29 ?_
        refine lv_goto (tgt := 34) hx hb d_X12_counts_30 (by decide) ?_
        exact j34_4 y1 x3 x2 ((10 : Int32) - (cA σ 306 x3.toNatClampNeg)) o h hk _ _ _ hw (lv_sub hl [2, 3, 1] rfl)
  intro H locs ls hw hl
  have hl : lv_has ls 4 [(0, .ref (ga G 300)), (1, .int a1)] := hl
  unfold f_X12_counts at h
  refine lv_iconst (v := (0 : Int32)) hx hb d_X12_counts_0 (by decide) ?_
  refine lv_istore_n (lv' := [(2, .int (0 : Int32)), (0, .ref (ga G 300)), (1, .int a1)]) hx hb d_X12_counts_1 rfl hl (Nat.le_of_ble_eq_true rfl) rfl (fun ls hl => ?_)
  refine lv_iconst (v := (0 : Int32)) hx hb d_X12_counts_2 (by decide) ?_
  refine lv_istore_n (lv' := [(3, .int (0 : Int32)), (2, .int (0 : Int32)), (0, .ref (ga G 300)), (1, .int a1)]) hx hb d_X12_counts_3 rfl hl (Nat.le_of_ble_eq_true rfl) rfl (fun ls hl => ?_)
  obtain ⟨z4, e5, h⟩ := bd_some h
  refine iter_w (Wh := fun z : Int32 × Int32 => Wat p l e (rmk 1 21) s m args below meth c Q G 4 4 [] [(2, .int z.1), (3, .int z.2), (0, .ref (ga G 300)), (1, .int a1)] χ σ) (K := fun z : Int32 => Wat p l e (rmk 1 21) s m args below meth c Q G 4 42 [] [(2, .int z)] χ σ) (fun z o h1 h2 => b4 a1 z.1 z.2 o h1 h2) FU _ _ e5 ?_ _ _ _ hw (lv_sub hl [1, 0, 2, 3] rfl)
  intro H locs ls hw hl
  refine lv_iload_n hx hb d_X12_counts_42 rfl (lv_at hl 0 rfl) ?_
  obtain rfl := Option.some.inj h
  subst hQ
  exact r_iret X hr hlk hw d_X12_counts_43
abbrev yX12_decides : MethodName := ⟨"OysterBedsModel", "decides", "(I)Z"⟩
theorem mwX12_decides : MW yX12_decides prog_14_method_85_code 2 (some .boolean) 1 := ⟨wd_1476, wd_10, by decide +kernel⟩
theorem d_X12_decides_0 : decode prog_14_method_85_code 0 = .ok (.iconst 2, 1) := by decide +kernel
theorem d_X12_decides_1 : decode prog_14_method_85_code 1 = .ok (.aload_n 0, 1) := by decide +kernel
theorem d_X12_decides_2 : decode prog_14_method_85_code 2 = .ok (.iload_n 1, 1) := by decide +kernel
theorem d_X12_decides_3 : decode prog_14_method_85_code 3 = .ok (.invokevirtual 353, 3) := by decide +kernel
theorem d_X12_decides_6 : decode prog_14_method_85_code 6 = .ok (.imul, 1) := by decide +kernel
theorem d_X12_decides_7 : decode prog_14_method_85_code 7 = .ok (.aload_n 0, 1) := by decide +kernel
theorem d_X12_decides_8 : decode prog_14_method_85_code 8 = .ok (.aload_n 0, 1) := by decide +kernel
theorem d_X12_decides_9 : decode prog_14_method_85_code 9 = .ok (.invokevirtual 323, 3) := by decide +kernel
theorem d_X12_decides_12 : decode prog_14_method_85_code 12 = .ok (.invokevirtual 353, 3) := by decide +kernel
theorem d_X12_decides_15 : decode prog_14_method_85_code 15 = .ok (.if_icmp .le 7, 3) := by decide +kernel
theorem d_X12_decides_18 : decode prog_14_method_85_code 18 = .ok (.iconst 1, 1) := by decide +kernel
theorem d_X12_decides_19 : decode prog_14_method_85_code 19 = .ok (.goto 4, 3) := by decide +kernel
theorem d_X12_decides_22 : decode prog_14_method_85_code 22 = .ok (.iconst 0, 1) := by decide +kernel
theorem d_X12_decides_23 : decode prog_14_method_85_code 23 = .ok (.ireturn, 1) := by decide +kernel
def f_X12_decides (σ : St) (a1 : Int32) : Option (Int32) := (f_X12_counts σ a1).bind (fun q1 => (f_X12_all σ).bind (fun q3 => (f_X12_counts σ q3).bind (fun q5 => some (if ((2 : Int32) * q1) ≤ q5 then (0 : Int32) else (1 : Int32)))))
theorem c_X12_decides {l : Launch} {G : gT} {χ σ : St} {a1 : Int32} (hf : FW G) {q : Int32} (h : f_X12_decides σ a1 = some q) : Ct l G yX12_decides prog_14_method_85_code 2 (some .boolean) 2 44 [.ref (ga G 300), .int a1] χ σ (some (.int q)) χ σ := by
  refine Ct.of (by decide) (Nat.le_of_ble_eq_true rfl) ?_
  intro p e s m args below meth c Q X hr hlk hQ
  have hx := X.1
  have hb := X.2.1
  intro H locs ls hw hl
  have hl : lv_has ls 2 [(0, .ref (ga G 300)), (1, .int a1)] := hl
  unfold f_X12_decides at h
  refine lv_iconst (v := (2 : Int32)) hx hb d_X12_decides_0 (by decide) ?_
  refine lv_aload_n hx hb d_X12_decides_1 rfl (lv_at hl 0 rfl) ?_
  refine lv_iload_n hx hb d_X12_decides_2 rfl (lv_at hl 1 rfl) ?_
  obtain ⟨q1, e2, h⟩ := bd_some h
  refine r_callV (As := [.int a1]) (rest := [.int (2 : Int32)]) (st' := [.int q1, .int (2 : Int32)]) X hw hl mwX12_counts wd_1479 wp_60 wd_1477 (c_X12_counts hf e2) (r_recv X hw ct8 (o_300 hf)) rfl ⟨Nat.le_of_ble_eq_true rfl, Nat.le_of_ble_eq_true rfl⟩ ⟨Nat.le_refl _, Nat.le_refl _⟩ rfl rfl (Nat.le_of_ble_eq_true rfl) d_X12_decides_3 (fun H locs hw => ?_)
  refine lv_imul hx hb d_X12_decides_6 ?_
  refine lv_aload_n hx hb d_X12_decides_7 rfl (lv_at hl 0 rfl) ?_
  refine lv_aload_n hx hb d_X12_decides_8 rfl (lv_at hl 0 rfl) ?_
  obtain ⟨q3, e4, h⟩ := bd_some h
  refine r_callV (As := []) (rest := [.ref (ga G 300), .int ((2 : Int32) * q1)]) (st' := [.int q3, .ref (ga G 300), .int ((2 : Int32) * q1)]) X hw hl mwX12_all wd_1409 wp_51 wd_1407 (c_X12_all hf e4) (r_recv X hw ct8 (o_300 hf)) rfl ⟨Nat.le_of_ble_eq_true rfl, Nat.le_of_ble_eq_true rfl⟩ ⟨Nat.le_refl _, Nat.le_refl _⟩ rfl rfl (Nat.le_of_ble_eq_true rfl) d_X12_decides_9 (fun H locs hw => ?_)
  obtain ⟨q5, e6, h⟩ := bd_some h
  refine r_callV (As := [.int q3]) (rest := [.int ((2 : Int32) * q1)]) (st' := [.int q5, .int ((2 : Int32) * q1)]) X hw hl mwX12_counts wd_1479 wp_60 wd_1477 (c_X12_counts hf e6) (r_recv X hw ct8 (o_300 hf)) rfl ⟨Nat.le_of_ble_eq_true rfl, Nat.le_of_ble_eq_true rfl⟩ ⟨Nat.le_refl _, Nat.le_refl _⟩ rfl rfl (Nat.le_of_ble_eq_true rfl) d_X12_decides_12 (fun H locs hw => ?_)
  refine lv_icmp_le (tgt := 22) hx hb d_X12_decides_15 (by decide) (fun hc => ?_) (fun hc => ?_)
  · simp only [if_pos hc] at h
    refine lv_iconst (v := (0 : Int32)) hx hb d_X12_decides_22 (by decide) ?_
    obtain rfl := Option.some.inj h
    subst hQ
    exact r_zret X hr nbz0 hlk hw d_X12_decides_23
  · simp only [if_neg hc] at h
    refine lv_iconst (v := (1 : Int32)) hx hb d_X12_decides_18 (by decide) ?_
    refine lv_goto (tgt := 23) hx hb d_X12_decides_19 (by decide) ?_
    obtain rfl := Option.some.inj h
    subst hQ
    exact r_zret X hr nbz1 hlk hw d_X12_decides_23
abbrev yX12_turnsIt : MethodName := ⟨"OysterBedsModel", "turnsIt", "(II)Z"⟩
theorem mwX12_turnsIt : MW yX12_turnsIt prog_14_method_86_code 3 (some .boolean) 2 := ⟨wd_1472, wd_10, by decide +kernel⟩
theorem d_X12_turnsIt_0 : decode prog_14_method_86_code 0 = .ok (.iload_n 1, 1) := by decide +kernel
theorem d_X12_turnsIt_1 : decode prog_14_method_86_code 1 = .ok (.iload_n 2, 1) := by decide +kernel
theorem d_X12_turnsIt_2 : decode prog_14_method_86_code 2 = .ok (.invokestatic 113, 3) := by decide +kernel
theorem d_X12_turnsIt_5 : decode prog_14_method_86_code 5 = .ok (.ifCond .ne 27, 3) := by decide +kernel
theorem d_X12_turnsIt_8 : decode prog_14_method_86_code 8 = .ok (.aload_n 0, 1) := by decide +kernel
theorem d_X12_turnsIt_9 : decode prog_14_method_86_code 9 = .ok (.iload_n 1, 1) := by decide +kernel
theorem d_X12_turnsIt_10 : decode prog_14_method_86_code 10 = .ok (.invokevirtual 356, 3) := by decide +kernel
theorem d_X12_turnsIt_13 : decode prog_14_method_86_code 13 = .ok (.ifCond .ne 19, 3) := by decide +kernel
theorem d_X12_turnsIt_16 : decode prog_14_method_86_code 16 = .ok (.aload_n 0, 1) := by decide +kernel
theorem d_X12_turnsIt_17 : decode prog_14_method_86_code 17 = .ok (.iload_n 1, 1) := by decide +kernel
theorem d_X12_turnsIt_18 : decode prog_14_method_86_code 18 = .ok (.iconst 1, 1) := by decide +kernel
theorem d_X12_turnsIt_19 : decode prog_14_method_86_code 19 = .ok (.iload_n 2, 1) := by decide +kernel
theorem d_X12_turnsIt_20 : decode prog_14_method_86_code 20 = .ok (.ishl, 1) := by decide +kernel
theorem d_X12_turnsIt_21 : decode prog_14_method_86_code 21 = .ok (.ior, 1) := by decide +kernel
theorem d_X12_turnsIt_22 : decode prog_14_method_86_code 22 = .ok (.invokevirtual 356, 3) := by decide +kernel
theorem d_X12_turnsIt_25 : decode prog_14_method_86_code 25 = .ok (.ifCond .eq 7, 3) := by decide +kernel
theorem d_X12_turnsIt_28 : decode prog_14_method_86_code 28 = .ok (.iconst 1, 1) := by decide +kernel
theorem d_X12_turnsIt_29 : decode prog_14_method_86_code 29 = .ok (.goto 4, 3) := by decide +kernel
theorem d_X12_turnsIt_32 : decode prog_14_method_86_code 32 = .ok (.iconst 0, 1) := by decide +kernel
theorem d_X12_turnsIt_33 : decode prog_14_method_86_code 33 = .ok (.ireturn, 1) := by decide +kernel
def f_X12_turnsIt (σ : St) (a1 : Int32) (a2 : Int32) : Option (Int32) := (f_X12_has a1 a2).bind (fun q1 => (if q1 = 0 then (f_X12_decides σ a1).bind (fun q3 => (if q3 = 0 then (f_X12_decides σ (a1 ||| ((1 : Int32) <<< (a2 &&& 31)))).bind (fun q5 => some (if q5 = 0 then (0 : Int32) else (1 : Int32))) else some (0 : Int32))) else some (0 : Int32)))
theorem c_X12_turnsIt {l : Launch} {G : gT} {χ σ : St} {a1 : Int32} {a2 : Int32} (hf : FW G) {q : Int32} (h : f_X12_turnsIt σ a1 a2 = some q) : Ct l G yX12_turnsIt prog_14_method_86_code 3 (some .boolean) 3 65 [.ref (ga G 300), .int a1, .int a2] χ σ (some (.int q)) χ σ := by
  refine Ct.of (by decide) (Nat.le_of_ble_eq_true rfl) ?_
  intro p e s m args below meth c Q X hr hlk hQ
  have hx := X.1
  have hb := X.2.1
  intro H locs ls hw hl
  have hl : lv_has ls 3 [(0, .ref (ga G 300)), (1, .int a1), (2, .int a2)] := hl
  unfold f_X12_turnsIt at h
  refine lv_iload_n hx hb d_X12_turnsIt_0 rfl (lv_at hl 1 rfl) ?_
  refine lv_iload_n hx hb d_X12_turnsIt_1 rfl (lv_at hl 2 rfl) ?_
  obtain ⟨q1, e2, h⟩ := bd_some h
  refine r_callS (As := [.int a1, .int a2]) (rest := []) (st' := [.int q1]) X hw hl mwX12_has wd_1266 wd_1265 (c_X12_has hf e2) rfl ⟨Nat.le_of_ble_eq_true rfl, Nat.le_of_ble_eq_true rfl⟩ ⟨Nat.le_refl _, Nat.le_refl _⟩ rfl rfl (Nat.le_of_ble_eq_true rfl) d_X12_turnsIt_2 (fun H locs hw => ?_)
  refine lv_if_ne (tgt := 32) hx hb d_X12_turnsIt_5 (by decide) (fun hc => ?_) (fun hc => ?_)
  · have h := ite_f h hc
    refine lv_iconst (v := (0 : Int32)) hx hb d_X12_turnsIt_32 (by decide) ?_
    obtain rfl := Option.some.inj h
    subst hQ
    exact r_zret X hr nbz0 hlk hw d_X12_turnsIt_33
  · have h := ite_t h hc
    refine lv_aload_n hx hb d_X12_turnsIt_8 rfl (lv_at hl 0 rfl) ?_
    refine lv_iload_n hx hb d_X12_turnsIt_9 rfl (lv_at hl 1 rfl) ?_
    obtain ⟨q3, e4, h⟩ := bd_some h
    refine r_callV (As := [.int a1]) (rest := []) (st' := [.int q3]) X hw hl mwX12_decides wd_1475 wp_59 wd_1473 (c_X12_decides hf e4) (r_recv X hw ct8 (o_300 hf)) rfl ⟨Nat.le_of_ble_eq_true rfl, Nat.le_of_ble_eq_true rfl⟩ ⟨Nat.le_refl _, Nat.le_refl _⟩ rfl rfl (Nat.le_of_ble_eq_true rfl) d_X12_turnsIt_10 (fun H locs hw => ?_)
    refine lv_if_ne (tgt := 32) hx hb d_X12_turnsIt_13 (by decide) (fun hc => ?_) (fun hc => ?_)
    · have h := ite_f h hc
      refine lv_iconst (v := (0 : Int32)) hx hb d_X12_turnsIt_32 (by decide) ?_
      obtain rfl := Option.some.inj h
      subst hQ
      exact r_zret X hr nbz0 hlk hw d_X12_turnsIt_33
    · have h := ite_t h hc
      refine lv_aload_n hx hb d_X12_turnsIt_16 rfl (lv_at hl 0 rfl) ?_
      refine lv_iload_n hx hb d_X12_turnsIt_17 rfl (lv_at hl 1 rfl) ?_
      refine lv_iconst (v := (1 : Int32)) hx hb d_X12_turnsIt_18 (by decide) ?_
      refine lv_iload_n hx hb d_X12_turnsIt_19 rfl (lv_at hl 2 rfl) ?_
      refine lv_ishl hx hb d_X12_turnsIt_20 ?_
      refine lv_ior hx hb d_X12_turnsIt_21 ?_
      obtain ⟨q5, e6, h⟩ := bd_some h
      refine r_callV (As := [.int (a1 ||| ((1 : Int32) <<< (a2 &&& 31)))]) (rest := []) (st' := [.int q5]) X hw hl mwX12_decides wd_1475 wp_59 wd_1473 (c_X12_decides hf e6) (r_recv X hw ct8 (o_300 hf)) rfl ⟨Nat.le_of_ble_eq_true rfl, Nat.le_of_ble_eq_true rfl⟩ ⟨Nat.le_refl _, Nat.le_refl _⟩ rfl rfl (Nat.le_of_ble_eq_true rfl) d_X12_turnsIt_22 (fun H locs hw => ?_)
      refine lv_if_eq (tgt := 32) hx hb d_X12_turnsIt_25 (by decide) (fun hc => ?_) (fun hc => ?_)
      · simp only [if_pos hc] at h
        refine lv_iconst (v := (0 : Int32)) hx hb d_X12_turnsIt_32 (by decide) ?_
        obtain rfl := Option.some.inj h
        subst hQ
        exact r_zret X hr nbz0 hlk hw d_X12_turnsIt_33
      · simp only [if_neg hc] at h
        refine lv_iconst (v := (1 : Int32)) hx hb d_X12_turnsIt_28 (by decide) ?_
        refine lv_goto (tgt := 33) hx hb d_X12_turnsIt_29 (by decide) ?_
        obtain rfl := Option.some.inj h
        subst hQ
        exact r_zret X hr nbz1 hlk hw d_X12_turnsIt_33
abbrev yX12_power : MethodName := ⟨"OysterBedsModel", "power", "(I)I"⟩
theorem mwX12_power : MW yX12_power prog_14_method_87_code 4 (some .int) 1 := ⟨wd_1468, wd_10, by decide +kernel⟩
theorem d_X12_power_0 : decode prog_14_method_87_code 0 = .ok (.aload_n 0, 1) := by decide +kernel
theorem d_X12_power_1 : decode prog_14_method_87_code 1 = .ok (.iconst 0, 1) := by decide +kernel
theorem d_X12_power_2 : decode prog_14_method_87_code 2 = .ok (.putfield 87, 3) := by decide +kernel
theorem d_X12_power_5 : decode prog_14_method_87_code 5 = .ok (.aload_n 0, 1) := by decide +kernel
theorem d_X12_power_6 : decode prog_14_method_87_code 6 = .ok (.iload_n 1, 1) := by decide +kernel
theorem d_X12_power_7 : decode prog_14_method_87_code 7 = .ok (.invokevirtual 243, 3) := by decide +kernel
theorem d_X12_power_10 : decode prog_14_method_87_code 10 = .ok (.ifCond .ne 5, 3) := by decide +kernel
theorem d_X12_power_13 : decode prog_14_method_87_code 13 = .ok (.iconst (-1), 1) := by decide +kernel
theorem d_X12_power_14 : decode prog_14_method_87_code 14 = .ok (.ireturn, 1) := by decide +kernel
theorem d_X12_power_15 : decode prog_14_method_87_code 15 = .ok (.iconst 0, 1) := by decide +kernel
theorem d_X12_power_16 : decode prog_14_method_87_code 16 = .ok (.istore_n 2, 1) := by decide +kernel
theorem d_X12_power_17 : decode prog_14_method_87_code 17 = .ok (.iconst 0, 1) := by decide +kernel
theorem d_X12_power_18 : decode prog_14_method_87_code 18 = .ok (.istore_n 3, 1) := by decide +kernel
theorem d_X12_power_19 : decode prog_14_method_87_code 19 = .ok (.iload_n 3, 1) := by decide +kernel
theorem d_X12_power_20 : decode prog_14_method_87_code 20 = .ok (.aload_n 0, 1) := by decide +kernel
theorem d_X12_power_21 : decode prog_14_method_87_code 21 = .ok (.invokevirtual 323, 3) := by decide +kernel
theorem d_X12_power_24 : decode prog_14_method_87_code 24 = .ok (.if_icmp .gt 21, 3) := by decide +kernel
theorem d_X12_power_27 : decode prog_14_method_87_code 27 = .ok (.iload_n 2, 1) := by decide +kernel
theorem d_X12_power_28 : decode prog_14_method_87_code 28 = .ok (.aload_n 0, 1) := by decide +kernel
theorem d_X12_power_29 : decode prog_14_method_87_code 29 = .ok (.iload_n 3, 1) := by decide +kernel
theorem d_X12_power_30 : decode prog_14_method_87_code 30 = .ok (.iload_n 1, 1) := by decide +kernel
theorem d_X12_power_31 : decode prog_14_method_87_code 31 = .ok (.invokevirtual 359, 3) := by decide +kernel
theorem d_X12_power_34 : decode prog_14_method_87_code 34 = .ok (.invokestatic 135, 3) := by decide +kernel
theorem d_X12_power_37 : decode prog_14_method_87_code 37 = .ok (.iadd, 1) := by decide +kernel
theorem d_X12_power_38 : decode prog_14_method_87_code 38 = .ok (.istore_n 2, 1) := by decide +kernel
theorem d_X12_power_39 : decode prog_14_method_87_code 39 = .ok (.iinc 3 1, 3) := by decide +kernel
theorem d_X12_power_42 : decode prog_14_method_87_code 42 = .ok (.goto (-23), 3) := by decide +kernel
theorem d_X12_power_45 : decode prog_14_method_87_code 45 = .ok (.aload_n 0, 1) := by decide +kernel
theorem d_X12_power_46 : decode prog_14_method_87_code 46 = .ok (.iload_n 2, 1) := by decide +kernel
theorem d_X12_power_47 : decode prog_14_method_87_code 47 = .ok (.i2l, 1) := by decide +kernel
theorem d_X12_power_48 : decode prog_14_method_87_code 48 = .ok (.iconst 1, 1) := by decide +kernel
theorem d_X12_power_49 : decode prog_14_method_87_code 49 = .ok (.aload_n 0, 1) := by decide +kernel
theorem d_X12_power_50 : decode prog_14_method_87_code 50 = .ok (.getfield 102, 3) := by decide +kernel
theorem d_X12_power_53 : decode prog_14_method_87_code 53 = .ok (.iconst 1, 1) := by decide +kernel
theorem d_X12_power_54 : decode prog_14_method_87_code 54 = .ok (.isub, 1) := by decide +kernel
theorem d_X12_power_55 : decode prog_14_method_87_code 55 = .ok (.ishl, 1) := by decide +kernel
theorem d_X12_power_56 : decode prog_14_method_87_code 56 = .ok (.i2l, 1) := by decide +kernel
theorem d_X12_power_57 : decode prog_14_method_87_code 57 = .ok (.invokevirtual 362, 3) := by decide +kernel
theorem d_X12_power_60 : decode prog_14_method_87_code 60 = .ok (.ireturn, 1) := by decide +kernel
def f_X12_power_s19 (τ : St) (y1 : Int32) (x2 : Int32) (x3 : Int32) : Option ((Int32 × Int32) ⊕ (Int32)) := (f_X12_all τ).bind (fun q3 => (if q3 < x3 then some (.inr x2) else (f_X12_turnsIt τ x3 y1).bind (fun q5 => (f_X12_flag q5).bind (fun q7 => some (.inl ((x2 + q7), (x3 + (1 : Int32))))))))
def f_X12_power (σ : St) (a1 : Int32) : Option (Int32 × St) := (f_X12_isOyster (sF σ 300 0 (0 : Int32)) a1).bind (fun q1 => (if q1 = 0 then some ((-1 : Int32), (sF σ 300 0 (0 : Int32))) else (iter (fun z => f_X12_power_s19 (sF σ 300 0 (0 : Int32)) a1 z.1 z.2) FU ((0 : Int32), (0 : Int32))).bind (fun z9 => (f_X12_entersFraction (sF σ 300 0 (0 : Int32)) z9.toInt64 ((1 : Int32) <<< (((cF (sF σ 300 0 (0 : Int32)) 300 3) - (1 : Int32)) &&& 31)).toInt64).bind (fun q12 => some (q12.1, q12.2)))))
theorem c_X12_power {l : Launch} {G : gT} {χ σ : St} {a1 : Int32} (hf : FW G) {q : Int32 × St} (h : f_X12_power σ a1 = some q) : Ct l G yX12_power prog_14_method_87_code 4 (some .int) 202 4849 [.ref (ga G 300), .int a1] χ σ (some (.int q.1)) χ q.2 := by
  refine Ct.of (by decide) (Nat.le_of_ble_eq_true rfl) ?_
  intro p e s m args below meth c Q X hr hlk hQ
  have hx := X.1
  have hb := X.2.1
  have b19 : ∀ (τ : St) (y1 : Int32) (x2 : Int32) (x3 : Int32) (o : (Int32 × Int32) ⊕ (Int32)), f_X12_power_s19 τ y1 x2 x3 = some o → Sum.elim (fun z : Int32 × Int32 => Wat p l e (rmk 202 4849) s m args below meth c Q G 4 19 [] [(2, .int z.1), (3, .int z.2), (0, .ref (ga G 300)), (1, .int y1)] χ τ) (fun z : Int32 => Wat p l e (rmk 202 4849) s m args below meth c Q G 4 45 [] [(0, .ref (ga G 300)), (2, .int z)] χ τ) o → Wat p l e (rmk 202 4849) s m args below meth c Q G 4 19 [] [(2, .int x2), (3, .int x3), (0, .ref (ga G 300)), (1, .int y1)] χ τ := by
    intro τ y1 x2 x3 o h hk H locs ls hw hl
    unfold f_X12_power_s19 at h
    refine lv_iload_n hx hb d_X12_power_19 rfl (lv_at hl 1 rfl) ?_
    refine lv_aload_n hx hb d_X12_power_20 rfl (lv_at hl 2 rfl) ?_
    obtain ⟨q3, e4, h⟩ := bd_some h
    refine r_callV (As := []) (rest := [.int x3]) (st' := [.int q3, .int x3]) X hw hl mwX12_all wd_1409 wp_51 wd_1407 (c_X12_all hf e4) (r_recv X hw ct8 (o_300 hf)) rfl ⟨Nat.le_of_ble_eq_true rfl, Nat.le_of_ble_eq_true rfl⟩ ⟨Nat.le_refl _, Nat.le_refl _⟩ rfl rfl (Nat.le_of_ble_eq_true rfl) d_X12_power_21 (fun H locs hw => ?_)
    refine lv_icmp_gt (tgt := 45) hx hb d_X12_power_24 (by decide) (fun hc => ?_) (fun hc => ?_)
    · have h := ite_t h hc
      obtain rfl := Option.some.inj h
      dsimp only [Sum.elim_inr] at hk
      exact hk _ _ _ hw (lv_sub hl [2, 0] rfl)
    · have h := ite_f h hc
      refine lv_iload_n hx hb d_X12_power_27 rfl (lv_at hl 0 rfl) ?_
      refine lv_aload_n hx hb d_X12_power_28 rfl (lv_at hl 2 rfl) ?_
      refine lv_iload_n hx hb d_X12_power_29 rfl (lv_at hl 1 rfl) ?_
      refine lv_iload_n hx hb d_X12_power_30 rfl (lv_at hl 3 rfl) ?_
      obtain ⟨q5, e6, h⟩ := bd_some h
      refine r_callV (As := [.int x3, .int y1]) (rest := [.int x2]) (st' := [.int q5, .int x2]) X hw hl mwX12_turnsIt wd_1471 wp_58 wd_1469 (c_X12_turnsIt hf e6) (r_recv X hw ct8 (o_300 hf)) rfl ⟨Nat.le_of_ble_eq_true rfl, Nat.le_of_ble_eq_true rfl⟩ ⟨Nat.le_refl _, Nat.le_refl _⟩ rfl rfl (Nat.le_of_ble_eq_true rfl) d_X12_power_31 (fun H locs hw => ?_)
      obtain ⟨q7, e8, h⟩ := bd_some h
      refine r_callS (As := [.int q5]) (rest := [.int x2]) (st' := [.int q7, .int x2]) X hw hl mwX12_flag wd_1180 wd_1179 (c_X12_flag hf e8) rfl ⟨Nat.le_of_ble_eq_true rfl, Nat.le_of_ble_eq_true rfl⟩ ⟨Nat.le_refl _, Nat.le_refl _⟩ rfl rfl (Nat.le_of_ble_eq_true rfl) d_X12_power_34 (fun H locs hw => ?_)
      refine lv_iadd hx hb d_X12_power_37 ?_
      refine lv_istore_n (lv' := [(2, .int (x2 + q7)), (3, .int x3), (0, .ref (ga G 300)), (1, .int y1)]) hx hb d_X12_power_38 rfl hl (Nat.le_of_ble_eq_true rfl) rfl (fun ls hl => ?_)
      refine lv_iinc (v := (x3 + (1 : Int32))) (k := 1) (lv' := [(3, .int (x3 + (1 : Int32))), (2, .int (x2 + q7)), (0, .ref (ga G 300)), (1, .int y1)]) hx hb d_X12_power_39 hl rfl (by rfl) (Nat.le_of_ble_eq_true rfl) rfl (fun ls hl => ?_)
      refine lv_goto (tgt := 19) hx hb d_X12_power_42 (by decide) ?_
      obtain rfl := Option.some.inj h
      dsimp only [Sum.elim_inl] at hk
      exact hk _ _ _ hw (lv_sub hl [1, 0, 2, 3] rfl)
  intro H locs ls hw hl
  have hl : lv_has ls 4 [(0, .ref (ga G 300)), (1, .int a1)] := hl
  unfold f_X12_power at h
  refine lv_aload_n hx hb d_X12_power_0 rfl (lv_at hl 0 rfl) ?_
  refine lv_iconst (v := (0 : Int32)) hx hb d_X12_power_1 (by decide) ?_
  refine m_puti (j := 0) X hw ct8 (o_300 hf) (Nat.le_of_ble_eq_true rfl) rfl (Nat.le_of_ble_eq_true rfl) rfl rfl rfl wd_956 d_X12_power_2 (fun H locs hw => ?_)
  refine lv_aload_n hx hb d_X12_power_5 rfl (lv_at hl 0 rfl) ?_
  refine lv_iload_n hx hb d_X12_power_6 rfl (lv_at hl 1 rfl) ?_
  obtain ⟨q1, e2, h⟩ := bd_some h
  refine r_callV (As := [.int a1]) (rest := []) (st' := [.int q1]) X hw hl mwX12_isOyster wd_1220 wp_29 wd_1218 (c_X12_isOyster hf e2) (r_recv X hw ct8 (o_300 hf)) rfl ⟨Nat.le_of_ble_eq_true rfl, Nat.le_of_ble_eq_true rfl⟩ ⟨Nat.le_refl _, Nat.le_refl _⟩ rfl rfl (Nat.le_of_ble_eq_true rfl) d_X12_power_7 (fun H locs hw => ?_)
  refine lv_if_ne (tgt := 15) hx hb d_X12_power_10 (by decide) (fun hc => ?_) (fun hc => ?_)
  · have h := ite_f h hc
    refine lv_iconst (v := (0 : Int32)) hx hb d_X12_power_15 (by decide) ?_
    refine lv_istore_n (lv' := [(2, .int (0 : Int32)), (0, .ref (ga G 300)), (1, .int a1)]) hx hb d_X12_power_16 rfl hl (Nat.le_of_ble_eq_true rfl) rfl (fun ls hl => ?_)
    refine lv_iconst (v := (0 : Int32)) hx hb d_X12_power_17 (by decide) ?_
    refine lv_istore_n (lv' := [(3, .int (0 : Int32)), (2, .int (0 : Int32)), (0, .ref (ga G 300)), (1, .int a1)]) hx hb d_X12_power_18 rfl hl (Nat.le_of_ble_eq_true rfl) rfl (fun ls hl => ?_)
    obtain ⟨z9, e10, h⟩ := bd_some h
    refine iter_w (Wh := fun z : Int32 × Int32 => Wat p l e (rmk 202 4849) s m args below meth c Q G 4 19 [] [(2, .int z.1), (3, .int z.2), (0, .ref (ga G 300)), (1, .int a1)] χ (sF σ 300 0 (0 : Int32))) (K := fun z : Int32 => Wat p l e (rmk 202 4849) s m args below meth c Q G 4 45 [] [(0, .ref (ga G 300)), (2, .int z)] χ (sF σ 300 0 (0 : Int32))) (fun z o h1 h2 => b19 (sF σ 300 0 (0 : Int32)) a1 z.1 z.2 o h1 h2) FU _ _ e10 ?_ _ _ _ hw (lv_sub hl [1, 0, 2, 3] rfl)
    intro H locs ls hw hl
    refine lv_aload_n hx hb d_X12_power_45 rfl (lv_at hl 0 rfl) ?_
    refine lv_iload_n hx hb d_X12_power_46 rfl (lv_at hl 1 rfl) ?_
    refine lv_i2l hx hb d_X12_power_47 rfl ?_
    refine lv_iconst (v := (1 : Int32)) hx hb d_X12_power_48 (by decide) ?_
    refine lv_aload_n hx hb d_X12_power_49 rfl (lv_at hl 0 rfl) ?_
    refine m_geti (j := 3) X hw ct8 (o_300 hf) (Nat.le_of_ble_eq_true rfl) rfl (Nat.le_of_ble_eq_true rfl) wd_959 d_X12_power_50 ?_
    refine lv_iconst (v := (1 : Int32)) hx hb d_X12_power_53 (by decide) ?_
    refine lv_isub hx hb d_X12_power_54 ?_
    refine lv_ishl hx hb d_X12_power_55 ?_
    refine lv_i2l hx hb d_X12_power_56 rfl ?_
    obtain ⟨q12, e13, h⟩ := bd_some h
    refine r_callV (As := [.long z9.toInt64, .long ((1 : Int32) <<< (((cF (sF σ 300 0 (0 : Int32)) 300 3) - (1 : Int32)) &&& 31)).toInt64]) (rest := []) (st' := [.int q12.1]) X hw hl mwX12_entersFraction wd_1483 wp_61 wd_1481 (c_X12_entersFraction hf e13) (r_recv X hw ct8 (o_300 hf)) rfl ⟨Nat.le_of_ble_eq_true rfl, Nat.le_of_ble_eq_true rfl⟩ ⟨Nat.le_refl _, Nat.le_refl _⟩ rfl rfl (Nat.le_of_ble_eq_true rfl) d_X12_power_57 (fun H locs hw => ?_)
    obtain rfl := Option.some.inj h
    subst hQ
    exact r_iret X hr hlk hw d_X12_power_60
  · have h := ite_t h hc
    refine lv_iconst (v := (-1 : Int32)) hx hb d_X12_power_13 (by decide) ?_
    obtain rfl := Option.some.inj h
    subst hQ
    exact r_iret X hr hlk hw d_X12_power_14
abbrev yX12_ordersOf : MethodName := ⟨"OysterBedsModel", "ordersOf", "(I)J"⟩
theorem mwX12_ordersOf : MW yX12_ordersOf prog_14_method_88_code 1 (some .long) 1 := ⟨wd_1494, wd_10, by decide +kernel⟩
theorem d_X12_ordersOf_0 : decode prog_14_method_88_code 0 = .ok (.iload_n 0, 1) := by decide +kernel
theorem d_X12_ordersOf_1 : decode prog_14_method_88_code 1 = .ok (.iconst 2, 1) := by decide +kernel
theorem d_X12_ordersOf_2 : decode prog_14_method_88_code 2 = .ok (.if_icmp .ge 7, 3) := by decide +kernel
theorem d_X12_ordersOf_5 : decode prog_14_method_88_code 5 = .ok (.lconst 1, 1) := by decide +kernel
theorem d_X12_ordersOf_6 : decode prog_14_method_88_code 6 = .ok (.goto 12, 3) := by decide +kernel
theorem d_X12_ordersOf_9 : decode prog_14_method_88_code 9 = .ok (.iload_n 0, 1) := by decide +kernel
theorem d_X12_ordersOf_10 : decode prog_14_method_88_code 10 = .ok (.i2l, 1) := by decide +kernel
theorem d_X12_ordersOf_11 : decode prog_14_method_88_code 11 = .ok (.iload_n 0, 1) := by decide +kernel
theorem d_X12_ordersOf_12 : decode prog_14_method_88_code 12 = .ok (.iconst 1, 1) := by decide +kernel
theorem d_X12_ordersOf_13 : decode prog_14_method_88_code 13 = .ok (.isub, 1) := by decide +kernel
theorem d_X12_ordersOf_14 : decode prog_14_method_88_code 14 = .ok (.invokestatic 366, 3) := by decide +kernel
theorem d_X12_ordersOf_17 : decode prog_14_method_88_code 17 = .ok (.lmul, 1) := by decide +kernel
theorem d_X12_ordersOf_18 : decode prog_14_method_88_code 18 = .ok (.lreturn, 1) := by decide +kernel
def f_X12_ordersOf_b (rec_X12_ordersOf : Int32 → Option (Int64)) (a0 : Int32) : Option (Int64) := (if (2 : Int32) ≤ a0 then (rec_X12_ordersOf (a0 - (1 : Int32))).bind (fun q1 => some (a0.toInt64 * q1)) else some (1 : Int64))
theorem c_X12_ordersOf_b {l : Launch} {G : gT} {χ σ : St} {d : Nat} (rec_X12_ordersOf : Int32 → Option (Int64)) {a0 : Int32} (hf : FW G) (hrec_X12_ordersOf : ∀ {χ σ : St} {a0 : Int32} {q : Int64}, rec_X12_ordersOf a0 = some q → Ct l G yX12_ordersOf prog_14_method_88_code 1 (some .long) (d + 0) (d * 24 + 0) [.int a0] χ σ (some (.long q)) χ σ) {q : Int64} (h : f_X12_ordersOf_b rec_X12_ordersOf a0 = some q) : Ct l G yX12_ordersOf prog_14_method_88_code 1 (some .long) (d + 1 + 0) ((d + 1) * 24 + 0) [.int a0] χ σ (some (.long q)) χ σ := by
  refine Ct.of (by decide) (Nat.le_of_ble_eq_true rfl) ?_
  intro p e s m args below meth c Q X hr hlk hQ
  have hx := X.1
  have hb := X.2.1
  intro H locs ls hw hl
  have hl : lv_has ls 1 [(0, .int a0)] := hl
  unfold f_X12_ordersOf_b at h
  refine lv_iload_n hx hb d_X12_ordersOf_0 rfl (lv_at hl 0 rfl) ?_
  refine lv_iconst (v := (2 : Int32)) hx hb d_X12_ordersOf_1 (by decide) ?_
  refine lv_icmp_ge (tgt := 9) hx hb d_X12_ordersOf_2 (by decide) (fun hc => ?_) (fun hc => ?_)
  · have h := ite_t h hc
    refine lv_iload_n hx hb d_X12_ordersOf_9 rfl (lv_at hl 0 rfl) ?_
    refine lv_i2l hx hb d_X12_ordersOf_10 rfl ?_
    refine lv_iload_n hx hb d_X12_ordersOf_11 rfl (lv_at hl 0 rfl) ?_
    refine lv_iconst (v := (1 : Int32)) hx hb d_X12_ordersOf_12 (by decide) ?_
    refine lv_isub hx hb d_X12_ordersOf_13 ?_
    obtain ⟨q1, e2, h⟩ := bd_some h
    refine r_callS (As := [.int (a0 - (1 : Int32))]) (rest := [.long a0.toInt64]) (st' := [.long q1, .long a0.toInt64]) X hw hl mwX12_ordersOf wd_1493 wd_1492 (hrec_X12_ordersOf e2) rfl ⟨Nat.le_refl _, by show 8 + (1 + 11) + (d * 24 + 0) ≤ (d + 1) * 24 + 0; omega⟩ ⟨Nat.le_refl _, Nat.le_refl _⟩ rfl rfl (Nat.le_of_ble_eq_true rfl) d_X12_ordersOf_14 (fun H locs hw => ?_)
    refine lv_lmul hx hb d_X12_ordersOf_17 ?_
    obtain rfl := Option.some.inj h
    subst hQ
    exact r_lret X hr hlk hw d_X12_ordersOf_18
  · have h := ite_f h hc
    refine lv_lconst (v := (1 : Int64)) hx hb d_X12_ordersOf_5 (by decide) ?_
    refine lv_goto (tgt := 18) hx hb d_X12_ordersOf_6 (by decide) ?_
    obtain rfl := Option.some.inj h
    subst hQ
    exact r_lret X hr hlk hw d_X12_ordersOf_18
def f_X12_ordersOf : Nat → Int32 → Option (Int64)
  | 0 => fun _ => none
  | d + 1 => f_X12_ordersOf_b (f_X12_ordersOf d)
theorem cd_X12_ordersOf {l : Launch} {G : gT} (hf : FW G) : ∀ (d : Nat), ∀ {χ σ : St} {a0 : Int32} {q : Int64}, f_X12_ordersOf d a0 = some q → Ct l G yX12_ordersOf prog_14_method_88_code 1 (some .long) (d + 0) (d * 24 + 0) [.int a0] χ σ (some (.long q)) χ σ := by
  intro d
  induction d with
  | zero => intro χ σ a0 q h; cases h
  | succ d ih => intro χ σ a0 q h; exact c_X12_ordersOf_b (f_X12_ordersOf d) hf ih h
theorem c_X12_ordersOf {l : Launch} {G : gT} {χ σ : St} {a0 : Int32} {q : Int64} (hf : FW G) (h : f_X12_ordersOf 20 a0 = some q) : Ct l G yX12_ordersOf prog_14_method_88_code 1 (some .long) 20 480 [.int a0] χ σ (some (.long q)) χ σ := cd_X12_ordersOf hf 20 h
abbrev yX12_pivots : MethodName := ⟨"OysterBedsModel", "pivots", "(I)I"⟩
theorem mwX12_pivots : MW yX12_pivots prog_14_method_89_code 6 (some .int) 1 := ⟨wd_1491, wd_10, by decide +kernel⟩
theorem d_X12_pivots_0 : decode prog_14_method_89_code 0 = .ok (.aload_n 0, 1) := by decide +kernel
theorem d_X12_pivots_1 : decode prog_14_method_89_code 1 = .ok (.iconst 0, 1) := by decide +kernel
theorem d_X12_pivots_2 : decode prog_14_method_89_code 2 = .ok (.putfield 87, 3) := by decide +kernel
theorem d_X12_pivots_5 : decode prog_14_method_89_code 5 = .ok (.aload_n 0, 1) := by decide +kernel
theorem d_X12_pivots_6 : decode prog_14_method_89_code 6 = .ok (.iload_n 1, 1) := by decide +kernel
theorem d_X12_pivots_7 : decode prog_14_method_89_code 7 = .ok (.invokevirtual 243, 3) := by decide +kernel
theorem d_X12_pivots_10 : decode prog_14_method_89_code 10 = .ok (.ifCond .ne 5, 3) := by decide +kernel
theorem d_X12_pivots_13 : decode prog_14_method_89_code 13 = .ok (.iconst (-1), 1) := by decide +kernel
theorem d_X12_pivots_14 : decode prog_14_method_89_code 14 = .ok (.ireturn, 1) := by decide +kernel
theorem d_X12_pivots_15 : decode prog_14_method_89_code 15 = .ok (.lconst 0, 1) := by decide +kernel
theorem d_X12_pivots_16 : decode prog_14_method_89_code 16 = .ok (.lstore_n 2, 1) := by decide +kernel
theorem d_X12_pivots_17 : decode prog_14_method_89_code 17 = .ok (.iconst 0, 1) := by decide +kernel
theorem d_X12_pivots_18 : decode prog_14_method_89_code 18 = .ok (.istore 4, 2) := by decide +kernel
theorem d_X12_pivots_20 : decode prog_14_method_89_code 20 = .ok (.iload 4, 2) := by decide +kernel
theorem d_X12_pivots_22 : decode prog_14_method_89_code 22 = .ok (.aload_n 0, 1) := by decide +kernel
theorem d_X12_pivots_23 : decode prog_14_method_89_code 23 = .ok (.invokevirtual 323, 3) := by decide +kernel
theorem d_X12_pivots_26 : decode prog_14_method_89_code 26 = .ok (.if_icmp .gt 51, 3) := by decide +kernel
theorem d_X12_pivots_29 : decode prog_14_method_89_code 29 = .ok (.iload 4, 2) := by decide +kernel
theorem d_X12_pivots_31 : decode prog_14_method_89_code 31 = .ok (.invokestatic 235, 3) := by decide +kernel
theorem d_X12_pivots_34 : decode prog_14_method_89_code 34 = .ok (.istore 5, 2) := by decide +kernel
theorem d_X12_pivots_36 : decode prog_14_method_89_code 36 = .ok (.lload_n 2, 1) := by decide +kernel
theorem d_X12_pivots_37 : decode prog_14_method_89_code 37 = .ok (.aload_n 0, 1) := by decide +kernel
theorem d_X12_pivots_38 : decode prog_14_method_89_code 38 = .ok (.iload 4, 2) := by decide +kernel
theorem d_X12_pivots_40 : decode prog_14_method_89_code 40 = .ok (.iload_n 1, 1) := by decide +kernel
theorem d_X12_pivots_41 : decode prog_14_method_89_code 41 = .ok (.invokevirtual 359, 3) := by decide +kernel
theorem d_X12_pivots_44 : decode prog_14_method_89_code 44 = .ok (.ifCond .eq 24, 3) := by decide +kernel
theorem d_X12_pivots_47 : decode prog_14_method_89_code 47 = .ok (.iload 5, 2) := by decide +kernel
theorem d_X12_pivots_49 : decode prog_14_method_89_code 49 = .ok (.invokestatic 366, 3) := by decide +kernel
theorem d_X12_pivots_52 : decode prog_14_method_89_code 52 = .ok (.aload_n 0, 1) := by decide +kernel
theorem d_X12_pivots_53 : decode prog_14_method_89_code 53 = .ok (.getfield 102, 3) := by decide +kernel
theorem d_X12_pivots_56 : decode prog_14_method_89_code 56 = .ok (.iconst 1, 1) := by decide +kernel
theorem d_X12_pivots_57 : decode prog_14_method_89_code 57 = .ok (.isub, 1) := by decide +kernel
theorem d_X12_pivots_58 : decode prog_14_method_89_code 58 = .ok (.iload 5, 2) := by decide +kernel
theorem d_X12_pivots_60 : decode prog_14_method_89_code 60 = .ok (.isub, 1) := by decide +kernel
theorem d_X12_pivots_61 : decode prog_14_method_89_code 61 = .ok (.invokestatic 366, 3) := by decide +kernel
theorem d_X12_pivots_64 : decode prog_14_method_89_code 64 = .ok (.lmul, 1) := by decide +kernel
theorem d_X12_pivots_65 : decode prog_14_method_89_code 65 = .ok (.goto 4, 3) := by decide +kernel
theorem d_X12_pivots_68 : decode prog_14_method_89_code 68 = .ok (.lconst 0, 1) := by decide +kernel
theorem d_X12_pivots_69 : decode prog_14_method_89_code 69 = .ok (.ladd, 1) := by decide +kernel
theorem d_X12_pivots_70 : decode prog_14_method_89_code 70 = .ok (.lstore_n 2, 1) := by decide +kernel
theorem d_X12_pivots_71 : decode prog_14_method_89_code 71 = .ok (.iinc 4 1, 3) := by decide +kernel
theorem d_X12_pivots_74 : decode prog_14_method_89_code 74 = .ok (.goto (-54), 3) := by decide +kernel
theorem d_X12_pivots_77 : decode prog_14_method_89_code 77 = .ok (.aload_n 0, 1) := by decide +kernel
theorem d_X12_pivots_78 : decode prog_14_method_89_code 78 = .ok (.lload_n 2, 1) := by decide +kernel
theorem d_X12_pivots_79 : decode prog_14_method_89_code 79 = .ok (.aload_n 0, 1) := by decide +kernel
theorem d_X12_pivots_80 : decode prog_14_method_89_code 80 = .ok (.getfield 102, 3) := by decide +kernel
theorem d_X12_pivots_83 : decode prog_14_method_89_code 83 = .ok (.invokestatic 366, 3) := by decide +kernel
theorem d_X12_pivots_86 : decode prog_14_method_89_code 86 = .ok (.invokevirtual 362, 3) := by decide +kernel
theorem d_X12_pivots_89 : decode prog_14_method_89_code 89 = .ok (.ireturn, 1) := by decide +kernel
def f_X12_pivots_j69_20 (τ : St) (x1 : Int32) (x4 : Int32) (s0 : Int64) (s1 : Int64) : Option ((Int64 × Int32) ⊕ (Int64)) := some (.inl ((s0 + s1), (x4 + (1 : Int32))))
def f_X12_pivots_s20 (τ : St) (y1 : Int32) (x2 : Int64) (x4 : Int32) : Option ((Int64 × Int32) ⊕ (Int64)) := (f_X12_all τ).bind (fun q3 => (if q3 < x4 then some (.inr x2) else (f_J6_bitCount_0f7a4 x4).bind (fun q5 => (f_X12_turnsIt τ x4 y1).bind (fun q7 => (if q7 = 0 then f_X12_pivots_j69_20 τ y1 x4 x2 (0 : Int64) else (f_X12_ordersOf 20 q5).bind (fun q9 => (f_X12_ordersOf 20 (((cF τ 300 3) - (1 : Int32)) - q5)).bind (fun q11 => f_X12_pivots_j69_20 τ y1 x4 x2 (q9 * q11))))))))
def f_X12_pivots (σ : St) (a1 : Int32) : Option (Int32 × St) := (f_X12_isOyster (sF σ 300 0 (0 : Int32)) a1).bind (fun q1 => (if q1 = 0 then some ((-1 : Int32), (sF σ 300 0 (0 : Int32))) else (iter (fun z => f_X12_pivots_s20 (sF σ 300 0 (0 : Int32)) a1 z.1 z.2) FU ((0 : Int64), (0 : Int32))).bind (fun z13 => (f_X12_ordersOf 20 (cF (sF σ 300 0 (0 : Int32)) 300 3)).bind (fun q16 => (f_X12_entersFraction (sF σ 300 0 (0 : Int32)) z13 q16).bind (fun q18 => some (q18.1, q18.2))))))
theorem c_X12_pivots {l : Launch} {G : gT} {χ σ : St} {a1 : Int32} (hf : FW G) {q : Int32 × St} (h : f_X12_pivots σ a1 = some q) : Ct l G yX12_pivots prog_14_method_89_code 6 (some .int) 202 4849 [.ref (ga G 300), .int a1] χ σ (some (.int q.1)) χ q.2 := by
  refine Ct.of (by decide) (Nat.le_of_ble_eq_true rfl) ?_
  intro p e s m args below meth c Q X hr hlk hQ
  have hx := X.1
  have hb := X.2.1
  have j69_20 : ∀ (τ : St) (x1 : Int32) (x4 : Int32) (s0 : Int64) (s1 : Int64) (o : (Int64 × Int32) ⊕ (Int64)), f_X12_pivots_j69_20 τ x1 x4 s0 s1 = some o → Sum.elim (fun z : Int64 × Int32 => Wat p l e (rmk 202 4849) s m args below meth c Q G 6 20 [] [(2, .long z.1), (4, .int z.2), (0, .ref (ga G 300)), (1, .int x1)] χ τ) (fun z : Int64 => Wat p l e (rmk 202 4849) s m args below meth c Q G 6 77 [] [(0, .ref (ga G 300)), (2, .long z)] χ τ) o → Wat p l e (rmk 202 4849) s m args below meth c Q G 6 69 [.long s1, .long s0] [(0, .ref (ga G 300)), (1, .int x1), (4, .int x4)] χ τ := by
    intro τ x1 x4 s0 s1 o h hk H locs ls hw hl
    unfold f_X12_pivots_j69_20 at h
    refine lv_ladd hx hb d_X12_pivots_69 ?_
    refine lv_lstore_n (lv' := [(2, .long (s0 + s1)), (0, .ref (ga G 300)), (1, .int x1), (4, .int x4)]) hx hb d_X12_pivots_70 rfl hl (Nat.le_of_ble_eq_true rfl) rfl (fun ls hl => ?_)
    refine lv_iinc (v := (x4 + (1 : Int32))) (k := 3) (lv' := [(4, .int (x4 + (1 : Int32))), (2, .long (s0 + s1)), (0, .ref (ga G 300)), (1, .int x1)]) hx hb d_X12_pivots_71 hl rfl (by rfl) (Nat.le_of_ble_eq_true rfl) rfl (fun ls hl => ?_)
    refine lv_goto (tgt := 20) hx hb d_X12_pivots_74 (by decide) ?_
    obtain rfl := Option.some.inj h
    dsimp only [Sum.elim_inl] at hk
    exact hk _ _ _ hw (lv_sub hl [1, 0, 2, 3] rfl)
  have b20 : ∀ (τ : St) (y1 : Int32) (x2 : Int64) (x4 : Int32) (o : (Int64 × Int32) ⊕ (Int64)), f_X12_pivots_s20 τ y1 x2 x4 = some o → Sum.elim (fun z : Int64 × Int32 => Wat p l e (rmk 202 4849) s m args below meth c Q G 6 20 [] [(2, .long z.1), (4, .int z.2), (0, .ref (ga G 300)), (1, .int y1)] χ τ) (fun z : Int64 => Wat p l e (rmk 202 4849) s m args below meth c Q G 6 77 [] [(0, .ref (ga G 300)), (2, .long z)] χ τ) o → Wat p l e (rmk 202 4849) s m args below meth c Q G 6 20 [] [(2, .long x2), (4, .int x4), (0, .ref (ga G 300)), (1, .int y1)] χ τ := by
    intro τ y1 x2 x4 o h hk H locs ls hw hl
    unfold f_X12_pivots_s20 at h
    refine lv_iload hx hb d_X12_pivots_20 (lv_at hl 1 rfl) ?_
    refine lv_aload_n hx hb d_X12_pivots_22 rfl (lv_at hl 2 rfl) ?_
    obtain ⟨q3, e4, h⟩ := bd_some h
    refine r_callV (As := []) (rest := [.int x4]) (st' := [.int q3, .int x4]) X hw hl mwX12_all wd_1409 wp_51 wd_1407 (c_X12_all hf e4) (r_recv X hw ct8 (o_300 hf)) rfl ⟨Nat.le_of_ble_eq_true rfl, Nat.le_of_ble_eq_true rfl⟩ ⟨Nat.le_refl _, Nat.le_refl _⟩ rfl rfl (Nat.le_of_ble_eq_true rfl) d_X12_pivots_23 (fun H locs hw => ?_)
    refine lv_icmp_gt (tgt := 77) hx hb d_X12_pivots_26 (by decide) (fun hc => ?_) (fun hc => ?_)
    · have h := ite_t h hc
      obtain rfl := Option.some.inj h
      dsimp only [Sum.elim_inr] at hk
      exact hk _ _ _ hw (lv_sub hl [2, 0] rfl)
    · have h := ite_f h hc
      refine lv_iload hx hb d_X12_pivots_29 (lv_at hl 1 rfl) ?_
      obtain ⟨q5, e6, h⟩ := bd_some h
      refine r_callS (As := [.int x4]) (rest := []) (st' := [.int q5]) X hw hl mwJ6_bitCount_0f7a4 wd_436 wd_1272 (c_J6_bitCount_0f7a4 e6) rfl ⟨Nat.le_of_ble_eq_true rfl, Nat.le_of_ble_eq_true rfl⟩ ⟨Nat.le_refl _, Nat.le_refl _⟩ rfl rfl (Nat.le_of_ble_eq_true rfl) d_X12_pivots_31 (fun H locs hw => ?_)
      refine lv_istore (lv' := [(5, .int q5), (2, .long x2), (4, .int x4), (0, .ref (ga G 300)), (1, .int y1)]) hx hb d_X12_pivots_34 hl (Nat.le_of_ble_eq_true rfl) rfl (fun ls hl => ?_)
      refine lv_lload_n hx hb d_X12_pivots_36 rfl (lv_at hl 1 rfl) ?_
      refine lv_aload_n hx hb d_X12_pivots_37 rfl (lv_at hl 3 rfl) ?_
      refine lv_iload hx hb d_X12_pivots_38 (lv_at hl 2 rfl) ?_
      refine lv_iload_n hx hb d_X12_pivots_40 rfl (lv_at hl 4 rfl) ?_
      obtain ⟨q7, e8, h⟩ := bd_some h
      refine r_callV (As := [.int x4, .int y1]) (rest := [.long x2]) (st' := [.int q7, .long x2]) X hw hl mwX12_turnsIt wd_1471 wp_58 wd_1469 (c_X12_turnsIt hf e8) (r_recv X hw ct8 (o_300 hf)) rfl ⟨Nat.le_of_ble_eq_true rfl, Nat.le_of_ble_eq_true rfl⟩ ⟨Nat.le_refl _, Nat.le_refl _⟩ rfl rfl (Nat.le_of_ble_eq_true rfl) d_X12_pivots_41 (fun H locs hw => ?_)
      refine lv_if_eq (tgt := 68) hx hb d_X12_pivots_44 (by decide) (fun hc => ?_) (fun hc => ?_)
      · have h := ite_t h hc
        refine lv_lconst (v := (0 : Int64)) hx hb d_X12_pivots_68 (by decide) ?_
        exact j69_20 τ y1 x4 x2 (0 : Int64) o h hk _ _ _ hw (lv_sub hl [3, 4, 2] rfl)
      · have h := ite_f h hc
        refine lv_iload hx hb d_X12_pivots_47 (lv_at hl 0 rfl) ?_
        obtain ⟨q9, e10, h⟩ := bd_some h
        refine r_callS (As := [.int q5]) (rest := [.long x2]) (st' := [.long q9, .long x2]) X hw hl mwX12_ordersOf wd_1493 wd_1492 (c_X12_ordersOf hf e10) rfl ⟨Nat.le_of_ble_eq_true rfl, Nat.le_of_ble_eq_true rfl⟩ ⟨Nat.le_refl _, Nat.le_refl _⟩ rfl rfl (Nat.le_of_ble_eq_true rfl) d_X12_pivots_49 (fun H locs hw => ?_)
        refine lv_aload_n hx hb d_X12_pivots_52 rfl (lv_at hl 3 rfl) ?_
        refine m_geti (j := 3) X hw ct8 (o_300 hf) (Nat.le_of_ble_eq_true rfl) rfl (Nat.le_of_ble_eq_true rfl) wd_959 d_X12_pivots_53 ?_
        refine lv_iconst (v := (1 : Int32)) hx hb d_X12_pivots_56 (by decide) ?_
        refine lv_isub hx hb d_X12_pivots_57 ?_
        refine lv_iload hx hb d_X12_pivots_58 (lv_at hl 0 rfl) ?_
        refine lv_isub hx hb d_X12_pivots_60 ?_
        obtain ⟨q11, e12, h⟩ := bd_some h
        refine r_callS (As := [.int (((cF τ 300 3) - (1 : Int32)) - q5)]) (rest := [.long q9, .long x2]) (st' := [.long q11, .long q9, .long x2]) X hw hl mwX12_ordersOf wd_1493 wd_1492 (c_X12_ordersOf hf e12) rfl ⟨Nat.le_of_ble_eq_true rfl, Nat.le_of_ble_eq_true rfl⟩ ⟨Nat.le_refl _, Nat.le_refl _⟩ rfl rfl (Nat.le_of_ble_eq_true rfl) d_X12_pivots_61 (fun H locs hw => ?_)
        refine lv_lmul hx hb d_X12_pivots_64 ?_
        refine lv_goto (tgt := 69) hx hb d_X12_pivots_65 (by decide) ?_
        exact j69_20 τ y1 x4 x2 (q9 * q11) o h hk _ _ _ hw (lv_sub hl [3, 4, 2] rfl)
  intro H locs ls hw hl
  have hl : lv_has ls 6 [(0, .ref (ga G 300)), (1, .int a1)] := hl
  unfold f_X12_pivots at h
  refine lv_aload_n hx hb d_X12_pivots_0 rfl (lv_at hl 0 rfl) ?_
  refine lv_iconst (v := (0 : Int32)) hx hb d_X12_pivots_1 (by decide) ?_
  refine m_puti (j := 0) X hw ct8 (o_300 hf) (Nat.le_of_ble_eq_true rfl) rfl (Nat.le_of_ble_eq_true rfl) rfl rfl rfl wd_956 d_X12_pivots_2 (fun H locs hw => ?_)
  refine lv_aload_n hx hb d_X12_pivots_5 rfl (lv_at hl 0 rfl) ?_
  refine lv_iload_n hx hb d_X12_pivots_6 rfl (lv_at hl 1 rfl) ?_
  obtain ⟨q1, e2, h⟩ := bd_some h
  refine r_callV (As := [.int a1]) (rest := []) (st' := [.int q1]) X hw hl mwX12_isOyster wd_1220 wp_29 wd_1218 (c_X12_isOyster hf e2) (r_recv X hw ct8 (o_300 hf)) rfl ⟨Nat.le_of_ble_eq_true rfl, Nat.le_of_ble_eq_true rfl⟩ ⟨Nat.le_refl _, Nat.le_refl _⟩ rfl rfl (Nat.le_of_ble_eq_true rfl) d_X12_pivots_7 (fun H locs hw => ?_)
  refine lv_if_ne (tgt := 15) hx hb d_X12_pivots_10 (by decide) (fun hc => ?_) (fun hc => ?_)
  · have h := ite_f h hc
    refine lv_lconst (v := (0 : Int64)) hx hb d_X12_pivots_15 (by decide) ?_
    refine lv_lstore_n (lv' := [(2, .long (0 : Int64)), (0, .ref (ga G 300)), (1, .int a1)]) hx hb d_X12_pivots_16 rfl hl (Nat.le_of_ble_eq_true rfl) rfl (fun ls hl => ?_)
    refine lv_iconst (v := (0 : Int32)) hx hb d_X12_pivots_17 (by decide) ?_
    refine lv_istore (lv' := [(4, .int (0 : Int32)), (2, .long (0 : Int64)), (0, .ref (ga G 300)), (1, .int a1)]) hx hb d_X12_pivots_18 hl (Nat.le_of_ble_eq_true rfl) rfl (fun ls hl => ?_)
    obtain ⟨z13, e14, h⟩ := bd_some h
    refine iter_w (Wh := fun z : Int64 × Int32 => Wat p l e (rmk 202 4849) s m args below meth c Q G 6 20 [] [(2, .long z.1), (4, .int z.2), (0, .ref (ga G 300)), (1, .int a1)] χ (sF σ 300 0 (0 : Int32))) (K := fun z : Int64 => Wat p l e (rmk 202 4849) s m args below meth c Q G 6 77 [] [(0, .ref (ga G 300)), (2, .long z)] χ (sF σ 300 0 (0 : Int32))) (fun z o h1 h2 => b20 (sF σ 300 0 (0 : Int32)) a1 z.1 z.2 o h1 h2) FU _ _ e14 ?_ _ _ _ hw (lv_sub hl [1, 0, 2, 3] rfl)
    intro H locs ls hw hl
    refine lv_aload_n hx hb d_X12_pivots_77 rfl (lv_at hl 0 rfl) ?_
    refine lv_lload_n hx hb d_X12_pivots_78 rfl (lv_at hl 1 rfl) ?_
    refine lv_aload_n hx hb d_X12_pivots_79 rfl (lv_at hl 0 rfl) ?_
    refine m_geti (j := 3) X hw ct8 (o_300 hf) (Nat.le_of_ble_eq_true rfl) rfl (Nat.le_of_ble_eq_true rfl) wd_959 d_X12_pivots_80 ?_
    obtain ⟨q16, e17, h⟩ := bd_some h
    refine r_callS (As := [.int (cF (sF σ 300 0 (0 : Int32)) 300 3)]) (rest := [.long z13, .ref (ga G 300)]) (st' := [.long q16, .long z13, .ref (ga G 300)]) X hw hl mwX12_ordersOf wd_1493 wd_1492 (c_X12_ordersOf hf e17) rfl ⟨Nat.le_of_ble_eq_true rfl, Nat.le_of_ble_eq_true rfl⟩ ⟨Nat.le_refl _, Nat.le_refl _⟩ rfl rfl (Nat.le_of_ble_eq_true rfl) d_X12_pivots_83 (fun H locs hw => ?_)
    obtain ⟨q18, e19, h⟩ := bd_some h
    refine r_callV (As := [.long z13, .long q16]) (rest := []) (st' := [.int q18.1]) X hw hl mwX12_entersFraction wd_1483 wp_61 wd_1481 (c_X12_entersFraction hf e19) (r_recv X hw ct8 (o_300 hf)) rfl ⟨Nat.le_of_ble_eq_true rfl, Nat.le_of_ble_eq_true rfl⟩ ⟨Nat.le_refl _, Nat.le_refl _⟩ rfl rfl (Nat.le_of_ble_eq_true rfl) d_X12_pivots_86 (fun H locs hw => ?_)
    obtain rfl := Option.some.inj h
    subst hQ
    exact r_iret X hr hlk hw d_X12_pivots_89
  · have h := ite_t h hc
    refine lv_iconst (v := (-1 : Int32)) hx hb d_X12_pivots_13 (by decide) ?_
    obtain rfl := Option.some.inj h
    subst hQ
    exact r_iret X hr hlk hw d_X12_pivots_14
abbrev yX12_rules : MethodName := ⟨"OysterBedsModel", "rules", "()I"⟩
theorem mwX12_rules : MW yX12_rules prog_14_method_90_code 6 (some .int) 0 := ⟨wd_1498, wd_10, by decide +kernel⟩
theorem d_X12_rules_0 : decode prog_14_method_90_code 0 = .ok (.aload_n 0, 1) := by decide +kernel
theorem d_X12_rules_1 : decode prog_14_method_90_code 1 = .ok (.iconst 0, 1) := by decide +kernel
theorem d_X12_rules_2 : decode prog_14_method_90_code 2 = .ok (.putfield 87, 3) := by decide +kernel
theorem d_X12_rules_5 : decode prog_14_method_90_code 5 = .ok (.iconst (-1), 1) := by decide +kernel
theorem d_X12_rules_6 : decode prog_14_method_90_code 6 = .ok (.istore_n 1, 1) := by decide +kernel
theorem d_X12_rules_7 : decode prog_14_method_90_code 7 = .ok (.iconst 1, 1) := by decide +kernel
theorem d_X12_rules_8 : decode prog_14_method_90_code 8 = .ok (.istore_n 2, 1) := by decide +kernel
theorem d_X12_rules_9 : decode prog_14_method_90_code 9 = .ok (.iload_n 2, 1) := by decide +kernel
theorem d_X12_rules_10 : decode prog_14_method_90_code 10 = .ok (.aload_n 0, 1) := by decide +kernel
theorem d_X12_rules_11 : decode prog_14_method_90_code 11 = .ok (.invokevirtual 323, 3) := by decide +kernel
theorem d_X12_rules_14 : decode prog_14_method_90_code 14 = .ok (.if_icmp .gt 31, 3) := by decide +kernel
theorem d_X12_rules_17 : decode prog_14_method_90_code 17 = .ok (.aload_n 0, 1) := by decide +kernel
theorem d_X12_rules_18 : decode prog_14_method_90_code 18 = .ok (.iload_n 2, 1) := by decide +kernel
theorem d_X12_rules_19 : decode prog_14_method_90_code 19 = .ok (.invokevirtual 356, 3) := by decide +kernel
theorem d_X12_rules_22 : decode prog_14_method_90_code 22 = .ok (.ifCond .eq 15, 3) := by decide +kernel
theorem d_X12_rules_25 : decode prog_14_method_90_code 25 = .ok (.iload_n 2, 1) := by decide +kernel
theorem d_X12_rules_26 : decode prog_14_method_90_code 26 = .ok (.iload_n 1, 1) := by decide +kernel
theorem d_X12_rules_27 : decode prog_14_method_90_code 27 = .ok (.invokestatic 344, 3) := by decide +kernel
theorem d_X12_rules_30 : decode prog_14_method_90_code 30 = .ok (.ifCond .eq 7, 3) := by decide +kernel
theorem d_X12_rules_33 : decode prog_14_method_90_code 33 = .ok (.iload_n 2, 1) := by decide +kernel
theorem d_X12_rules_34 : decode prog_14_method_90_code 34 = .ok (.goto 4, 3) := by decide +kernel
theorem d_X12_rules_37 : decode prog_14_method_90_code 37 = .ok (.iload_n 1, 1) := by decide +kernel
theorem d_X12_rules_38 : decode prog_14_method_90_code 38 = .ok (.istore_n 1, 1) := by decide +kernel
theorem d_X12_rules_39 : decode prog_14_method_90_code 39 = .ok (.iinc 2 1, 3) := by decide +kernel
theorem d_X12_rules_42 : decode prog_14_method_90_code 42 = .ok (.goto (-33), 3) := by decide +kernel
theorem d_X12_rules_45 : decode prog_14_method_90_code 45 = .ok (.aload_n 0, 1) := by decide +kernel
theorem d_X12_rules_46 : decode prog_14_method_90_code 46 = .ok (.iload_n 1, 1) := by decide +kernel
theorem d_X12_rules_47 : decode prog_14_method_90_code 47 = .ok (.invokevirtual 347, 3) := by decide +kernel
theorem d_X12_rules_50 : decode prog_14_method_90_code 50 = .ok (.istore_n 2, 1) := by decide +kernel
theorem d_X12_rules_51 : decode prog_14_method_90_code 51 = .ok (.iload_n 1, 1) := by decide +kernel
theorem d_X12_rules_52 : decode prog_14_method_90_code 52 = .ok (.ifCond .lt 62, 3) := by decide +kernel
theorem d_X12_rules_55 : decode prog_14_method_90_code 55 = .ok (.iconst 0, 1) := by decide +kernel
theorem d_X12_rules_56 : decode prog_14_method_90_code 56 = .ok (.istore_n 3, 1) := by decide +kernel
theorem d_X12_rules_57 : decode prog_14_method_90_code 57 = .ok (.iconst 0, 1) := by decide +kernel
theorem d_X12_rules_58 : decode prog_14_method_90_code 58 = .ok (.istore 4, 2) := by decide +kernel
theorem d_X12_rules_60 : decode prog_14_method_90_code 60 = .ok (.iload 4, 2) := by decide +kernel
theorem d_X12_rules_62 : decode prog_14_method_90_code 62 = .ok (.iconst 4, 1) := by decide +kernel
theorem d_X12_rules_63 : decode prog_14_method_90_code 63 = .ok (.if_icmp .ge 45, 3) := by decide +kernel
theorem d_X12_rules_66 : decode prog_14_method_90_code 66 = .ok (.aload_n 0, 1) := by decide +kernel
theorem d_X12_rules_67 : decode prog_14_method_90_code 67 = .ok (.aload_n 0, 1) := by decide +kernel
theorem d_X12_rules_68 : decode prog_14_method_90_code 68 = .ok (.getfield 17, 3) := by decide +kernel
theorem d_X12_rules_71 : decode prog_14_method_90_code 71 = .ok (.iload 4, 2) := by decide +kernel
theorem d_X12_rules_73 : decode prog_14_method_90_code 73 = .ok (.invokevirtual 310, 3) := by decide +kernel
theorem d_X12_rules_76 : decode prog_14_method_90_code 76 = .ok (.iload_n 1, 1) := by decide +kernel
theorem d_X12_rules_77 : decode prog_14_method_90_code 77 = .ok (.iand, 1) := by decide +kernel
theorem d_X12_rules_78 : decode prog_14_method_90_code 78 = .ok (.istore 5, 2) := by decide +kernel
theorem d_X12_rules_80 : decode prog_14_method_90_code 80 = .ok (.iload_n 3, 1) := by decide +kernel
theorem d_X12_rules_81 : decode prog_14_method_90_code 81 = .ok (.iload 5, 2) := by decide +kernel
theorem d_X12_rules_83 : decode prog_14_method_90_code 83 = .ok (.ifCond .eq 9, 3) := by decide +kernel
theorem d_X12_rules_86 : decode prog_14_method_90_code 86 = .ok (.iload 5, 2) := by decide +kernel
theorem d_X12_rules_88 : decode prog_14_method_90_code 88 = .ok (.iload_n 1, 1) := by decide +kernel
theorem d_X12_rules_89 : decode prog_14_method_90_code 89 = .ok (.if_icmp .ne 7, 3) := by decide +kernel
theorem d_X12_rules_92 : decode prog_14_method_90_code 92 = .ok (.iconst 1, 1) := by decide +kernel
theorem d_X12_rules_93 : decode prog_14_method_90_code 93 = .ok (.goto 4, 3) := by decide +kernel
theorem d_X12_rules_96 : decode prog_14_method_90_code 96 = .ok (.iconst 0, 1) := by decide +kernel
theorem d_X12_rules_97 : decode prog_14_method_90_code 97 = .ok (.invokestatic 135, 3) := by decide +kernel
theorem d_X12_rules_100 : decode prog_14_method_90_code 100 = .ok (.iadd, 1) := by decide +kernel
theorem d_X12_rules_101 : decode prog_14_method_90_code 101 = .ok (.istore_n 3, 1) := by decide +kernel
theorem d_X12_rules_102 : decode prog_14_method_90_code 102 = .ok (.iinc 4 1, 3) := by decide +kernel
theorem d_X12_rules_105 : decode prog_14_method_90_code 105 = .ok (.goto (-45), 3) := by decide +kernel
theorem d_X12_rules_108 : decode prog_14_method_90_code 108 = .ok (.aload_n 0, 1) := by decide +kernel
theorem d_X12_rules_109 : decode prog_14_method_90_code 109 = .ok (.iload_n 3, 1) := by decide +kernel
theorem d_X12_rules_110 : decode prog_14_method_90_code 110 = .ok (.i2l, 1) := by decide +kernel
theorem d_X12_rules_111 : decode prog_14_method_90_code 111 = .ok (.invokevirtual 98, 3) := by decide +kernel
theorem d_X12_rules_114 : decode prog_14_method_90_code 114 = .ok (.iload_n 2, 1) := by decide +kernel
theorem d_X12_rules_115 : decode prog_14_method_90_code 115 = .ok (.ireturn, 1) := by decide +kernel
def f_X12_rules_j38_9 (τ : St) (x2 : Int32) (s0 : Int32) : Option ((Int32 × Int32) ⊕ (Int32)) := some (.inl (s0, (x2 + (1 : Int32))))
def f_X12_rules_s9 (τ : St) (x1 : Int32) (x2 : Int32) : Option ((Int32 × Int32) ⊕ (Int32)) := (f_X12_all τ).bind (fun q1 => (if q1 < x2 then some (.inr x1) else (f_X12_decides τ x2).bind (fun q3 => (if q3 = 0 then f_X12_rules_j38_9 τ x2 x1 else (f_X12_isFewer x2 x1).bind (fun q5 => f_X12_rules_j38_9 τ x2 (if q5 = 0 then x1 else x2))))))
def f_X12_rules_j97_60 (τ : St) (x1 : Int32) (x2 : Int32) (x4 : Int32) (s0 : Int32) (s1 : Int32) : Option ((Int32 × Int32) ⊕ (Int32)) := (f_X12_flag s1).bind (fun q14 => some (.inl ((s0 + q14), (x4 + (1 : Int32)))))
def f_X12_rules_j92_60 (τ : St) (x1 : Int32) (x2 : Int32) (x4 : Int32) (s0 : Int32) : Option ((Int32 × Int32) ⊕ (Int32)) := f_X12_rules_j97_60 τ x1 x2 x4 s0 (1 : Int32)
def f_X12_rules_s60 (τ : St) (y1 : Int32) (y2 : Int32) (x3 : Int32) (x4 : Int32) : Option ((Int32 × Int32) ⊕ (Int32)) := (if (4 : Int32) ≤ x4 then some (.inr x3) else (f_X12_yesOf τ 306 x4).bind (fun q12 => (if (q12 &&& y1) = 0 then f_X12_rules_j92_60 τ y1 y2 x4 x3 else (if (q12 &&& y1) = y1 then f_X12_rules_j92_60 τ y1 y2 x4 x3 else f_X12_rules_j97_60 τ y1 y2 x4 x3 (0 : Int32)))))
def f_X12_rules (σ : St) : Option (Int32 × St) := (iter (fun z => f_X12_rules_s9 (sF σ 300 0 (0 : Int32)) z.1 z.2) FU ((-1 : Int32), (1 : Int32))).bind (fun z7 => (f_X12_entersFewest (sF σ 300 0 (0 : Int32)) z7).bind (fun q10 => (if z7 < 0 then some (q10.1, q10.2) else (iter (fun z => f_X12_rules_s60 q10.2 z7 q10.1 z.1 z.2) FU ((0 : Int32), (0 : Int32))).bind (fun z16 => (f_X12_enters q10.2 z16.toInt64).bind (fun q19 => some (q10.1, q19))))))
theorem c_X12_rules {l : Launch} {G : gT} {χ σ : St} (hf : FW G) {q : Int32 × St} (h : f_X12_rules σ = some q) : Ct l G yX12_rules prog_14_method_90_code 6 (some .int) 3 65 [.ref (ga G 300)] χ σ (some (.int q.1)) χ q.2 := by
  refine Ct.of (by decide) (Nat.le_of_ble_eq_true rfl) ?_
  intro p e s m args below meth c Q X hr hlk hQ
  have hx := X.1
  have hb := X.2.1
  have j38_9 : ∀ (τ : St) (x2 : Int32) (s0 : Int32) (o : (Int32 × Int32) ⊕ (Int32)), f_X12_rules_j38_9 τ x2 s0 = some o → Sum.elim (fun z : Int32 × Int32 => Wat p l e (rmk 3 65) s m args below meth c Q G 6 9 [] [(1, .int z.1), (2, .int z.2), (0, .ref (ga G 300))] χ τ) (fun z : Int32 => Wat p l e (rmk 3 65) s m args below meth c Q G 6 45 [] [(0, .ref (ga G 300)), (1, .int z)] χ τ) o → Wat p l e (rmk 3 65) s m args below meth c Q G 6 38 [.int s0] [(0, .ref (ga G 300)), (2, .int x2)] χ τ := by
    intro τ x2 s0 o h hk H locs ls hw hl
    unfold f_X12_rules_j38_9 at h
    refine lv_istore_n (lv' := [(1, .int s0), (0, .ref (ga G 300)), (2, .int x2)]) hx hb d_X12_rules_38 rfl hl (Nat.le_of_ble_eq_true rfl) rfl (fun ls hl => ?_)
    refine lv_iinc (v := (x2 + (1 : Int32))) (k := 2) (lv' := [(2, .int (x2 + (1 : Int32))), (1, .int s0), (0, .ref (ga G 300))]) hx hb d_X12_rules_39 hl rfl (by rfl) (Nat.le_of_ble_eq_true rfl) rfl (fun ls hl => ?_)
    refine lv_goto (tgt := 9) hx hb d_X12_rules_42 (by decide) ?_
    obtain rfl := Option.some.inj h
    dsimp only [Sum.elim_inl] at hk
    exact hk _ _ _ hw (lv_sub hl [1, 0, 2] rfl)
  have b9 : ∀ (τ : St) (x1 : Int32) (x2 : Int32) (o : (Int32 × Int32) ⊕ (Int32)), f_X12_rules_s9 τ x1 x2 = some o → Sum.elim (fun z : Int32 × Int32 => Wat p l e (rmk 3 65) s m args below meth c Q G 6 9 [] [(1, .int z.1), (2, .int z.2), (0, .ref (ga G 300))] χ τ) (fun z : Int32 => Wat p l e (rmk 3 65) s m args below meth c Q G 6 45 [] [(0, .ref (ga G 300)), (1, .int z)] χ τ) o → Wat p l e (rmk 3 65) s m args below meth c Q G 6 9 [] [(1, .int x1), (2, .int x2), (0, .ref (ga G 300))] χ τ := by
    intro τ x1 x2 o h hk H locs ls hw hl
    unfold f_X12_rules_s9 at h
    refine lv_iload_n hx hb d_X12_rules_9 rfl (lv_at hl 1 rfl) ?_
    refine lv_aload_n hx hb d_X12_rules_10 rfl (lv_at hl 2 rfl) ?_
    obtain ⟨q1, e2, h⟩ := bd_some h
    refine r_callV (As := []) (rest := [.int x2]) (st' := [.int q1, .int x2]) X hw hl mwX12_all wd_1409 wp_51 wd_1407 (c_X12_all hf e2) (r_recv X hw ct8 (o_300 hf)) rfl ⟨Nat.le_of_ble_eq_true rfl, Nat.le_of_ble_eq_true rfl⟩ ⟨Nat.le_refl _, Nat.le_refl _⟩ rfl rfl (Nat.le_of_ble_eq_true rfl) d_X12_rules_11 (fun H locs hw => ?_)
    refine lv_icmp_gt (tgt := 45) hx hb d_X12_rules_14 (by decide) (fun hc => ?_) (fun hc => ?_)
    · have h := ite_t h hc
      obtain rfl := Option.some.inj h
      dsimp only [Sum.elim_inr] at hk
      exact hk _ _ _ hw (lv_sub hl [2, 0] rfl)
    · have h := ite_f h hc
      refine lv_aload_n hx hb d_X12_rules_17 rfl (lv_at hl 2 rfl) ?_
      refine lv_iload_n hx hb d_X12_rules_18 rfl (lv_at hl 1 rfl) ?_
      obtain ⟨q3, e4, h⟩ := bd_some h
      refine r_callV (As := [.int x2]) (rest := []) (st' := [.int q3]) X hw hl mwX12_decides wd_1475 wp_59 wd_1473 (c_X12_decides hf e4) (r_recv X hw ct8 (o_300 hf)) rfl ⟨Nat.le_of_ble_eq_true rfl, Nat.le_of_ble_eq_true rfl⟩ ⟨Nat.le_refl _, Nat.le_refl _⟩ rfl rfl (Nat.le_of_ble_eq_true rfl) d_X12_rules_19 (fun H locs hw => ?_)
      refine lv_if_eq (tgt := 37) hx hb d_X12_rules_22 (by decide) (fun hc => ?_) (fun hc => ?_)
      · have h := ite_t h hc
        refine lv_iload_n hx hb d_X12_rules_37 rfl (lv_at hl 0 rfl) ?_
        exact j38_9 τ x2 x1 o h hk _ _ _ hw (lv_sub hl [2, 1] rfl)
      · have h := ite_f h hc
        refine lv_iload_n hx hb d_X12_rules_25 rfl (lv_at hl 1 rfl) ?_
        refine lv_iload_n hx hb d_X12_rules_26 rfl (lv_at hl 0 rfl) ?_
        obtain ⟨q5, e6, h⟩ := bd_some h
        refine r_callS (As := [.int x2, .int x1]) (rest := []) (st' := [.int q5]) X hw hl mwX12_isFewer wd_1451 wd_1450 (c_X12_isFewer hf e6) rfl ⟨Nat.le_of_ble_eq_true rfl, Nat.le_of_ble_eq_true rfl⟩ ⟨Nat.le_refl _, Nat.le_refl _⟩ rfl rfl (Nat.le_of_ble_eq_true rfl) d_X12_rules_27 (fun H locs hw => ?_)
        refine lv_if_eq (tgt := 37) hx hb d_X12_rules_30 (by decide) (fun hc => ?_) (fun hc => ?_)
        · simp only [if_pos hc] at h
          refine lv_iload_n hx hb d_X12_rules_37 rfl (lv_at hl 0 rfl) ?_
          exact j38_9 τ x2 x1 o h hk _ _ _ hw (lv_sub hl [2, 1] rfl)
        · simp only [if_neg hc] at h
          refine lv_iload_n hx hb d_X12_rules_33 rfl (lv_at hl 1 rfl) ?_
          refine lv_goto (tgt := 38) hx hb d_X12_rules_34 (by decide) ?_
          exact j38_9 τ x2 x2 o h hk _ _ _ hw (lv_sub hl [2, 1] rfl)
  have j97_60 : ∀ (τ : St) (x1 : Int32) (x2 : Int32) (x4 : Int32) (s0 : Int32) (s1 : Int32) (o : (Int32 × Int32) ⊕ (Int32)), f_X12_rules_j97_60 τ x1 x2 x4 s0 s1 = some o → Sum.elim (fun z : Int32 × Int32 => Wat p l e (rmk 3 65) s m args below meth c Q G 6 60 [] [(3, .int z.1), (4, .int z.2), (0, .ref (ga G 300)), (1, .int x1), (2, .int x2)] χ τ) (fun z : Int32 => Wat p l e (rmk 3 65) s m args below meth c Q G 6 108 [] [(0, .ref (ga G 300)), (2, .int x2), (3, .int z)] χ τ) o → Wat p l e (rmk 3 65) s m args below meth c Q G 6 97 [.int s1, .int s0] [(0, .ref (ga G 300)), (1, .int x1), (2, .int x2), (4, .int x4)] χ τ := by
    intro τ x1 x2 x4 s0 s1 o h hk H locs ls hw hl
    unfold f_X12_rules_j97_60 at h
    obtain ⟨q14, e15, h⟩ := bd_some h
    refine r_callS (As := [.int s1]) (rest := [.int s0]) (st' := [.int q14, .int s0]) X hw hl mwX12_flag wd_1180 wd_1179 (c_X12_flag hf e15) rfl ⟨Nat.le_of_ble_eq_true rfl, Nat.le_of_ble_eq_true rfl⟩ ⟨Nat.le_refl _, Nat.le_refl _⟩ rfl rfl (Nat.le_of_ble_eq_true rfl) d_X12_rules_97 (fun H locs hw => ?_)
    refine lv_iadd hx hb d_X12_rules_100 ?_
    refine lv_istore_n (lv' := [(3, .int (s0 + q14)), (0, .ref (ga G 300)), (1, .int x1), (2, .int x2), (4, .int x4)]) hx hb d_X12_rules_101 rfl hl (Nat.le_of_ble_eq_true rfl) rfl (fun ls hl => ?_)
    refine lv_iinc (v := (x4 + (1 : Int32))) (k := 4) (lv' := [(4, .int (x4 + (1 : Int32))), (3, .int (s0 + q14)), (0, .ref (ga G 300)), (1, .int x1), (2, .int x2)]) hx hb d_X12_rules_102 hl rfl (by rfl) (Nat.le_of_ble_eq_true rfl) rfl (fun ls hl => ?_)
    refine lv_goto (tgt := 60) hx hb d_X12_rules_105 (by decide) ?_
    obtain rfl := Option.some.inj h
    dsimp only [Sum.elim_inl] at hk
    exact hk _ _ _ hw (lv_sub hl [1, 0, 2, 3, 4] rfl)
  have j92_60 : ∀ (τ : St) (x1 : Int32) (x2 : Int32) (x4 : Int32) (s0 : Int32) (o : (Int32 × Int32) ⊕ (Int32)), f_X12_rules_j92_60 τ x1 x2 x4 s0 = some o → Sum.elim (fun z : Int32 × Int32 => Wat p l e (rmk 3 65) s m args below meth c Q G 6 60 [] [(3, .int z.1), (4, .int z.2), (0, .ref (ga G 300)), (1, .int x1), (2, .int x2)] χ τ) (fun z : Int32 => Wat p l e (rmk 3 65) s m args below meth c Q G 6 108 [] [(0, .ref (ga G 300)), (2, .int x2), (3, .int z)] χ τ) o → Wat p l e (rmk 3 65) s m args below meth c Q G 6 92 [.int s0] [(0, .ref (ga G 300)), (1, .int x1), (2, .int x2), (4, .int x4)] χ τ := by
    intro τ x1 x2 x4 s0 o h hk H locs ls hw hl
    unfold f_X12_rules_j92_60 at h
    refine lv_iconst (v := (1 : Int32)) hx hb d_X12_rules_92 (by decide) ?_
    refine lv_goto (tgt := 97) hx hb d_X12_rules_93 (by decide) ?_
    exact j97_60 τ x1 x2 x4 s0 (1 : Int32) o h hk _ _ _ hw (lv_sub hl [0, 1, 2, 3] rfl)
  have b60 : ∀ (τ : St) (y1 : Int32) (y2 : Int32) (x3 : Int32) (x4 : Int32) (o : (Int32 × Int32) ⊕ (Int32)), f_X12_rules_s60 τ y1 y2 x3 x4 = some o → Sum.elim (fun z : Int32 × Int32 => Wat p l e (rmk 3 65) s m args below meth c Q G 6 60 [] [(3, .int z.1), (4, .int z.2), (0, .ref (ga G 300)), (1, .int y1), (2, .int y2)] χ τ) (fun z : Int32 => Wat p l e (rmk 3 65) s m args below meth c Q G 6 108 [] [(0, .ref (ga G 300)), (2, .int y2), (3, .int z)] χ τ) o → Wat p l e (rmk 3 65) s m args below meth c Q G 6 60 [] [(3, .int x3), (4, .int x4), (0, .ref (ga G 300)), (1, .int y1), (2, .int y2)] χ τ := by
    intro τ y1 y2 x3 x4 o h hk H locs ls hw hl
    unfold f_X12_rules_s60 at h
    refine lv_iload hx hb d_X12_rules_60 (lv_at hl 1 rfl) ?_
    refine lv_iconst (v := (4 : Int32)) hx hb d_X12_rules_62 (by decide) ?_
    refine lv_icmp_ge (tgt := 108) hx hb d_X12_rules_63 (by decide) (fun hc => ?_) (fun hc => ?_)
    · have h := ite_t h hc
      obtain rfl := Option.some.inj h
      dsimp only [Sum.elim_inr] at hk
      exact hk _ _ _ hw (lv_sub hl [2, 4, 0] rfl)
    · have h := ite_f h hc
      refine lv_aload_n hx hb d_X12_rules_66 rfl (lv_at hl 2 rfl) ?_
      refine lv_aload_n hx hb d_X12_rules_67 rfl (lv_at hl 2 rfl) ?_
      refine r_getr (j := 6) X hw ct8 (o_300 hf) rfl (Nat.le_of_ble_eq_true rfl) (q := 306) rfl wd_962 d_X12_rules_68 ?_
      refine lv_iload hx hb d_X12_rules_71 (lv_at hl 1 rfl) ?_
      obtain ⟨q12, e13, h⟩ := bd_some h
      refine r_callV (As := [.ref (ga G 306), .int x4]) (rest := []) (st' := [.int q12]) X hw hl mwX12_yesOf wd_1353 wp_49 wd_1351 (c_X12_yesOf hf (o_306 hf) (Nat.le_of_ble_eq_true rfl) e13) (r_recv X hw ct8 (o_300 hf)) rfl ⟨Nat.le_of_ble_eq_true rfl, Nat.le_of_ble_eq_true rfl⟩ ⟨Nat.le_refl _, Nat.le_refl _⟩ rfl rfl (Nat.le_of_ble_eq_true rfl) d_X12_rules_73 (fun H locs hw => ?_)
      refine lv_iload_n hx hb d_X12_rules_76 rfl (lv_at hl 3 rfl) ?_
      refine lv_iand hx hb d_X12_rules_77 ?_
      refine lv_istore (lv' := [(5, .int (q12 &&& y1)), (3, .int x3), (4, .int x4), (0, .ref (ga G 300)), (1, .int y1), (2, .int y2)]) hx hb d_X12_rules_78 hl (Nat.le_of_ble_eq_true rfl) rfl (fun ls hl => ?_)
      refine lv_iload_n hx hb d_X12_rules_80 rfl (lv_at hl 1 rfl) ?_
      refine lv_iload hx hb d_X12_rules_81 (lv_at hl 0 rfl) ?_
      refine lv_if_eq (tgt := 92) hx hb d_X12_rules_83 (by decide) (fun hc => ?_) (fun hc => ?_)
      · have h := ite_t h hc
        exact j92_60 τ y1 y2 x4 x3 o h hk _ _ _ hw (lv_sub hl [3, 4, 5, 2] rfl)
      · have h := ite_f h hc
        refine lv_iload hx hb d_X12_rules_86 (lv_at hl 0 rfl) ?_
        refine lv_iload_n hx hb d_X12_rules_88 rfl (lv_at hl 4 rfl) ?_
        refine lv_icmp_ne (tgt := 96) hx hb d_X12_rules_89 (by decide) (fun hc => ?_) (fun hc => ?_)
        · have h := ite_f h hc
          refine lv_iconst (v := (0 : Int32)) hx hb d_X12_rules_96 (by decide) ?_
          exact j97_60 τ y1 y2 x4 x3 (0 : Int32) o h hk _ _ _ hw (lv_sub hl [3, 4, 5, 2] rfl)
        · have h := ite_t h hc
          exact j92_60 τ y1 y2 x4 x3 o h hk _ _ _ hw (lv_sub hl [3, 4, 5, 2] rfl)
  intro H locs ls hw hl
  have hl : lv_has ls 6 [(0, .ref (ga G 300))] := hl
  unfold f_X12_rules at h
  refine lv_aload_n hx hb d_X12_rules_0 rfl (lv_at hl 0 rfl) ?_
  refine lv_iconst (v := (0 : Int32)) hx hb d_X12_rules_1 (by decide) ?_
  refine m_puti (j := 0) X hw ct8 (o_300 hf) (Nat.le_of_ble_eq_true rfl) rfl (Nat.le_of_ble_eq_true rfl) rfl rfl rfl wd_956 d_X12_rules_2 (fun H locs hw => ?_)
  refine lv_iconst (v := (-1 : Int32)) hx hb d_X12_rules_5 (by decide) ?_
  refine lv_istore_n (lv' := [(1, .int (-1 : Int32)), (0, .ref (ga G 300))]) hx hb d_X12_rules_6 rfl hl (Nat.le_of_ble_eq_true rfl) rfl (fun ls hl => ?_)
  refine lv_iconst (v := (1 : Int32)) hx hb d_X12_rules_7 (by decide) ?_
  refine lv_istore_n (lv' := [(2, .int (1 : Int32)), (1, .int (-1 : Int32)), (0, .ref (ga G 300))]) hx hb d_X12_rules_8 rfl hl (Nat.le_of_ble_eq_true rfl) rfl (fun ls hl => ?_)
  obtain ⟨z7, e8, h⟩ := bd_some h
  refine iter_w (Wh := fun z : Int32 × Int32 => Wat p l e (rmk 3 65) s m args below meth c Q G 6 9 [] [(1, .int z.1), (2, .int z.2), (0, .ref (ga G 300))] χ (sF σ 300 0 (0 : Int32))) (K := fun z : Int32 => Wat p l e (rmk 3 65) s m args below meth c Q G 6 45 [] [(0, .ref (ga G 300)), (1, .int z)] χ (sF σ 300 0 (0 : Int32))) (fun z o h1 h2 => b9 (sF σ 300 0 (0 : Int32)) z.1 z.2 o h1 h2) FU _ _ e8 ?_ _ _ _ hw (lv_sub hl [1, 0, 2] rfl)
  intro H locs ls hw hl
  refine lv_aload_n hx hb d_X12_rules_45 rfl (lv_at hl 0 rfl) ?_
  refine lv_iload_n hx hb d_X12_rules_46 rfl (lv_at hl 1 rfl) ?_
  obtain ⟨q10, e11, h⟩ := bd_some h
  refine r_callV (As := [.int z7]) (rest := []) (st' := [.int q10.1]) X hw hl mwX12_entersFewest wd_1455 wp_56 wd_1453 (c_X12_entersFewest hf e11) (r_recv X hw ct8 (o_300 hf)) rfl ⟨Nat.le_of_ble_eq_true rfl, Nat.le_of_ble_eq_true rfl⟩ ⟨Nat.le_refl _, Nat.le_refl _⟩ rfl rfl (Nat.le_of_ble_eq_true rfl) d_X12_rules_47 (fun H locs hw => ?_)
  refine lv_istore_n (lv' := [(2, .int q10.1), (0, .ref (ga G 300)), (1, .int z7)]) hx hb d_X12_rules_50 rfl hl (Nat.le_of_ble_eq_true rfl) rfl (fun ls hl => ?_)
  refine lv_iload_n hx hb d_X12_rules_51 rfl (lv_at hl 2 rfl) ?_
  refine lv_if_lt (tgt := 114) hx hb d_X12_rules_52 (by decide) (fun hc => ?_) (fun hc => ?_)
  · have h := ite_t h hc
    refine lv_iload_n hx hb d_X12_rules_114 rfl (lv_at hl 0 rfl) ?_
    obtain rfl := Option.some.inj h
    subst hQ
    exact r_iret X hr hlk hw d_X12_rules_115
  · have h := ite_f h hc
    refine lv_iconst (v := (0 : Int32)) hx hb d_X12_rules_55 (by decide) ?_
    refine lv_istore_n (lv' := [(3, .int (0 : Int32)), (2, .int q10.1), (0, .ref (ga G 300)), (1, .int z7)]) hx hb d_X12_rules_56 rfl hl (Nat.le_of_ble_eq_true rfl) rfl (fun ls hl => ?_)
    refine lv_iconst (v := (0 : Int32)) hx hb d_X12_rules_57 (by decide) ?_
    refine lv_istore (lv' := [(4, .int (0 : Int32)), (3, .int (0 : Int32)), (2, .int q10.1), (0, .ref (ga G 300)), (1, .int z7)]) hx hb d_X12_rules_58 hl (Nat.le_of_ble_eq_true rfl) rfl (fun ls hl => ?_)
    obtain ⟨z16, e17, h⟩ := bd_some h
    refine iter_w (Wh := fun z : Int32 × Int32 => Wat p l e (rmk 3 65) s m args below meth c Q G 6 60 [] [(3, .int z.1), (4, .int z.2), (0, .ref (ga G 300)), (1, .int z7), (2, .int q10.1)] χ q10.2) (K := fun z : Int32 => Wat p l e (rmk 3 65) s m args below meth c Q G 6 108 [] [(0, .ref (ga G 300)), (2, .int q10.1), (3, .int z)] χ q10.2) (fun z o h1 h2 => b60 q10.2 z7 q10.1 z.1 z.2 o h1 h2) FU _ _ e17 ?_ _ _ _ hw (lv_sub hl [1, 0, 3, 4, 2] rfl)
    intro H locs ls hw hl
    refine lv_aload_n hx hb d_X12_rules_108 rfl (lv_at hl 0 rfl) ?_
    refine lv_iload_n hx hb d_X12_rules_109 rfl (lv_at hl 2 rfl) ?_
    refine lv_i2l hx hb d_X12_rules_110 rfl ?_
    obtain ⟨q19, e20, h⟩ := bd_some h
    refine r_callV (As := [.long z16.toInt64]) (rest := []) (st' := []) X hw hl mwX12_enters wd_1282 wp_38 wd_1280 (c_X12_enters hf e20) (r_recv X hw ct8 (o_300 hf)) rfl ⟨Nat.le_of_ble_eq_true rfl, Nat.le_of_ble_eq_true rfl⟩ ⟨Nat.le_refl _, Nat.le_refl _⟩ rfl rfl (Nat.le_of_ble_eq_true rfl) d_X12_rules_111 (fun H locs hw => ?_)
    refine lv_iload_n hx hb d_X12_rules_114 rfl (lv_at hl 1 rfl) ?_
    obtain rfl := Option.some.inj h
    subst hQ
    exact r_iret X hr hlk hw d_X12_rules_115
abbrev yX12_parties : MethodName := ⟨"OysterBedsModel", "parties", "()I"⟩
theorem mwX12_parties : MW yX12_parties prog_14_method_91_code 4 (some .int) 0 := ⟨wd_1502, wd_10, by decide +kernel⟩
theorem d_X12_parties_0 : decode prog_14_method_91_code 0 = .ok (.aload_n 0, 1) := by decide +kernel
theorem d_X12_parties_1 : decode prog_14_method_91_code 1 = .ok (.iconst 0, 1) := by decide +kernel
theorem d_X12_parties_2 : decode prog_14_method_91_code 2 = .ok (.putfield 87, 3) := by decide +kernel
theorem d_X12_parties_5 : decode prog_14_method_91_code 5 = .ok (.aload_n 0, 1) := by decide +kernel
theorem d_X12_parties_6 : decode prog_14_method_91_code 6 = .ok (.aload_n 0, 1) := by decide +kernel
theorem d_X12_parties_7 : decode prog_14_method_91_code 7 = .ok (.invokevirtual 323, 3) := by decide +kernel
theorem d_X12_parties_10 : decode prog_14_method_91_code 10 = .ok (.invokevirtual 353, 3) := by decide +kernel
theorem d_X12_parties_13 : decode prog_14_method_91_code 13 = .ok (.istore_n 1, 1) := by decide +kernel
theorem d_X12_parties_14 : decode prog_14_method_91_code 14 = .ok (.iconst 0, 1) := by decide +kernel
theorem d_X12_parties_15 : decode prog_14_method_91_code 15 = .ok (.istore_n 2, 1) := by decide +kernel
theorem d_X12_parties_16 : decode prog_14_method_91_code 16 = .ok (.iconst 1, 1) := by decide +kernel
theorem d_X12_parties_17 : decode prog_14_method_91_code 17 = .ok (.istore_n 3, 1) := by decide +kernel
theorem d_X12_parties_18 : decode prog_14_method_91_code 18 = .ok (.iload_n 3, 1) := by decide +kernel
theorem d_X12_parties_19 : decode prog_14_method_91_code 19 = .ok (.aload_n 0, 1) := by decide +kernel
theorem d_X12_parties_20 : decode prog_14_method_91_code 20 = .ok (.invokevirtual 323, 3) := by decide +kernel
theorem d_X12_parties_23 : decode prog_14_method_91_code 23 = .ok (.if_icmp .gt 42, 3) := by decide +kernel
theorem d_X12_parties_26 : decode prog_14_method_91_code 26 = .ok (.iload_n 1, 1) := by decide +kernel
theorem d_X12_parties_27 : decode prog_14_method_91_code 27 = .ok (.iconst 2, 1) := by decide +kernel
theorem d_X12_parties_28 : decode prog_14_method_91_code 28 = .ok (.aload_n 0, 1) := by decide +kernel
theorem d_X12_parties_29 : decode prog_14_method_91_code 29 = .ok (.iload_n 3, 1) := by decide +kernel
theorem d_X12_parties_30 : decode prog_14_method_91_code 30 = .ok (.invokevirtual 353, 3) := by decide +kernel
theorem d_X12_parties_33 : decode prog_14_method_91_code 33 = .ok (.imul, 1) := by decide +kernel
theorem d_X12_parties_34 : decode prog_14_method_91_code 34 = .ok (.isub, 1) := by decide +kernel
theorem d_X12_parties_35 : decode prog_14_method_91_code 35 = .ok (.invokestatic 370, 3) := by decide +kernel
theorem d_X12_parties_38 : decode prog_14_method_91_code 38 = .ok (.iload_n 1, 1) := by decide +kernel
theorem d_X12_parties_39 : decode prog_14_method_91_code 39 = .ok (.iconst 2, 1) := by decide +kernel
theorem d_X12_parties_40 : decode prog_14_method_91_code 40 = .ok (.aload_n 0, 1) := by decide +kernel
theorem d_X12_parties_41 : decode prog_14_method_91_code 41 = .ok (.iload_n 2, 1) := by decide +kernel
theorem d_X12_parties_42 : decode prog_14_method_91_code 42 = .ok (.invokevirtual 353, 3) := by decide +kernel
theorem d_X12_parties_45 : decode prog_14_method_91_code 45 = .ok (.imul, 1) := by decide +kernel
theorem d_X12_parties_46 : decode prog_14_method_91_code 46 = .ok (.isub, 1) := by decide +kernel
theorem d_X12_parties_47 : decode prog_14_method_91_code 47 = .ok (.invokestatic 370, 3) := by decide +kernel
theorem d_X12_parties_50 : decode prog_14_method_91_code 50 = .ok (.if_icmp .ge 7, 3) := by decide +kernel
theorem d_X12_parties_53 : decode prog_14_method_91_code 53 = .ok (.iload_n 3, 1) := by decide +kernel
theorem d_X12_parties_54 : decode prog_14_method_91_code 54 = .ok (.goto 4, 3) := by decide +kernel
theorem d_X12_parties_57 : decode prog_14_method_91_code 57 = .ok (.iload_n 2, 1) := by decide +kernel
theorem d_X12_parties_58 : decode prog_14_method_91_code 58 = .ok (.istore_n 2, 1) := by decide +kernel
theorem d_X12_parties_59 : decode prog_14_method_91_code 59 = .ok (.iinc 3 1, 3) := by decide +kernel
theorem d_X12_parties_62 : decode prog_14_method_91_code 62 = .ok (.goto (-44), 3) := by decide +kernel
theorem d_X12_parties_65 : decode prog_14_method_91_code 65 = .ok (.aload_n 0, 1) := by decide +kernel
theorem d_X12_parties_66 : decode prog_14_method_91_code 66 = .ok (.iconst 0, 1) := by decide +kernel
theorem d_X12_parties_67 : decode prog_14_method_91_code 67 = .ok (.putfield 95, 3) := by decide +kernel
theorem d_X12_parties_70 : decode prog_14_method_91_code 70 = .ok (.aload_n 0, 1) := by decide +kernel
theorem d_X12_parties_71 : decode prog_14_method_91_code 71 = .ok (.iload_n 2, 1) := by decide +kernel
theorem d_X12_parties_72 : decode prog_14_method_91_code 72 = .ok (.i2l, 1) := by decide +kernel
theorem d_X12_parties_73 : decode prog_14_method_91_code 73 = .ok (.invokevirtual 98, 3) := by decide +kernel
theorem d_X12_parties_76 : decode prog_14_method_91_code 76 = .ok (.aload_n 0, 1) := by decide +kernel
theorem d_X12_parties_77 : decode prog_14_method_91_code 77 = .ok (.aload_n 0, 1) := by decide +kernel
theorem d_X12_parties_78 : decode prog_14_method_91_code 78 = .ok (.iload_n 2, 1) := by decide +kernel
theorem d_X12_parties_79 : decode prog_14_method_91_code 79 = .ok (.invokevirtual 353, 3) := by decide +kernel
theorem d_X12_parties_82 : decode prog_14_method_91_code 82 = .ok (.i2l, 1) := by decide +kernel
theorem d_X12_parties_83 : decode prog_14_method_91_code 83 = .ok (.invokevirtual 98, 3) := by decide +kernel
theorem d_X12_parties_86 : decode prog_14_method_91_code 86 = .ok (.iload_n 1, 1) := by decide +kernel
theorem d_X12_parties_87 : decode prog_14_method_91_code 87 = .ok (.iconst 2, 1) := by decide +kernel
theorem d_X12_parties_88 : decode prog_14_method_91_code 88 = .ok (.aload_n 0, 1) := by decide +kernel
theorem d_X12_parties_89 : decode prog_14_method_91_code 89 = .ok (.iload_n 2, 1) := by decide +kernel
theorem d_X12_parties_90 : decode prog_14_method_91_code 90 = .ok (.invokevirtual 353, 3) := by decide +kernel
theorem d_X12_parties_93 : decode prog_14_method_91_code 93 = .ok (.imul, 1) := by decide +kernel
theorem d_X12_parties_94 : decode prog_14_method_91_code 94 = .ok (.isub, 1) := by decide +kernel
theorem d_X12_parties_95 : decode prog_14_method_91_code 95 = .ok (.invokestatic 370, 3) := by decide +kernel
theorem d_X12_parties_98 : decode prog_14_method_91_code 98 = .ok (.ireturn, 1) := by decide +kernel
def f_X12_parties_j58_18 (τ : St) (x1 : Int32) (x3 : Int32) (s0 : Int32) : Option ((Int32 × Int32) ⊕ (Int32)) := some (.inl (s0, (x3 + (1 : Int32))))
def f_X12_parties_s18 (τ : St) (y1 : Int32) (x2 : Int32) (x3 : Int32) : Option ((Int32 × Int32) ⊕ (Int32)) := (f_X12_all τ).bind (fun q5 => (if q5 < x3 then some (.inr x2) else (f_X12_counts τ x3).bind (fun q7 => (f_X12_counts τ x2).bind (fun q9 => f_X12_parties_j58_18 τ y1 x3 (if (if 0 ≤ (y1 - ((2 : Int32) * q9)) then (y1 - ((2 : Int32) * q9)) else 0 - (y1 - ((2 : Int32) * q9))) ≤ (if 0 ≤ (y1 - ((2 : Int32) * q7)) then (y1 - ((2 : Int32) * q7)) else 0 - (y1 - ((2 : Int32) * q7))) then x2 else x3)))))
def f_X12_parties (σ : St) : Option (Int32 × St) := (f_X12_all (sF σ 300 0 (0 : Int32))).bind (fun q1 => (f_X12_counts (sF σ 300 0 (0 : Int32)) q1).bind (fun q3 => (iter (fun z => f_X12_parties_s18 (sF σ 300 0 (0 : Int32)) q3 z.1 z.2) FU ((0 : Int32), (1 : Int32))).bind (fun z11 => (f_X12_enters (sF (sF σ 300 0 (0 : Int32)) 300 1 (0 : Int32)) z11.toInt64).bind (fun q14 => (f_X12_counts q14 z11).bind (fun q16 => (f_X12_enters q14 q16.toInt64).bind (fun q18 => (f_X12_counts q18 z11).bind (fun q20 => some ((if 0 ≤ (q3 - ((2 : Int32) * q20)) then (q3 - ((2 : Int32) * q20)) else 0 - (q3 - ((2 : Int32) * q20))), q18))))))))
theorem c_X12_parties {l : Launch} {G : gT} {χ σ : St} (hf : FW G) {q : Int32 × St} (h : f_X12_parties σ = some q) : Ct l G yX12_parties prog_14_method_91_code 4 (some .int) 2 44 [.ref (ga G 300)] χ σ (some (.int q.1)) χ q.2 := by
  refine Ct.of (by decide) (Nat.le_of_ble_eq_true rfl) ?_
  intro p e s m args below meth c Q X hr hlk hQ
  have hx := X.1
  have hb := X.2.1
  have j58_18 : ∀ (τ : St) (x1 : Int32) (x3 : Int32) (s0 : Int32) (o : (Int32 × Int32) ⊕ (Int32)), f_X12_parties_j58_18 τ x1 x3 s0 = some o → Sum.elim (fun z : Int32 × Int32 => Wat p l e (rmk 2 44) s m args below meth c Q G 4 18 [] [(2, .int z.1), (3, .int z.2), (0, .ref (ga G 300)), (1, .int x1)] χ τ) (fun z : Int32 => Wat p l e (rmk 2 44) s m args below meth c Q G 4 65 [] [(0, .ref (ga G 300)), (1, .int x1), (2, .int z)] χ τ) o → Wat p l e (rmk 2 44) s m args below meth c Q G 4 58 [.int s0] [(0, .ref (ga G 300)), (1, .int x1), (3, .int x3)] χ τ := by
    intro τ x1 x3 s0 o h hk H locs ls hw hl
    unfold f_X12_parties_j58_18 at h
    refine lv_istore_n (lv' := [(2, .int s0), (0, .ref (ga G 300)), (1, .int x1), (3, .int x3)]) hx hb d_X12_parties_58 rfl hl (Nat.le_of_ble_eq_true rfl) rfl (fun ls hl => ?_)
    refine lv_iinc (v := (x3 + (1 : Int32))) (k := 3) (lv' := [(3, .int (x3 + (1 : Int32))), (2, .int s0), (0, .ref (ga G 300)), (1, .int x1)]) hx hb d_X12_parties_59 hl rfl (by rfl) (Nat.le_of_ble_eq_true rfl) rfl (fun ls hl => ?_)
    refine lv_goto (tgt := 18) hx hb d_X12_parties_62 (by decide) ?_
    obtain rfl := Option.some.inj h
    dsimp only [Sum.elim_inl] at hk
    exact hk _ _ _ hw (lv_sub hl [1, 0, 2, 3] rfl)
  have b18 : ∀ (τ : St) (y1 : Int32) (x2 : Int32) (x3 : Int32) (o : (Int32 × Int32) ⊕ (Int32)), f_X12_parties_s18 τ y1 x2 x3 = some o → Sum.elim (fun z : Int32 × Int32 => Wat p l e (rmk 2 44) s m args below meth c Q G 4 18 [] [(2, .int z.1), (3, .int z.2), (0, .ref (ga G 300)), (1, .int y1)] χ τ) (fun z : Int32 => Wat p l e (rmk 2 44) s m args below meth c Q G 4 65 [] [(0, .ref (ga G 300)), (1, .int y1), (2, .int z)] χ τ) o → Wat p l e (rmk 2 44) s m args below meth c Q G 4 18 [] [(2, .int x2), (3, .int x3), (0, .ref (ga G 300)), (1, .int y1)] χ τ := by
    intro τ y1 x2 x3 o h hk H locs ls hw hl
    unfold f_X12_parties_s18 at h
    refine lv_iload_n hx hb d_X12_parties_18 rfl (lv_at hl 1 rfl) ?_
    refine lv_aload_n hx hb d_X12_parties_19 rfl (lv_at hl 2 rfl) ?_
    obtain ⟨q5, e6, h⟩ := bd_some h
    refine r_callV (As := []) (rest := [.int x3]) (st' := [.int q5, .int x3]) X hw hl mwX12_all wd_1409 wp_51 wd_1407 (c_X12_all hf e6) (r_recv X hw ct8 (o_300 hf)) rfl ⟨Nat.le_of_ble_eq_true rfl, Nat.le_of_ble_eq_true rfl⟩ ⟨Nat.le_refl _, Nat.le_refl _⟩ rfl rfl (Nat.le_of_ble_eq_true rfl) d_X12_parties_20 (fun H locs hw => ?_)
    refine lv_icmp_gt (tgt := 65) hx hb d_X12_parties_23 (by decide) (fun hc => ?_) (fun hc => ?_)
    · have h := ite_t h hc
      obtain rfl := Option.some.inj h
      dsimp only [Sum.elim_inr] at hk
      exact hk _ _ _ hw (lv_sub hl [2, 3, 0] rfl)
    · have h := ite_f h hc
      refine lv_iload_n hx hb d_X12_parties_26 rfl (lv_at hl 3 rfl) ?_
      refine lv_iconst (v := (2 : Int32)) hx hb d_X12_parties_27 (by decide) ?_
      refine lv_aload_n hx hb d_X12_parties_28 rfl (lv_at hl 2 rfl) ?_
      refine lv_iload_n hx hb d_X12_parties_29 rfl (lv_at hl 1 rfl) ?_
      obtain ⟨q7, e8, h⟩ := bd_some h
      refine r_callV (As := [.int x3]) (rest := [.int (2 : Int32), .int y1]) (st' := [.int q7, .int (2 : Int32), .int y1]) X hw hl mwX12_counts wd_1479 wp_60 wd_1477 (c_X12_counts hf e8) (r_recv X hw ct8 (o_300 hf)) rfl ⟨Nat.le_of_ble_eq_true rfl, Nat.le_of_ble_eq_true rfl⟩ ⟨Nat.le_refl _, Nat.le_refl _⟩ rfl rfl (Nat.le_of_ble_eq_true rfl) d_X12_parties_30 (fun H locs hw => ?_)
      refine lv_imul hx hb d_X12_parties_33 ?_
      refine lv_isub hx hb d_X12_parties_34 ?_
      refine r_abs X hl wd_1503 ⟨Nat.le_of_ble_eq_true rfl, Nat.le_of_ble_eq_true rfl⟩ ⟨Nat.le_refl _, Nat.le_refl _⟩ d_X12_parties_35 ?_
      refine lv_iload_n hx hb d_X12_parties_38 rfl (lv_at hl 3 rfl) ?_
      refine lv_iconst (v := (2 : Int32)) hx hb d_X12_parties_39 (by decide) ?_
      refine lv_aload_n hx hb d_X12_parties_40 rfl (lv_at hl 2 rfl) ?_
      refine lv_iload_n hx hb d_X12_parties_41 rfl (lv_at hl 0 rfl) ?_
      obtain ⟨q9, e10, h⟩ := bd_some h
      refine r_callV (As := [.int x2]) (rest := [.int (2 : Int32), .int y1, .int (if 0 ≤ (y1 - ((2 : Int32) * q7)) then (y1 - ((2 : Int32) * q7)) else 0 - (y1 - ((2 : Int32) * q7)))]) (st' := [.int q9, .int (2 : Int32), .int y1, .int (if 0 ≤ (y1 - ((2 : Int32) * q7)) then (y1 - ((2 : Int32) * q7)) else 0 - (y1 - ((2 : Int32) * q7)))]) X hw hl mwX12_counts wd_1479 wp_60 wd_1477 (c_X12_counts hf e10) (r_recv X hw ct8 (o_300 hf)) rfl ⟨Nat.le_of_ble_eq_true rfl, Nat.le_of_ble_eq_true rfl⟩ ⟨Nat.le_refl _, Nat.le_refl _⟩ rfl rfl (Nat.le_of_ble_eq_true rfl) d_X12_parties_42 (fun H locs hw => ?_)
      refine lv_imul hx hb d_X12_parties_45 ?_
      refine lv_isub hx hb d_X12_parties_46 ?_
      refine r_abs X hl wd_1503 ⟨Nat.le_of_ble_eq_true rfl, Nat.le_of_ble_eq_true rfl⟩ ⟨Nat.le_refl _, Nat.le_refl _⟩ d_X12_parties_47 ?_
      refine lv_icmp_ge (tgt := 57) hx hb d_X12_parties_50 (by decide) (fun hc => ?_) (fun hc => ?_)
      · simp only [if_pos hc] at h
        refine lv_iload_n hx hb d_X12_parties_57 rfl (lv_at hl 0 rfl) ?_
        exact j58_18 τ y1 x3 x2 o h hk _ _ _ hw (lv_sub hl [2, 3, 1] rfl)
      · simp only [if_neg hc] at h
        refine lv_iload_n hx hb d_X12_parties_53 rfl (lv_at hl 1 rfl) ?_
        refine lv_goto (tgt := 58) hx hb d_X12_parties_54 (by decide) ?_
        exact j58_18 τ y1 x3 x3 o h hk _ _ _ hw (lv_sub hl [2, 3, 1] rfl)
  intro H locs ls hw hl
  have hl : lv_has ls 4 [(0, .ref (ga G 300))] := hl
  unfold f_X12_parties at h
  refine lv_aload_n hx hb d_X12_parties_0 rfl (lv_at hl 0 rfl) ?_
  refine lv_iconst (v := (0 : Int32)) hx hb d_X12_parties_1 (by decide) ?_
  refine m_puti (j := 0) X hw ct8 (o_300 hf) (Nat.le_of_ble_eq_true rfl) rfl (Nat.le_of_ble_eq_true rfl) rfl rfl rfl wd_956 d_X12_parties_2 (fun H locs hw => ?_)
  refine lv_aload_n hx hb d_X12_parties_5 rfl (lv_at hl 0 rfl) ?_
  refine lv_aload_n hx hb d_X12_parties_6 rfl (lv_at hl 0 rfl) ?_
  obtain ⟨q1, e2, h⟩ := bd_some h
  refine r_callV (As := []) (rest := [.ref (ga G 300)]) (st' := [.int q1, .ref (ga G 300)]) X hw hl mwX12_all wd_1409 wp_51 wd_1407 (c_X12_all hf e2) (r_recv X hw ct8 (o_300 hf)) rfl ⟨Nat.le_of_ble_eq_true rfl, Nat.le_of_ble_eq_true rfl⟩ ⟨Nat.le_refl _, Nat.le_refl _⟩ rfl rfl (Nat.le_of_ble_eq_true rfl) d_X12_parties_7 (fun H locs hw => ?_)
  obtain ⟨q3, e4, h⟩ := bd_some h
  refine r_callV (As := [.int q1]) (rest := []) (st' := [.int q3]) X hw hl mwX12_counts wd_1479 wp_60 wd_1477 (c_X12_counts hf e4) (r_recv X hw ct8 (o_300 hf)) rfl ⟨Nat.le_of_ble_eq_true rfl, Nat.le_of_ble_eq_true rfl⟩ ⟨Nat.le_refl _, Nat.le_refl _⟩ rfl rfl (Nat.le_of_ble_eq_true rfl) d_X12_parties_10 (fun H locs hw => ?_)
  refine lv_istore_n (lv' := [(1, .int q3), (0, .ref (ga G 300))]) hx hb d_X12_parties_13 rfl hl (Nat.le_of_ble_eq_true rfl) rfl (fun ls hl => ?_)
  refine lv_iconst (v := (0 : Int32)) hx hb d_X12_parties_14 (by decide) ?_
  refine lv_istore_n (lv' := [(2, .int (0 : Int32)), (1, .int q3), (0, .ref (ga G 300))]) hx hb d_X12_parties_15 rfl hl (Nat.le_of_ble_eq_true rfl) rfl (fun ls hl => ?_)
  refine lv_iconst (v := (1 : Int32)) hx hb d_X12_parties_16 (by decide) ?_
  refine lv_istore_n (lv' := [(3, .int (1 : Int32)), (2, .int (0 : Int32)), (1, .int q3), (0, .ref (ga G 300))]) hx hb d_X12_parties_17 rfl hl (Nat.le_of_ble_eq_true rfl) rfl (fun ls hl => ?_)
  obtain ⟨z11, e12, h⟩ := bd_some h
  refine iter_w (Wh := fun z : Int32 × Int32 => Wat p l e (rmk 2 44) s m args below meth c Q G 4 18 [] [(2, .int z.1), (3, .int z.2), (0, .ref (ga G 300)), (1, .int q3)] χ (sF σ 300 0 (0 : Int32))) (K := fun z : Int32 => Wat p l e (rmk 2 44) s m args below meth c Q G 4 65 [] [(0, .ref (ga G 300)), (1, .int q3), (2, .int z)] χ (sF σ 300 0 (0 : Int32))) (fun z o h1 h2 => b18 (sF σ 300 0 (0 : Int32)) q3 z.1 z.2 o h1 h2) FU _ _ e12 ?_ _ _ _ hw (lv_sub hl [1, 0, 3, 2] rfl)
  intro H locs ls hw hl
  refine lv_aload_n hx hb d_X12_parties_65 rfl (lv_at hl 0 rfl) ?_
  refine lv_iconst (v := (0 : Int32)) hx hb d_X12_parties_66 (by decide) ?_
  refine m_puti (j := 1) X hw ct8 (o_300 hf) (Nat.le_of_ble_eq_true rfl) rfl (Nat.le_of_ble_eq_true rfl) rfl rfl rfl wd_957 d_X12_parties_67 (fun H locs hw => ?_)
  refine lv_aload_n hx hb d_X12_parties_70 rfl (lv_at hl 0 rfl) ?_
  refine lv_iload_n hx hb d_X12_parties_71 rfl (lv_at hl 2 rfl) ?_
  refine lv_i2l hx hb d_X12_parties_72 rfl ?_
  obtain ⟨q14, e15, h⟩ := bd_some h
  refine r_callV (As := [.long z11.toInt64]) (rest := []) (st' := []) X hw hl mwX12_enters wd_1282 wp_38 wd_1280 (c_X12_enters hf e15) (r_recv X hw ct8 (o_300 hf)) rfl ⟨Nat.le_of_ble_eq_true rfl, Nat.le_of_ble_eq_true rfl⟩ ⟨Nat.le_refl _, Nat.le_refl _⟩ rfl rfl (Nat.le_of_ble_eq_true rfl) d_X12_parties_73 (fun H locs hw => ?_)
  refine lv_aload_n hx hb d_X12_parties_76 rfl (lv_at hl 0 rfl) ?_
  refine lv_aload_n hx hb d_X12_parties_77 rfl (lv_at hl 0 rfl) ?_
  refine lv_iload_n hx hb d_X12_parties_78 rfl (lv_at hl 2 rfl) ?_
  obtain ⟨q16, e17, h⟩ := bd_some h
  refine r_callV (As := [.int z11]) (rest := [.ref (ga G 300)]) (st' := [.int q16, .ref (ga G 300)]) X hw hl mwX12_counts wd_1479 wp_60 wd_1477 (c_X12_counts hf e17) (r_recv X hw ct8 (o_300 hf)) rfl ⟨Nat.le_of_ble_eq_true rfl, Nat.le_of_ble_eq_true rfl⟩ ⟨Nat.le_refl _, Nat.le_refl _⟩ rfl rfl (Nat.le_of_ble_eq_true rfl) d_X12_parties_79 (fun H locs hw => ?_)
  refine lv_i2l hx hb d_X12_parties_82 rfl ?_
  obtain ⟨q18, e19, h⟩ := bd_some h
  refine r_callV (As := [.long q16.toInt64]) (rest := []) (st' := []) X hw hl mwX12_enters wd_1282 wp_38 wd_1280 (c_X12_enters hf e19) (r_recv X hw ct8 (o_300 hf)) rfl ⟨Nat.le_of_ble_eq_true rfl, Nat.le_of_ble_eq_true rfl⟩ ⟨Nat.le_refl _, Nat.le_refl _⟩ rfl rfl (Nat.le_of_ble_eq_true rfl) d_X12_parties_83 (fun H locs hw => ?_)
  refine lv_iload_n hx hb d_X12_parties_86 rfl (lv_at hl 1 rfl) ?_
  refine lv_iconst (v := (2 : Int32)) hx hb d_X12_parties_87 (by decide) ?_
  refine lv_aload_n hx hb d_X12_parties_88 rfl (lv_at hl 0 rfl) ?_
  refine lv_iload_n hx hb d_X12_parties_89 rfl (lv_at hl 2 rfl) ?_
  obtain ⟨q20, e21, h⟩ := bd_some h
  refine r_callV (As := [.int z11]) (rest := [.int (2 : Int32), .int q3]) (st' := [.int q20, .int (2 : Int32), .int q3]) X hw hl mwX12_counts wd_1479 wp_60 wd_1477 (c_X12_counts hf e21) (r_recv X hw ct8 (o_300 hf)) rfl ⟨Nat.le_of_ble_eq_true rfl, Nat.le_of_ble_eq_true rfl⟩ ⟨Nat.le_refl _, Nat.le_refl _⟩ rfl rfl (Nat.le_of_ble_eq_true rfl) d_X12_parties_90 (fun H locs hw => ?_)
  refine lv_imul hx hb d_X12_parties_93 ?_
  refine lv_isub hx hb d_X12_parties_94 ?_
  refine r_abs X hl wd_1503 ⟨Nat.le_of_ble_eq_true rfl, Nat.le_of_ble_eq_true rfl⟩ ⟨Nat.le_refl _, Nat.le_refl _⟩ d_X12_parties_95 ?_
  obtain rfl := Option.some.inj h
  subst hQ
  exact r_iret X hr hlk hw d_X12_parties_98
abbrev yX12_seen : MethodName := ⟨"OysterBedsModel", "seen", "(III)I"⟩
theorem mwX12_seen : MW yX12_seen prog_14_method_92_code 4 (some .int) 3 := ⟨wd_1507, wd_10, by decide +kernel⟩
theorem d_X12_seen_0 : decode prog_14_method_92_code 0 = .ok (.aload_n 0, 1) := by decide +kernel
theorem d_X12_seen_1 : decode prog_14_method_92_code 1 = .ok (.iconst 0, 1) := by decide +kernel
theorem d_X12_seen_2 : decode prog_14_method_92_code 2 = .ok (.putfield 87, 3) := by decide +kernel
theorem d_X12_seen_5 : decode prog_14_method_92_code 5 = .ok (.iload_n 1, 1) := by decide +kernel
theorem d_X12_seen_6 : decode prog_14_method_92_code 6 = .ok (.iload_n 2, 1) := by decide +kernel
theorem d_X12_seen_7 : decode prog_14_method_92_code 7 = .ok (.invokestatic 270, 3) := by decide +kernel
theorem d_X12_seen_10 : decode prog_14_method_92_code 10 = .ok (.ifCond .eq 24, 3) := by decide +kernel
theorem d_X12_seen_13 : decode prog_14_method_92_code 13 = .ok (.iload_n 3, 1) := by decide +kernel
theorem d_X12_seen_14 : decode prog_14_method_92_code 14 = .ok (.i2l, 1) := by decide +kernel
theorem d_X12_seen_15 : decode prog_14_method_92_code 15 = .ok (.lconst 0, 1) := by decide +kernel
theorem d_X12_seen_16 : decode prog_14_method_92_code 16 = .ok (.ldc2_w 313, 3) := by decide +kernel
theorem d_X12_seen_19 : decode prog_14_method_92_code 19 = .ok (.invokestatic 105, 3) := by decide +kernel
theorem d_X12_seen_22 : decode prog_14_method_92_code 22 = .ok (.ifCond .eq 12, 3) := by decide +kernel
theorem d_X12_seen_25 : decode prog_14_method_92_code 25 = .ok (.aload_n 0, 1) := by decide +kernel
theorem d_X12_seen_26 : decode prog_14_method_92_code 26 = .ok (.getfield 373, 3) := by decide +kernel
theorem d_X12_seen_29 : decode prog_14_method_92_code 29 = .ok (.bipush 10, 2) := by decide +kernel
theorem d_X12_seen_31 : decode prog_14_method_92_code 31 = .ok (.if_icmp .ne 5, 3) := by decide +kernel
theorem d_X12_seen_34 : decode prog_14_method_92_code 34 = .ok (.iconst (-1), 1) := by decide +kernel
theorem d_X12_seen_35 : decode prog_14_method_92_code 35 = .ok (.ireturn, 1) := by decide +kernel
theorem d_X12_seen_36 : decode prog_14_method_92_code 36 = .ok (.aload_n 0, 1) := by decide +kernel
theorem d_X12_seen_37 : decode prog_14_method_92_code 37 = .ok (.getfield 53, 3) := by decide +kernel
theorem d_X12_seen_40 : decode prog_14_method_92_code 40 = .ok (.aload_n 0, 1) := by decide +kernel
theorem d_X12_seen_41 : decode prog_14_method_92_code 41 = .ok (.getfield 373, 3) := by decide +kernel
theorem d_X12_seen_44 : decode prog_14_method_92_code 44 = .ok (.bipush 10, 2) := by decide +kernel
theorem d_X12_seen_46 : decode prog_14_method_92_code 46 = .ok (.iload_n 1, 1) := by decide +kernel
theorem d_X12_seen_47 : decode prog_14_method_92_code 47 = .ok (.imul, 1) := by decide +kernel
theorem d_X12_seen_48 : decode prog_14_method_92_code 48 = .ok (.iload_n 2, 1) := by decide +kernel
theorem d_X12_seen_49 : decode prog_14_method_92_code 49 = .ok (.iadd, 1) := by decide +kernel
theorem d_X12_seen_50 : decode prog_14_method_92_code 50 = .ok (.iastore, 1) := by decide +kernel
theorem d_X12_seen_51 : decode prog_14_method_92_code 51 = .ok (.aload_n 0, 1) := by decide +kernel
theorem d_X12_seen_52 : decode prog_14_method_92_code 52 = .ok (.getfield 56, 3) := by decide +kernel
theorem d_X12_seen_55 : decode prog_14_method_92_code 55 = .ok (.aload_n 0, 1) := by decide +kernel
theorem d_X12_seen_56 : decode prog_14_method_92_code 56 = .ok (.getfield 373, 3) := by decide +kernel
theorem d_X12_seen_59 : decode prog_14_method_92_code 59 = .ok (.iload_n 3, 1) := by decide +kernel
theorem d_X12_seen_60 : decode prog_14_method_92_code 60 = .ok (.iastore, 1) := by decide +kernel
theorem d_X12_seen_61 : decode prog_14_method_92_code 61 = .ok (.aload_n 0, 1) := by decide +kernel
theorem d_X12_seen_62 : decode prog_14_method_92_code 62 = .ok (.dup, 1) := by decide +kernel
theorem d_X12_seen_63 : decode prog_14_method_92_code 63 = .ok (.getfield 373, 3) := by decide +kernel
theorem d_X12_seen_66 : decode prog_14_method_92_code 66 = .ok (.iconst 1, 1) := by decide +kernel
theorem d_X12_seen_67 : decode prog_14_method_92_code 67 = .ok (.iadd, 1) := by decide +kernel
theorem d_X12_seen_68 : decode prog_14_method_92_code 68 = .ok (.putfield 373, 3) := by decide +kernel
theorem d_X12_seen_71 : decode prog_14_method_92_code 71 = .ok (.aload_n 0, 1) := by decide +kernel
theorem d_X12_seen_72 : decode prog_14_method_92_code 72 = .ok (.getfield 373, 3) := by decide +kernel
theorem d_X12_seen_75 : decode prog_14_method_92_code 75 = .ok (.ireturn, 1) := by decide +kernel
def f_X12_seen (σ : St) (a1 : Int32) (a2 : Int32) (a3 : Int32) : Option (Int32 × St) := (f_X12_isQuestion a1 a2).bind (fun q1 => (if q1 = 0 then some ((-1 : Int32), (sF σ 300 0 (0 : Int32))) else (f_X12_in a3.toInt64 (0 : Int64) (8 : Int64)).bind (fun q3 => (if q3 = 0 then some ((-1 : Int32), (sF σ 300 0 (0 : Int32))) else (if (cF (sF σ 300 0 (0 : Int32)) 300 27) = (10 : Int32) then some ((-1 : Int32), (sF σ 300 0 (0 : Int32))) else gd (inb (cF (sF σ 300 0 (0 : Int32)) 300 27) 10) (gd (inb (cF (sA (sF σ 300 0 (0 : Int32)) 328 (cF (sF σ 300 0 (0 : Int32)) 300 27).toNatClampNeg (((10 : Int32) * a1) + a2)) 300 27) 10) (some ((cF (sF (sA (sA (sF σ 300 0 (0 : Int32)) 328 (cF (sF σ 300 0 (0 : Int32)) 300 27).toNatClampNeg (((10 : Int32) * a1) + a2)) 329 (cF (sA (sF σ 300 0 (0 : Int32)) 328 (cF (sF σ 300 0 (0 : Int32)) 300 27).toNatClampNeg (((10 : Int32) * a1) + a2)) 300 27).toNatClampNeg a3) 300 27 ((cF (sA (sA (sF σ 300 0 (0 : Int32)) 328 (cF (sF σ 300 0 (0 : Int32)) 300 27).toNatClampNeg (((10 : Int32) * a1) + a2)) 329 (cF (sA (sF σ 300 0 (0 : Int32)) 328 (cF (sF σ 300 0 (0 : Int32)) 300 27).toNatClampNeg (((10 : Int32) * a1) + a2)) 300 27).toNatClampNeg a3) 300 27) + (1 : Int32))) 300 27), (sF (sA (sA (sF σ 300 0 (0 : Int32)) 328 (cF (sF σ 300 0 (0 : Int32)) 300 27).toNatClampNeg (((10 : Int32) * a1) + a2)) 329 (cF (sA (sF σ 300 0 (0 : Int32)) 328 (cF (sF σ 300 0 (0 : Int32)) 300 27).toNatClampNeg (((10 : Int32) * a1) + a2)) 300 27).toNatClampNeg a3) 300 27 ((cF (sA (sA (sF σ 300 0 (0 : Int32)) 328 (cF (sF σ 300 0 (0 : Int32)) 300 27).toNatClampNeg (((10 : Int32) * a1) + a2)) 329 (cF (sA (sF σ 300 0 (0 : Int32)) 328 (cF (sF σ 300 0 (0 : Int32)) 300 27).toNatClampNeg (((10 : Int32) * a1) + a2)) 300 27).toNatClampNeg a3) 300 27) + (1 : Int32)))))))))))
theorem c_X12_seen {l : Launch} {G : gT} {χ σ : St} {a1 : Int32} {a2 : Int32} {a3 : Int32} (hf : FW G) {q : Int32 × St} (h : f_X12_seen σ a1 a2 a3 = some q) : Ct l G yX12_seen prog_14_method_92_code 4 (some .int) 2 46 [.ref (ga G 300), .int a1, .int a2, .int a3] χ σ (some (.int q.1)) χ q.2 := by
  refine Ct.of (by decide) (Nat.le_of_ble_eq_true rfl) ?_
  intro p e s m args below meth c Q X hr hlk hQ
  have hx := X.1
  have hb := X.2.1
  intro H locs ls hw hl
  have hl : lv_has ls 4 [(0, .ref (ga G 300)), (1, .int a1), (2, .int a2), (3, .int a3)] := hl
  unfold f_X12_seen at h
  refine lv_aload_n hx hb d_X12_seen_0 rfl (lv_at hl 0 rfl) ?_
  refine lv_iconst (v := (0 : Int32)) hx hb d_X12_seen_1 (by decide) ?_
  refine m_puti (j := 0) X hw ct8 (o_300 hf) (Nat.le_of_ble_eq_true rfl) rfl (Nat.le_of_ble_eq_true rfl) rfl rfl rfl wd_956 d_X12_seen_2 (fun H locs hw => ?_)
  refine lv_iload_n hx hb d_X12_seen_5 rfl (lv_at hl 1 rfl) ?_
  refine lv_iload_n hx hb d_X12_seen_6 rfl (lv_at hl 2 rfl) ?_
  obtain ⟨q1, e2, h⟩ := bd_some h
  refine r_callS (As := [.int a1, .int a2]) (rest := []) (st' := [.int q1]) X hw hl mwX12_isQuestion wd_1246 wd_1245 (c_X12_isQuestion hf e2) rfl ⟨Nat.le_of_ble_eq_true rfl, Nat.le_of_ble_eq_true rfl⟩ ⟨Nat.le_refl _, Nat.le_refl _⟩ rfl rfl (Nat.le_of_ble_eq_true rfl) d_X12_seen_7 (fun H locs hw => ?_)
  refine lv_if_eq (tgt := 34) hx hb d_X12_seen_10 (by decide) (fun hc => ?_) (fun hc => ?_)
  · have h := ite_t h hc
    refine lv_iconst (v := (-1 : Int32)) hx hb d_X12_seen_34 (by decide) ?_
    obtain rfl := Option.some.inj h
    subst hQ
    exact r_iret X hr hlk hw d_X12_seen_35
  · have h := ite_f h hc
    refine lv_iload_n hx hb d_X12_seen_13 rfl (lv_at hl 3 rfl) ?_
    refine lv_i2l hx hb d_X12_seen_14 rfl ?_
    refine lv_lconst (v := (0 : Int64)) hx hb d_X12_seen_15 (by decide) ?_
    refine r_ldc2 X wd_1359 d_X12_seen_16 ?_
    obtain ⟨q3, e4, h⟩ := bd_some h
    refine r_callS (As := [.long a3.toInt64, .long (0 : Int64), .long (8 : Int64)]) (rest := []) (st' := [.int q3]) X hw hl mwX12_in wd_1093 wd_1092 (c_X12_in hf e4) rfl ⟨Nat.le_of_ble_eq_true rfl, Nat.le_of_ble_eq_true rfl⟩ ⟨Nat.le_refl _, Nat.le_refl _⟩ rfl rfl (Nat.le_of_ble_eq_true rfl) d_X12_seen_19 (fun H locs hw => ?_)
    refine lv_if_eq (tgt := 34) hx hb d_X12_seen_22 (by decide) (fun hc => ?_) (fun hc => ?_)
    · have h := ite_t h hc
      refine lv_iconst (v := (-1 : Int32)) hx hb d_X12_seen_34 (by decide) ?_
      obtain rfl := Option.some.inj h
      subst hQ
      exact r_iret X hr hlk hw d_X12_seen_35
    · have h := ite_f h hc
      refine lv_aload_n hx hb d_X12_seen_25 rfl (lv_at hl 0 rfl) ?_
      refine m_geti (j := 27) X hw ct8 (o_300 hf) (Nat.le_of_ble_eq_true rfl) rfl (Nat.le_of_ble_eq_true rfl) wd_983 d_X12_seen_26 ?_
      refine lv_bipush (v := (10 : Int32)) hx hb d_X12_seen_29 (by decide) ?_
      refine lv_icmp_ne (tgt := 36) hx hb d_X12_seen_31 (by decide) (fun hc => ?_) (fun hc => ?_)
      · have h := ite_f h hc
        refine lv_aload_n hx hb d_X12_seen_36 rfl (lv_at hl 0 rfl) ?_
        refine r_getr (j := 28) X hw ct8 (o_300 hf) rfl (Nat.le_of_ble_eq_true rfl) (q := 328) rfl wd_984 d_X12_seen_37 ?_
        refine lv_aload_n hx hb d_X12_seen_40 rfl (lv_at hl 0 rfl) ?_
        refine m_geti (j := 27) X hw ct8 (o_300 hf) (Nat.le_of_ble_eq_true rfl) rfl (Nat.le_of_ble_eq_true rfl) wd_983 d_X12_seen_41 ?_
        refine lv_bipush (v := (10 : Int32)) hx hb d_X12_seen_44 (by decide) ?_
        refine lv_iload_n hx hb d_X12_seen_46 rfl (lv_at hl 1 rfl) ?_
        refine lv_imul hx hb d_X12_seen_47 ?_
        refine lv_iload_n hx hb d_X12_seen_48 rfl (lv_at hl 2 rfl) ?_
        refine lv_iadd hx hb d_X12_seen_49 ?_
        obtain ⟨hi5, h⟩ := gd_some h
        refine m_iast X hw (o_328 hf) (Nat.le_of_ble_eq_true rfl) hi5 d_X12_seen_50 (fun H locs hw => ?_)
        refine lv_aload_n hx hb d_X12_seen_51 rfl (lv_at hl 0 rfl) ?_
        refine r_getr (j := 29) X hw ct8 (o_300 hf) rfl (Nat.le_of_ble_eq_true rfl) (q := 329) rfl wd_985 d_X12_seen_52 ?_
        refine lv_aload_n hx hb d_X12_seen_55 rfl (lv_at hl 0 rfl) ?_
        refine m_geti (j := 27) X hw ct8 (o_300 hf) (Nat.le_of_ble_eq_true rfl) rfl (Nat.le_of_ble_eq_true rfl) wd_983 d_X12_seen_56 ?_
        refine lv_iload_n hx hb d_X12_seen_59 rfl (lv_at hl 3 rfl) ?_
        obtain ⟨hi6, h⟩ := gd_some h
        refine m_iast X hw (o_329 hf) (Nat.le_of_ble_eq_true rfl) hi6 d_X12_seen_60 (fun H locs hw => ?_)
        refine lv_aload_n hx hb d_X12_seen_61 rfl (lv_at hl 0 rfl) ?_
        refine lv_dup hx hb d_X12_seen_62 rfl ?_
        refine m_geti (j := 27) X hw ct8 (o_300 hf) (Nat.le_of_ble_eq_true rfl) rfl (Nat.le_of_ble_eq_true rfl) wd_983 d_X12_seen_63 ?_
        refine lv_iconst (v := (1 : Int32)) hx hb d_X12_seen_66 (by decide) ?_
        refine lv_iadd hx hb d_X12_seen_67 ?_
        refine m_puti (j := 27) X hw ct8 (o_300 hf) (Nat.le_of_ble_eq_true rfl) rfl (Nat.le_of_ble_eq_true rfl) rfl rfl rfl wd_983 d_X12_seen_68 (fun H locs hw => ?_)
        refine lv_aload_n hx hb d_X12_seen_71 rfl (lv_at hl 0 rfl) ?_
        refine m_geti (j := 27) X hw ct8 (o_300 hf) (Nat.le_of_ble_eq_true rfl) rfl (Nat.le_of_ble_eq_true rfl) wd_983 d_X12_seen_72 ?_
        obtain rfl := Option.some.inj h
        subst hQ
        exact r_iret X hr hlk hw d_X12_seen_75
      · have h := ite_t h hc
        refine lv_iconst (v := (-1 : Int32)) hx hb d_X12_seen_34 (by decide) ?_
        obtain rfl := Option.some.inj h
        subst hQ
        exact r_iret X hr hlk hw d_X12_seen_35
abbrev yX12_forget : MethodName := ⟨"OysterBedsModel", "forget", "()I"⟩
theorem mwX12_forget : MW yX12_forget prog_14_method_93_code 2 (some .int) 0 := ⟨wd_1511, wd_10, by decide +kernel⟩
theorem d_X12_forget_0 : decode prog_14_method_93_code 0 = .ok (.aload_n 0, 1) := by decide +kernel
theorem d_X12_forget_1 : decode prog_14_method_93_code 1 = .ok (.iconst 0, 1) := by decide +kernel
theorem d_X12_forget_2 : decode prog_14_method_93_code 2 = .ok (.putfield 87, 3) := by decide +kernel
theorem d_X12_forget_5 : decode prog_14_method_93_code 5 = .ok (.aload_n 0, 1) := by decide +kernel
theorem d_X12_forget_6 : decode prog_14_method_93_code 6 = .ok (.getfield 373, 3) := by decide +kernel
theorem d_X12_forget_9 : decode prog_14_method_93_code 9 = .ok (.istore_n 1, 1) := by decide +kernel
theorem d_X12_forget_10 : decode prog_14_method_93_code 10 = .ok (.aload_n 0, 1) := by decide +kernel
theorem d_X12_forget_11 : decode prog_14_method_93_code 11 = .ok (.iconst 0, 1) := by decide +kernel
theorem d_X12_forget_12 : decode prog_14_method_93_code 12 = .ok (.putfield 373, 3) := by decide +kernel
theorem d_X12_forget_15 : decode prog_14_method_93_code 15 = .ok (.iload_n 1, 1) := by decide +kernel
theorem d_X12_forget_16 : decode prog_14_method_93_code 16 = .ok (.ireturn, 1) := by decide +kernel
def f_X12_forget (σ : St) : Option (Int32 × St) := some ((cF (sF σ 300 0 (0 : Int32)) 300 27), (sF (sF σ 300 0 (0 : Int32)) 300 27 (0 : Int32)))
theorem c_X12_forget {l : Launch} {G : gT} {χ σ : St} (hf : FW G) {q : Int32 × St} (h : f_X12_forget σ = some q) : Ct l G yX12_forget prog_14_method_93_code 2 (some .int) 0 0 [.ref (ga G 300)] χ σ (some (.int q.1)) χ q.2 := by
  refine Ct.of (by decide) (Nat.le_of_ble_eq_true rfl) ?_
  intro p e s m args below meth c Q X hr hlk hQ
  have hx := X.1
  have hb := X.2.1
  intro H locs ls hw hl
  have hl : lv_has ls 2 [(0, .ref (ga G 300))] := hl
  unfold f_X12_forget at h
  refine lv_aload_n hx hb d_X12_forget_0 rfl (lv_at hl 0 rfl) ?_
  refine lv_iconst (v := (0 : Int32)) hx hb d_X12_forget_1 (by decide) ?_
  refine m_puti (j := 0) X hw ct8 (o_300 hf) (Nat.le_of_ble_eq_true rfl) rfl (Nat.le_of_ble_eq_true rfl) rfl rfl rfl wd_956 d_X12_forget_2 (fun H locs hw => ?_)
  refine lv_aload_n hx hb d_X12_forget_5 rfl (lv_at hl 0 rfl) ?_
  refine m_geti (j := 27) X hw ct8 (o_300 hf) (Nat.le_of_ble_eq_true rfl) rfl (Nat.le_of_ble_eq_true rfl) wd_983 d_X12_forget_6 ?_
  refine lv_istore_n (lv' := [(1, .int (cF (sF σ 300 0 (0 : Int32)) 300 27)), (0, .ref (ga G 300))]) hx hb d_X12_forget_9 rfl hl (Nat.le_of_ble_eq_true rfl) rfl (fun ls hl => ?_)
  refine lv_aload_n hx hb d_X12_forget_10 rfl (lv_at hl 1 rfl) ?_
  refine lv_iconst (v := (0 : Int32)) hx hb d_X12_forget_11 (by decide) ?_
  refine m_puti (j := 27) X hw ct8 (o_300 hf) (Nat.le_of_ble_eq_true rfl) rfl (Nat.le_of_ble_eq_true rfl) rfl rfl rfl wd_983 d_X12_forget_12 (fun H locs hw => ?_)
  refine lv_iload_n hx hb d_X12_forget_15 rfl (lv_at hl 0 rfl) ?_
  obtain rfl := Option.some.inj h
  subst hQ
  exact r_iret X hr hlk hw d_X12_forget_16
abbrev yX12_closedBy : MethodName := ⟨"OysterBedsModel", "closedBy", "(III)I"⟩
theorem mwX12_closedBy : MW yX12_closedBy prog_14_method_94_code 4 (some .int) 3 := ⟨wd_1523, wd_10, by decide +kernel⟩
theorem d_X12_closedBy_0 : decode prog_14_method_94_code 0 = .ok (.aload_n 0, 1) := by decide +kernel
theorem d_X12_closedBy_1 : decode prog_14_method_94_code 1 = .ok (.invokevirtual 318, 3) := by decide +kernel
theorem d_X12_closedBy_4 : decode prog_14_method_94_code 4 = .ok (.aload_n 0, 1) := by decide +kernel
theorem d_X12_closedBy_5 : decode prog_14_method_94_code 5 = .ok (.getfield 20, 3) := by decide +kernel
theorem d_X12_closedBy_8 : decode prog_14_method_94_code 8 = .ok (.bipush 8, 2) := by decide +kernel
theorem d_X12_closedBy_10 : decode prog_14_method_94_code 10 = .ok (.iload_n 1, 1) := by decide +kernel
theorem d_X12_closedBy_11 : decode prog_14_method_94_code 11 = .ok (.iadd, 1) := by decide +kernel
theorem d_X12_closedBy_12 : decode prog_14_method_94_code 12 = .ok (.iload_n 2, 1) := by decide +kernel
theorem d_X12_closedBy_13 : decode prog_14_method_94_code 13 = .ok (.iastore, 1) := by decide +kernel
theorem d_X12_closedBy_14 : decode prog_14_method_94_code 14 = .ok (.aload_n 0, 1) := by decide +kernel
theorem d_X12_closedBy_15 : decode prog_14_method_94_code 15 = .ok (.aload_n 0, 1) := by decide +kernel
theorem d_X12_closedBy_16 : decode prog_14_method_94_code 16 = .ok (.getfield 20, 3) := by decide +kernel
theorem d_X12_closedBy_19 : decode prog_14_method_94_code 19 = .ok (.iload_n 3, 1) := by decide +kernel
theorem d_X12_closedBy_20 : decode prog_14_method_94_code 20 = .ok (.bipush 10, 2) := by decide +kernel
theorem d_X12_closedBy_22 : decode prog_14_method_94_code 22 = .ok (.idiv, 1) := by decide +kernel
theorem d_X12_closedBy_23 : decode prog_14_method_94_code 23 = .ok (.iload_n 3, 1) := by decide +kernel
theorem d_X12_closedBy_24 : decode prog_14_method_94_code 24 = .ok (.bipush 10, 2) := by decide +kernel
theorem d_X12_closedBy_26 : decode prog_14_method_94_code 26 = .ok (.irem, 1) := by decide +kernel
theorem d_X12_closedBy_27 : decode prog_14_method_94_code 27 = .ok (.invokevirtual 261, 3) := by decide +kernel
theorem d_X12_closedBy_30 : decode prog_14_method_94_code 30 = .ok (.invokestatic 235, 3) := by decide +kernel
theorem d_X12_closedBy_33 : decode prog_14_method_94_code 33 = .ok (.ireturn, 1) := by decide +kernel
def f_X12_closedBy (σ : St) (a1 : Int32) (a2 : Int32) (a3 : Int32) : Option (Int32 × St) := (f_X12_copies σ).bind (fun q1 => gd (inb ((8 : Int32) + a1) 34) ((f_X12_closing (sA q1 307 ((8 : Int32) + a1).toNatClampNeg a2) 307 (a3 / (10 : Int32)) (a3 - a3 / (10 : Int32) * (10 : Int32))).bind (fun q4 => (f_J6_bitCount_0f7a4 q4.1).bind (fun q6 => some (q6, q4.2)))))
theorem c_X12_closedBy {l : Launch} {G : gT} {χ σ : St} {a1 : Int32} {a2 : Int32} {a3 : Int32} (hf : FW G) {q : Int32 × St} (h : f_X12_closedBy σ a1 a2 a3 = some q) : Ct l G yX12_closedBy prog_14_method_94_code 4 (some .int) 4 91 [.ref (ga G 300), .int a1, .int a2, .int a3] χ σ (some (.int q.1)) χ q.2 := by
  refine Ct.of (by decide) (Nat.le_of_ble_eq_true rfl) ?_
  intro p e s m args below meth c Q X hr hlk hQ
  have hx := X.1
  have hb := X.2.1
  intro H locs ls hw hl
  have hl : lv_has ls 4 [(0, .ref (ga G 300)), (1, .int a1), (2, .int a2), (3, .int a3)] := hl
  unfold f_X12_closedBy at h
  refine lv_aload_n hx hb d_X12_closedBy_0 rfl (lv_at hl 0 rfl) ?_
  obtain ⟨q1, e2, h⟩ := bd_some h
  refine r_callV (As := []) (rest := []) (st' := []) X hw hl mwX12_copies wd_1380 wp_50 wd_1378 (c_X12_copies hf e2) (r_recv X hw ct8 (o_300 hf)) rfl ⟨Nat.le_of_ble_eq_true rfl, Nat.le_of_ble_eq_true rfl⟩ ⟨Nat.le_refl _, Nat.le_refl _⟩ rfl rfl (Nat.le_of_ble_eq_true rfl) d_X12_closedBy_1 (fun H locs hw => ?_)
  refine lv_aload_n hx hb d_X12_closedBy_4 rfl (lv_at hl 0 rfl) ?_
  refine r_getr (j := 7) X hw ct8 (o_300 hf) rfl (Nat.le_of_ble_eq_true rfl) (q := 307) rfl wd_963 d_X12_closedBy_5 ?_
  refine lv_bipush (v := (8 : Int32)) hx hb d_X12_closedBy_8 (by decide) ?_
  refine lv_iload_n hx hb d_X12_closedBy_10 rfl (lv_at hl 1 rfl) ?_
  refine lv_iadd hx hb d_X12_closedBy_11 ?_
  refine lv_iload_n hx hb d_X12_closedBy_12 rfl (lv_at hl 2 rfl) ?_
  obtain ⟨hi3, h⟩ := gd_some h
  refine m_iast X hw (o_307 hf) (Nat.le_of_ble_eq_true rfl) hi3 d_X12_closedBy_13 (fun H locs hw => ?_)
  refine lv_aload_n hx hb d_X12_closedBy_14 rfl (lv_at hl 0 rfl) ?_
  refine lv_aload_n hx hb d_X12_closedBy_15 rfl (lv_at hl 0 rfl) ?_
  refine r_getr (j := 7) X hw ct8 (o_300 hf) rfl (Nat.le_of_ble_eq_true rfl) (q := 307) rfl wd_963 d_X12_closedBy_16 ?_
  refine lv_iload_n hx hb d_X12_closedBy_19 rfl (lv_at hl 3 rfl) ?_
  refine lv_bipush (v := (10 : Int32)) hx hb d_X12_closedBy_20 (by decide) ?_
  refine lv_idiv hx hb d_X12_closedBy_22 (by decide) ?_
  refine lv_iload_n hx hb d_X12_closedBy_23 rfl (lv_at hl 3 rfl) ?_
  refine lv_bipush (v := (10 : Int32)) hx hb d_X12_closedBy_24 (by decide) ?_
  refine lv_irem hx hb d_X12_closedBy_26 (by decide) ?_
  obtain ⟨q4, e5, h⟩ := bd_some h
  refine r_callV (As := [.ref (ga G 307), .int (a3 / (10 : Int32)), .int (a3 - a3 / (10 : Int32) * (10 : Int32))]) (rest := []) (st' := [.int q4.1]) X hw hl mwX12_closing wd_1259 wp_34 wd_1257 (c_X12_closing hf (o_307 hf) (Nat.le_of_ble_eq_true rfl) e5) (r_recv X hw ct8 (o_300 hf)) rfl ⟨Nat.le_of_ble_eq_true rfl, Nat.le_of_ble_eq_true rfl⟩ ⟨Nat.le_refl _, Nat.le_refl _⟩ rfl rfl (Nat.le_of_ble_eq_true rfl) d_X12_closedBy_27 (fun H locs hw => ?_)
  obtain ⟨q6, e7, h⟩ := bd_some h
  refine r_callS (As := [.int q4.1]) (rest := []) (st' := [.int q6]) X hw hl mwJ6_bitCount_0f7a4 wd_436 wd_1272 (c_J6_bitCount_0f7a4 e7) rfl ⟨Nat.le_of_ble_eq_true rfl, Nat.le_of_ble_eq_true rfl⟩ ⟨Nat.le_refl _, Nat.le_refl _⟩ rfl rfl (Nat.le_of_ble_eq_true rfl) d_X12_closedBy_30 (fun H locs hw => ?_)
  obtain rfl := Option.some.inj h
  subst hQ
  exact r_iret X hr hlk hw d_X12_closedBy_33
abbrev yX12_viewsOf : MethodName := ⟨"OysterBedsModel", "viewsOf", "(I)I"⟩
theorem mwX12_viewsOf : MW yX12_viewsOf prog_14_method_95_code 6 (some .int) 1 := ⟨wd_1519, wd_10, by decide +kernel⟩
theorem d_X12_viewsOf_0 : decode prog_14_method_95_code 0 = .ok (.iconst 0, 1) := by decide +kernel
theorem d_X12_viewsOf_1 : decode prog_14_method_95_code 1 = .ok (.istore_n 2, 1) := by decide +kernel
theorem d_X12_viewsOf_2 : decode prog_14_method_95_code 2 = .ok (.iconst 0, 1) := by decide +kernel
theorem d_X12_viewsOf_3 : decode prog_14_method_95_code 3 = .ok (.istore_n 3, 1) := by decide +kernel
theorem d_X12_viewsOf_4 : decode prog_14_method_95_code 4 = .ok (.iload_n 3, 1) := by decide +kernel
theorem d_X12_viewsOf_5 : decode prog_14_method_95_code 5 = .ok (.bipush 16, 2) := by decide +kernel
theorem d_X12_viewsOf_7 : decode prog_14_method_95_code 7 = .ok (.if_icmp .ge 80, 3) := by decide +kernel
theorem d_X12_viewsOf_10 : decode prog_14_method_95_code 10 = .ok (.iconst 1, 1) := by decide +kernel
theorem d_X12_viewsOf_11 : decode prog_14_method_95_code 11 = .ok (.istore 4, 2) := by decide +kernel
theorem d_X12_viewsOf_13 : decode prog_14_method_95_code 13 = .ok (.iconst 0, 1) := by decide +kernel
theorem d_X12_viewsOf_14 : decode prog_14_method_95_code 14 = .ok (.istore 5, 2) := by decide +kernel
theorem d_X12_viewsOf_16 : decode prog_14_method_95_code 16 = .ok (.iload 5, 2) := by decide +kernel
theorem d_X12_viewsOf_18 : decode prog_14_method_95_code 18 = .ok (.aload_n 0, 1) := by decide +kernel
theorem d_X12_viewsOf_19 : decode prog_14_method_95_code 19 = .ok (.getfield 373, 3) := by decide +kernel
theorem d_X12_viewsOf_22 : decode prog_14_method_95_code 22 = .ok (.if_icmp .ge 44, 3) := by decide +kernel
theorem d_X12_viewsOf_25 : decode prog_14_method_95_code 25 = .ok (.iload 4, 2) := by decide +kernel
theorem d_X12_viewsOf_27 : decode prog_14_method_95_code 27 = .ok (.ifCond .eq 39, 3) := by decide +kernel
theorem d_X12_viewsOf_30 : decode prog_14_method_95_code 30 = .ok (.aload_n 0, 1) := by decide +kernel
theorem d_X12_viewsOf_31 : decode prog_14_method_95_code 31 = .ok (.iload_n 1, 1) := by decide +kernel
theorem d_X12_viewsOf_32 : decode prog_14_method_95_code 32 = .ok (.iload_n 3, 1) := by decide +kernel
theorem d_X12_viewsOf_33 : decode prog_14_method_95_code 33 = .ok (.aload_n 0, 1) := by decide +kernel
theorem d_X12_viewsOf_34 : decode prog_14_method_95_code 34 = .ok (.getfield 53, 3) := by decide +kernel
theorem d_X12_viewsOf_37 : decode prog_14_method_95_code 37 = .ok (.iload 5, 2) := by decide +kernel
theorem d_X12_viewsOf_39 : decode prog_14_method_95_code 39 = .ok (.iaload, 1) := by decide +kernel
theorem d_X12_viewsOf_40 : decode prog_14_method_95_code 40 = .ok (.invokevirtual 376, 3) := by decide +kernel
theorem d_X12_viewsOf_43 : decode prog_14_method_95_code 43 = .ok (.aload_n 0, 1) := by decide +kernel
theorem d_X12_viewsOf_44 : decode prog_14_method_95_code 44 = .ok (.getfield 56, 3) := by decide +kernel
theorem d_X12_viewsOf_47 : decode prog_14_method_95_code 47 = .ok (.iload 5, 2) := by decide +kernel
theorem d_X12_viewsOf_49 : decode prog_14_method_95_code 49 = .ok (.iaload, 1) := by decide +kernel
theorem d_X12_viewsOf_50 : decode prog_14_method_95_code 50 = .ok (.if_icmp .ne 7, 3) := by decide +kernel
theorem d_X12_viewsOf_53 : decode prog_14_method_95_code 53 = .ok (.iconst 1, 1) := by decide +kernel
theorem d_X12_viewsOf_54 : decode prog_14_method_95_code 54 = .ok (.goto 4, 3) := by decide +kernel
theorem d_X12_viewsOf_57 : decode prog_14_method_95_code 57 = .ok (.iconst 0, 1) := by decide +kernel
theorem d_X12_viewsOf_58 : decode prog_14_method_95_code 58 = .ok (.istore 4, 2) := by decide +kernel
theorem d_X12_viewsOf_60 : decode prog_14_method_95_code 60 = .ok (.iinc 5 1, 3) := by decide +kernel
theorem d_X12_viewsOf_63 : decode prog_14_method_95_code 63 = .ok (.goto (-47), 3) := by decide +kernel
theorem d_X12_viewsOf_66 : decode prog_14_method_95_code 66 = .ok (.iload_n 2, 1) := by decide +kernel
theorem d_X12_viewsOf_67 : decode prog_14_method_95_code 67 = .ok (.iload 4, 2) := by decide +kernel
theorem d_X12_viewsOf_69 : decode prog_14_method_95_code 69 = .ok (.ifCond .eq 9, 3) := by decide +kernel
theorem d_X12_viewsOf_72 : decode prog_14_method_95_code 72 = .ok (.iconst 1, 1) := by decide +kernel
theorem d_X12_viewsOf_73 : decode prog_14_method_95_code 73 = .ok (.iload_n 3, 1) := by decide +kernel
theorem d_X12_viewsOf_74 : decode prog_14_method_95_code 74 = .ok (.ishl, 1) := by decide +kernel
theorem d_X12_viewsOf_75 : decode prog_14_method_95_code 75 = .ok (.goto 4, 3) := by decide +kernel
theorem d_X12_viewsOf_78 : decode prog_14_method_95_code 78 = .ok (.iconst 0, 1) := by decide +kernel
theorem d_X12_viewsOf_79 : decode prog_14_method_95_code 79 = .ok (.ior, 1) := by decide +kernel
theorem d_X12_viewsOf_80 : decode prog_14_method_95_code 80 = .ok (.istore_n 2, 1) := by decide +kernel
theorem d_X12_viewsOf_81 : decode prog_14_method_95_code 81 = .ok (.iinc 3 1, 3) := by decide +kernel
theorem d_X12_viewsOf_84 : decode prog_14_method_95_code 84 = .ok (.goto (-80), 3) := by decide +kernel
theorem d_X12_viewsOf_87 : decode prog_14_method_95_code 87 = .ok (.iload_n 2, 1) := by decide +kernel
theorem d_X12_viewsOf_88 : decode prog_14_method_95_code 88 = .ok (.ireturn, 1) := by decide +kernel
def f_X12_viewsOf_j58_16 (τ : St) (x1 : Int32) (x2 : Int32) (x3 : Int32) (x5 : Int32) (s0 : Int32) : Option ((Int32 × Int32 × St) ⊕ (Int32 × St)) := some (.inl (s0, (x5 + (1 : Int32)), τ))
def f_X12_viewsOf_s16 (τ : St) (y1 : Int32) (y2 : Int32) (y3 : Int32) (x4 : Int32) (x5 : Int32) : Option ((Int32 × Int32 × St) ⊕ (Int32 × St)) := (if (cF τ 300 27) ≤ x5 then some (.inr (x4, τ)) else (if x4 = 0 then some (.inr (x4, τ)) else gd (inb x5 10) ((f_X12_closedBy τ y1 y3 (cA τ 328 x5.toNatClampNeg)).bind (fun q2 => gd (inb x5 10) (f_X12_viewsOf_j58_16 q2.2 y1 y2 y3 x5 (if q2.1 = (cA q2.2 329 x5.toNatClampNeg) then (1 : Int32) else (0 : Int32)))))))
def f_X12_viewsOf_j79_4 (τ : St) (x1 : Int32) (x3 : Int32) (s0 : Int32) (s1 : Int32) : Option ((Int32 × Int32 × St) ⊕ (Int32 × St)) := some (.inl ((s0 ||| s1), (x3 + (1 : Int32)), τ))
def f_X12_viewsOf_j66_4 (τ : St) (x1 : Int32) (x2 : Int32) (x3 : Int32) (x4 : Int32) : Option ((Int32 × Int32 × St) ⊕ (Int32 × St)) := f_X12_viewsOf_j79_4 τ x1 x3 x2 (if x4 = 0 then (0 : Int32) else ((1 : Int32) <<< (x3 &&& 31)))
def f_X12_viewsOf_s4 (τ : St) (y1 : Int32) (x2 : Int32) (x3 : Int32) : Option ((Int32 × Int32 × St) ⊕ (Int32 × St)) := (if (16 : Int32) ≤ x3 then some (.inr (x2, τ)) else (iter (fun z => f_X12_viewsOf_s16 z.2.2 y1 x2 x3 z.1 z.2.1) FU ((1 : Int32), (0 : Int32), τ)).bind (fun z5 => f_X12_viewsOf_j66_4 z5.2 y1 x2 x3 z5.1))
def f_X12_viewsOf (σ : St) (a1 : Int32) : Option (Int32 × St) := (iter (fun z => f_X12_viewsOf_s4 z.2.2 a1 z.1 z.2.1) FU ((0 : Int32), (0 : Int32), σ)).bind (fun z8 => some (z8.1, z8.2))
theorem c_X12_viewsOf {l : Launch} {G : gT} {χ σ : St} {a1 : Int32} (hf : FW G) {q : Int32 × St} (h : f_X12_viewsOf σ a1 = some q) : Ct l G yX12_viewsOf prog_14_method_95_code 6 (some .int) 5 114 [.ref (ga G 300), .int a1] χ σ (some (.int q.1)) χ q.2 := by
  refine Ct.of (by decide) (Nat.le_of_ble_eq_true rfl) ?_
  intro p e s m args below meth c Q X hr hlk hQ
  have hx := X.1
  have hb := X.2.1
  have j58_16 : ∀ (τ : St) (x1 : Int32) (x2 : Int32) (x3 : Int32) (x5 : Int32) (s0 : Int32) (o : (Int32 × Int32 × St) ⊕ (Int32 × St)), f_X12_viewsOf_j58_16 τ x1 x2 x3 x5 s0 = some o → Sum.elim (fun z : Int32 × Int32 × St => Wat p l e (rmk 5 114) s m args below meth c Q G 6 16 [] [(4, .int z.1), (5, .int z.2.1), (0, .ref (ga G 300)), (1, .int x1), (2, .int x2), (3, .int x3)] χ z.2.2) (fun z : Int32 × St => Wat p l e (rmk 5 114) s m args below meth c Q G 6 66 [] [(0, .ref (ga G 300)), (1, .int x1), (2, .int x2), (3, .int x3), (4, .int z.1)] χ z.2) o → Wat p l e (rmk 5 114) s m args below meth c Q G 6 58 [.int s0] [(0, .ref (ga G 300)), (1, .int x1), (2, .int x2), (3, .int x3), (5, .int x5)] χ τ := by
    intro τ x1 x2 x3 x5 s0 o h hk H locs ls hw hl
    unfold f_X12_viewsOf_j58_16 at h
    refine lv_istore (lv' := [(4, .int s0), (0, .ref (ga G 300)), (1, .int x1), (2, .int x2), (3, .int x3), (5, .int x5)]) hx hb d_X12_viewsOf_58 hl (Nat.le_of_ble_eq_true rfl) rfl (fun ls hl => ?_)
    refine lv_iinc (v := (x5 + (1 : Int32))) (k := 5) (lv' := [(5, .int (x5 + (1 : Int32))), (4, .int s0), (0, .ref (ga G 300)), (1, .int x1), (2, .int x2), (3, .int x3)]) hx hb d_X12_viewsOf_60 hl rfl (by rfl) (Nat.le_of_ble_eq_true rfl) rfl (fun ls hl => ?_)
    refine lv_goto (tgt := 16) hx hb d_X12_viewsOf_63 (by decide) ?_
    obtain rfl := Option.some.inj h
    dsimp only [Sum.elim_inl] at hk
    exact hk _ _ _ hw (lv_sub hl [1, 0, 2, 3, 4, 5] rfl)
  have b16 : ∀ (τ : St) (y1 : Int32) (y2 : Int32) (y3 : Int32) (x4 : Int32) (x5 : Int32) (o : (Int32 × Int32 × St) ⊕ (Int32 × St)), f_X12_viewsOf_s16 τ y1 y2 y3 x4 x5 = some o → Sum.elim (fun z : Int32 × Int32 × St => Wat p l e (rmk 5 114) s m args below meth c Q G 6 16 [] [(4, .int z.1), (5, .int z.2.1), (0, .ref (ga G 300)), (1, .int y1), (2, .int y2), (3, .int y3)] χ z.2.2) (fun z : Int32 × St => Wat p l e (rmk 5 114) s m args below meth c Q G 6 66 [] [(0, .ref (ga G 300)), (1, .int y1), (2, .int y2), (3, .int y3), (4, .int z.1)] χ z.2) o → Wat p l e (rmk 5 114) s m args below meth c Q G 6 16 [] [(4, .int x4), (5, .int x5), (0, .ref (ga G 300)), (1, .int y1), (2, .int y2), (3, .int y3)] χ τ := by
    intro τ y1 y2 y3 x4 x5 o h hk H locs ls hw hl
    unfold f_X12_viewsOf_s16 at h
    refine lv_iload hx hb d_X12_viewsOf_16 (lv_at hl 1 rfl) ?_
    refine lv_aload_n hx hb d_X12_viewsOf_18 rfl (lv_at hl 2 rfl) ?_
    refine m_geti (j := 27) X hw ct8 (o_300 hf) (Nat.le_of_ble_eq_true rfl) rfl (Nat.le_of_ble_eq_true rfl) wd_983 d_X12_viewsOf_19 ?_
    refine lv_icmp_ge (tgt := 66) hx hb d_X12_viewsOf_22 (by decide) (fun hc => ?_) (fun hc => ?_)
    · have h := ite_t h hc
      obtain rfl := Option.some.inj h
      dsimp only [Sum.elim_inr] at hk
      exact hk _ _ _ hw (lv_sub hl [2, 3, 4, 5, 0] rfl)
    · have h := ite_f h hc
      refine lv_iload hx hb d_X12_viewsOf_25 (lv_at hl 0 rfl) ?_
      refine lv_if_eq (tgt := 66) hx hb d_X12_viewsOf_27 (by decide) (fun hc => ?_) (fun hc => ?_)
      · have h := ite_t h hc
        obtain rfl := Option.some.inj h
        dsimp only [Sum.elim_inr] at hk
        exact hk _ _ _ hw (lv_sub hl [2, 3, 4, 5, 0] rfl)
      · have h := ite_f h hc
        refine lv_aload_n hx hb d_X12_viewsOf_30 rfl (lv_at hl 2 rfl) ?_
        refine lv_iload_n hx hb d_X12_viewsOf_31 rfl (lv_at hl 3 rfl) ?_
        refine lv_iload_n hx hb d_X12_viewsOf_32 rfl (lv_at hl 5 rfl) ?_
        refine lv_aload_n hx hb d_X12_viewsOf_33 rfl (lv_at hl 2 rfl) ?_
        refine r_getr (j := 28) X hw ct8 (o_300 hf) rfl (Nat.le_of_ble_eq_true rfl) (q := 328) rfl wd_984 d_X12_viewsOf_34 ?_
        refine lv_iload hx hb d_X12_viewsOf_37 (lv_at hl 1 rfl) ?_
        obtain ⟨hi1, h⟩ := gd_some h
        refine m_iald X hw (o_328 hf) (Nat.le_of_ble_eq_true rfl) hi1 d_X12_viewsOf_39 ?_
        obtain ⟨q2, e3, h⟩ := bd_some h
        refine r_callV (As := [.int y1, .int y3, .int (cA τ 328 x5.toNatClampNeg)]) (rest := []) (st' := [.int q2.1]) X hw hl mwX12_closedBy wd_1522 wp_63 wd_1520 (c_X12_closedBy hf e3) (r_recv X hw ct8 (o_300 hf)) rfl ⟨Nat.le_of_ble_eq_true rfl, Nat.le_of_ble_eq_true rfl⟩ ⟨Nat.le_refl _, Nat.le_refl _⟩ rfl rfl (Nat.le_of_ble_eq_true rfl) d_X12_viewsOf_40 (fun H locs hw => ?_)
        refine lv_aload_n hx hb d_X12_viewsOf_43 rfl (lv_at hl 2 rfl) ?_
        refine r_getr (j := 29) X hw ct8 (o_300 hf) rfl (Nat.le_of_ble_eq_true rfl) (q := 329) rfl wd_985 d_X12_viewsOf_44 ?_
        refine lv_iload hx hb d_X12_viewsOf_47 (lv_at hl 1 rfl) ?_
        obtain ⟨hi4, h⟩ := gd_some h
        refine m_iald X hw (o_329 hf) (Nat.le_of_ble_eq_true rfl) hi4 d_X12_viewsOf_49 ?_
        refine lv_icmp_ne (tgt := 57) hx hb d_X12_viewsOf_50 (by decide) (fun hc => ?_) (fun hc => ?_)
        · simp only [if_neg hc] at h
          refine lv_iconst (v := (0 : Int32)) hx hb d_X12_viewsOf_57 (by decide) ?_
          exact j58_16 q2.2 y1 y2 y3 x5 (0 : Int32) o h hk _ _ _ hw (lv_sub hl [2, 3, 4, 5, 1] rfl)
        · simp only [if_pos hc] at h
          refine lv_iconst (v := (1 : Int32)) hx hb d_X12_viewsOf_53 (by decide) ?_
          refine lv_goto (tgt := 58) hx hb d_X12_viewsOf_54 (by decide) ?_
          exact j58_16 q2.2 y1 y2 y3 x5 (1 : Int32) o h hk _ _ _ hw (lv_sub hl [2, 3, 4, 5, 1] rfl)
  have j79_4 : ∀ (τ : St) (x1 : Int32) (x3 : Int32) (s0 : Int32) (s1 : Int32) (o : (Int32 × Int32 × St) ⊕ (Int32 × St)), f_X12_viewsOf_j79_4 τ x1 x3 s0 s1 = some o → Sum.elim (fun z : Int32 × Int32 × St => Wat p l e (rmk 5 114) s m args below meth c Q G 6 4 [] [(2, .int z.1), (3, .int z.2.1), (0, .ref (ga G 300)), (1, .int x1)] χ z.2.2) (fun z : Int32 × St => Wat p l e (rmk 5 114) s m args below meth c Q G 6 87 [] [(2, .int z.1)] χ z.2) o → Wat p l e (rmk 5 114) s m args below meth c Q G 6 79 [.int s1, .int s0] [(0, .ref (ga G 300)), (1, .int x1), (3, .int x3)] χ τ := by
    intro τ x1 x3 s0 s1 o h hk H locs ls hw hl
    unfold f_X12_viewsOf_j79_4 at h
    refine lv_ior hx hb d_X12_viewsOf_79 ?_
    refine lv_istore_n (lv' := [(2, .int (s0 ||| s1)), (0, .ref (ga G 300)), (1, .int x1), (3, .int x3)]) hx hb d_X12_viewsOf_80 rfl hl (Nat.le_of_ble_eq_true rfl) rfl (fun ls hl => ?_)
    refine lv_iinc (v := (x3 + (1 : Int32))) (k := 3) (lv' := [(3, .int (x3 + (1 : Int32))), (2, .int (s0 ||| s1)), (0, .ref (ga G 300)), (1, .int x1)]) hx hb d_X12_viewsOf_81 hl rfl (by rfl) (Nat.le_of_ble_eq_true rfl) rfl (fun ls hl => ?_)
    refine lv_goto (tgt := 4) hx hb d_X12_viewsOf_84 (by decide) ?_
    obtain rfl := Option.some.inj h
    dsimp only [Sum.elim_inl] at hk
    exact hk _ _ _ hw (lv_sub hl [1, 0, 2, 3] rfl)
  have j66_4 : ∀ (τ : St) (x1 : Int32) (x2 : Int32) (x3 : Int32) (x4 : Int32) (o : (Int32 × Int32 × St) ⊕ (Int32 × St)), f_X12_viewsOf_j66_4 τ x1 x2 x3 x4 = some o → Sum.elim (fun z : Int32 × Int32 × St => Wat p l e (rmk 5 114) s m args below meth c Q G 6 4 [] [(2, .int z.1), (3, .int z.2.1), (0, .ref (ga G 300)), (1, .int x1)] χ z.2.2) (fun z : Int32 × St => Wat p l e (rmk 5 114) s m args below meth c Q G 6 87 [] [(2, .int z.1)] χ z.2) o → Wat p l e (rmk 5 114) s m args below meth c Q G 6 66 [] [(0, .ref (ga G 300)), (1, .int x1), (2, .int x2), (3, .int x3), (4, .int x4)] χ τ := by
    intro τ x1 x2 x3 x4 o h hk H locs ls hw hl
    unfold f_X12_viewsOf_j66_4 at h
    refine lv_iload_n hx hb d_X12_viewsOf_66 rfl (lv_at hl 2 rfl) ?_
    refine lv_iload hx hb d_X12_viewsOf_67 (lv_at hl 4 rfl) ?_
    refine lv_if_eq (tgt := 78) hx hb d_X12_viewsOf_69 (by decide) (fun hc => ?_) (fun hc => ?_)
    · simp only [if_pos hc] at h
      refine lv_iconst (v := (0 : Int32)) hx hb d_X12_viewsOf_78 (by decide) ?_
      exact j79_4 τ x1 x3 x2 (0 : Int32) o h hk _ _ _ hw (lv_sub hl [0, 1, 3] rfl)
    · simp only [if_neg hc] at h
      refine lv_iconst (v := (1 : Int32)) hx hb d_X12_viewsOf_72 (by decide) ?_
      refine lv_iload_n hx hb d_X12_viewsOf_73 rfl (lv_at hl 3 rfl) ?_
      refine lv_ishl hx hb d_X12_viewsOf_74 ?_
      refine lv_goto (tgt := 79) hx hb d_X12_viewsOf_75 (by decide) ?_
      exact j79_4 τ x1 x3 x2 ((1 : Int32) <<< (x3 &&& 31)) o h hk _ _ _ hw (lv_sub hl [0, 1, 3] rfl)
  have b4 : ∀ (τ : St) (y1 : Int32) (x2 : Int32) (x3 : Int32) (o : (Int32 × Int32 × St) ⊕ (Int32 × St)), f_X12_viewsOf_s4 τ y1 x2 x3 = some o → Sum.elim (fun z : Int32 × Int32 × St => Wat p l e (rmk 5 114) s m args below meth c Q G 6 4 [] [(2, .int z.1), (3, .int z.2.1), (0, .ref (ga G 300)), (1, .int y1)] χ z.2.2) (fun z : Int32 × St => Wat p l e (rmk 5 114) s m args below meth c Q G 6 87 [] [(2, .int z.1)] χ z.2) o → Wat p l e (rmk 5 114) s m args below meth c Q G 6 4 [] [(2, .int x2), (3, .int x3), (0, .ref (ga G 300)), (1, .int y1)] χ τ := by
    intro τ y1 x2 x3 o h hk H locs ls hw hl
    unfold f_X12_viewsOf_s4 at h
    refine lv_iload_n hx hb d_X12_viewsOf_4 rfl (lv_at hl 1 rfl) ?_
    refine lv_bipush (v := (16 : Int32)) hx hb d_X12_viewsOf_5 (by decide) ?_
    refine lv_icmp_ge (tgt := 87) hx hb d_X12_viewsOf_7 (by decide) (fun hc => ?_) (fun hc => ?_)
    · have h := ite_t h hc
      obtain rfl := Option.some.inj h
      dsimp only [Sum.elim_inr] at hk
      exact hk _ _ _ hw (lv_sub hl [0] rfl)
    · have h := ite_f h hc
      refine lv_iconst (v := (1 : Int32)) hx hb d_X12_viewsOf_10 (by decide) ?_
      refine lv_istore (lv' := [(4, .int (1 : Int32)), (2, .int x2), (3, .int x3), (0, .ref (ga G 300)), (1, .int y1)]) hx hb d_X12_viewsOf_11 hl (Nat.le_of_ble_eq_true rfl) rfl (fun ls hl => ?_)
      refine lv_iconst (v := (0 : Int32)) hx hb d_X12_viewsOf_13 (by decide) ?_
      refine lv_istore (lv' := [(5, .int (0 : Int32)), (4, .int (1 : Int32)), (2, .int x2), (3, .int x3), (0, .ref (ga G 300)), (1, .int y1)]) hx hb d_X12_viewsOf_14 hl (Nat.le_of_ble_eq_true rfl) rfl (fun ls hl => ?_)
      obtain ⟨z5, e6, h⟩ := bd_some h
      refine iter_w (Wh := fun z : Int32 × Int32 × St => Wat p l e (rmk 5 114) s m args below meth c Q G 6 16 [] [(4, .int z.1), (5, .int z.2.1), (0, .ref (ga G 300)), (1, .int y1), (2, .int x2), (3, .int x3)] χ z.2.2) (K := fun z : Int32 × St => Wat p l e (rmk 5 114) s m args below meth c Q G 6 66 [] [(0, .ref (ga G 300)), (1, .int y1), (2, .int x2), (3, .int x3), (4, .int z.1)] χ z.2) (fun z o h1 h2 => b16 z.2.2 y1 x2 x3 z.1 z.2.1 o h1 h2) FU _ _ e6 ?_ _ _ _ hw (lv_sub hl [1, 0, 4, 5, 2, 3] rfl)
      intro H locs ls hw hl
      exact j66_4 z5.2 y1 x2 x3 z5.1 o h hk _ _ _ hw (lv_sub hl [0, 1, 2, 3, 4] rfl)
  intro H locs ls hw hl
  have hl : lv_has ls 6 [(0, .ref (ga G 300)), (1, .int a1)] := hl
  unfold f_X12_viewsOf at h
  refine lv_iconst (v := (0 : Int32)) hx hb d_X12_viewsOf_0 (by decide) ?_
  refine lv_istore_n (lv' := [(2, .int (0 : Int32)), (0, .ref (ga G 300)), (1, .int a1)]) hx hb d_X12_viewsOf_1 rfl hl (Nat.le_of_ble_eq_true rfl) rfl (fun ls hl => ?_)
  refine lv_iconst (v := (0 : Int32)) hx hb d_X12_viewsOf_2 (by decide) ?_
  refine lv_istore_n (lv' := [(3, .int (0 : Int32)), (2, .int (0 : Int32)), (0, .ref (ga G 300)), (1, .int a1)]) hx hb d_X12_viewsOf_3 rfl hl (Nat.le_of_ble_eq_true rfl) rfl (fun ls hl => ?_)
  obtain ⟨z8, e9, h⟩ := bd_some h
  refine iter_w (Wh := fun z : Int32 × Int32 × St => Wat p l e (rmk 5 114) s m args below meth c Q G 6 4 [] [(2, .int z.1), (3, .int z.2.1), (0, .ref (ga G 300)), (1, .int a1)] χ z.2.2) (K := fun z : Int32 × St => Wat p l e (rmk 5 114) s m args below meth c Q G 6 87 [] [(2, .int z.1)] χ z.2) (fun z o h1 h2 => b4 z.2.2 a1 z.1 z.2.1 o h1 h2) FU _ _ e9 ?_ _ _ _ hw (lv_sub hl [1, 0, 2, 3] rfl)
  intro H locs ls hw hl
  refine lv_iload_n hx hb d_X12_viewsOf_87 rfl (lv_at hl 0 rfl) ?_
  obtain rfl := Option.some.inj h
  subst hQ
  exact r_iret X hr hlk hw d_X12_viewsOf_88
abbrev yX12_cares : MethodName := ⟨"OysterBedsModel", "cares", "(I)I"⟩
theorem mwX12_cares : MW yX12_cares prog_14_method_96_code 3 (some .int) 1 := ⟨wd_1515, wd_10, by decide +kernel⟩
theorem d_X12_cares_0 : decode prog_14_method_96_code 0 = .ok (.aload_n 0, 1) := by decide +kernel
theorem d_X12_cares_1 : decode prog_14_method_96_code 1 = .ok (.iconst 0, 1) := by decide +kernel
theorem d_X12_cares_2 : decode prog_14_method_96_code 2 = .ok (.putfield 87, 3) := by decide +kernel
theorem d_X12_cares_5 : decode prog_14_method_96_code 5 = .ok (.aload_n 0, 1) := by decide +kernel
theorem d_X12_cares_6 : decode prog_14_method_96_code 6 = .ok (.iload_n 1, 1) := by decide +kernel
theorem d_X12_cares_7 : decode prog_14_method_96_code 7 = .ok (.invokevirtual 243, 3) := by decide +kernel
theorem d_X12_cares_10 : decode prog_14_method_96_code 10 = .ok (.ifCond .ne 5, 3) := by decide +kernel
theorem d_X12_cares_13 : decode prog_14_method_96_code 13 = .ok (.iconst (-1), 1) := by decide +kernel
theorem d_X12_cares_14 : decode prog_14_method_96_code 14 = .ok (.ireturn, 1) := by decide +kernel
theorem d_X12_cares_15 : decode prog_14_method_96_code 15 = .ok (.aload_n 0, 1) := by decide +kernel
theorem d_X12_cares_16 : decode prog_14_method_96_code 16 = .ok (.iload_n 1, 1) := by decide +kernel
theorem d_X12_cares_17 : decode prog_14_method_96_code 17 = .ok (.invokevirtual 379, 3) := by decide +kernel
theorem d_X12_cares_20 : decode prog_14_method_96_code 20 = .ok (.istore_n 2, 1) := by decide +kernel
theorem d_X12_cares_21 : decode prog_14_method_96_code 21 = .ok (.aload_n 0, 1) := by decide +kernel
theorem d_X12_cares_22 : decode prog_14_method_96_code 22 = .ok (.iconst 0, 1) := by decide +kernel
theorem d_X12_cares_23 : decode prog_14_method_96_code 23 = .ok (.putfield 95, 3) := by decide +kernel
theorem d_X12_cares_26 : decode prog_14_method_96_code 26 = .ok (.aload_n 0, 1) := by decide +kernel
theorem d_X12_cares_27 : decode prog_14_method_96_code 27 = .ok (.iload_n 2, 1) := by decide +kernel
theorem d_X12_cares_28 : decode prog_14_method_96_code 28 = .ok (.invokestatic 235, 3) := by decide +kernel
theorem d_X12_cares_31 : decode prog_14_method_96_code 31 = .ok (.i2l, 1) := by decide +kernel
theorem d_X12_cares_32 : decode prog_14_method_96_code 32 = .ok (.invokevirtual 98, 3) := by decide +kernel
theorem d_X12_cares_35 : decode prog_14_method_96_code 35 = .ok (.iload_n 2, 1) := by decide +kernel
theorem d_X12_cares_36 : decode prog_14_method_96_code 36 = .ok (.ifCond .eq 24, 3) := by decide +kernel
theorem d_X12_cares_39 : decode prog_14_method_96_code 39 = .ok (.aload_n 0, 1) := by decide +kernel
theorem d_X12_cares_40 : decode prog_14_method_96_code 40 = .ok (.iload_n 2, 1) := by decide +kernel
theorem d_X12_cares_41 : decode prog_14_method_96_code 41 = .ok (.invokestatic 338, 3) := by decide +kernel
theorem d_X12_cares_44 : decode prog_14_method_96_code 44 = .ok (.i2l, 1) := by decide +kernel
theorem d_X12_cares_45 : decode prog_14_method_96_code 45 = .ok (.invokevirtual 98, 3) := by decide +kernel
theorem d_X12_cares_48 : decode prog_14_method_96_code 48 = .ok (.aload_n 0, 1) := by decide +kernel
theorem d_X12_cares_49 : decode prog_14_method_96_code 49 = .ok (.bipush 31, 2) := by decide +kernel
theorem d_X12_cares_51 : decode prog_14_method_96_code 51 = .ok (.iload_n 2, 1) := by decide +kernel
theorem d_X12_cares_52 : decode prog_14_method_96_code 52 = .ok (.invokestatic 382, 3) := by decide +kernel
theorem d_X12_cares_55 : decode prog_14_method_96_code 55 = .ok (.isub, 1) := by decide +kernel
theorem d_X12_cares_56 : decode prog_14_method_96_code 56 = .ok (.i2l, 1) := by decide +kernel
theorem d_X12_cares_57 : decode prog_14_method_96_code 57 = .ok (.invokevirtual 98, 3) := by decide +kernel
theorem d_X12_cares_60 : decode prog_14_method_96_code 60 = .ok (.iload_n 2, 1) := by decide +kernel
theorem d_X12_cares_61 : decode prog_14_method_96_code 61 = .ok (.ireturn, 1) := by decide +kernel
def f_X12_cares (σ : St) (a1 : Int32) : Option (Int32 × St) := (f_X12_isOyster (sF σ 300 0 (0 : Int32)) a1).bind (fun q1 => (if q1 = 0 then some ((-1 : Int32), (sF σ 300 0 (0 : Int32))) else (f_X12_viewsOf (sF σ 300 0 (0 : Int32)) a1).bind (fun q3 => (f_J6_bitCount_0f7a4 q3.1).bind (fun q5 => (f_X12_enters (sF q3.2 300 1 (0 : Int32)) q5.toInt64).bind (fun q7 => (if q3.1 = 0 then some (q3.1, q7) else (f_J6_numberOfTrailingZeros_0f7a4 q3.1).bind (fun q9 => (f_X12_enters q7 q9.toInt64).bind (fun q11 => (f_J6_numberOfLeadingZeros_0f7a4 q3.1).bind (fun q13 => (f_X12_enters q11 ((31 : Int32) - q13).toInt64).bind (fun q15 => some (q3.1, q15)))))))))))
theorem c_X12_cares {l : Launch} {G : gT} {χ σ : St} {a1 : Int32} (hf : FW G) {q : Int32 × St} (h : f_X12_cares σ a1 = some q) : Ct l G yX12_cares prog_14_method_96_code 3 (some .int) 6 139 [.ref (ga G 300), .int a1] χ σ (some (.int q.1)) χ q.2 := by
  refine Ct.of (by decide) (Nat.le_of_ble_eq_true rfl) ?_
  intro p e s m args below meth c Q X hr hlk hQ
  have hx := X.1
  have hb := X.2.1
  intro H locs ls hw hl
  have hl : lv_has ls 3 [(0, .ref (ga G 300)), (1, .int a1)] := hl
  unfold f_X12_cares at h
  refine lv_aload_n hx hb d_X12_cares_0 rfl (lv_at hl 0 rfl) ?_
  refine lv_iconst (v := (0 : Int32)) hx hb d_X12_cares_1 (by decide) ?_
  refine m_puti (j := 0) X hw ct8 (o_300 hf) (Nat.le_of_ble_eq_true rfl) rfl (Nat.le_of_ble_eq_true rfl) rfl rfl rfl wd_956 d_X12_cares_2 (fun H locs hw => ?_)
  refine lv_aload_n hx hb d_X12_cares_5 rfl (lv_at hl 0 rfl) ?_
  refine lv_iload_n hx hb d_X12_cares_6 rfl (lv_at hl 1 rfl) ?_
  obtain ⟨q1, e2, h⟩ := bd_some h
  refine r_callV (As := [.int a1]) (rest := []) (st' := [.int q1]) X hw hl mwX12_isOyster wd_1220 wp_29 wd_1218 (c_X12_isOyster hf e2) (r_recv X hw ct8 (o_300 hf)) rfl ⟨Nat.le_of_ble_eq_true rfl, Nat.le_of_ble_eq_true rfl⟩ ⟨Nat.le_refl _, Nat.le_refl _⟩ rfl rfl (Nat.le_of_ble_eq_true rfl) d_X12_cares_7 (fun H locs hw => ?_)
  refine lv_if_ne (tgt := 15) hx hb d_X12_cares_10 (by decide) (fun hc => ?_) (fun hc => ?_)
  · have h := ite_f h hc
    refine lv_aload_n hx hb d_X12_cares_15 rfl (lv_at hl 0 rfl) ?_
    refine lv_iload_n hx hb d_X12_cares_16 rfl (lv_at hl 1 rfl) ?_
    obtain ⟨q3, e4, h⟩ := bd_some h
    refine r_callV (As := [.int a1]) (rest := []) (st' := [.int q3.1]) X hw hl mwX12_viewsOf wd_1518 wp_62 wd_1516 (c_X12_viewsOf hf e4) (r_recv X hw ct8 (o_300 hf)) rfl ⟨Nat.le_of_ble_eq_true rfl, Nat.le_of_ble_eq_true rfl⟩ ⟨Nat.le_refl _, Nat.le_refl _⟩ rfl rfl (Nat.le_of_ble_eq_true rfl) d_X12_cares_17 (fun H locs hw => ?_)
    refine lv_istore_n (lv' := [(2, .int q3.1), (0, .ref (ga G 300)), (1, .int a1)]) hx hb d_X12_cares_20 rfl hl (Nat.le_of_ble_eq_true rfl) rfl (fun ls hl => ?_)
    refine lv_aload_n hx hb d_X12_cares_21 rfl (lv_at hl 1 rfl) ?_
    refine lv_iconst (v := (0 : Int32)) hx hb d_X12_cares_22 (by decide) ?_
    refine m_puti (j := 1) X hw ct8 (o_300 hf) (Nat.le_of_ble_eq_true rfl) rfl (Nat.le_of_ble_eq_true rfl) rfl rfl rfl wd_957 d_X12_cares_23 (fun H locs hw => ?_)
    refine lv_aload_n hx hb d_X12_cares_26 rfl (lv_at hl 1 rfl) ?_
    refine lv_iload_n hx hb d_X12_cares_27 rfl (lv_at hl 0 rfl) ?_
    obtain ⟨q5, e6, h⟩ := bd_some h
    refine r_callS (As := [.int q3.1]) (rest := [.ref (ga G 300)]) (st' := [.int q5, .ref (ga G 300)]) X hw hl mwJ6_bitCount_0f7a4 wd_436 wd_1272 (c_J6_bitCount_0f7a4 e6) rfl ⟨Nat.le_of_ble_eq_true rfl, Nat.le_of_ble_eq_true rfl⟩ ⟨Nat.le_refl _, Nat.le_refl _⟩ rfl rfl (Nat.le_of_ble_eq_true rfl) d_X12_cares_28 (fun H locs hw => ?_)
    refine lv_i2l hx hb d_X12_cares_31 rfl ?_
    obtain ⟨q7, e8, h⟩ := bd_some h
    refine r_callV (As := [.long q5.toInt64]) (rest := []) (st' := []) X hw hl mwX12_enters wd_1282 wp_38 wd_1280 (c_X12_enters hf e8) (r_recv X hw ct8 (o_300 hf)) rfl ⟨Nat.le_of_ble_eq_true rfl, Nat.le_of_ble_eq_true rfl⟩ ⟨Nat.le_refl _, Nat.le_refl _⟩ rfl rfl (Nat.le_of_ble_eq_true rfl) d_X12_cares_32 (fun H locs hw => ?_)
    refine lv_iload_n hx hb d_X12_cares_35 rfl (lv_at hl 0 rfl) ?_
    refine lv_if_eq (tgt := 60) hx hb d_X12_cares_36 (by decide) (fun hc => ?_) (fun hc => ?_)
    · have h := ite_t h hc
      refine lv_iload_n hx hb d_X12_cares_60 rfl (lv_at hl 0 rfl) ?_
      obtain rfl := Option.some.inj h
      subst hQ
      exact r_iret X hr hlk hw d_X12_cares_61
    · have h := ite_f h hc
      refine lv_aload_n hx hb d_X12_cares_39 rfl (lv_at hl 1 rfl) ?_
      refine lv_iload_n hx hb d_X12_cares_40 rfl (lv_at hl 0 rfl) ?_
      obtain ⟨q9, e10, h⟩ := bd_some h
      refine r_callS (As := [.int q3.1]) (rest := [.ref (ga G 300)]) (st' := [.int q9, .ref (ga G 300)]) X hw hl mwJ6_numberOfTrailingZeros_0f7a4 wd_1439 wd_1438 (c_J6_numberOfTrailingZeros_0f7a4 e10) rfl ⟨Nat.le_of_ble_eq_true rfl, Nat.le_of_ble_eq_true rfl⟩ ⟨Nat.le_refl _, Nat.le_refl _⟩ rfl rfl (Nat.le_of_ble_eq_true rfl) d_X12_cares_41 (fun H locs hw => ?_)
      refine lv_i2l hx hb d_X12_cares_44 rfl ?_
      obtain ⟨q11, e12, h⟩ := bd_some h
      refine r_callV (As := [.long q9.toInt64]) (rest := []) (st' := []) X hw hl mwX12_enters wd_1282 wp_38 wd_1280 (c_X12_enters hf e12) (r_recv X hw ct8 (o_300 hf)) rfl ⟨Nat.le_of_ble_eq_true rfl, Nat.le_of_ble_eq_true rfl⟩ ⟨Nat.le_refl _, Nat.le_refl _⟩ rfl rfl (Nat.le_of_ble_eq_true rfl) d_X12_cares_45 (fun H locs hw => ?_)
      refine lv_aload_n hx hb d_X12_cares_48 rfl (lv_at hl 1 rfl) ?_
      refine lv_bipush (v := (31 : Int32)) hx hb d_X12_cares_49 (by decide) ?_
      refine lv_iload_n hx hb d_X12_cares_51 rfl (lv_at hl 0 rfl) ?_
      obtain ⟨q13, e14, h⟩ := bd_some h
      refine r_callS (As := [.int q3.1]) (rest := [.int (31 : Int32), .ref (ga G 300)]) (st' := [.int q13, .int (31 : Int32), .ref (ga G 300)]) X hw hl mwJ6_numberOfLeadingZeros_0f7a4 wd_1525 wd_1524 (c_J6_numberOfLeadingZeros_0f7a4 e14) rfl ⟨Nat.le_of_ble_eq_true rfl, Nat.le_of_ble_eq_true rfl⟩ ⟨Nat.le_refl _, Nat.le_refl _⟩ rfl rfl (Nat.le_of_ble_eq_true rfl) d_X12_cares_52 (fun H locs hw => ?_)
      refine lv_isub hx hb d_X12_cares_55 ?_
      refine lv_i2l hx hb d_X12_cares_56 rfl ?_
      obtain ⟨q15, e16, h⟩ := bd_some h
      refine r_callV (As := [.long ((31 : Int32) - q13).toInt64]) (rest := []) (st' := []) X hw hl mwX12_enters wd_1282 wp_38 wd_1280 (c_X12_enters hf e16) (r_recv X hw ct8 (o_300 hf)) rfl ⟨Nat.le_of_ble_eq_true rfl, Nat.le_of_ble_eq_true rfl⟩ ⟨Nat.le_refl _, Nat.le_refl _⟩ rfl rfl (Nat.le_of_ble_eq_true rfl) d_X12_cares_57 (fun H locs hw => ?_)
      refine lv_iload_n hx hb d_X12_cares_60 rfl (lv_at hl 0 rfl) ?_
      obtain rfl := Option.some.inj h
      subst hQ
      exact r_iret X hr hlk hw d_X12_cares_61
  · have h := ite_t h hc
    refine lv_iconst (v := (-1 : Int32)) hx hb d_X12_cares_13 (by decide) ?_
    obtain rfl := Option.some.inj h
    subst hQ
    exact r_iret X hr hlk hw d_X12_cares_14
abbrev yX12_next : MethodName := ⟨"OysterBedsModel", "next", "(I)I"⟩
theorem mwX12_next : MW yX12_next prog_14_method_97_code 9 (some .int) 1 := ⟨wd_1530, wd_10, by decide +kernel⟩
theorem d_X12_next_0 : decode prog_14_method_97_code 0 = .ok (.aload_n 0, 1) := by decide +kernel
theorem d_X12_next_1 : decode prog_14_method_97_code 1 = .ok (.iconst 0, 1) := by decide +kernel
theorem d_X12_next_2 : decode prog_14_method_97_code 2 = .ok (.putfield 87, 3) := by decide +kernel
theorem d_X12_next_5 : decode prog_14_method_97_code 5 = .ok (.aload_n 0, 1) := by decide +kernel
theorem d_X12_next_6 : decode prog_14_method_97_code 6 = .ok (.iload_n 1, 1) := by decide +kernel
theorem d_X12_next_7 : decode prog_14_method_97_code 7 = .ok (.invokevirtual 243, 3) := by decide +kernel
theorem d_X12_next_10 : decode prog_14_method_97_code 10 = .ok (.ifCond .ne 5, 3) := by decide +kernel
theorem d_X12_next_13 : decode prog_14_method_97_code 13 = .ok (.iconst (-1), 1) := by decide +kernel
theorem d_X12_next_14 : decode prog_14_method_97_code 14 = .ok (.ireturn, 1) := by decide +kernel
theorem d_X12_next_15 : decode prog_14_method_97_code 15 = .ok (.aload_n 0, 1) := by decide +kernel
theorem d_X12_next_16 : decode prog_14_method_97_code 16 = .ok (.iload_n 1, 1) := by decide +kernel
theorem d_X12_next_17 : decode prog_14_method_97_code 17 = .ok (.invokevirtual 379, 3) := by decide +kernel
theorem d_X12_next_20 : decode prog_14_method_97_code 20 = .ok (.istore_n 2, 1) := by decide +kernel
theorem d_X12_next_21 : decode prog_14_method_97_code 21 = .ok (.iload_n 2, 1) := by decide +kernel
theorem d_X12_next_22 : decode prog_14_method_97_code 22 = .ok (.ifCond .ne 6, 3) := by decide +kernel
theorem d_X12_next_25 : decode prog_14_method_97_code 25 = .ok (.bipush (-2), 2) := by decide +kernel
theorem d_X12_next_27 : decode prog_14_method_97_code 27 = .ok (.ireturn, 1) := by decide +kernel
theorem d_X12_next_28 : decode prog_14_method_97_code 28 = .ok (.iconst (-1), 1) := by decide +kernel
theorem d_X12_next_29 : decode prog_14_method_97_code 29 = .ok (.istore_n 3, 1) := by decide +kernel
theorem d_X12_next_30 : decode prog_14_method_97_code 30 = .ok (.ldc_w 315, 3) := by decide +kernel
theorem d_X12_next_33 : decode prog_14_method_97_code 33 = .ok (.istore 4, 2) := by decide +kernel
theorem d_X12_next_35 : decode prog_14_method_97_code 35 = .ok (.iconst 0, 1) := by decide +kernel
theorem d_X12_next_36 : decode prog_14_method_97_code 36 = .ok (.istore 5, 2) := by decide +kernel
theorem d_X12_next_38 : decode prog_14_method_97_code 38 = .ok (.iload 5, 2) := by decide +kernel
theorem d_X12_next_40 : decode prog_14_method_97_code 40 = .ok (.bipush 40, 2) := by decide +kernel
theorem d_X12_next_42 : decode prog_14_method_97_code 42 = .ok (.if_icmp .ge 120, 3) := by decide +kernel
theorem d_X12_next_45 : decode prog_14_method_97_code 45 = .ok (.iconst 0, 1) := by decide +kernel
theorem d_X12_next_46 : decode prog_14_method_97_code 46 = .ok (.istore 6, 2) := by decide +kernel
theorem d_X12_next_48 : decode prog_14_method_97_code 48 = .ok (.iconst 0, 1) := by decide +kernel
theorem d_X12_next_49 : decode prog_14_method_97_code 49 = .ok (.istore 7, 2) := by decide +kernel
theorem d_X12_next_51 : decode prog_14_method_97_code 51 = .ok (.iload 7, 2) := by decide +kernel
theorem d_X12_next_53 : decode prog_14_method_97_code 53 = .ok (.bipush 8, 2) := by decide +kernel
theorem d_X12_next_55 : decode prog_14_method_97_code 55 = .ok (.if_icmp .gt 17, 3) := by decide +kernel
theorem d_X12_next_58 : decode prog_14_method_97_code 58 = .ok (.aload_n 0, 1) := by decide +kernel
theorem d_X12_next_59 : decode prog_14_method_97_code 59 = .ok (.getfield 59, 3) := by decide +kernel
theorem d_X12_next_62 : decode prog_14_method_97_code 62 = .ok (.iload 7, 2) := by decide +kernel
theorem d_X12_next_64 : decode prog_14_method_97_code 64 = .ok (.iconst 0, 1) := by decide +kernel
theorem d_X12_next_65 : decode prog_14_method_97_code 65 = .ok (.iastore, 1) := by decide +kernel
theorem d_X12_next_66 : decode prog_14_method_97_code 66 = .ok (.iinc 7 1, 3) := by decide +kernel
theorem d_X12_next_69 : decode prog_14_method_97_code 69 = .ok (.goto (-18), 3) := by decide +kernel
theorem d_X12_next_72 : decode prog_14_method_97_code 72 = .ok (.iconst 0, 1) := by decide +kernel
theorem d_X12_next_73 : decode prog_14_method_97_code 73 = .ok (.istore 7, 2) := by decide +kernel
theorem d_X12_next_75 : decode prog_14_method_97_code 75 = .ok (.iload 7, 2) := by decide +kernel
theorem d_X12_next_77 : decode prog_14_method_97_code 77 = .ok (.bipush 16, 2) := by decide +kernel
theorem d_X12_next_79 : decode prog_14_method_97_code 79 = .ok (.if_icmp .ge 54, 3) := by decide +kernel
theorem d_X12_next_82 : decode prog_14_method_97_code 82 = .ok (.iload_n 2, 1) := by decide +kernel
theorem d_X12_next_83 : decode prog_14_method_97_code 83 = .ok (.iload 7, 2) := by decide +kernel
theorem d_X12_next_85 : decode prog_14_method_97_code 85 = .ok (.invokestatic 113, 3) := by decide +kernel
theorem d_X12_next_88 : decode prog_14_method_97_code 88 = .ok (.ifCond .eq 39, 3) := by decide +kernel
theorem d_X12_next_91 : decode prog_14_method_97_code 91 = .ok (.aload_n 0, 1) := by decide +kernel
theorem d_X12_next_92 : decode prog_14_method_97_code 92 = .ok (.iload_n 1, 1) := by decide +kernel
theorem d_X12_next_93 : decode prog_14_method_97_code 93 = .ok (.iload 7, 2) := by decide +kernel
theorem d_X12_next_95 : decode prog_14_method_97_code 95 = .ok (.iload 5, 2) := by decide +kernel
theorem d_X12_next_97 : decode prog_14_method_97_code 97 = .ok (.invokevirtual 376, 3) := by decide +kernel
theorem d_X12_next_100 : decode prog_14_method_97_code 100 = .ok (.istore 8, 2) := by decide +kernel
theorem d_X12_next_102 : decode prog_14_method_97_code 102 = .ok (.aload_n 0, 1) := by decide +kernel
theorem d_X12_next_103 : decode prog_14_method_97_code 103 = .ok (.getfield 59, 3) := by decide +kernel
theorem d_X12_next_106 : decode prog_14_method_97_code 106 = .ok (.iload 8, 2) := by decide +kernel
theorem d_X12_next_108 : decode prog_14_method_97_code 108 = .ok (.dup2, 1) := by decide +kernel
theorem d_X12_next_109 : decode prog_14_method_97_code 109 = .ok (.iaload, 1) := by decide +kernel
theorem d_X12_next_110 : decode prog_14_method_97_code 110 = .ok (.iconst 1, 1) := by decide +kernel
theorem d_X12_next_111 : decode prog_14_method_97_code 111 = .ok (.iadd, 1) := by decide +kernel
theorem d_X12_next_112 : decode prog_14_method_97_code 112 = .ok (.iastore, 1) := by decide +kernel
theorem d_X12_next_113 : decode prog_14_method_97_code 113 = .ok (.iload 6, 2) := by decide +kernel
theorem d_X12_next_115 : decode prog_14_method_97_code 115 = .ok (.aload_n 0, 1) := by decide +kernel
theorem d_X12_next_116 : decode prog_14_method_97_code 116 = .ok (.getfield 59, 3) := by decide +kernel
theorem d_X12_next_119 : decode prog_14_method_97_code 119 = .ok (.iload 8, 2) := by decide +kernel
theorem d_X12_next_121 : decode prog_14_method_97_code 121 = .ok (.iaload, 1) := by decide +kernel
theorem d_X12_next_122 : decode prog_14_method_97_code 122 = .ok (.invokestatic 251, 3) := by decide +kernel
theorem d_X12_next_125 : decode prog_14_method_97_code 125 = .ok (.istore 6, 2) := by decide +kernel
theorem d_X12_next_127 : decode prog_14_method_97_code 127 = .ok (.iinc 7 1, 3) := by decide +kernel
theorem d_X12_next_130 : decode prog_14_method_97_code 130 = .ok (.goto (-55), 3) := by decide +kernel
theorem d_X12_next_133 : decode prog_14_method_97_code 133 = .ok (.iload 6, 2) := by decide +kernel
theorem d_X12_next_135 : decode prog_14_method_97_code 135 = .ok (.iload 4, 2) := by decide +kernel
theorem d_X12_next_137 : decode prog_14_method_97_code 137 = .ok (.if_icmp .ge 8, 3) := by decide +kernel
theorem d_X12_next_140 : decode prog_14_method_97_code 140 = .ok (.iload 5, 2) := by decide +kernel
theorem d_X12_next_142 : decode prog_14_method_97_code 142 = .ok (.goto 4, 3) := by decide +kernel
theorem d_X12_next_145 : decode prog_14_method_97_code 145 = .ok (.iload_n 3, 1) := by decide +kernel
theorem d_X12_next_146 : decode prog_14_method_97_code 146 = .ok (.istore_n 3, 1) := by decide +kernel
theorem d_X12_next_147 : decode prog_14_method_97_code 147 = .ok (.iload 4, 2) := by decide +kernel
theorem d_X12_next_149 : decode prog_14_method_97_code 149 = .ok (.iload 6, 2) := by decide +kernel
theorem d_X12_next_151 : decode prog_14_method_97_code 151 = .ok (.invokestatic 126, 3) := by decide +kernel
theorem d_X12_next_154 : decode prog_14_method_97_code 154 = .ok (.istore 4, 2) := by decide +kernel
theorem d_X12_next_156 : decode prog_14_method_97_code 156 = .ok (.iinc 5 1, 3) := by decide +kernel
theorem d_X12_next_159 : decode prog_14_method_97_code 159 = .ok (.goto (-121), 3) := by decide +kernel
theorem d_X12_next_162 : decode prog_14_method_97_code 162 = .ok (.aload_n 0, 1) := by decide +kernel
theorem d_X12_next_163 : decode prog_14_method_97_code 163 = .ok (.iconst 0, 1) := by decide +kernel
theorem d_X12_next_164 : decode prog_14_method_97_code 164 = .ok (.putfield 95, 3) := by decide +kernel
theorem d_X12_next_167 : decode prog_14_method_97_code 167 = .ok (.aload_n 0, 1) := by decide +kernel
theorem d_X12_next_168 : decode prog_14_method_97_code 168 = .ok (.iload 4, 2) := by decide +kernel
theorem d_X12_next_170 : decode prog_14_method_97_code 170 = .ok (.i2l, 1) := by decide +kernel
theorem d_X12_next_171 : decode prog_14_method_97_code 171 = .ok (.invokevirtual 98, 3) := by decide +kernel
theorem d_X12_next_174 : decode prog_14_method_97_code 174 = .ok (.iload_n 3, 1) := by decide +kernel
theorem d_X12_next_175 : decode prog_14_method_97_code 175 = .ok (.ireturn, 1) := by decide +kernel
def f_X12_next_s51 (τ : St) (y1 : Int32) (y2 : Int32) (y3 : Int32) (y4 : Int32) (y5 : Int32) (y6 : Int32) (x7 : Int32) : Option ((Int32 × St) ⊕ (St)) := (if (8 : Int32) < x7 then some (.inr τ) else gd (inb x7 9) (some (.inl ((x7 + (1 : Int32)), (sA τ 330 x7.toNatClampNeg (0 : Int32))))))
def f_X12_next_j127_75 (τ : St) (x1 : Int32) (x2 : Int32) (x3 : Int32) (x4 : Int32) (x5 : Int32) (x6 : Int32) (x7 : Int32) : Option ((Int32 × Int32 × St) ⊕ (Int32 × St)) := some (.inl (x6, (x7 + (1 : Int32)), τ))
def f_X12_next_s75 (τ : St) (y1 : Int32) (y2 : Int32) (y3 : Int32) (y4 : Int32) (y5 : Int32) (x6 : Int32) (x7 : Int32) : Option ((Int32 × Int32 × St) ⊕ (Int32 × St)) := (if (16 : Int32) ≤ x7 then some (.inr (x6, τ)) else (f_X12_has y2 x7).bind (fun q9 => (if q9 = 0 then f_X12_next_j127_75 τ y1 y2 y3 y4 y5 x6 x7 else (f_X12_closedBy τ y1 x7 y5).bind (fun q11 => gd (inb q11.1 9) (gd (inb q11.1 9) (gd (inb q11.1 9) (f_X12_next_j127_75 (sA q11.2 330 (q11.1).toNatClampNeg ((cA q11.2 330 (q11.1).toNatClampNeg) + (1 : Int32))) y1 y2 y3 y4 y5 (if x6 < (cA (sA q11.2 330 (q11.1).toNatClampNeg ((cA q11.2 330 (q11.1).toNatClampNeg) + (1 : Int32))) 330 (q11.1).toNatClampNeg) then (cA (sA q11.2 330 (q11.1).toNatClampNeg ((cA q11.2 330 (q11.1).toNatClampNeg) + (1 : Int32))) 330 (q11.1).toNatClampNeg) else x6) x7)))))))
def f_X12_next_j146_38 (τ : St) (x1 : Int32) (x2 : Int32) (x4 : Int32) (x5 : Int32) (x6 : Int32) (s0 : Int32) : Option ((Int32 × Int32 × Int32 × St) ⊕ (Int32 × Int32 × St)) := some (.inl (s0, (if x6 < x4 then x6 else x4), (x5 + (1 : Int32)), τ))
def f_X12_next_s38 (τ : St) (y1 : Int32) (y2 : Int32) (x3 : Int32) (x4 : Int32) (x5 : Int32) : Option ((Int32 × Int32 × Int32 × St) ⊕ (Int32 × Int32 × St)) := (if (40 : Int32) ≤ x5 then some (.inr (x3, x4, τ)) else (iter (fun z => f_X12_next_s51 z.2 y1 y2 x3 x4 x5 (0 : Int32) z.1) FU ((0 : Int32), τ)).bind (fun z6 => (iter (fun z => f_X12_next_s75 z.2.2 y1 y2 x3 x4 x5 z.1 z.2.1) FU ((0 : Int32), (0 : Int32), z6)).bind (fun z16 => f_X12_next_j146_38 z16.2 y1 y2 x4 x5 z16.1 (if x4 ≤ z16.1 then x3 else x5))))
def f_X12_next (σ : St) (a1 : Int32) : Option (Int32 × St) := (f_X12_isOyster (sF σ 300 0 (0 : Int32)) a1).bind (fun q1 => (if q1 = 0 then some ((-1 : Int32), (sF σ 300 0 (0 : Int32))) else (f_X12_viewsOf (sF σ 300 0 (0 : Int32)) a1).bind (fun q3 => (if q3.1 = 0 then some ((-2 : Int32), q3.2) else (iter (fun z => f_X12_next_s38 z.2.2.2 a1 q3.1 z.1 z.2.1 z.2.2.1) FU ((-1 : Int32), (1000000 : Int32), (0 : Int32), q3.2)).bind (fun z19 => (f_X12_enters (sF z19.2.2 300 1 (0 : Int32)) (z19.2.1).toInt64).bind (fun q22 => some (z19.1, q22)))))))
theorem c_X12_next {l : Launch} {G : gT} {χ σ : St} {a1 : Int32} (hf : FW G) {q : Int32 × St} (h : f_X12_next σ a1 = some q) : Ct l G yX12_next prog_14_method_97_code 9 (some .int) 6 139 [.ref (ga G 300), .int a1] χ σ (some (.int q.1)) χ q.2 := by
  refine Ct.of (by decide) (Nat.le_of_ble_eq_true rfl) ?_
  intro p e s m args below meth c Q X hr hlk hQ
  have hx := X.1
  have hb := X.2.1
  have b51 : ∀ (τ : St) (y1 : Int32) (y2 : Int32) (y3 : Int32) (y4 : Int32) (y5 : Int32) (y6 : Int32) (x7 : Int32) (o : (Int32 × St) ⊕ (St)), f_X12_next_s51 τ y1 y2 y3 y4 y5 y6 x7 = some o → Sum.elim (fun z : Int32 × St => Wat p l e (rmk 6 139) s m args below meth c Q G 9 51 [] [(7, .int z.1), (0, .ref (ga G 300)), (1, .int y1), (2, .int y2), (3, .int y3), (4, .int y4), (5, .int y5), (6, .int y6)] χ z.2) (fun z : St => Wat p l e (rmk 6 139) s m args below meth c Q G 9 72 [] [(0, .ref (ga G 300)), (1, .int y1), (2, .int y2), (3, .int y3), (4, .int y4), (5, .int y5), (6, .int y6)] χ z) o → Wat p l e (rmk 6 139) s m args below meth c Q G 9 51 [] [(7, .int x7), (0, .ref (ga G 300)), (1, .int y1), (2, .int y2), (3, .int y3), (4, .int y4), (5, .int y5), (6, .int y6)] χ τ := by
    intro τ y1 y2 y3 y4 y5 y6 x7 o h hk H locs ls hw hl
    unfold f_X12_next_s51 at h
    refine lv_iload hx hb d_X12_next_51 (lv_at hl 0 rfl) ?_
    refine lv_bipush (v := (8 : Int32)) hx hb d_X12_next_53 (by decide) ?_
    refine lv_icmp_gt (tgt := 72) hx hb d_X12_next_55 (by decide) (fun hc => ?_) (fun hc => ?_)
    · have h := ite_t h hc
      obtain rfl := Option.some.inj h
      dsimp only [Sum.elim_inr] at hk
      exact hk _ _ _ hw (lv_sub hl [1, 2, 3, 4, 5, 6, 7] rfl)
    · have h := ite_f h hc
      refine lv_aload_n hx hb d_X12_next_58 rfl (lv_at hl 1 rfl) ?_
      refine r_getr (j := 30) X hw ct8 (o_300 hf) rfl (Nat.le_of_ble_eq_true rfl) (q := 330) rfl wd_986 d_X12_next_59 ?_
      refine lv_iload hx hb d_X12_next_62 (lv_at hl 0 rfl) ?_
      refine lv_iconst (v := (0 : Int32)) hx hb d_X12_next_64 (by decide) ?_
      obtain ⟨hi5, h⟩ := gd_some h
      refine m_iast X hw (o_330 hf) (Nat.le_of_ble_eq_true rfl) hi5 d_X12_next_65 (fun H locs hw => ?_)
      refine lv_iinc (v := (x7 + (1 : Int32))) (k := 0) (lv' := [(7, .int (x7 + (1 : Int32))), (0, .ref (ga G 300)), (1, .int y1), (2, .int y2), (3, .int y3), (4, .int y4), (5, .int y5), (6, .int y6)]) hx hb d_X12_next_66 hl rfl (by rfl) (Nat.le_of_ble_eq_true rfl) rfl (fun ls hl => ?_)
      refine lv_goto (tgt := 51) hx hb d_X12_next_69 (by decide) ?_
      obtain rfl := Option.some.inj h
      dsimp only [Sum.elim_inl] at hk
      exact hk _ _ _ hw (lv_sub hl [0, 1, 2, 3, 4, 5, 6, 7] rfl)
  have j127_75 : ∀ (τ : St) (x1 : Int32) (x2 : Int32) (x3 : Int32) (x4 : Int32) (x5 : Int32) (x6 : Int32) (x7 : Int32) (o : (Int32 × Int32 × St) ⊕ (Int32 × St)), f_X12_next_j127_75 τ x1 x2 x3 x4 x5 x6 x7 = some o → Sum.elim (fun z : Int32 × Int32 × St => Wat p l e (rmk 6 139) s m args below meth c Q G 9 75 [] [(6, .int z.1), (7, .int z.2.1), (0, .ref (ga G 300)), (1, .int x1), (2, .int x2), (3, .int x3), (4, .int x4), (5, .int x5)] χ z.2.2) (fun z : Int32 × St => Wat p l e (rmk 6 139) s m args below meth c Q G 9 133 [] [(0, .ref (ga G 300)), (1, .int x1), (2, .int x2), (3, .int x3), (4, .int x4), (5, .int x5), (6, .int z.1)] χ z.2) o → Wat p l e (rmk 6 139) s m args below meth c Q G 9 127 [] [(0, .ref (ga G 300)), (1, .int x1), (2, .int x2), (3, .int x3), (4, .int x4), (5, .int x5), (6, .int x6), (7, .int x7)] χ τ := by
    intro τ x1 x2 x3 x4 x5 x6 x7 o h hk H locs ls hw hl
    unfold f_X12_next_j127_75 at h
    refine lv_iinc (v := (x7 + (1 : Int32))) (k := 7) (lv' := [(7, .int (x7 + (1 : Int32))), (0, .ref (ga G 300)), (1, .int x1), (2, .int x2), (3, .int x3), (4, .int x4), (5, .int x5), (6, .int x6)]) hx hb d_X12_next_127 hl rfl (by rfl) (Nat.le_of_ble_eq_true rfl) rfl (fun ls hl => ?_)
    refine lv_goto (tgt := 75) hx hb d_X12_next_130 (by decide) ?_
    obtain rfl := Option.some.inj h
    dsimp only [Sum.elim_inl] at hk
    exact hk _ _ _ hw (lv_sub hl [7, 0, 1, 2, 3, 4, 5, 6] rfl)
  have b75 : ∀ (τ : St) (y1 : Int32) (y2 : Int32) (y3 : Int32) (y4 : Int32) (y5 : Int32) (x6 : Int32) (x7 : Int32) (o : (Int32 × Int32 × St) ⊕ (Int32 × St)), f_X12_next_s75 τ y1 y2 y3 y4 y5 x6 x7 = some o → Sum.elim (fun z : Int32 × Int32 × St => Wat p l e (rmk 6 139) s m args below meth c Q G 9 75 [] [(6, .int z.1), (7, .int z.2.1), (0, .ref (ga G 300)), (1, .int y1), (2, .int y2), (3, .int y3), (4, .int y4), (5, .int y5)] χ z.2.2) (fun z : Int32 × St => Wat p l e (rmk 6 139) s m args below meth c Q G 9 133 [] [(0, .ref (ga G 300)), (1, .int y1), (2, .int y2), (3, .int y3), (4, .int y4), (5, .int y5), (6, .int z.1)] χ z.2) o → Wat p l e (rmk 6 139) s m args below meth c Q G 9 75 [] [(6, .int x6), (7, .int x7), (0, .ref (ga G 300)), (1, .int y1), (2, .int y2), (3, .int y3), (4, .int y4), (5, .int y5)] χ τ := by
    intro τ y1 y2 y3 y4 y5 x6 x7 o h hk H locs ls hw hl
    unfold f_X12_next_s75 at h
    refine lv_iload hx hb d_X12_next_75 (lv_at hl 1 rfl) ?_
    refine lv_bipush (v := (16 : Int32)) hx hb d_X12_next_77 (by decide) ?_
    refine lv_icmp_ge (tgt := 133) hx hb d_X12_next_79 (by decide) (fun hc => ?_) (fun hc => ?_)
    · have h := ite_t h hc
      obtain rfl := Option.some.inj h
      dsimp only [Sum.elim_inr] at hk
      exact hk _ _ _ hw (lv_sub hl [2, 3, 4, 5, 6, 7, 0] rfl)
    · have h := ite_f h hc
      refine lv_iload_n hx hb d_X12_next_82 rfl (lv_at hl 4 rfl) ?_
      refine lv_iload hx hb d_X12_next_83 (lv_at hl 1 rfl) ?_
      obtain ⟨q9, e10, h⟩ := bd_some h
      refine r_callS (As := [.int y2, .int x7]) (rest := []) (st' := [.int q9]) X hw hl mwX12_has wd_1266 wd_1265 (c_X12_has hf e10) rfl ⟨Nat.le_of_ble_eq_true rfl, Nat.le_of_ble_eq_true rfl⟩ ⟨Nat.le_refl _, Nat.le_refl _⟩ rfl rfl (Nat.le_of_ble_eq_true rfl) d_X12_next_85 (fun H locs hw => ?_)
      refine lv_if_eq (tgt := 127) hx hb d_X12_next_88 (by decide) (fun hc => ?_) (fun hc => ?_)
      · have h := ite_t h hc
        exact j127_75 τ y1 y2 y3 y4 y5 x6 x7 o h hk _ _ _ hw (lv_sub hl [2, 3, 4, 5, 6, 7, 0, 1] rfl)
      · have h := ite_f h hc
        refine lv_aload_n hx hb d_X12_next_91 rfl (lv_at hl 2 rfl) ?_
        refine lv_iload_n hx hb d_X12_next_92 rfl (lv_at hl 3 rfl) ?_
        refine lv_iload hx hb d_X12_next_93 (lv_at hl 1 rfl) ?_
        refine lv_iload hx hb d_X12_next_95 (lv_at hl 7 rfl) ?_
        obtain ⟨q11, e12, h⟩ := bd_some h
        refine r_callV (As := [.int y1, .int x7, .int y5]) (rest := []) (st' := [.int q11.1]) X hw hl mwX12_closedBy wd_1522 wp_63 wd_1520 (c_X12_closedBy hf e12) (r_recv X hw ct8 (o_300 hf)) rfl ⟨Nat.le_of_ble_eq_true rfl, Nat.le_of_ble_eq_true rfl⟩ ⟨Nat.le_refl _, Nat.le_refl _⟩ rfl rfl (Nat.le_of_ble_eq_true rfl) d_X12_next_97 (fun H locs hw => ?_)
        refine lv_istore (lv' := [(8, .int q11.1), (6, .int x6), (7, .int x7), (0, .ref (ga G 300)), (1, .int y1), (2, .int y2), (3, .int y3), (4, .int y4), (5, .int y5)]) hx hb d_X12_next_100 hl (Nat.le_of_ble_eq_true rfl) rfl (fun ls hl => ?_)
        refine lv_aload_n hx hb d_X12_next_102 rfl (lv_at hl 3 rfl) ?_
        refine r_getr (j := 30) X hw ct8 (o_300 hf) rfl (Nat.le_of_ble_eq_true rfl) (q := 330) rfl wd_986 d_X12_next_103 ?_
        refine lv_iload hx hb d_X12_next_106 (lv_at hl 0 rfl) ?_
        refine lv_dup2_11 hx hb d_X12_next_108 rfl rfl ?_
        obtain ⟨hi13, h⟩ := gd_some h
        refine m_iald X hw (o_330 hf) (Nat.le_of_ble_eq_true rfl) hi13 d_X12_next_109 ?_
        refine lv_iconst (v := (1 : Int32)) hx hb d_X12_next_110 (by decide) ?_
        refine lv_iadd hx hb d_X12_next_111 ?_
        obtain ⟨hi14, h⟩ := gd_some h
        refine m_iast X hw (o_330 hf) (Nat.le_of_ble_eq_true rfl) hi14 d_X12_next_112 (fun H locs hw => ?_)
        refine lv_iload hx hb d_X12_next_113 (lv_at hl 1 rfl) ?_
        refine lv_aload_n hx hb d_X12_next_115 rfl (lv_at hl 3 rfl) ?_
        refine r_getr (j := 30) X hw ct8 (o_300 hf) rfl (Nat.le_of_ble_eq_true rfl) (q := 330) rfl wd_986 d_X12_next_116 ?_
        refine lv_iload hx hb d_X12_next_119 (lv_at hl 0 rfl) ?_
        obtain ⟨hi15, h⟩ := gd_some h
        refine m_iald X hw (o_330 hf) (Nat.le_of_ble_eq_true rfl) hi15 d_X12_next_121 ?_
        refine r_max X hl wd_1232 ⟨Nat.le_of_ble_eq_true rfl, Nat.le_of_ble_eq_true rfl⟩ ⟨Nat.le_refl _, Nat.le_refl _⟩ d_X12_next_122 ?_
        refine lv_istore (lv' := [(6, .int (if x6 < (cA (sA q11.2 330 (q11.1).toNatClampNeg ((cA q11.2 330 (q11.1).toNatClampNeg) + (1 : Int32))) 330 (q11.1).toNatClampNeg) then (cA (sA q11.2 330 (q11.1).toNatClampNeg ((cA q11.2 330 (q11.1).toNatClampNeg) + (1 : Int32))) 330 (q11.1).toNatClampNeg) else x6)), (8, .int q11.1), (7, .int x7), (0, .ref (ga G 300)), (1, .int y1), (2, .int y2), (3, .int y3), (4, .int y4), (5, .int y5)]) hx hb d_X12_next_125 hl (Nat.le_of_ble_eq_true rfl) rfl (fun ls hl => ?_)
        exact j127_75 (sA q11.2 330 (q11.1).toNatClampNeg ((cA q11.2 330 (q11.1).toNatClampNeg) + (1 : Int32))) y1 y2 y3 y4 y5 (if x6 < (cA (sA q11.2 330 (q11.1).toNatClampNeg ((cA q11.2 330 (q11.1).toNatClampNeg) + (1 : Int32))) 330 (q11.1).toNatClampNeg) then (cA (sA q11.2 330 (q11.1).toNatClampNeg ((cA q11.2 330 (q11.1).toNatClampNeg) + (1 : Int32))) 330 (q11.1).toNatClampNeg) else x6) x7 o h hk _ _ _ hw (lv_sub hl [3, 4, 5, 6, 7, 8, 0, 2] rfl)
  have j146_38 : ∀ (τ : St) (x1 : Int32) (x2 : Int32) (x4 : Int32) (x5 : Int32) (x6 : Int32) (s0 : Int32) (o : (Int32 × Int32 × Int32 × St) ⊕ (Int32 × Int32 × St)), f_X12_next_j146_38 τ x1 x2 x4 x5 x6 s0 = some o → Sum.elim (fun z : Int32 × Int32 × Int32 × St => Wat p l e (rmk 6 139) s m args below meth c Q G 9 38 [] [(3, .int z.1), (4, .int z.2.1), (5, .int z.2.2.1), (0, .ref (ga G 300)), (1, .int x1), (2, .int x2)] χ z.2.2.2) (fun z : Int32 × Int32 × St => Wat p l e (rmk 6 139) s m args below meth c Q G 9 162 [] [(0, .ref (ga G 300)), (3, .int z.1), (4, .int z.2.1)] χ z.2.2) o → Wat p l e (rmk 6 139) s m args below meth c Q G 9 146 [.int s0] [(0, .ref (ga G 300)), (1, .int x1), (2, .int x2), (4, .int x4), (5, .int x5), (6, .int x6)] χ τ := by
    intro τ x1 x2 x4 x5 x6 s0 o h hk H locs ls hw hl
    unfold f_X12_next_j146_38 at h
    refine lv_istore_n (lv' := [(3, .int s0), (0, .ref (ga G 300)), (1, .int x1), (2, .int x2), (4, .int x4), (5, .int x5), (6, .int x6)]) hx hb d_X12_next_146 rfl hl (Nat.le_of_ble_eq_true rfl) rfl (fun ls hl => ?_)
    refine lv_iload hx hb d_X12_next_147 (lv_at hl 4 rfl) ?_
    refine lv_iload hx hb d_X12_next_149 (lv_at hl 6 rfl) ?_
    refine r_min X hl wd_1103 ⟨Nat.le_of_ble_eq_true rfl, Nat.le_of_ble_eq_true rfl⟩ ⟨Nat.le_refl _, Nat.le_refl _⟩ d_X12_next_151 ?_
    refine lv_istore (lv' := [(4, .int (if x6 < x4 then x6 else x4)), (3, .int s0), (0, .ref (ga G 300)), (1, .int x1), (2, .int x2), (5, .int x5), (6, .int x6)]) hx hb d_X12_next_154 hl (Nat.le_of_ble_eq_true rfl) rfl (fun ls hl => ?_)
    refine lv_iinc (v := (x5 + (1 : Int32))) (k := 5) (lv' := [(5, .int (x5 + (1 : Int32))), (4, .int (if x6 < x4 then x6 else x4)), (3, .int s0), (0, .ref (ga G 300)), (1, .int x1), (2, .int x2), (6, .int x6)]) hx hb d_X12_next_156 hl rfl (by rfl) (Nat.le_of_ble_eq_true rfl) rfl (fun ls hl => ?_)
    refine lv_goto (tgt := 38) hx hb d_X12_next_159 (by decide) ?_
    obtain rfl := Option.some.inj h
    dsimp only [Sum.elim_inl] at hk
    exact hk _ _ _ hw (lv_sub hl [2, 1, 0, 3, 4, 5] rfl)
  have b38 : ∀ (τ : St) (y1 : Int32) (y2 : Int32) (x3 : Int32) (x4 : Int32) (x5 : Int32) (o : (Int32 × Int32 × Int32 × St) ⊕ (Int32 × Int32 × St)), f_X12_next_s38 τ y1 y2 x3 x4 x5 = some o → Sum.elim (fun z : Int32 × Int32 × Int32 × St => Wat p l e (rmk 6 139) s m args below meth c Q G 9 38 [] [(3, .int z.1), (4, .int z.2.1), (5, .int z.2.2.1), (0, .ref (ga G 300)), (1, .int y1), (2, .int y2)] χ z.2.2.2) (fun z : Int32 × Int32 × St => Wat p l e (rmk 6 139) s m args below meth c Q G 9 162 [] [(0, .ref (ga G 300)), (3, .int z.1), (4, .int z.2.1)] χ z.2.2) o → Wat p l e (rmk 6 139) s m args below meth c Q G 9 38 [] [(3, .int x3), (4, .int x4), (5, .int x5), (0, .ref (ga G 300)), (1, .int y1), (2, .int y2)] χ τ := by
    intro τ y1 y2 x3 x4 x5 o h hk H locs ls hw hl
    unfold f_X12_next_s38 at h
    refine lv_iload hx hb d_X12_next_38 (lv_at hl 2 rfl) ?_
    refine lv_bipush (v := (40 : Int32)) hx hb d_X12_next_40 (by decide) ?_
    refine lv_icmp_ge (tgt := 162) hx hb d_X12_next_42 (by decide) (fun hc => ?_) (fun hc => ?_)
    · have h := ite_t h hc
      obtain rfl := Option.some.inj h
      dsimp only [Sum.elim_inr] at hk
      exact hk _ _ _ hw (lv_sub hl [3, 0, 1] rfl)
    · have h := ite_f h hc
      refine lv_iconst (v := (0 : Int32)) hx hb d_X12_next_45 (by decide) ?_
      refine lv_istore (lv' := [(6, .int (0 : Int32)), (3, .int x3), (4, .int x4), (5, .int x5), (0, .ref (ga G 300)), (1, .int y1), (2, .int y2)]) hx hb d_X12_next_46 hl (Nat.le_of_ble_eq_true rfl) rfl (fun ls hl => ?_)
      refine lv_iconst (v := (0 : Int32)) hx hb d_X12_next_48 (by decide) ?_
      refine lv_istore (lv' := [(7, .int (0 : Int32)), (6, .int (0 : Int32)), (3, .int x3), (4, .int x4), (5, .int x5), (0, .ref (ga G 300)), (1, .int y1), (2, .int y2)]) hx hb d_X12_next_49 hl (Nat.le_of_ble_eq_true rfl) rfl (fun ls hl => ?_)
      obtain ⟨z6, e7, h⟩ := bd_some h
      refine iter_w (Wh := fun z : Int32 × St => Wat p l e (rmk 6 139) s m args below meth c Q G 9 51 [] [(7, .int z.1), (0, .ref (ga G 300)), (1, .int y1), (2, .int y2), (3, .int x3), (4, .int x4), (5, .int x5), (6, .int (0 : Int32))] χ z.2) (K := fun z : St => Wat p l e (rmk 6 139) s m args below meth c Q G 9 72 [] [(0, .ref (ga G 300)), (1, .int y1), (2, .int y2), (3, .int x3), (4, .int x4), (5, .int x5), (6, .int (0 : Int32))] χ z) (fun z o h1 h2 => b51 z.2 y1 y2 x3 x4 x5 (0 : Int32) z.1 o h1 h2) FU _ _ e7 ?_ _ _ _ hw (lv_sub hl [0, 5, 6, 7, 2, 3, 4, 1] rfl)
      intro H locs ls hw hl
      refine lv_iconst (v := (0 : Int32)) hx hb d_X12_next_72 (by decide) ?_
      refine lv_istore (lv' := [(7, .int (0 : Int32)), (0, .ref (ga G 300)), (1, .int y1), (2, .int y2), (3, .int x3), (4, .int x4), (5, .int x5), (6, .int (0 : Int32))]) hx hb d_X12_next_73 hl (Nat.le_of_ble_eq_true rfl) rfl (fun ls hl => ?_)
      obtain ⟨z16, e17, h⟩ := bd_some h
      refine iter_w (Wh := fun z : Int32 × Int32 × St => Wat p l e (rmk 6 139) s m args below meth c Q G 9 75 [] [(6, .int z.1), (7, .int z.2.1), (0, .ref (ga G 300)), (1, .int y1), (2, .int y2), (3, .int x3), (4, .int x4), (5, .int x5)] χ z.2.2) (K := fun z : Int32 × St => Wat p l e (rmk 6 139) s m args below meth c Q G 9 133 [] [(0, .ref (ga G 300)), (1, .int y1), (2, .int y2), (3, .int x3), (4, .int x4), (5, .int x5), (6, .int z.1)] χ z.2) (fun z o h1 h2 => b75 z.2.2 y1 y2 x3 x4 x5 z.1 z.2.1 o h1 h2) FU _ _ e17 ?_ _ _ _ hw (lv_sub hl [7, 0, 1, 2, 3, 4, 5, 6] rfl)
      intro H locs ls hw hl
      refine lv_iload hx hb d_X12_next_133 (lv_at hl 6 rfl) ?_
      refine lv_iload hx hb d_X12_next_135 (lv_at hl 4 rfl) ?_
      refine lv_icmp_ge (tgt := 145) hx hb d_X12_next_137 (by decide) (fun hc => ?_) (fun hc => ?_)
      · simp only [if_pos hc] at h
        refine lv_iload_n hx hb d_X12_next_145 rfl (lv_at hl 3 rfl) ?_
        exact j146_38 z16.2 y1 y2 x4 x5 z16.1 x3 o h hk _ _ _ hw (lv_sub hl [0, 1, 2, 4, 5, 6] rfl)
      · simp only [if_neg hc] at h
        refine lv_iload hx hb d_X12_next_140 (lv_at hl 5 rfl) ?_
        refine lv_goto (tgt := 146) hx hb d_X12_next_142 (by decide) ?_
        exact j146_38 z16.2 y1 y2 x4 x5 z16.1 x5 o h hk _ _ _ hw (lv_sub hl [0, 1, 2, 4, 5, 6] rfl)
  intro H locs ls hw hl
  have hl : lv_has ls 9 [(0, .ref (ga G 300)), (1, .int a1)] := hl
  unfold f_X12_next at h
  refine lv_aload_n hx hb d_X12_next_0 rfl (lv_at hl 0 rfl) ?_
  refine lv_iconst (v := (0 : Int32)) hx hb d_X12_next_1 (by decide) ?_
  refine m_puti (j := 0) X hw ct8 (o_300 hf) (Nat.le_of_ble_eq_true rfl) rfl (Nat.le_of_ble_eq_true rfl) rfl rfl rfl wd_956 d_X12_next_2 (fun H locs hw => ?_)
  refine lv_aload_n hx hb d_X12_next_5 rfl (lv_at hl 0 rfl) ?_
  refine lv_iload_n hx hb d_X12_next_6 rfl (lv_at hl 1 rfl) ?_
  obtain ⟨q1, e2, h⟩ := bd_some h
  refine r_callV (As := [.int a1]) (rest := []) (st' := [.int q1]) X hw hl mwX12_isOyster wd_1220 wp_29 wd_1218 (c_X12_isOyster hf e2) (r_recv X hw ct8 (o_300 hf)) rfl ⟨Nat.le_of_ble_eq_true rfl, Nat.le_of_ble_eq_true rfl⟩ ⟨Nat.le_refl _, Nat.le_refl _⟩ rfl rfl (Nat.le_of_ble_eq_true rfl) d_X12_next_7 (fun H locs hw => ?_)
  refine lv_if_ne (tgt := 15) hx hb d_X12_next_10 (by decide) (fun hc => ?_) (fun hc => ?_)
  · have h := ite_f h hc
    refine lv_aload_n hx hb d_X12_next_15 rfl (lv_at hl 0 rfl) ?_
    refine lv_iload_n hx hb d_X12_next_16 rfl (lv_at hl 1 rfl) ?_
    obtain ⟨q3, e4, h⟩ := bd_some h
    refine r_callV (As := [.int a1]) (rest := []) (st' := [.int q3.1]) X hw hl mwX12_viewsOf wd_1518 wp_62 wd_1516 (c_X12_viewsOf hf e4) (r_recv X hw ct8 (o_300 hf)) rfl ⟨Nat.le_of_ble_eq_true rfl, Nat.le_of_ble_eq_true rfl⟩ ⟨Nat.le_refl _, Nat.le_refl _⟩ rfl rfl (Nat.le_of_ble_eq_true rfl) d_X12_next_17 (fun H locs hw => ?_)
    refine lv_istore_n (lv' := [(2, .int q3.1), (0, .ref (ga G 300)), (1, .int a1)]) hx hb d_X12_next_20 rfl hl (Nat.le_of_ble_eq_true rfl) rfl (fun ls hl => ?_)
    refine lv_iload_n hx hb d_X12_next_21 rfl (lv_at hl 0 rfl) ?_
    refine lv_if_ne (tgt := 28) hx hb d_X12_next_22 (by decide) (fun hc => ?_) (fun hc => ?_)
    · have h := ite_f h hc
      refine lv_iconst (v := (-1 : Int32)) hx hb d_X12_next_28 (by decide) ?_
      refine lv_istore_n (lv' := [(3, .int (-1 : Int32)), (2, .int q3.1), (0, .ref (ga G 300)), (1, .int a1)]) hx hb d_X12_next_29 rfl hl (Nat.le_of_ble_eq_true rfl) rfl (fun ls hl => ?_)
      refine r_ldcw X wd_1368 d_X12_next_30 ?_
      refine lv_istore (lv' := [(4, .int (1000000 : Int32)), (3, .int (-1 : Int32)), (2, .int q3.1), (0, .ref (ga G 300)), (1, .int a1)]) hx hb d_X12_next_33 hl (Nat.le_of_ble_eq_true rfl) rfl (fun ls hl => ?_)
      refine lv_iconst (v := (0 : Int32)) hx hb d_X12_next_35 (by decide) ?_
      refine lv_istore (lv' := [(5, .int (0 : Int32)), (4, .int (1000000 : Int32)), (3, .int (-1 : Int32)), (2, .int q3.1), (0, .ref (ga G 300)), (1, .int a1)]) hx hb d_X12_next_36 hl (Nat.le_of_ble_eq_true rfl) rfl (fun ls hl => ?_)
      obtain ⟨z19, e20, h⟩ := bd_some h
      refine iter_w (Wh := fun z : Int32 × Int32 × Int32 × St => Wat p l e (rmk 6 139) s m args below meth c Q G 9 38 [] [(3, .int z.1), (4, .int z.2.1), (5, .int z.2.2.1), (0, .ref (ga G 300)), (1, .int a1), (2, .int q3.1)] χ z.2.2.2) (K := fun z : Int32 × Int32 × St => Wat p l e (rmk 6 139) s m args below meth c Q G 9 162 [] [(0, .ref (ga G 300)), (3, .int z.1), (4, .int z.2.1)] χ z.2.2) (fun z o h1 h2 => b38 z.2.2.2 a1 q3.1 z.1 z.2.1 z.2.2.1 o h1 h2) FU _ _ e20 ?_ _ _ _ hw (lv_sub hl [2, 1, 0, 4, 5, 3] rfl)
      intro H locs ls hw hl
      refine lv_aload_n hx hb d_X12_next_162 rfl (lv_at hl 0 rfl) ?_
      refine lv_iconst (v := (0 : Int32)) hx hb d_X12_next_163 (by decide) ?_
      refine m_puti (j := 1) X hw ct8 (o_300 hf) (Nat.le_of_ble_eq_true rfl) rfl (Nat.le_of_ble_eq_true rfl) rfl rfl rfl wd_957 d_X12_next_164 (fun H locs hw => ?_)
      refine lv_aload_n hx hb d_X12_next_167 rfl (lv_at hl 0 rfl) ?_
      refine lv_iload hx hb d_X12_next_168 (lv_at hl 2 rfl) ?_
      refine lv_i2l hx hb d_X12_next_170 rfl ?_
      obtain ⟨q22, e23, h⟩ := bd_some h
      refine r_callV (As := [.long (z19.2.1).toInt64]) (rest := []) (st' := []) X hw hl mwX12_enters wd_1282 wp_38 wd_1280 (c_X12_enters hf e23) (r_recv X hw ct8 (o_300 hf)) rfl ⟨Nat.le_of_ble_eq_true rfl, Nat.le_of_ble_eq_true rfl⟩ ⟨Nat.le_refl _, Nat.le_refl _⟩ rfl rfl (Nat.le_of_ble_eq_true rfl) d_X12_next_171 (fun H locs hw => ?_)
      refine lv_iload_n hx hb d_X12_next_174 rfl (lv_at hl 1 rfl) ?_
      obtain rfl := Option.some.inj h
      subst hQ
      exact r_iret X hr hlk hw d_X12_next_175
    · have h := ite_t h hc
      refine lv_bipush (v := (-2 : Int32)) hx hb d_X12_next_25 (by decide) ?_
      obtain rfl := Option.some.inj h
      subst hQ
      exact r_iret X hr hlk hw d_X12_next_27
  · have h := ite_t h hc
    refine lv_iconst (v := (-1 : Int32)) hx hb d_X12_next_13 (by decide) ?_
    obtain rfl := Option.some.inj h
    subst hQ
    exact r_iret X hr hlk hw d_X12_next_14
abbrev yX12_highest : MethodName := ⟨"OysterBedsModel", "highest", "(I)I"⟩
theorem mwX12_highest : MW yX12_highest prog_14_method_98_code 1 (some .int) 1 := ⟨wd_1537, wd_10, by decide +kernel⟩
theorem d_X12_highest_0 : decode prog_14_method_98_code 0 = .ok (.iload_n 0, 1) := by decide +kernel
theorem d_X12_highest_1 : decode prog_14_method_98_code 1 = .ok (.ifCond .ne 7, 3) := by decide +kernel
theorem d_X12_highest_4 : decode prog_14_method_98_code 4 = .ok (.iconst 2, 1) := by decide +kernel
theorem d_X12_highest_5 : decode prog_14_method_98_code 5 = .ok (.goto 23, 3) := by decide +kernel
theorem d_X12_highest_8 : decode prog_14_method_98_code 8 = .ok (.iload_n 0, 1) := by decide +kernel
theorem d_X12_highest_9 : decode prog_14_method_98_code 9 = .ok (.iconst 2, 1) := by decide +kernel
theorem d_X12_highest_10 : decode prog_14_method_98_code 10 = .ok (.if_icmp .ne 7, 3) := by decide +kernel
theorem d_X12_highest_13 : decode prog_14_method_98_code 13 = .ok (.iconst 3, 1) := by decide +kernel
theorem d_X12_highest_14 : decode prog_14_method_98_code 14 = .ok (.goto 14, 3) := by decide +kernel
theorem d_X12_highest_17 : decode prog_14_method_98_code 17 = .ok (.iload_n 0, 1) := by decide +kernel
theorem d_X12_highest_18 : decode prog_14_method_98_code 18 = .ok (.iconst 3, 1) := by decide +kernel
theorem d_X12_highest_19 : decode prog_14_method_98_code 19 = .ok (.if_icmp .ne 7, 3) := by decide +kernel
theorem d_X12_highest_22 : decode prog_14_method_98_code 22 = .ok (.iconst 1, 1) := by decide +kernel
theorem d_X12_highest_23 : decode prog_14_method_98_code 23 = .ok (.goto 5, 3) := by decide +kernel
theorem d_X12_highest_26 : decode prog_14_method_98_code 26 = .ok (.bipush 9, 2) := by decide +kernel
theorem d_X12_highest_28 : decode prog_14_method_98_code 28 = .ok (.ireturn, 1) := by decide +kernel
def f_X12_highest (a0 : Int32) : Option (Int32) := some (if a0 = 0 then (2 : Int32) else (if a0 = (2 : Int32) then (3 : Int32) else (if a0 = (3 : Int32) then (1 : Int32) else (9 : Int32))))
theorem c_X12_highest {l : Launch} {G : gT} {χ σ : St} {a0 : Int32} (hf : FW G) {q : Int32} (h : f_X12_highest a0 = some q) : Ct l G yX12_highest prog_14_method_98_code 1 (some .int) 0 0 [.int a0] χ σ (some (.int q)) χ σ := by
  refine Ct.of (by decide) (Nat.le_of_ble_eq_true rfl) ?_
  intro p e s m args below meth c Q X hr hlk hQ
  have hx := X.1
  have hb := X.2.1
  intro H locs ls hw hl
  have hl : lv_has ls 1 [(0, .int a0)] := hl
  unfold f_X12_highest at h
  refine lv_iload_n hx hb d_X12_highest_0 rfl (lv_at hl 0 rfl) ?_
  refine lv_if_ne (tgt := 8) hx hb d_X12_highest_1 (by decide) (fun hc => ?_) (fun hc => ?_)
  · simp only [if_neg hc] at h
    refine lv_iload_n hx hb d_X12_highest_8 rfl (lv_at hl 0 rfl) ?_
    refine lv_iconst (v := (2 : Int32)) hx hb d_X12_highest_9 (by decide) ?_
    refine lv_icmp_ne (tgt := 17) hx hb d_X12_highest_10 (by decide) (fun hc => ?_) (fun hc => ?_)
    · simp only [if_neg hc] at h
      refine lv_iload_n hx hb d_X12_highest_17 rfl (lv_at hl 0 rfl) ?_
      refine lv_iconst (v := (3 : Int32)) hx hb d_X12_highest_18 (by decide) ?_
      refine lv_icmp_ne (tgt := 26) hx hb d_X12_highest_19 (by decide) (fun hc => ?_) (fun hc => ?_)
      · simp only [if_neg hc] at h
        refine lv_bipush (v := (9 : Int32)) hx hb d_X12_highest_26 (by decide) ?_
        obtain rfl := Option.some.inj h
        subst hQ
        exact r_iret X hr hlk hw d_X12_highest_28
      · simp only [if_pos hc] at h
        refine lv_iconst (v := (1 : Int32)) hx hb d_X12_highest_22 (by decide) ?_
        refine lv_goto (tgt := 28) hx hb d_X12_highest_23 (by decide) ?_
        obtain rfl := Option.some.inj h
        subst hQ
        exact r_iret X hr hlk hw d_X12_highest_28
    · simp only [if_pos hc] at h
      refine lv_iconst (v := (3 : Int32)) hx hb d_X12_highest_13 (by decide) ?_
      refine lv_goto (tgt := 28) hx hb d_X12_highest_14 (by decide) ?_
      obtain rfl := Option.some.inj h
      subst hQ
      exact r_iret X hr hlk hw d_X12_highest_28
  · simp only [if_pos hc] at h
    refine lv_iconst (v := (2 : Int32)) hx hb d_X12_highest_4 (by decide) ?_
    refine lv_goto (tgt := 28) hx hb d_X12_highest_5 (by decide) ?_
    obtain rfl := Option.some.inj h
    subst hQ
    exact r_iret X hr hlk hw d_X12_highest_28
abbrev yX12_heard : MethodName := ⟨"OysterBedsModel", "heard", "(II)I"⟩
theorem mwX12_heard : MW yX12_heard prog_14_method_99_code 3 (some .int) 2 := ⟨wd_1534, wd_10, by decide +kernel⟩
theorem d_X12_heard_0 : decode prog_14_method_99_code 0 = .ok (.aload_n 0, 1) := by decide +kernel
theorem d_X12_heard_1 : decode prog_14_method_99_code 1 = .ok (.iconst 0, 1) := by decide +kernel
theorem d_X12_heard_2 : decode prog_14_method_99_code 2 = .ok (.putfield 87, 3) := by decide +kernel
theorem d_X12_heard_5 : decode prog_14_method_99_code 5 = .ok (.iload_n 1, 1) := by decide +kernel
theorem d_X12_heard_6 : decode prog_14_method_99_code 6 = .ok (.i2l, 1) := by decide +kernel
theorem d_X12_heard_7 : decode prog_14_method_99_code 7 = .ok (.lconst 0, 1) := by decide +kernel
theorem d_X12_heard_8 : decode prog_14_method_99_code 8 = .ok (.ldc2_w 246, 3) := by decide +kernel
theorem d_X12_heard_11 : decode prog_14_method_99_code 11 = .ok (.invokestatic 105, 3) := by decide +kernel
theorem d_X12_heard_14 : decode prog_14_method_99_code 14 = .ok (.ifCond .eq 26, 3) := by decide +kernel
theorem d_X12_heard_17 : decode prog_14_method_99_code 17 = .ok (.iload_n 2, 1) := by decide +kernel
theorem d_X12_heard_18 : decode prog_14_method_99_code 18 = .ok (.i2l, 1) := by decide +kernel
theorem d_X12_heard_19 : decode prog_14_method_99_code 19 = .ok (.lconst 0, 1) := by decide +kernel
theorem d_X12_heard_20 : decode prog_14_method_99_code 20 = .ok (.iload_n 1, 1) := by decide +kernel
theorem d_X12_heard_21 : decode prog_14_method_99_code 21 = .ok (.invokestatic 385, 3) := by decide +kernel
theorem d_X12_heard_24 : decode prog_14_method_99_code 24 = .ok (.i2l, 1) := by decide +kernel
theorem d_X12_heard_25 : decode prog_14_method_99_code 25 = .ok (.invokestatic 105, 3) := by decide +kernel
theorem d_X12_heard_28 : decode prog_14_method_99_code 28 = .ok (.ifCond .eq 12, 3) := by decide +kernel
theorem d_X12_heard_31 : decode prog_14_method_99_code 31 = .ok (.aload_n 0, 1) := by decide +kernel
theorem d_X12_heard_32 : decode prog_14_method_99_code 32 = .ok (.getfield 388, 3) := by decide +kernel
theorem d_X12_heard_35 : decode prog_14_method_99_code 35 = .ok (.bipush 12, 2) := by decide +kernel
theorem d_X12_heard_37 : decode prog_14_method_99_code 37 = .ok (.if_icmp .ne 5, 3) := by decide +kernel
theorem d_X12_heard_40 : decode prog_14_method_99_code 40 = .ok (.iconst (-1), 1) := by decide +kernel
theorem d_X12_heard_41 : decode prog_14_method_99_code 41 = .ok (.ireturn, 1) := by decide +kernel
theorem d_X12_heard_42 : decode prog_14_method_99_code 42 = .ok (.aload_n 0, 1) := by decide +kernel
theorem d_X12_heard_43 : decode prog_14_method_99_code 43 = .ok (.getfield 62, 3) := by decide +kernel
theorem d_X12_heard_46 : decode prog_14_method_99_code 46 = .ok (.aload_n 0, 1) := by decide +kernel
theorem d_X12_heard_47 : decode prog_14_method_99_code 47 = .ok (.getfield 388, 3) := by decide +kernel
theorem d_X12_heard_50 : decode prog_14_method_99_code 50 = .ok (.iload_n 1, 1) := by decide +kernel
theorem d_X12_heard_51 : decode prog_14_method_99_code 51 = .ok (.iastore, 1) := by decide +kernel
theorem d_X12_heard_52 : decode prog_14_method_99_code 52 = .ok (.aload_n 0, 1) := by decide +kernel
theorem d_X12_heard_53 : decode prog_14_method_99_code 53 = .ok (.getfield 65, 3) := by decide +kernel
theorem d_X12_heard_56 : decode prog_14_method_99_code 56 = .ok (.aload_n 0, 1) := by decide +kernel
theorem d_X12_heard_57 : decode prog_14_method_99_code 57 = .ok (.getfield 388, 3) := by decide +kernel
theorem d_X12_heard_60 : decode prog_14_method_99_code 60 = .ok (.iload_n 2, 1) := by decide +kernel
theorem d_X12_heard_61 : decode prog_14_method_99_code 61 = .ok (.iastore, 1) := by decide +kernel
theorem d_X12_heard_62 : decode prog_14_method_99_code 62 = .ok (.aload_n 0, 1) := by decide +kernel
theorem d_X12_heard_63 : decode prog_14_method_99_code 63 = .ok (.dup, 1) := by decide +kernel
theorem d_X12_heard_64 : decode prog_14_method_99_code 64 = .ok (.getfield 388, 3) := by decide +kernel
theorem d_X12_heard_67 : decode prog_14_method_99_code 67 = .ok (.iconst 1, 1) := by decide +kernel
theorem d_X12_heard_68 : decode prog_14_method_99_code 68 = .ok (.iadd, 1) := by decide +kernel
theorem d_X12_heard_69 : decode prog_14_method_99_code 69 = .ok (.putfield 388, 3) := by decide +kernel
theorem d_X12_heard_72 : decode prog_14_method_99_code 72 = .ok (.aload_n 0, 1) := by decide +kernel
theorem d_X12_heard_73 : decode prog_14_method_99_code 73 = .ok (.getfield 388, 3) := by decide +kernel
theorem d_X12_heard_76 : decode prog_14_method_99_code 76 = .ok (.ireturn, 1) := by decide +kernel
def f_X12_heard (σ : St) (a1 : Int32) (a2 : Int32) : Option (Int32 × St) := (f_X12_in a1.toInt64 (0 : Int64) (4 : Int64)).bind (fun q1 => (if q1 = 0 then some ((-1 : Int32), (sF σ 300 0 (0 : Int32))) else (f_X12_highest a1).bind (fun q3 => (f_X12_in a2.toInt64 (0 : Int64) q3.toInt64).bind (fun q5 => (if q5 = 0 then some ((-1 : Int32), (sF σ 300 0 (0 : Int32))) else (if (cF (sF σ 300 0 (0 : Int32)) 300 31) = (12 : Int32) then some ((-1 : Int32), (sF σ 300 0 (0 : Int32))) else gd (inb (cF (sF σ 300 0 (0 : Int32)) 300 31) 12) (gd (inb (cF (sA (sF σ 300 0 (0 : Int32)) 332 (cF (sF σ 300 0 (0 : Int32)) 300 31).toNatClampNeg a1) 300 31) 12) (some ((cF (sF (sA (sA (sF σ 300 0 (0 : Int32)) 332 (cF (sF σ 300 0 (0 : Int32)) 300 31).toNatClampNeg a1) 333 (cF (sA (sF σ 300 0 (0 : Int32)) 332 (cF (sF σ 300 0 (0 : Int32)) 300 31).toNatClampNeg a1) 300 31).toNatClampNeg a2) 300 31 ((cF (sA (sA (sF σ 300 0 (0 : Int32)) 332 (cF (sF σ 300 0 (0 : Int32)) 300 31).toNatClampNeg a1) 333 (cF (sA (sF σ 300 0 (0 : Int32)) 332 (cF (sF σ 300 0 (0 : Int32)) 300 31).toNatClampNeg a1) 300 31).toNatClampNeg a2) 300 31) + (1 : Int32))) 300 31), (sF (sA (sA (sF σ 300 0 (0 : Int32)) 332 (cF (sF σ 300 0 (0 : Int32)) 300 31).toNatClampNeg a1) 333 (cF (sA (sF σ 300 0 (0 : Int32)) 332 (cF (sF σ 300 0 (0 : Int32)) 300 31).toNatClampNeg a1) 300 31).toNatClampNeg a2) 300 31 ((cF (sA (sA (sF σ 300 0 (0 : Int32)) 332 (cF (sF σ 300 0 (0 : Int32)) 300 31).toNatClampNeg a1) 333 (cF (sA (sF σ 300 0 (0 : Int32)) 332 (cF (sF σ 300 0 (0 : Int32)) 300 31).toNatClampNeg a1) 300 31).toNatClampNeg a2) 300 31) + (1 : Int32))))))))))))
theorem c_X12_heard {l : Launch} {G : gT} {χ σ : St} {a1 : Int32} {a2 : Int32} (hf : FW G) {q : Int32 × St} (h : f_X12_heard σ a1 a2 = some q) : Ct l G yX12_heard prog_14_method_99_code 3 (some .int) 1 25 [.ref (ga G 300), .int a1, .int a2] χ σ (some (.int q.1)) χ q.2 := by
  refine Ct.of (by decide) (Nat.le_of_ble_eq_true rfl) ?_
  intro p e s m args below meth c Q X hr hlk hQ
  have hx := X.1
  have hb := X.2.1
  intro H locs ls hw hl
  have hl : lv_has ls 3 [(0, .ref (ga G 300)), (1, .int a1), (2, .int a2)] := hl
  unfold f_X12_heard at h
  refine lv_aload_n hx hb d_X12_heard_0 rfl (lv_at hl 0 rfl) ?_
  refine lv_iconst (v := (0 : Int32)) hx hb d_X12_heard_1 (by decide) ?_
  refine m_puti (j := 0) X hw ct8 (o_300 hf) (Nat.le_of_ble_eq_true rfl) rfl (Nat.le_of_ble_eq_true rfl) rfl rfl rfl wd_956 d_X12_heard_2 (fun H locs hw => ?_)
  refine lv_iload_n hx hb d_X12_heard_5 rfl (lv_at hl 1 rfl) ?_
  refine lv_i2l hx hb d_X12_heard_6 rfl ?_
  refine lv_lconst (v := (0 : Int64)) hx hb d_X12_heard_7 (by decide) ?_
  refine r_ldc2 X wd_1222 d_X12_heard_8 ?_
  obtain ⟨q1, e2, h⟩ := bd_some h
  refine r_callS (As := [.long a1.toInt64, .long (0 : Int64), .long (4 : Int64)]) (rest := []) (st' := [.int q1]) X hw hl mwX12_in wd_1093 wd_1092 (c_X12_in hf e2) rfl ⟨Nat.le_of_ble_eq_true rfl, Nat.le_of_ble_eq_true rfl⟩ ⟨Nat.le_refl _, Nat.le_refl _⟩ rfl rfl (Nat.le_of_ble_eq_true rfl) d_X12_heard_11 (fun H locs hw => ?_)
  refine lv_if_eq (tgt := 40) hx hb d_X12_heard_14 (by decide) (fun hc => ?_) (fun hc => ?_)
  · have h := ite_t h hc
    refine lv_iconst (v := (-1 : Int32)) hx hb d_X12_heard_40 (by decide) ?_
    obtain rfl := Option.some.inj h
    subst hQ
    exact r_iret X hr hlk hw d_X12_heard_41
  · have h := ite_f h hc
    refine lv_iload_n hx hb d_X12_heard_17 rfl (lv_at hl 2 rfl) ?_
    refine lv_i2l hx hb d_X12_heard_18 rfl ?_
    refine lv_lconst (v := (0 : Int64)) hx hb d_X12_heard_19 (by decide) ?_
    refine lv_iload_n hx hb d_X12_heard_20 rfl (lv_at hl 1 rfl) ?_
    obtain ⟨q3, e4, h⟩ := bd_some h
    refine r_callS (As := [.int a1]) (rest := [.long (0 : Int64), .long a2.toInt64]) (st' := [.int q3, .long (0 : Int64), .long a2.toInt64]) X hw hl mwX12_highest wd_1536 wd_1535 (c_X12_highest hf e4) rfl ⟨Nat.le_of_ble_eq_true rfl, Nat.le_of_ble_eq_true rfl⟩ ⟨Nat.le_refl _, Nat.le_refl _⟩ rfl rfl (Nat.le_of_ble_eq_true rfl) d_X12_heard_21 (fun H locs hw => ?_)
    refine lv_i2l hx hb d_X12_heard_24 rfl ?_
    obtain ⟨q5, e6, h⟩ := bd_some h
    refine r_callS (As := [.long a2.toInt64, .long (0 : Int64), .long q3.toInt64]) (rest := []) (st' := [.int q5]) X hw hl mwX12_in wd_1093 wd_1092 (c_X12_in hf e6) rfl ⟨Nat.le_of_ble_eq_true rfl, Nat.le_of_ble_eq_true rfl⟩ ⟨Nat.le_refl _, Nat.le_refl _⟩ rfl rfl (Nat.le_of_ble_eq_true rfl) d_X12_heard_25 (fun H locs hw => ?_)
    refine lv_if_eq (tgt := 40) hx hb d_X12_heard_28 (by decide) (fun hc => ?_) (fun hc => ?_)
    · have h := ite_t h hc
      refine lv_iconst (v := (-1 : Int32)) hx hb d_X12_heard_40 (by decide) ?_
      obtain rfl := Option.some.inj h
      subst hQ
      exact r_iret X hr hlk hw d_X12_heard_41
    · have h := ite_f h hc
      refine lv_aload_n hx hb d_X12_heard_31 rfl (lv_at hl 0 rfl) ?_
      refine m_geti (j := 31) X hw ct8 (o_300 hf) (Nat.le_of_ble_eq_true rfl) rfl (Nat.le_of_ble_eq_true rfl) wd_987 d_X12_heard_32 ?_
      refine lv_bipush (v := (12 : Int32)) hx hb d_X12_heard_35 (by decide) ?_
      refine lv_icmp_ne (tgt := 42) hx hb d_X12_heard_37 (by decide) (fun hc => ?_) (fun hc => ?_)
      · have h := ite_f h hc
        refine lv_aload_n hx hb d_X12_heard_42 rfl (lv_at hl 0 rfl) ?_
        refine r_getr (j := 32) X hw ct8 (o_300 hf) rfl (Nat.le_of_ble_eq_true rfl) (q := 332) rfl wd_988 d_X12_heard_43 ?_
        refine lv_aload_n hx hb d_X12_heard_46 rfl (lv_at hl 0 rfl) ?_
        refine m_geti (j := 31) X hw ct8 (o_300 hf) (Nat.le_of_ble_eq_true rfl) rfl (Nat.le_of_ble_eq_true rfl) wd_987 d_X12_heard_47 ?_
        refine lv_iload_n hx hb d_X12_heard_50 rfl (lv_at hl 1 rfl) ?_
        obtain ⟨hi7, h⟩ := gd_some h
        refine m_iast X hw (o_332 hf) (Nat.le_of_ble_eq_true rfl) hi7 d_X12_heard_51 (fun H locs hw => ?_)
        refine lv_aload_n hx hb d_X12_heard_52 rfl (lv_at hl 0 rfl) ?_
        refine r_getr (j := 33) X hw ct8 (o_300 hf) rfl (Nat.le_of_ble_eq_true rfl) (q := 333) rfl wd_989 d_X12_heard_53 ?_
        refine lv_aload_n hx hb d_X12_heard_56 rfl (lv_at hl 0 rfl) ?_
        refine m_geti (j := 31) X hw ct8 (o_300 hf) (Nat.le_of_ble_eq_true rfl) rfl (Nat.le_of_ble_eq_true rfl) wd_987 d_X12_heard_57 ?_
        refine lv_iload_n hx hb d_X12_heard_60 rfl (lv_at hl 2 rfl) ?_
        obtain ⟨hi8, h⟩ := gd_some h
        refine m_iast X hw (o_333 hf) (Nat.le_of_ble_eq_true rfl) hi8 d_X12_heard_61 (fun H locs hw => ?_)
        refine lv_aload_n hx hb d_X12_heard_62 rfl (lv_at hl 0 rfl) ?_
        refine lv_dup hx hb d_X12_heard_63 rfl ?_
        refine m_geti (j := 31) X hw ct8 (o_300 hf) (Nat.le_of_ble_eq_true rfl) rfl (Nat.le_of_ble_eq_true rfl) wd_987 d_X12_heard_64 ?_
        refine lv_iconst (v := (1 : Int32)) hx hb d_X12_heard_67 (by decide) ?_
        refine lv_iadd hx hb d_X12_heard_68 ?_
        refine m_puti (j := 31) X hw ct8 (o_300 hf) (Nat.le_of_ble_eq_true rfl) rfl (Nat.le_of_ble_eq_true rfl) rfl rfl rfl wd_987 d_X12_heard_69 (fun H locs hw => ?_)
        refine lv_aload_n hx hb d_X12_heard_72 rfl (lv_at hl 0 rfl) ?_
        refine m_geti (j := 31) X hw ct8 (o_300 hf) (Nat.le_of_ble_eq_true rfl) rfl (Nat.le_of_ble_eq_true rfl) wd_987 d_X12_heard_73 ?_
        obtain rfl := Option.some.inj h
        subst hQ
        exact r_iret X hr hlk hw d_X12_heard_76
      · have h := ite_t h hc
        refine lv_iconst (v := (-1 : Int32)) hx hb d_X12_heard_40 (by decide) ?_
        obtain rfl := Option.some.inj h
        subst hQ
        exact r_iret X hr hlk hw d_X12_heard_41
abbrev yX12_denies : MethodName := ⟨"OysterBedsModel", "denies", "()I"⟩
theorem mwX12_denies : MW yX12_denies prog_14_method_100_code 2 (some .int) 0 := ⟨wd_1541, wd_10, by decide +kernel⟩
theorem d_X12_denies_0 : decode prog_14_method_100_code 0 = .ok (.aload_n 0, 1) := by decide +kernel
theorem d_X12_denies_1 : decode prog_14_method_100_code 1 = .ok (.iconst 0, 1) := by decide +kernel
theorem d_X12_denies_2 : decode prog_14_method_100_code 2 = .ok (.putfield 87, 3) := by decide +kernel
theorem d_X12_denies_5 : decode prog_14_method_100_code 5 = .ok (.aload_n 0, 1) := by decide +kernel
theorem d_X12_denies_6 : decode prog_14_method_100_code 6 = .ok (.getfield 388, 3) := by decide +kernel
theorem d_X12_denies_9 : decode prog_14_method_100_code 9 = .ok (.istore_n 1, 1) := by decide +kernel
theorem d_X12_denies_10 : decode prog_14_method_100_code 10 = .ok (.aload_n 0, 1) := by decide +kernel
theorem d_X12_denies_11 : decode prog_14_method_100_code 11 = .ok (.iconst 0, 1) := by decide +kernel
theorem d_X12_denies_12 : decode prog_14_method_100_code 12 = .ok (.putfield 388, 3) := by decide +kernel
theorem d_X12_denies_15 : decode prog_14_method_100_code 15 = .ok (.iload_n 1, 1) := by decide +kernel
theorem d_X12_denies_16 : decode prog_14_method_100_code 16 = .ok (.ireturn, 1) := by decide +kernel
def f_X12_denies (σ : St) : Option (Int32 × St) := some ((cF (sF σ 300 0 (0 : Int32)) 300 31), (sF (sF σ 300 0 (0 : Int32)) 300 31 (0 : Int32)))
theorem c_X12_denies {l : Launch} {G : gT} {χ σ : St} (hf : FW G) {q : Int32 × St} (h : f_X12_denies σ = some q) : Ct l G yX12_denies prog_14_method_100_code 2 (some .int) 0 0 [.ref (ga G 300)] χ σ (some (.int q.1)) χ q.2 := by
  refine Ct.of (by decide) (Nat.le_of_ble_eq_true rfl) ?_
  intro p e s m args below meth c Q X hr hlk hQ
  have hx := X.1
  have hb := X.2.1
  intro H locs ls hw hl
  have hl : lv_has ls 2 [(0, .ref (ga G 300))] := hl
  unfold f_X12_denies at h
  refine lv_aload_n hx hb d_X12_denies_0 rfl (lv_at hl 0 rfl) ?_
  refine lv_iconst (v := (0 : Int32)) hx hb d_X12_denies_1 (by decide) ?_
  refine m_puti (j := 0) X hw ct8 (o_300 hf) (Nat.le_of_ble_eq_true rfl) rfl (Nat.le_of_ble_eq_true rfl) rfl rfl rfl wd_956 d_X12_denies_2 (fun H locs hw => ?_)
  refine lv_aload_n hx hb d_X12_denies_5 rfl (lv_at hl 0 rfl) ?_
  refine m_geti (j := 31) X hw ct8 (o_300 hf) (Nat.le_of_ble_eq_true rfl) rfl (Nat.le_of_ble_eq_true rfl) wd_987 d_X12_denies_6 ?_
  refine lv_istore_n (lv' := [(1, .int (cF (sF σ 300 0 (0 : Int32)) 300 31)), (0, .ref (ga G 300))]) hx hb d_X12_denies_9 rfl hl (Nat.le_of_ble_eq_true rfl) rfl (fun ls hl => ?_)
  refine lv_aload_n hx hb d_X12_denies_10 rfl (lv_at hl 1 rfl) ?_
  refine lv_iconst (v := (0 : Int32)) hx hb d_X12_denies_11 (by decide) ?_
  refine m_puti (j := 31) X hw ct8 (o_300 hf) (Nat.le_of_ble_eq_true rfl) rfl (Nat.le_of_ble_eq_true rfl) rfl rfl rfl wd_987 d_X12_denies_12 (fun H locs hw => ?_)
  refine lv_iload_n hx hb d_X12_denies_15 rfl (lv_at hl 0 rfl) ?_
  obtain rfl := Option.some.inj h
  subst hQ
  exact r_iret X hr hlk hw d_X12_denies_16
