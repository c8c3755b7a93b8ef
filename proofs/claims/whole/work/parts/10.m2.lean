abbrev yX12_isSo : MethodName := ⟨"OysterBedsModel", "isSo", "(III)Z"⟩
theorem mwX12_isSo : MW yX12_isSo prog_14_method_101_code 4 (some .boolean) 3 := ⟨wd_1553, wd_10, by decide +kernel⟩
theorem d_X12_isSo_0 : decode prog_14_method_101_code 0 = .ok (.iload_n 2, 1) := by decide +kernel
theorem d_X12_isSo_1 : decode prog_14_method_101_code 1 = .ok (.tableswitch 107 0 3 #[31, 47, 63, 77], 31) := by decide +kernel
theorem d_X12_isSo_32 : decode prog_14_method_101_code 32 = .ok (.aload_n 0, 1) := by decide +kernel
theorem d_X12_isSo_33 : decode prog_14_method_101_code 33 = .ok (.getfield 13, 3) := by decide +kernel
theorem d_X12_isSo_36 : decode prog_14_method_101_code 36 = .ok (.iload_n 1, 1) := by decide +kernel
theorem d_X12_isSo_37 : decode prog_14_method_101_code 37 = .ok (.iaload, 1) := by decide +kernel
theorem d_X12_isSo_38 : decode prog_14_method_101_code 38 = .ok (.iload_n 3, 1) := by decide +kernel
theorem d_X12_isSo_39 : decode prog_14_method_101_code 39 = .ok (.if_icmp .ne 7, 3) := by decide +kernel
theorem d_X12_isSo_42 : decode prog_14_method_101_code 42 = .ok (.iconst 1, 1) := by decide +kernel
theorem d_X12_isSo_43 : decode prog_14_method_101_code 43 = .ok (.goto 4, 3) := by decide +kernel
theorem d_X12_isSo_46 : decode prog_14_method_101_code 46 = .ok (.iconst 0, 1) := by decide +kernel
theorem d_X12_isSo_47 : decode prog_14_method_101_code 47 = .ok (.ireturn, 1) := by decide +kernel
theorem d_X12_isSo_48 : decode prog_14_method_101_code 48 = .ok (.aload_n 0, 1) := by decide +kernel
theorem d_X12_isSo_49 : decode prog_14_method_101_code 49 = .ok (.getfield 17, 3) := by decide +kernel
theorem d_X12_isSo_52 : decode prog_14_method_101_code 52 = .ok (.iload_n 1, 1) := by decide +kernel
theorem d_X12_isSo_53 : decode prog_14_method_101_code 53 = .ok (.iaload, 1) := by decide +kernel
theorem d_X12_isSo_54 : decode prog_14_method_101_code 54 = .ok (.iload_n 3, 1) := by decide +kernel
theorem d_X12_isSo_55 : decode prog_14_method_101_code 55 = .ok (.if_icmp .lt 7, 3) := by decide +kernel
theorem d_X12_isSo_58 : decode prog_14_method_101_code 58 = .ok (.iconst 1, 1) := by decide +kernel
theorem d_X12_isSo_59 : decode prog_14_method_101_code 59 = .ok (.goto 4, 3) := by decide +kernel
theorem d_X12_isSo_62 : decode prog_14_method_101_code 62 = .ok (.iconst 0, 1) := by decide +kernel
theorem d_X12_isSo_63 : decode prog_14_method_101_code 63 = .ok (.ireturn, 1) := by decide +kernel
theorem d_X12_isSo_64 : decode prog_14_method_101_code 64 = .ok (.aload_n 0, 1) := by decide +kernel
theorem d_X12_isSo_65 : decode prog_14_method_101_code 65 = .ok (.getfield 17, 3) := by decide +kernel
theorem d_X12_isSo_68 : decode prog_14_method_101_code 68 = .ok (.bipush 8, 2) := by decide +kernel
theorem d_X12_isSo_70 : decode prog_14_method_101_code 70 = .ok (.iload_n 1, 1) := by decide +kernel
theorem d_X12_isSo_71 : decode prog_14_method_101_code 71 = .ok (.iadd, 1) := by decide +kernel
theorem d_X12_isSo_72 : decode prog_14_method_101_code 72 = .ok (.iaload, 1) := by decide +kernel
theorem d_X12_isSo_73 : decode prog_14_method_101_code 73 = .ok (.iload_n 3, 1) := by decide +kernel
theorem d_X12_isSo_74 : decode prog_14_method_101_code 74 = .ok (.invokestatic 113, 3) := by decide +kernel
theorem d_X12_isSo_77 : decode prog_14_method_101_code 77 = .ok (.ireturn, 1) := by decide +kernel
theorem d_X12_isSo_78 : decode prog_14_method_101_code 78 = .ok (.aload_n 0, 1) := by decide +kernel
theorem d_X12_isSo_79 : decode prog_14_method_101_code 79 = .ok (.getfield 17, 3) := by decide +kernel
theorem d_X12_isSo_82 : decode prog_14_method_101_code 82 = .ok (.bipush 16, 2) := by decide +kernel
theorem d_X12_isSo_84 : decode prog_14_method_101_code 84 = .ok (.iload_n 1, 1) := by decide +kernel
theorem d_X12_isSo_85 : decode prog_14_method_101_code 85 = .ok (.iadd, 1) := by decide +kernel
theorem d_X12_isSo_86 : decode prog_14_method_101_code 86 = .ok (.iaload, 1) := by decide +kernel
theorem d_X12_isSo_87 : decode prog_14_method_101_code 87 = .ok (.ifCond .ne 7, 3) := by decide +kernel
theorem d_X12_isSo_90 : decode prog_14_method_101_code 90 = .ok (.iconst 1, 1) := by decide +kernel
theorem d_X12_isSo_91 : decode prog_14_method_101_code 91 = .ok (.goto 4, 3) := by decide +kernel
theorem d_X12_isSo_94 : decode prog_14_method_101_code 94 = .ok (.iconst 0, 1) := by decide +kernel
theorem d_X12_isSo_95 : decode prog_14_method_101_code 95 = .ok (.invokestatic 135, 3) := by decide +kernel
theorem d_X12_isSo_98 : decode prog_14_method_101_code 98 = .ok (.iload_n 3, 1) := by decide +kernel
theorem d_X12_isSo_99 : decode prog_14_method_101_code 99 = .ok (.if_icmp .ne 7, 3) := by decide +kernel
theorem d_X12_isSo_102 : decode prog_14_method_101_code 102 = .ok (.iconst 1, 1) := by decide +kernel
theorem d_X12_isSo_103 : decode prog_14_method_101_code 103 = .ok (.goto 4, 3) := by decide +kernel
theorem d_X12_isSo_106 : decode prog_14_method_101_code 106 = .ok (.iconst 0, 1) := by decide +kernel
theorem d_X12_isSo_107 : decode prog_14_method_101_code 107 = .ok (.ireturn, 1) := by decide +kernel
theorem d_X12_isSo_108 : decode prog_14_method_101_code 108 = .ok (.aload_n 0, 1) := by decide +kernel
theorem d_X12_isSo_109 : decode prog_14_method_101_code 109 = .ok (.getfield 17, 3) := by decide +kernel
theorem d_X12_isSo_112 : decode prog_14_method_101_code 112 = .ok (.bipush 24, 2) := by decide +kernel
theorem d_X12_isSo_114 : decode prog_14_method_101_code 114 = .ok (.iload_n 1, 1) := by decide +kernel
theorem d_X12_isSo_115 : decode prog_14_method_101_code 115 = .ok (.iadd, 1) := by decide +kernel
theorem d_X12_isSo_116 : decode prog_14_method_101_code 116 = .ok (.iaload, 1) := by decide +kernel
theorem d_X12_isSo_117 : decode prog_14_method_101_code 117 = .ok (.iload_n 3, 1) := by decide +kernel
theorem d_X12_isSo_118 : decode prog_14_method_101_code 118 = .ok (.if_icmp .lt 7, 3) := by decide +kernel
theorem d_X12_isSo_121 : decode prog_14_method_101_code 121 = .ok (.iconst 1, 1) := by decide +kernel
theorem d_X12_isSo_122 : decode prog_14_method_101_code 122 = .ok (.goto 4, 3) := by decide +kernel
theorem d_X12_isSo_125 : decode prog_14_method_101_code 125 = .ok (.iconst 0, 1) := by decide +kernel
theorem d_X12_isSo_126 : decode prog_14_method_101_code 126 = .ok (.ireturn, 1) := by decide +kernel
def f_X12_isSo_j95 (σ : St) (x3 : Int32) (s0 : Int32) : Option (Int32) := (f_X12_flag s0).bind (fun q8 => some (if q8 = x3 then (1 : Int32) else (0 : Int32)))
def f_X12_isSo (σ : St) (a1 : Int32) (a2 : Int32) (a3 : Int32) : Option (Int32) := (if a2 = (0 : Int32) then gd (inb a1 8) (some (if (cA σ 305 a1.toNatClampNeg) = a3 then (1 : Int32) else (0 : Int32))) else if a2 = (1 : Int32) then gd (inb a1 34) (some (if (cA σ 306 a1.toNatClampNeg) < a3 then (0 : Int32) else (1 : Int32))) else if a2 = (2 : Int32) then gd (inb ((8 : Int32) + a1) 34) ((f_X12_has (cA σ 306 ((8 : Int32) + a1).toNatClampNeg) a3).bind (fun q4 => gd (nb q4) (some q4))) else if a2 = (3 : Int32) then gd (inb ((16 : Int32) + a1) 34) (f_X12_isSo_j95 σ a3 (if (cA σ 306 ((16 : Int32) + a1).toNatClampNeg) = 0 then (1 : Int32) else (0 : Int32))) else gd (inb ((24 : Int32) + a1) 34) (some (if (cA σ 306 ((24 : Int32) + a1).toNatClampNeg) < a3 then (0 : Int32) else (1 : Int32))))
theorem c_X12_isSo {l : Launch} {G : gT} {χ σ : St} {a1 : Int32} {a2 : Int32} {a3 : Int32} (hf : FW G) {q : Int32} (h : f_X12_isSo σ a1 a2 a3 = some q) : Ct l G yX12_isSo prog_14_method_101_code 4 (some .boolean) 1 21 [.ref (ga G 300), .int a1, .int a2, .int a3] χ σ (some (.int q)) χ σ := by
  refine Ct.of (by decide) (Nat.le_of_ble_eq_true rfl) ?_
  intro p e s m args below meth c Q X hr hlk hQ
  have hx := X.1
  have hb := X.2.1
  have j95 : ∀ (x3 : Int32) (s0 : Int32), f_X12_isSo_j95 σ x3 s0 = some q → Wat p l e (rmk 1 21) s m args below meth c Q G 4 95 [.int s0] [(3, .int x3)] χ σ := by
    intro x3 s0 h H locs ls hw hl
    unfold f_X12_isSo_j95 at h
    obtain ⟨q8, e9, h⟩ := bd_some h
    refine r_callS (As := [.int s0]) (rest := []) (st' := [.int q8]) X hw hl mwX12_flag wd_1180 wd_1179 (c_X12_flag hf e9) rfl ⟨Nat.le_of_ble_eq_true rfl, Nat.le_of_ble_eq_true rfl⟩ ⟨Nat.le_refl _, Nat.le_refl _⟩ rfl rfl (Nat.le_of_ble_eq_true rfl) d_X12_isSo_95 (fun H locs hw => ?_)
    refine lv_iload_n hx hb d_X12_isSo_98 rfl (lv_at hl 0 rfl) ?_
    refine lv_icmp_ne (tgt := 106) hx hb d_X12_isSo_99 (by decide) (fun hc => ?_) (fun hc => ?_)
    · simp only [if_neg hc] at h
      refine lv_iconst (v := (0 : Int32)) hx hb d_X12_isSo_106 (by decide) ?_
      obtain rfl := Option.some.inj h
      subst hQ
      exact r_zret X hr nbz0 hlk hw d_X12_isSo_107
    · simp only [if_pos hc] at h
      refine lv_iconst (v := (1 : Int32)) hx hb d_X12_isSo_102 (by decide) ?_
      refine lv_goto (tgt := 107) hx hb d_X12_isSo_103 (by decide) ?_
      obtain rfl := Option.some.inj h
      subst hQ
      exact r_zret X hr nbz1 hlk hw d_X12_isSo_107
  intro H locs ls hw hl
  have hl : lv_has ls 4 [(0, .ref (ga G 300)), (1, .int a1), (2, .int a2), (3, .int a3)] := hl
  unfold f_X12_isSo at h
  refine lv_iload_n hx hb d_X12_isSo_0 rfl (lv_at hl 2 rfl) ?_
  by_cases hc0 : a2 = (0 : Int32)
  · have h := ite_t h hc0
    refine lv_tableIn (tgt := 32) hx hb d_X12_isSo_1 (by rw [hc0]; decide) (by rw [hc0]; decide) (by rw [hc0]; rfl) (by decide) ?_
    refine lv_aload_n hx hb d_X12_isSo_32 rfl (lv_at hl 0 rfl) ?_
    refine r_getr (j := 5) X hw ct8 (o_300 hf) rfl (Nat.le_of_ble_eq_true rfl) (q := 305) rfl wd_961 d_X12_isSo_33 ?_
    refine lv_iload_n hx hb d_X12_isSo_36 rfl (lv_at hl 1 rfl) ?_
    obtain ⟨hi1, h⟩ := gd_some h
    refine m_iald X hw (o_305 hf) (Nat.le_of_ble_eq_true rfl) hi1 d_X12_isSo_37 ?_
    refine lv_iload_n hx hb d_X12_isSo_38 rfl (lv_at hl 3 rfl) ?_
    refine lv_icmp_ne (tgt := 46) hx hb d_X12_isSo_39 (by decide) (fun hc => ?_) (fun hc => ?_)
    · simp only [if_neg hc] at h
      refine lv_iconst (v := (0 : Int32)) hx hb d_X12_isSo_46 (by decide) ?_
      obtain rfl := Option.some.inj h
      subst hQ
      exact r_zret X hr nbz0 hlk hw d_X12_isSo_47
    · simp only [if_pos hc] at h
      refine lv_iconst (v := (1 : Int32)) hx hb d_X12_isSo_42 (by decide) ?_
      refine lv_goto (tgt := 47) hx hb d_X12_isSo_43 (by decide) ?_
      obtain rfl := Option.some.inj h
      subst hQ
      exact r_zret X hr nbz1 hlk hw d_X12_isSo_47
  have h := ite_f h hc0
  by_cases hc1 : a2 = (1 : Int32)
  · have h := ite_t h hc1
    refine lv_tableIn (tgt := 48) hx hb d_X12_isSo_1 (by rw [hc1]; decide) (by rw [hc1]; decide) (by rw [hc1]; rfl) (by decide) ?_
    refine lv_aload_n hx hb d_X12_isSo_48 rfl (lv_at hl 0 rfl) ?_
    refine r_getr (j := 6) X hw ct8 (o_300 hf) rfl (Nat.le_of_ble_eq_true rfl) (q := 306) rfl wd_962 d_X12_isSo_49 ?_
    refine lv_iload_n hx hb d_X12_isSo_52 rfl (lv_at hl 1 rfl) ?_
    obtain ⟨hi2, h⟩ := gd_some h
    refine m_iald X hw (o_306 hf) (Nat.le_of_ble_eq_true rfl) hi2 d_X12_isSo_53 ?_
    refine lv_iload_n hx hb d_X12_isSo_54 rfl (lv_at hl 3 rfl) ?_
    refine lv_icmp_lt (tgt := 62) hx hb d_X12_isSo_55 (by decide) (fun hc => ?_) (fun hc => ?_)
    · simp only [if_pos hc] at h
      refine lv_iconst (v := (0 : Int32)) hx hb d_X12_isSo_62 (by decide) ?_
      obtain rfl := Option.some.inj h
      subst hQ
      exact r_zret X hr nbz0 hlk hw d_X12_isSo_63
    · simp only [if_neg hc] at h
      refine lv_iconst (v := (1 : Int32)) hx hb d_X12_isSo_58 (by decide) ?_
      refine lv_goto (tgt := 63) hx hb d_X12_isSo_59 (by decide) ?_
      obtain rfl := Option.some.inj h
      subst hQ
      exact r_zret X hr nbz1 hlk hw d_X12_isSo_63
  have h := ite_f h hc1
  by_cases hc2 : a2 = (2 : Int32)
  · have h := ite_t h hc2
    refine lv_tableIn (tgt := 64) hx hb d_X12_isSo_1 (by rw [hc2]; decide) (by rw [hc2]; decide) (by rw [hc2]; rfl) (by decide) ?_
    refine lv_aload_n hx hb d_X12_isSo_64 rfl (lv_at hl 0 rfl) ?_
    refine r_getr (j := 6) X hw ct8 (o_300 hf) rfl (Nat.le_of_ble_eq_true rfl) (q := 306) rfl wd_962 d_X12_isSo_65 ?_
    refine lv_bipush (v := (8 : Int32)) hx hb d_X12_isSo_68 (by decide) ?_
    refine lv_iload_n hx hb d_X12_isSo_70 rfl (lv_at hl 1 rfl) ?_
    refine lv_iadd hx hb d_X12_isSo_71 ?_
    obtain ⟨hi3, h⟩ := gd_some h
    refine m_iald X hw (o_306 hf) (Nat.le_of_ble_eq_true rfl) hi3 d_X12_isSo_72 ?_
    refine lv_iload_n hx hb d_X12_isSo_73 rfl (lv_at hl 3 rfl) ?_
    obtain ⟨q4, e5, h⟩ := bd_some h
    refine r_callS (As := [.int (cA σ 306 ((8 : Int32) + a1).toNatClampNeg), .int a3]) (rest := []) (st' := [.int q4]) X hw hl mwX12_has wd_1266 wd_1265 (c_X12_has hf e5) rfl ⟨Nat.le_of_ble_eq_true rfl, Nat.le_of_ble_eq_true rfl⟩ ⟨Nat.le_refl _, Nat.le_refl _⟩ rfl rfl (Nat.le_of_ble_eq_true rfl) d_X12_isSo_74 (fun H locs hw => ?_)
    obtain ⟨hv6, h⟩ := gd_some h
    obtain rfl := Option.some.inj h
    subst hQ
    exact r_zret X hr (nb_of hv6) hlk hw d_X12_isSo_77
  have h := ite_f h hc2
  by_cases hc3 : a2 = (3 : Int32)
  · have h := ite_t h hc3
    refine lv_tableIn (tgt := 78) hx hb d_X12_isSo_1 (by rw [hc3]; decide) (by rw [hc3]; decide) (by rw [hc3]; rfl) (by decide) ?_
    refine lv_aload_n hx hb d_X12_isSo_78 rfl (lv_at hl 0 rfl) ?_
    refine r_getr (j := 6) X hw ct8 (o_300 hf) rfl (Nat.le_of_ble_eq_true rfl) (q := 306) rfl wd_962 d_X12_isSo_79 ?_
    refine lv_bipush (v := (16 : Int32)) hx hb d_X12_isSo_82 (by decide) ?_
    refine lv_iload_n hx hb d_X12_isSo_84 rfl (lv_at hl 1 rfl) ?_
    refine lv_iadd hx hb d_X12_isSo_85 ?_
    obtain ⟨hi7, h⟩ := gd_some h
    refine m_iald X hw (o_306 hf) (Nat.le_of_ble_eq_true rfl) hi7 d_X12_isSo_86 ?_
    refine lv_if_ne (tgt := 94) hx hb d_X12_isSo_87 (by decide) (fun hc => ?_) (fun hc => ?_)
    · simp only [if_neg hc] at h
      refine lv_iconst (v := (0 : Int32)) hx hb d_X12_isSo_94 (by decide) ?_
      exact j95 a3 (0 : Int32) h _ _ _ hw (lv_sub hl [3] rfl)
    · simp only [if_pos hc] at h
      refine lv_iconst (v := (1 : Int32)) hx hb d_X12_isSo_90 (by decide) ?_
      refine lv_goto (tgt := 95) hx hb d_X12_isSo_91 (by decide) ?_
      exact j95 a3 (1 : Int32) h _ _ _ hw (lv_sub hl [3] rfl)
  have h := ite_f h hc3
  have hn0 := lv_neT hc0 (a := 0) (by decide)
  have hn1 := lv_neT hc1 (a := 1) (by decide)
  have hn2 := lv_neT hc2 (a := 2) (by decide)
  have hn3 := lv_neT hc3 (a := 3) (by decide)
  refine lv_tableOut (tgt := 108) hx hb d_X12_isSo_1 (by omega) (by decide) ?_
  refine lv_aload_n hx hb d_X12_isSo_108 rfl (lv_at hl 0 rfl) ?_
  refine r_getr (j := 6) X hw ct8 (o_300 hf) rfl (Nat.le_of_ble_eq_true rfl) (q := 306) rfl wd_962 d_X12_isSo_109 ?_
  refine lv_bipush (v := (24 : Int32)) hx hb d_X12_isSo_112 (by decide) ?_
  refine lv_iload_n hx hb d_X12_isSo_114 rfl (lv_at hl 1 rfl) ?_
  refine lv_iadd hx hb d_X12_isSo_115 ?_
  obtain ⟨hi10, h⟩ := gd_some h
  refine m_iald X hw (o_306 hf) (Nat.le_of_ble_eq_true rfl) hi10 d_X12_isSo_116 ?_
  refine lv_iload_n hx hb d_X12_isSo_117 rfl (lv_at hl 3 rfl) ?_
  refine lv_icmp_lt (tgt := 125) hx hb d_X12_isSo_118 (by decide) (fun hc => ?_) (fun hc => ?_)
  · simp only [if_pos hc] at h
    refine lv_iconst (v := (0 : Int32)) hx hb d_X12_isSo_125 (by decide) ?_
    obtain rfl := Option.some.inj h
    subst hQ
    exact r_zret X hr nbz0 hlk hw d_X12_isSo_126
  · simp only [if_neg hc] at h
    refine lv_iconst (v := (1 : Int32)) hx hb d_X12_isSo_121 (by decide) ?_
    refine lv_goto (tgt := 126) hx hb d_X12_isSo_122 (by decide) ?_
    obtain rfl := Option.some.inj h
    subst hQ
    exact r_zret X hr nbz1 hlk hw d_X12_isSo_126
abbrev yX12_fitting : MethodName := ⟨"OysterBedsModel", "fitting", "()I"⟩
theorem mwX12_fitting : MW yX12_fitting prog_14_method_102_code 5 (some .int) 0 := ⟨wd_1549, wd_10, by decide +kernel⟩
theorem d_X12_fitting_0 : decode prog_14_method_102_code 0 = .ok (.iconst 0, 1) := by decide +kernel
theorem d_X12_fitting_1 : decode prog_14_method_102_code 1 = .ok (.istore_n 1, 1) := by decide +kernel
theorem d_X12_fitting_2 : decode prog_14_method_102_code 2 = .ok (.iconst 0, 1) := by decide +kernel
theorem d_X12_fitting_3 : decode prog_14_method_102_code 3 = .ok (.istore_n 2, 1) := by decide +kernel
theorem d_X12_fitting_4 : decode prog_14_method_102_code 4 = .ok (.iload_n 2, 1) := by decide +kernel
theorem d_X12_fitting_5 : decode prog_14_method_102_code 5 = .ok (.aload_n 0, 1) := by decide +kernel
theorem d_X12_fitting_6 : decode prog_14_method_102_code 6 = .ok (.getfield 102, 3) := by decide +kernel
theorem d_X12_fitting_9 : decode prog_14_method_102_code 9 = .ok (.if_icmp .ge 75, 3) := by decide +kernel
theorem d_X12_fitting_12 : decode prog_14_method_102_code 12 = .ok (.iconst 1, 1) := by decide +kernel
theorem d_X12_fitting_13 : decode prog_14_method_102_code 13 = .ok (.istore_n 3, 1) := by decide +kernel
theorem d_X12_fitting_14 : decode prog_14_method_102_code 14 = .ok (.iconst 0, 1) := by decide +kernel
theorem d_X12_fitting_15 : decode prog_14_method_102_code 15 = .ok (.istore 4, 2) := by decide +kernel
theorem d_X12_fitting_17 : decode prog_14_method_102_code 17 = .ok (.iload 4, 2) := by decide +kernel
theorem d_X12_fitting_19 : decode prog_14_method_102_code 19 = .ok (.aload_n 0, 1) := by decide +kernel
theorem d_X12_fitting_20 : decode prog_14_method_102_code 20 = .ok (.getfield 388, 3) := by decide +kernel
theorem d_X12_fitting_23 : decode prog_14_method_102_code 23 = .ok (.if_icmp .ge 41, 3) := by decide +kernel
theorem d_X12_fitting_26 : decode prog_14_method_102_code 26 = .ok (.iload_n 3, 1) := by decide +kernel
theorem d_X12_fitting_27 : decode prog_14_method_102_code 27 = .ok (.ifCond .eq 29, 3) := by decide +kernel
theorem d_X12_fitting_30 : decode prog_14_method_102_code 30 = .ok (.aload_n 0, 1) := by decide +kernel
theorem d_X12_fitting_31 : decode prog_14_method_102_code 31 = .ok (.iload_n 2, 1) := by decide +kernel
theorem d_X12_fitting_32 : decode prog_14_method_102_code 32 = .ok (.aload_n 0, 1) := by decide +kernel
theorem d_X12_fitting_33 : decode prog_14_method_102_code 33 = .ok (.getfield 62, 3) := by decide +kernel
theorem d_X12_fitting_36 : decode prog_14_method_102_code 36 = .ok (.iload 4, 2) := by decide +kernel
theorem d_X12_fitting_38 : decode prog_14_method_102_code 38 = .ok (.iaload, 1) := by decide +kernel
theorem d_X12_fitting_39 : decode prog_14_method_102_code 39 = .ok (.aload_n 0, 1) := by decide +kernel
theorem d_X12_fitting_40 : decode prog_14_method_102_code 40 = .ok (.getfield 65, 3) := by decide +kernel
theorem d_X12_fitting_43 : decode prog_14_method_102_code 43 = .ok (.iload 4, 2) := by decide +kernel
theorem d_X12_fitting_45 : decode prog_14_method_102_code 45 = .ok (.iaload, 1) := by decide +kernel
theorem d_X12_fitting_46 : decode prog_14_method_102_code 46 = .ok (.invokevirtual 391, 3) := by decide +kernel
theorem d_X12_fitting_49 : decode prog_14_method_102_code 49 = .ok (.ifCond .eq 7, 3) := by decide +kernel
theorem d_X12_fitting_52 : decode prog_14_method_102_code 52 = .ok (.iconst 1, 1) := by decide +kernel
theorem d_X12_fitting_53 : decode prog_14_method_102_code 53 = .ok (.goto 4, 3) := by decide +kernel
theorem d_X12_fitting_56 : decode prog_14_method_102_code 56 = .ok (.iconst 0, 1) := by decide +kernel
theorem d_X12_fitting_57 : decode prog_14_method_102_code 57 = .ok (.istore_n 3, 1) := by decide +kernel
theorem d_X12_fitting_58 : decode prog_14_method_102_code 58 = .ok (.iinc 4 1, 3) := by decide +kernel
theorem d_X12_fitting_61 : decode prog_14_method_102_code 61 = .ok (.goto (-44), 3) := by decide +kernel
theorem d_X12_fitting_64 : decode prog_14_method_102_code 64 = .ok (.iload_n 1, 1) := by decide +kernel
theorem d_X12_fitting_65 : decode prog_14_method_102_code 65 = .ok (.iload_n 3, 1) := by decide +kernel
theorem d_X12_fitting_66 : decode prog_14_method_102_code 66 = .ok (.ifCond .eq 9, 3) := by decide +kernel
theorem d_X12_fitting_69 : decode prog_14_method_102_code 69 = .ok (.iconst 1, 1) := by decide +kernel
theorem d_X12_fitting_70 : decode prog_14_method_102_code 70 = .ok (.iload_n 2, 1) := by decide +kernel
theorem d_X12_fitting_71 : decode prog_14_method_102_code 71 = .ok (.ishl, 1) := by decide +kernel
theorem d_X12_fitting_72 : decode prog_14_method_102_code 72 = .ok (.goto 4, 3) := by decide +kernel
theorem d_X12_fitting_75 : decode prog_14_method_102_code 75 = .ok (.iconst 0, 1) := by decide +kernel
theorem d_X12_fitting_76 : decode prog_14_method_102_code 76 = .ok (.ior, 1) := by decide +kernel
theorem d_X12_fitting_77 : decode prog_14_method_102_code 77 = .ok (.istore_n 1, 1) := by decide +kernel
theorem d_X12_fitting_78 : decode prog_14_method_102_code 78 = .ok (.iinc 2 1, 3) := by decide +kernel
theorem d_X12_fitting_81 : decode prog_14_method_102_code 81 = .ok (.goto (-77), 3) := by decide +kernel
theorem d_X12_fitting_84 : decode prog_14_method_102_code 84 = .ok (.iload_n 1, 1) := by decide +kernel
theorem d_X12_fitting_85 : decode prog_14_method_102_code 85 = .ok (.ireturn, 1) := by decide +kernel
def f_X12_fitting_j57_17 (σ : St) (x1 : Int32) (x2 : Int32) (x4 : Int32) (s0 : Int32) : Option ((Int32 × Int32) ⊕ (Int32)) := some (.inl (s0, (x4 + (1 : Int32))))
def f_X12_fitting_s17 (σ : St) (y1 : Int32) (y2 : Int32) (x3 : Int32) (x4 : Int32) : Option ((Int32 × Int32) ⊕ (Int32)) := (if (cF σ 300 31) ≤ x4 then some (.inr x3) else (if x3 = 0 then f_X12_fitting_j57_17 σ y1 y2 x4 (0 : Int32) else gd (inb x4 12) (gd (inb x4 12) ((f_X12_isSo σ y2 (cA σ 332 x4.toNatClampNeg) (cA σ 333 x4.toNatClampNeg)).bind (fun q3 => f_X12_fitting_j57_17 σ y1 y2 x4 (if q3 = 0 then (0 : Int32) else (1 : Int32)))))))
def f_X12_fitting_j76_4 (σ : St) (x2 : Int32) (s0 : Int32) (s1 : Int32) : Option ((Int32 × Int32) ⊕ (Int32)) := some (.inl ((s0 ||| s1), (x2 + (1 : Int32))))
def f_X12_fitting_s4 (σ : St) (x1 : Int32) (x2 : Int32) : Option ((Int32 × Int32) ⊕ (Int32)) := (if (cF σ 300 3) ≤ x2 then some (.inr x1) else (iter (fun z => f_X12_fitting_s17 σ x1 x2 z.1 z.2) FU ((1 : Int32), (0 : Int32))).bind (fun z5 => f_X12_fitting_j76_4 σ x2 x1 (if z5 = 0 then (0 : Int32) else ((1 : Int32) <<< (x2 &&& 31)))))
def f_X12_fitting (σ : St) : Option (Int32) := (iter (fun z => f_X12_fitting_s4 σ z.1 z.2) FU ((0 : Int32), (0 : Int32))).bind (fun z8 => some z8)
theorem c_X12_fitting {l : Launch} {G : gT} {χ σ : St} (hf : FW G) {q : Int32} (h : f_X12_fitting σ = some q) : Ct l G yX12_fitting prog_14_method_102_code 5 (some .int) 2 44 [.ref (ga G 300)] χ σ (some (.int q)) χ σ := by
  refine Ct.of (by decide) (Nat.le_of_ble_eq_true rfl) ?_
  intro p e s m args below meth c Q X hr hlk hQ
  have hx := X.1
  have hb := X.2.1
  have j57_17 : ∀ (x1 : Int32) (x2 : Int32) (x4 : Int32) (s0 : Int32) (o : (Int32 × Int32) ⊕ (Int32)), f_X12_fitting_j57_17 σ x1 x2 x4 s0 = some o → Sum.elim (fun z : Int32 × Int32 => Wat p l e (rmk 2 44) s m args below meth c Q G 5 17 [] [(3, .int z.1), (4, .int z.2), (0, .ref (ga G 300)), (1, .int x1), (2, .int x2)] χ σ) (fun z : Int32 => Wat p l e (rmk 2 44) s m args below meth c Q G 5 64 [] [(0, .ref (ga G 300)), (1, .int x1), (2, .int x2), (3, .int z)] χ σ) o → Wat p l e (rmk 2 44) s m args below meth c Q G 5 57 [.int s0] [(0, .ref (ga G 300)), (1, .int x1), (2, .int x2), (4, .int x4)] χ σ := by
    intro x1 x2 x4 s0 o h hk H locs ls hw hl
    unfold f_X12_fitting_j57_17 at h
    refine lv_istore_n (lv' := [(3, .int s0), (0, .ref (ga G 300)), (1, .int x1), (2, .int x2), (4, .int x4)]) hx hb d_X12_fitting_57 rfl hl (Nat.le_of_ble_eq_true rfl) rfl (fun ls hl => ?_)
    refine lv_iinc (v := (x4 + (1 : Int32))) (k := 4) (lv' := [(4, .int (x4 + (1 : Int32))), (3, .int s0), (0, .ref (ga G 300)), (1, .int x1), (2, .int x2)]) hx hb d_X12_fitting_58 hl rfl (by rfl) (Nat.le_of_ble_eq_true rfl) rfl (fun ls hl => ?_)
    refine lv_goto (tgt := 17) hx hb d_X12_fitting_61 (by decide) ?_
    obtain rfl := Option.some.inj h
    dsimp only [Sum.elim_inl] at hk
    exact hk _ _ _ hw (lv_sub hl [1, 0, 2, 3, 4] rfl)
  have b17 : ∀ (y1 : Int32) (y2 : Int32) (x3 : Int32) (x4 : Int32) (o : (Int32 × Int32) ⊕ (Int32)), f_X12_fitting_s17 σ y1 y2 x3 x4 = some o → Sum.elim (fun z : Int32 × Int32 => Wat p l e (rmk 2 44) s m args below meth c Q G 5 17 [] [(3, .int z.1), (4, .int z.2), (0, .ref (ga G 300)), (1, .int y1), (2, .int y2)] χ σ) (fun z : Int32 => Wat p l e (rmk 2 44) s m args below meth c Q G 5 64 [] [(0, .ref (ga G 300)), (1, .int y1), (2, .int y2), (3, .int z)] χ σ) o → Wat p l e (rmk 2 44) s m args below meth c Q G 5 17 [] [(3, .int x3), (4, .int x4), (0, .ref (ga G 300)), (1, .int y1), (2, .int y2)] χ σ := by
    intro y1 y2 x3 x4 o h hk H locs ls hw hl
    unfold f_X12_fitting_s17 at h
    refine lv_iload hx hb d_X12_fitting_17 (lv_at hl 1 rfl) ?_
    refine lv_aload_n hx hb d_X12_fitting_19 rfl (lv_at hl 2 rfl) ?_
    refine m_geti (j := 31) X hw ct8 (o_300 hf) (Nat.le_of_ble_eq_true rfl) rfl (Nat.le_of_ble_eq_true rfl) wd_987 d_X12_fitting_20 ?_
    refine lv_icmp_ge (tgt := 64) hx hb d_X12_fitting_23 (by decide) (fun hc => ?_) (fun hc => ?_)
    · have h := ite_t h hc
      obtain rfl := Option.some.inj h
      dsimp only [Sum.elim_inr] at hk
      exact hk _ _ _ hw (lv_sub hl [2, 3, 4, 0] rfl)
    · have h := ite_f h hc
      refine lv_iload_n hx hb d_X12_fitting_26 rfl (lv_at hl 0 rfl) ?_
      refine lv_if_eq (tgt := 56) hx hb d_X12_fitting_27 (by decide) (fun hc => ?_) (fun hc => ?_)
      · have h := ite_t h hc
        refine lv_iconst (v := (0 : Int32)) hx hb d_X12_fitting_56 (by decide) ?_
        exact j57_17 y1 y2 x4 (0 : Int32) o h hk _ _ _ hw (lv_sub hl [2, 3, 4, 1] rfl)
      · have h := ite_f h hc
        refine lv_aload_n hx hb d_X12_fitting_30 rfl (lv_at hl 2 rfl) ?_
        refine lv_iload_n hx hb d_X12_fitting_31 rfl (lv_at hl 4 rfl) ?_
        refine lv_aload_n hx hb d_X12_fitting_32 rfl (lv_at hl 2 rfl) ?_
        refine r_getr (j := 32) X hw ct8 (o_300 hf) rfl (Nat.le_of_ble_eq_true rfl) (q := 332) rfl wd_988 d_X12_fitting_33 ?_
        refine lv_iload hx hb d_X12_fitting_36 (lv_at hl 1 rfl) ?_
        obtain ⟨hi1, h⟩ := gd_some h
        refine m_iald X hw (o_332 hf) (Nat.le_of_ble_eq_true rfl) hi1 d_X12_fitting_38 ?_
        refine lv_aload_n hx hb d_X12_fitting_39 rfl (lv_at hl 2 rfl) ?_
        refine r_getr (j := 33) X hw ct8 (o_300 hf) rfl (Nat.le_of_ble_eq_true rfl) (q := 333) rfl wd_989 d_X12_fitting_40 ?_
        refine lv_iload hx hb d_X12_fitting_43 (lv_at hl 1 rfl) ?_
        obtain ⟨hi2, h⟩ := gd_some h
        refine m_iald X hw (o_333 hf) (Nat.le_of_ble_eq_true rfl) hi2 d_X12_fitting_45 ?_
        obtain ⟨q3, e4, h⟩ := bd_some h
        refine r_callV (As := [.int y2, .int (cA σ 332 x4.toNatClampNeg), .int (cA σ 333 x4.toNatClampNeg)]) (rest := []) (st' := [.int q3]) X hw hl mwX12_isSo wd_1552 wp_65 wd_1550 (c_X12_isSo hf e4) (r_recv X hw ct8 (o_300 hf)) rfl ⟨Nat.le_of_ble_eq_true rfl, Nat.le_of_ble_eq_true rfl⟩ ⟨Nat.le_refl _, Nat.le_refl _⟩ rfl rfl (Nat.le_of_ble_eq_true rfl) d_X12_fitting_46 (fun H locs hw => ?_)
        refine lv_if_eq (tgt := 56) hx hb d_X12_fitting_49 (by decide) (fun hc => ?_) (fun hc => ?_)
        · simp only [if_pos hc] at h
          refine lv_iconst (v := (0 : Int32)) hx hb d_X12_fitting_56 (by decide) ?_
          exact j57_17 y1 y2 x4 (0 : Int32) o h hk _ _ _ hw (lv_sub hl [2, 3, 4, 1] rfl)
        · simp only [if_neg hc] at h
          refine lv_iconst (v := (1 : Int32)) hx hb d_X12_fitting_52 (by decide) ?_
          refine lv_goto (tgt := 57) hx hb d_X12_fitting_53 (by decide) ?_
          exact j57_17 y1 y2 x4 (1 : Int32) o h hk _ _ _ hw (lv_sub hl [2, 3, 4, 1] rfl)
  have j76_4 : ∀ (x2 : Int32) (s0 : Int32) (s1 : Int32) (o : (Int32 × Int32) ⊕ (Int32)), f_X12_fitting_j76_4 σ x2 s0 s1 = some o → Sum.elim (fun z : Int32 × Int32 => Wat p l e (rmk 2 44) s m args below meth c Q G 5 4 [] [(1, .int z.1), (2, .int z.2), (0, .ref (ga G 300))] χ σ) (fun z : Int32 => Wat p l e (rmk 2 44) s m args below meth c Q G 5 84 [] [(1, .int z)] χ σ) o → Wat p l e (rmk 2 44) s m args below meth c Q G 5 76 [.int s1, .int s0] [(0, .ref (ga G 300)), (2, .int x2)] χ σ := by
    intro x2 s0 s1 o h hk H locs ls hw hl
    unfold f_X12_fitting_j76_4 at h
    refine lv_ior hx hb d_X12_fitting_76 ?_
    refine lv_istore_n (lv' := [(1, .int (s0 ||| s1)), (0, .ref (ga G 300)), (2, .int x2)]) hx hb d_X12_fitting_77 rfl hl (Nat.le_of_ble_eq_true rfl) rfl (fun ls hl => ?_)
    refine lv_iinc (v := (x2 + (1 : Int32))) (k := 2) (lv' := [(2, .int (x2 + (1 : Int32))), (1, .int (s0 ||| s1)), (0, .ref (ga G 300))]) hx hb d_X12_fitting_78 hl rfl (by rfl) (Nat.le_of_ble_eq_true rfl) rfl (fun ls hl => ?_)
    refine lv_goto (tgt := 4) hx hb d_X12_fitting_81 (by decide) ?_
    obtain rfl := Option.some.inj h
    dsimp only [Sum.elim_inl] at hk
    exact hk _ _ _ hw (lv_sub hl [1, 0, 2] rfl)
  have b4 : ∀ (x1 : Int32) (x2 : Int32) (o : (Int32 × Int32) ⊕ (Int32)), f_X12_fitting_s4 σ x1 x2 = some o → Sum.elim (fun z : Int32 × Int32 => Wat p l e (rmk 2 44) s m args below meth c Q G 5 4 [] [(1, .int z.1), (2, .int z.2), (0, .ref (ga G 300))] χ σ) (fun z : Int32 => Wat p l e (rmk 2 44) s m args below meth c Q G 5 84 [] [(1, .int z)] χ σ) o → Wat p l e (rmk 2 44) s m args below meth c Q G 5 4 [] [(1, .int x1), (2, .int x2), (0, .ref (ga G 300))] χ σ := by
    intro x1 x2 o h hk H locs ls hw hl
    unfold f_X12_fitting_s4 at h
    refine lv_iload_n hx hb d_X12_fitting_4 rfl (lv_at hl 1 rfl) ?_
    refine lv_aload_n hx hb d_X12_fitting_5 rfl (lv_at hl 2 rfl) ?_
    refine m_geti (j := 3) X hw ct8 (o_300 hf) (Nat.le_of_ble_eq_true rfl) rfl (Nat.le_of_ble_eq_true rfl) wd_959 d_X12_fitting_6 ?_
    refine lv_icmp_ge (tgt := 84) hx hb d_X12_fitting_9 (by decide) (fun hc => ?_) (fun hc => ?_)
    · have h := ite_t h hc
      obtain rfl := Option.some.inj h
      dsimp only [Sum.elim_inr] at hk
      exact hk _ _ _ hw (lv_sub hl [0] rfl)
    · have h := ite_f h hc
      refine lv_iconst (v := (1 : Int32)) hx hb d_X12_fitting_12 (by decide) ?_
      refine lv_istore_n (lv' := [(3, .int (1 : Int32)), (1, .int x1), (2, .int x2), (0, .ref (ga G 300))]) hx hb d_X12_fitting_13 rfl hl (Nat.le_of_ble_eq_true rfl) rfl (fun ls hl => ?_)
      refine lv_iconst (v := (0 : Int32)) hx hb d_X12_fitting_14 (by decide) ?_
      refine lv_istore (lv' := [(4, .int (0 : Int32)), (3, .int (1 : Int32)), (1, .int x1), (2, .int x2), (0, .ref (ga G 300))]) hx hb d_X12_fitting_15 hl (Nat.le_of_ble_eq_true rfl) rfl (fun ls hl => ?_)
      obtain ⟨z5, e6, h⟩ := bd_some h
      refine iter_w (Wh := fun z : Int32 × Int32 => Wat p l e (rmk 2 44) s m args below meth c Q G 5 17 [] [(3, .int z.1), (4, .int z.2), (0, .ref (ga G 300)), (1, .int x1), (2, .int x2)] χ σ) (K := fun z : Int32 => Wat p l e (rmk 2 44) s m args below meth c Q G 5 64 [] [(0, .ref (ga G 300)), (1, .int x1), (2, .int x2), (3, .int z)] χ σ) (fun z o h1 h2 => b17 x1 x2 z.1 z.2 o h1 h2) FU _ _ e6 ?_ _ _ _ hw (lv_sub hl [1, 0, 4, 2, 3] rfl)
      intro H locs ls hw hl
      refine lv_iload_n hx hb d_X12_fitting_64 rfl (lv_at hl 1 rfl) ?_
      refine lv_iload_n hx hb d_X12_fitting_65 rfl (lv_at hl 3 rfl) ?_
      refine lv_if_eq (tgt := 75) hx hb d_X12_fitting_66 (by decide) (fun hc => ?_) (fun hc => ?_)
      · simp only [if_pos hc] at h
        refine lv_iconst (v := (0 : Int32)) hx hb d_X12_fitting_75 (by decide) ?_
        exact j76_4 x2 x1 (0 : Int32) o h hk _ _ _ hw (lv_sub hl [0, 2] rfl)
      · simp only [if_neg hc] at h
        refine lv_iconst (v := (1 : Int32)) hx hb d_X12_fitting_69 (by decide) ?_
        refine lv_iload_n hx hb d_X12_fitting_70 rfl (lv_at hl 2 rfl) ?_
        refine lv_ishl hx hb d_X12_fitting_71 ?_
        refine lv_goto (tgt := 76) hx hb d_X12_fitting_72 (by decide) ?_
        exact j76_4 x2 x1 ((1 : Int32) <<< (x2 &&& 31)) o h hk _ _ _ hw (lv_sub hl [0, 2] rfl)
  intro H locs ls hw hl
  have hl : lv_has ls 5 [(0, .ref (ga G 300))] := hl
  unfold f_X12_fitting at h
  refine lv_iconst (v := (0 : Int32)) hx hb d_X12_fitting_0 (by decide) ?_
  refine lv_istore_n (lv' := [(1, .int (0 : Int32)), (0, .ref (ga G 300))]) hx hb d_X12_fitting_1 rfl hl (Nat.le_of_ble_eq_true rfl) rfl (fun ls hl => ?_)
  refine lv_iconst (v := (0 : Int32)) hx hb d_X12_fitting_2 (by decide) ?_
  refine lv_istore_n (lv' := [(2, .int (0 : Int32)), (1, .int (0 : Int32)), (0, .ref (ga G 300))]) hx hb d_X12_fitting_3 rfl hl (Nat.le_of_ble_eq_true rfl) rfl (fun ls hl => ?_)
  obtain ⟨z8, e9, h⟩ := bd_some h
  refine iter_w (Wh := fun z : Int32 × Int32 => Wat p l e (rmk 2 44) s m args below meth c Q G 5 4 [] [(1, .int z.1), (2, .int z.2), (0, .ref (ga G 300))] χ σ) (K := fun z : Int32 => Wat p l e (rmk 2 44) s m args below meth c Q G 5 84 [] [(1, .int z)] χ σ) (fun z o h1 h2 => b4 z.1 z.2 o h1 h2) FU _ _ e9 ?_ _ _ _ hw (lv_sub hl [1, 0, 2] rfl)
  intro H locs ls hw hl
  refine lv_iload_n hx hb d_X12_fitting_84 rfl (lv_at hl 0 rfl) ?_
  obtain rfl := Option.some.inj h
  subst hQ
  exact r_iret X hr hlk hw d_X12_fitting_85
abbrev yX12_fits : MethodName := ⟨"OysterBedsModel", "fits", "()I"⟩
theorem mwX12_fits : MW yX12_fits prog_14_method_103_code 2 (some .int) 0 := ⟨wd_1545, wd_10, by decide +kernel⟩
theorem d_X12_fits_0 : decode prog_14_method_103_code 0 = .ok (.aload_n 0, 1) := by decide +kernel
theorem d_X12_fits_1 : decode prog_14_method_103_code 1 = .ok (.iconst 0, 1) := by decide +kernel
theorem d_X12_fits_2 : decode prog_14_method_103_code 2 = .ok (.putfield 87, 3) := by decide +kernel
theorem d_X12_fits_5 : decode prog_14_method_103_code 5 = .ok (.aload_n 0, 1) := by decide +kernel
theorem d_X12_fits_6 : decode prog_14_method_103_code 6 = .ok (.invokevirtual 395, 3) := by decide +kernel
theorem d_X12_fits_9 : decode prog_14_method_103_code 9 = .ok (.istore_n 1, 1) := by decide +kernel
theorem d_X12_fits_10 : decode prog_14_method_103_code 10 = .ok (.aload_n 0, 1) := by decide +kernel
theorem d_X12_fits_11 : decode prog_14_method_103_code 11 = .ok (.iconst 0, 1) := by decide +kernel
theorem d_X12_fits_12 : decode prog_14_method_103_code 12 = .ok (.putfield 95, 3) := by decide +kernel
theorem d_X12_fits_15 : decode prog_14_method_103_code 15 = .ok (.aload_n 0, 1) := by decide +kernel
theorem d_X12_fits_16 : decode prog_14_method_103_code 16 = .ok (.iload_n 1, 1) := by decide +kernel
theorem d_X12_fits_17 : decode prog_14_method_103_code 17 = .ok (.invokestatic 235, 3) := by decide +kernel
theorem d_X12_fits_20 : decode prog_14_method_103_code 20 = .ok (.i2l, 1) := by decide +kernel
theorem d_X12_fits_21 : decode prog_14_method_103_code 21 = .ok (.invokevirtual 98, 3) := by decide +kernel
theorem d_X12_fits_24 : decode prog_14_method_103_code 24 = .ok (.iload_n 1, 1) := by decide +kernel
theorem d_X12_fits_25 : decode prog_14_method_103_code 25 = .ok (.ireturn, 1) := by decide +kernel
def f_X12_fits (σ : St) : Option (Int32 × St) := (f_X12_fitting (sF σ 300 0 (0 : Int32))).bind (fun q1 => (f_J6_bitCount_0f7a4 q1).bind (fun q3 => (f_X12_enters (sF (sF σ 300 0 (0 : Int32)) 300 1 (0 : Int32)) q3.toInt64).bind (fun q5 => some (q1, q5))))
theorem c_X12_fits {l : Launch} {G : gT} {χ σ : St} (hf : FW G) {q : Int32 × St} (h : f_X12_fits σ = some q) : Ct l G yX12_fits prog_14_method_103_code 2 (some .int) 3 68 [.ref (ga G 300)] χ σ (some (.int q.1)) χ q.2 := by
  refine Ct.of (by decide) (Nat.le_of_ble_eq_true rfl) ?_
  intro p e s m args below meth c Q X hr hlk hQ
  have hx := X.1
  have hb := X.2.1
  intro H locs ls hw hl
  have hl : lv_has ls 2 [(0, .ref (ga G 300))] := hl
  unfold f_X12_fits at h
  refine lv_aload_n hx hb d_X12_fits_0 rfl (lv_at hl 0 rfl) ?_
  refine lv_iconst (v := (0 : Int32)) hx hb d_X12_fits_1 (by decide) ?_
  refine m_puti (j := 0) X hw ct8 (o_300 hf) (Nat.le_of_ble_eq_true rfl) rfl (Nat.le_of_ble_eq_true rfl) rfl rfl rfl wd_956 d_X12_fits_2 (fun H locs hw => ?_)
  refine lv_aload_n hx hb d_X12_fits_5 rfl (lv_at hl 0 rfl) ?_
  obtain ⟨q1, e2, h⟩ := bd_some h
  refine r_callV (As := []) (rest := []) (st' := [.int q1]) X hw hl mwX12_fitting wd_1548 wp_64 wd_1546 (c_X12_fitting hf e2) (r_recv X hw ct8 (o_300 hf)) rfl ⟨Nat.le_of_ble_eq_true rfl, Nat.le_of_ble_eq_true rfl⟩ ⟨Nat.le_refl _, Nat.le_refl _⟩ rfl rfl (Nat.le_of_ble_eq_true rfl) d_X12_fits_6 (fun H locs hw => ?_)
  refine lv_istore_n (lv' := [(1, .int q1), (0, .ref (ga G 300))]) hx hb d_X12_fits_9 rfl hl (Nat.le_of_ble_eq_true rfl) rfl (fun ls hl => ?_)
  refine lv_aload_n hx hb d_X12_fits_10 rfl (lv_at hl 1 rfl) ?_
  refine lv_iconst (v := (0 : Int32)) hx hb d_X12_fits_11 (by decide) ?_
  refine m_puti (j := 1) X hw ct8 (o_300 hf) (Nat.le_of_ble_eq_true rfl) rfl (Nat.le_of_ble_eq_true rfl) rfl rfl rfl wd_957 d_X12_fits_12 (fun H locs hw => ?_)
  refine lv_aload_n hx hb d_X12_fits_15 rfl (lv_at hl 1 rfl) ?_
  refine lv_iload_n hx hb d_X12_fits_16 rfl (lv_at hl 0 rfl) ?_
  obtain ⟨q3, e4, h⟩ := bd_some h
  refine r_callS (As := [.int q1]) (rest := [.ref (ga G 300)]) (st' := [.int q3, .ref (ga G 300)]) X hw hl mwJ6_bitCount_0f7a4 wd_436 wd_1272 (c_J6_bitCount_0f7a4 e4) rfl ⟨Nat.le_of_ble_eq_true rfl, Nat.le_of_ble_eq_true rfl⟩ ⟨Nat.le_refl _, Nat.le_refl _⟩ rfl rfl (Nat.le_of_ble_eq_true rfl) d_X12_fits_17 (fun H locs hw => ?_)
  refine lv_i2l hx hb d_X12_fits_20 rfl ?_
  obtain ⟨q5, e6, h⟩ := bd_some h
  refine r_callV (As := [.long q3.toInt64]) (rest := []) (st' := []) X hw hl mwX12_enters wd_1282 wp_38 wd_1280 (c_X12_enters hf e6) (r_recv X hw ct8 (o_300 hf)) rfl ⟨Nat.le_of_ble_eq_true rfl, Nat.le_of_ble_eq_true rfl⟩ ⟨Nat.le_refl _, Nat.le_refl _⟩ rfl rfl (Nat.le_of_ble_eq_true rfl) d_X12_fits_21 (fun H locs hw => ?_)
  refine lv_iload_n hx hb d_X12_fits_24 rfl (lv_at hl 0 rfl) ?_
  obtain rfl := Option.some.inj h
  subst hQ
  exact r_iret X hr hlk hw d_X12_fits_25
abbrev yX12_asks : MethodName := ⟨"OysterBedsModel", "asks", "()I"⟩
theorem mwX12_asks : MW yX12_asks prog_14_method_104_code 8 (some .int) 0 := ⟨wd_1557, wd_10, by decide +kernel⟩
theorem d_X12_asks_0 : decode prog_14_method_104_code 0 = .ok (.aload_n 0, 1) := by decide +kernel
theorem d_X12_asks_1 : decode prog_14_method_104_code 1 = .ok (.iconst 0, 1) := by decide +kernel
theorem d_X12_asks_2 : decode prog_14_method_104_code 2 = .ok (.putfield 87, 3) := by decide +kernel
theorem d_X12_asks_5 : decode prog_14_method_104_code 5 = .ok (.aload_n 0, 1) := by decide +kernel
theorem d_X12_asks_6 : decode prog_14_method_104_code 6 = .ok (.invokevirtual 395, 3) := by decide +kernel
theorem d_X12_asks_9 : decode prog_14_method_104_code 9 = .ok (.istore_n 1, 1) := by decide +kernel
theorem d_X12_asks_10 : decode prog_14_method_104_code 10 = .ok (.iload_n 1, 1) := by decide +kernel
theorem d_X12_asks_11 : decode prog_14_method_104_code 11 = .ok (.ifCond .ne 6, 3) := by decide +kernel
theorem d_X12_asks_14 : decode prog_14_method_104_code 14 = .ok (.bipush (-2), 2) := by decide +kernel
theorem d_X12_asks_16 : decode prog_14_method_104_code 16 = .ok (.ireturn, 1) := by decide +kernel
theorem d_X12_asks_17 : decode prog_14_method_104_code 17 = .ok (.iconst (-1), 1) := by decide +kernel
theorem d_X12_asks_18 : decode prog_14_method_104_code 18 = .ok (.istore_n 2, 1) := by decide +kernel
theorem d_X12_asks_19 : decode prog_14_method_104_code 19 = .ok (.ldc_w 315, 3) := by decide +kernel
theorem d_X12_asks_22 : decode prog_14_method_104_code 22 = .ok (.istore_n 3, 1) := by decide +kernel
theorem d_X12_asks_23 : decode prog_14_method_104_code 23 = .ok (.iconst 0, 1) := by decide +kernel
theorem d_X12_asks_24 : decode prog_14_method_104_code 24 = .ok (.istore 4, 2) := by decide +kernel
theorem d_X12_asks_26 : decode prog_14_method_104_code 26 = .ok (.iload 4, 2) := by decide +kernel
theorem d_X12_asks_28 : decode prog_14_method_104_code 28 = .ok (.iconst 5, 1) := by decide +kernel
theorem d_X12_asks_29 : decode prog_14_method_104_code 29 = .ok (.if_icmp .ge 124, 3) := by decide +kernel
theorem d_X12_asks_32 : decode prog_14_method_104_code 32 = .ok (.iconst 0, 1) := by decide +kernel
theorem d_X12_asks_33 : decode prog_14_method_104_code 33 = .ok (.istore 5, 2) := by decide +kernel
theorem d_X12_asks_35 : decode prog_14_method_104_code 35 = .ok (.iload 5, 2) := by decide +kernel
theorem d_X12_asks_37 : decode prog_14_method_104_code 37 = .ok (.iload 4, 2) := by decide +kernel
theorem d_X12_asks_39 : decode prog_14_method_104_code 39 = .ok (.invokestatic 385, 3) := by decide +kernel
theorem d_X12_asks_42 : decode prog_14_method_104_code 42 = .ok (.if_icmp .gt 105, 3) := by decide +kernel
theorem d_X12_asks_45 : decode prog_14_method_104_code 45 = .ok (.iconst 0, 1) := by decide +kernel
theorem d_X12_asks_46 : decode prog_14_method_104_code 46 = .ok (.istore 6, 2) := by decide +kernel
theorem d_X12_asks_48 : decode prog_14_method_104_code 48 = .ok (.iconst 0, 1) := by decide +kernel
theorem d_X12_asks_49 : decode prog_14_method_104_code 49 = .ok (.istore 7, 2) := by decide +kernel
theorem d_X12_asks_51 : decode prog_14_method_104_code 51 = .ok (.iload 7, 2) := by decide +kernel
theorem d_X12_asks_53 : decode prog_14_method_104_code 53 = .ok (.aload_n 0, 1) := by decide +kernel
theorem d_X12_asks_54 : decode prog_14_method_104_code 54 = .ok (.getfield 102, 3) := by decide +kernel
theorem d_X12_asks_57 : decode prog_14_method_104_code 57 = .ok (.if_icmp .ge 44, 3) := by decide +kernel
theorem d_X12_asks_60 : decode prog_14_method_104_code 60 = .ok (.iload 6, 2) := by decide +kernel
theorem d_X12_asks_62 : decode prog_14_method_104_code 62 = .ok (.iload_n 1, 1) := by decide +kernel
theorem d_X12_asks_63 : decode prog_14_method_104_code 63 = .ok (.iload 7, 2) := by decide +kernel
theorem d_X12_asks_65 : decode prog_14_method_104_code 65 = .ok (.invokestatic 113, 3) := by decide +kernel
theorem d_X12_asks_68 : decode prog_14_method_104_code 68 = .ok (.ifCond .eq 20, 3) := by decide +kernel
theorem d_X12_asks_71 : decode prog_14_method_104_code 71 = .ok (.aload_n 0, 1) := by decide +kernel
theorem d_X12_asks_72 : decode prog_14_method_104_code 72 = .ok (.iload 7, 2) := by decide +kernel
theorem d_X12_asks_74 : decode prog_14_method_104_code 74 = .ok (.iload 4, 2) := by decide +kernel
theorem d_X12_asks_76 : decode prog_14_method_104_code 76 = .ok (.iload 5, 2) := by decide +kernel
theorem d_X12_asks_78 : decode prog_14_method_104_code 78 = .ok (.invokevirtual 391, 3) := by decide +kernel
theorem d_X12_asks_81 : decode prog_14_method_104_code 81 = .ok (.ifCond .eq 7, 3) := by decide +kernel
theorem d_X12_asks_84 : decode prog_14_method_104_code 84 = .ok (.iconst 1, 1) := by decide +kernel
theorem d_X12_asks_85 : decode prog_14_method_104_code 85 = .ok (.goto 4, 3) := by decide +kernel
theorem d_X12_asks_88 : decode prog_14_method_104_code 88 = .ok (.iconst 0, 1) := by decide +kernel
theorem d_X12_asks_89 : decode prog_14_method_104_code 89 = .ok (.invokestatic 135, 3) := by decide +kernel
theorem d_X12_asks_92 : decode prog_14_method_104_code 92 = .ok (.iadd, 1) := by decide +kernel
theorem d_X12_asks_93 : decode prog_14_method_104_code 93 = .ok (.istore 6, 2) := by decide +kernel
theorem d_X12_asks_95 : decode prog_14_method_104_code 95 = .ok (.iinc 7 1, 3) := by decide +kernel
theorem d_X12_asks_98 : decode prog_14_method_104_code 98 = .ok (.goto (-47), 3) := by decide +kernel
theorem d_X12_asks_101 : decode prog_14_method_104_code 101 = .ok (.iload 6, 2) := by decide +kernel
theorem d_X12_asks_103 : decode prog_14_method_104_code 103 = .ok (.iload_n 1, 1) := by decide +kernel
theorem d_X12_asks_104 : decode prog_14_method_104_code 104 = .ok (.invokestatic 235, 3) := by decide +kernel
theorem d_X12_asks_107 : decode prog_14_method_104_code 107 = .ok (.iload 6, 2) := by decide +kernel
theorem d_X12_asks_109 : decode prog_14_method_104_code 109 = .ok (.isub, 1) := by decide +kernel
theorem d_X12_asks_110 : decode prog_14_method_104_code 110 = .ok (.invokestatic 251, 3) := by decide +kernel
theorem d_X12_asks_113 : decode prog_14_method_104_code 113 = .ok (.istore 7, 2) := by decide +kernel
theorem d_X12_asks_115 : decode prog_14_method_104_code 115 = .ok (.iload 7, 2) := by decide +kernel
theorem d_X12_asks_117 : decode prog_14_method_104_code 117 = .ok (.iload_n 3, 1) := by decide +kernel
theorem d_X12_asks_118 : decode prog_14_method_104_code 118 = .ok (.if_icmp .ge 14, 3) := by decide +kernel
theorem d_X12_asks_121 : decode prog_14_method_104_code 121 = .ok (.bipush 10, 2) := by decide +kernel
theorem d_X12_asks_123 : decode prog_14_method_104_code 123 = .ok (.iload 4, 2) := by decide +kernel
theorem d_X12_asks_125 : decode prog_14_method_104_code 125 = .ok (.imul, 1) := by decide +kernel
theorem d_X12_asks_126 : decode prog_14_method_104_code 126 = .ok (.iload 5, 2) := by decide +kernel
theorem d_X12_asks_128 : decode prog_14_method_104_code 128 = .ok (.iadd, 1) := by decide +kernel
theorem d_X12_asks_129 : decode prog_14_method_104_code 129 = .ok (.goto 4, 3) := by decide +kernel
theorem d_X12_asks_132 : decode prog_14_method_104_code 132 = .ok (.iload_n 2, 1) := by decide +kernel
theorem d_X12_asks_133 : decode prog_14_method_104_code 133 = .ok (.istore_n 2, 1) := by decide +kernel
theorem d_X12_asks_134 : decode prog_14_method_104_code 134 = .ok (.iload_n 3, 1) := by decide +kernel
theorem d_X12_asks_135 : decode prog_14_method_104_code 135 = .ok (.iload 7, 2) := by decide +kernel
theorem d_X12_asks_137 : decode prog_14_method_104_code 137 = .ok (.invokestatic 126, 3) := by decide +kernel
theorem d_X12_asks_140 : decode prog_14_method_104_code 140 = .ok (.istore_n 3, 1) := by decide +kernel
theorem d_X12_asks_141 : decode prog_14_method_104_code 141 = .ok (.iinc 5 1, 3) := by decide +kernel
theorem d_X12_asks_144 : decode prog_14_method_104_code 144 = .ok (.goto (-109), 3) := by decide +kernel
theorem d_X12_asks_147 : decode prog_14_method_104_code 147 = .ok (.iinc 4 1, 3) := by decide +kernel
theorem d_X12_asks_150 : decode prog_14_method_104_code 150 = .ok (.goto (-124), 3) := by decide +kernel
theorem d_X12_asks_153 : decode prog_14_method_104_code 153 = .ok (.aload_n 0, 1) := by decide +kernel
theorem d_X12_asks_154 : decode prog_14_method_104_code 154 = .ok (.iconst 0, 1) := by decide +kernel
theorem d_X12_asks_155 : decode prog_14_method_104_code 155 = .ok (.putfield 95, 3) := by decide +kernel
theorem d_X12_asks_158 : decode prog_14_method_104_code 158 = .ok (.aload_n 0, 1) := by decide +kernel
theorem d_X12_asks_159 : decode prog_14_method_104_code 159 = .ok (.iload_n 3, 1) := by decide +kernel
theorem d_X12_asks_160 : decode prog_14_method_104_code 160 = .ok (.i2l, 1) := by decide +kernel
theorem d_X12_asks_161 : decode prog_14_method_104_code 161 = .ok (.invokevirtual 98, 3) := by decide +kernel
theorem d_X12_asks_164 : decode prog_14_method_104_code 164 = .ok (.iload_n 2, 1) := by decide +kernel
theorem d_X12_asks_165 : decode prog_14_method_104_code 165 = .ok (.ireturn, 1) := by decide +kernel
def f_X12_asks_j89_51 (τ : St) (x1 : Int32) (x2 : Int32) (x3 : Int32) (x4 : Int32) (x5 : Int32) (x7 : Int32) (s0 : Int32) (s1 : Int32) : Option ((Int32 × Int32) ⊕ (Int32)) := (f_X12_flag s1).bind (fun q7 => some (.inl ((s0 + q7), (x7 + (1 : Int32)))))
def f_X12_asks_s51 (τ : St) (y1 : Int32) (y2 : Int32) (y3 : Int32) (y4 : Int32) (y5 : Int32) (x6 : Int32) (x7 : Int32) : Option ((Int32 × Int32) ⊕ (Int32)) := (if (cF τ 300 3) ≤ x7 then some (.inr x6) else (f_X12_has y1 x7).bind (fun q5 => (if q5 = 0 then f_X12_asks_j89_51 τ y1 y2 y3 y4 y5 x7 x6 (0 : Int32) else (f_X12_isSo τ x7 y4 y5).bind (fun q9 => f_X12_asks_j89_51 τ y1 y2 y3 y4 y5 x7 x6 (if q9 = 0 then (0 : Int32) else (1 : Int32))))))
def f_X12_asks_j133_35 (τ : St) (x1 : Int32) (x3 : Int32) (x4 : Int32) (x5 : Int32) (x7 : Int32) (s0 : Int32) : Option ((Int32 × Int32 × Int32) ⊕ (Int32 × Int32)) := some (.inl (s0, (if x7 < x3 then x7 else x3), (x5 + (1 : Int32))))
def f_X12_asks_s35 (τ : St) (y1 : Int32) (y4 : Int32) (x2 : Int32) (x3 : Int32) (x5 : Int32) : Option ((Int32 × Int32 × Int32) ⊕ (Int32 × Int32)) := (f_X12_highest y4).bind (fun q3 => (if q3 < x5 then some (.inr (x2, x3)) else (iter (fun z => f_X12_asks_s51 τ y1 x2 x3 y4 x5 z.1 z.2) FU ((0 : Int32), (0 : Int32))).bind (fun z11 => (f_J6_bitCount_0f7a4 y1).bind (fun q14 => f_X12_asks_j133_35 τ y1 x3 y4 x5 (if z11 < (q14 - z11) then (q14 - z11) else z11) (if x3 ≤ (if z11 < (q14 - z11) then (q14 - z11) else z11) then x2 else (((10 : Int32) * y4) + x5))))))
def f_X12_asks_s26 (τ : St) (y1 : Int32) (x2 : Int32) (x3 : Int32) (x4 : Int32) : Option ((Int32 × Int32 × Int32) ⊕ (Int32 × Int32)) := (if (5 : Int32) ≤ x4 then some (.inr (x2, x3)) else (iter (fun z => f_X12_asks_s35 τ y1 x4 z.1 z.2.1 z.2.2) FU (x2, x3, (0 : Int32))).bind (fun z16 => some (.inl (z16.1, z16.2, (x4 + (1 : Int32))))))
def f_X12_asks (σ : St) : Option (Int32 × St) := (f_X12_fitting (sF σ 300 0 (0 : Int32))).bind (fun q1 => (if q1 = 0 then some ((-2 : Int32), (sF σ 300 0 (0 : Int32))) else (iter (fun z => f_X12_asks_s26 (sF σ 300 0 (0 : Int32)) q1 z.1 z.2.1 z.2.2) FU ((-1 : Int32), (1000000 : Int32), (0 : Int32))).bind (fun z19 => (f_X12_enters (sF (sF σ 300 0 (0 : Int32)) 300 1 (0 : Int32)) (z19.2).toInt64).bind (fun q22 => some (z19.1, q22)))))
theorem c_X12_asks {l : Launch} {G : gT} {χ σ : St} (hf : FW G) {q : Int32 × St} (h : f_X12_asks σ = some q) : Ct l G yX12_asks prog_14_method_104_code 8 (some .int) 3 68 [.ref (ga G 300)] χ σ (some (.int q.1)) χ q.2 := by
  refine Ct.of (by decide) (Nat.le_of_ble_eq_true rfl) ?_
  intro p e s m args below meth c Q X hr hlk hQ
  have hx := X.1
  have hb := X.2.1
  have j89_51 : ∀ (τ : St) (x1 : Int32) (x2 : Int32) (x3 : Int32) (x4 : Int32) (x5 : Int32) (x7 : Int32) (s0 : Int32) (s1 : Int32) (o : (Int32 × Int32) ⊕ (Int32)), f_X12_asks_j89_51 τ x1 x2 x3 x4 x5 x7 s0 s1 = some o → Sum.elim (fun z : Int32 × Int32 => Wat p l e (rmk 3 68) s m args below meth c Q G 8 51 [] [(6, .int z.1), (7, .int z.2), (0, .ref (ga G 300)), (1, .int x1), (2, .int x2), (3, .int x3), (4, .int x4), (5, .int x5)] χ τ) (fun z : Int32 => Wat p l e (rmk 3 68) s m args below meth c Q G 8 101 [] [(0, .ref (ga G 300)), (1, .int x1), (2, .int x2), (3, .int x3), (4, .int x4), (5, .int x5), (6, .int z)] χ τ) o → Wat p l e (rmk 3 68) s m args below meth c Q G 8 89 [.int s1, .int s0] [(0, .ref (ga G 300)), (1, .int x1), (2, .int x2), (3, .int x3), (4, .int x4), (5, .int x5), (7, .int x7)] χ τ := by
    intro τ x1 x2 x3 x4 x5 x7 s0 s1 o h hk H locs ls hw hl
    unfold f_X12_asks_j89_51 at h
    obtain ⟨q7, e8, h⟩ := bd_some h
    refine r_callS (As := [.int s1]) (rest := [.int s0]) (st' := [.int q7, .int s0]) X hw hl mwX12_flag wd_1180 wd_1179 (c_X12_flag hf e8) rfl ⟨Nat.le_of_ble_eq_true rfl, Nat.le_of_ble_eq_true rfl⟩ ⟨Nat.le_refl _, Nat.le_refl _⟩ rfl rfl (Nat.le_of_ble_eq_true rfl) d_X12_asks_89 (fun H locs hw => ?_)
    refine lv_iadd hx hb d_X12_asks_92 ?_
    refine lv_istore (lv' := [(6, .int (s0 + q7)), (0, .ref (ga G 300)), (1, .int x1), (2, .int x2), (3, .int x3), (4, .int x4), (5, .int x5), (7, .int x7)]) hx hb d_X12_asks_93 hl (Nat.le_of_ble_eq_true rfl) rfl (fun ls hl => ?_)
    refine lv_iinc (v := (x7 + (1 : Int32))) (k := 7) (lv' := [(7, .int (x7 + (1 : Int32))), (6, .int (s0 + q7)), (0, .ref (ga G 300)), (1, .int x1), (2, .int x2), (3, .int x3), (4, .int x4), (5, .int x5)]) hx hb d_X12_asks_95 hl rfl (by rfl) (Nat.le_of_ble_eq_true rfl) rfl (fun ls hl => ?_)
    refine lv_goto (tgt := 51) hx hb d_X12_asks_98 (by decide) ?_
    obtain rfl := Option.some.inj h
    dsimp only [Sum.elim_inl] at hk
    exact hk _ _ _ hw (lv_sub hl [1, 0, 2, 3, 4, 5, 6, 7] rfl)
  have b51 : ∀ (τ : St) (y1 : Int32) (y2 : Int32) (y3 : Int32) (y4 : Int32) (y5 : Int32) (x6 : Int32) (x7 : Int32) (o : (Int32 × Int32) ⊕ (Int32)), f_X12_asks_s51 τ y1 y2 y3 y4 y5 x6 x7 = some o → Sum.elim (fun z : Int32 × Int32 => Wat p l e (rmk 3 68) s m args below meth c Q G 8 51 [] [(6, .int z.1), (7, .int z.2), (0, .ref (ga G 300)), (1, .int y1), (2, .int y2), (3, .int y3), (4, .int y4), (5, .int y5)] χ τ) (fun z : Int32 => Wat p l e (rmk 3 68) s m args below meth c Q G 8 101 [] [(0, .ref (ga G 300)), (1, .int y1), (2, .int y2), (3, .int y3), (4, .int y4), (5, .int y5), (6, .int z)] χ τ) o → Wat p l e (rmk 3 68) s m args below meth c Q G 8 51 [] [(6, .int x6), (7, .int x7), (0, .ref (ga G 300)), (1, .int y1), (2, .int y2), (3, .int y3), (4, .int y4), (5, .int y5)] χ τ := by
    intro τ y1 y2 y3 y4 y5 x6 x7 o h hk H locs ls hw hl
    unfold f_X12_asks_s51 at h
    refine lv_iload hx hb d_X12_asks_51 (lv_at hl 1 rfl) ?_
    refine lv_aload_n hx hb d_X12_asks_53 rfl (lv_at hl 2 rfl) ?_
    refine m_geti (j := 3) X hw ct8 (o_300 hf) (Nat.le_of_ble_eq_true rfl) rfl (Nat.le_of_ble_eq_true rfl) wd_959 d_X12_asks_54 ?_
    refine lv_icmp_ge (tgt := 101) hx hb d_X12_asks_57 (by decide) (fun hc => ?_) (fun hc => ?_)
    · have h := ite_t h hc
      obtain rfl := Option.some.inj h
      dsimp only [Sum.elim_inr] at hk
      exact hk _ _ _ hw (lv_sub hl [2, 3, 4, 5, 6, 7, 0] rfl)
    · have h := ite_f h hc
      refine lv_iload hx hb d_X12_asks_60 (lv_at hl 0 rfl) ?_
      refine lv_iload_n hx hb d_X12_asks_62 rfl (lv_at hl 3 rfl) ?_
      refine lv_iload hx hb d_X12_asks_63 (lv_at hl 1 rfl) ?_
      obtain ⟨q5, e6, h⟩ := bd_some h
      refine r_callS (As := [.int y1, .int x7]) (rest := [.int x6]) (st' := [.int q5, .int x6]) X hw hl mwX12_has wd_1266 wd_1265 (c_X12_has hf e6) rfl ⟨Nat.le_of_ble_eq_true rfl, Nat.le_of_ble_eq_true rfl⟩ ⟨Nat.le_refl _, Nat.le_refl _⟩ rfl rfl (Nat.le_of_ble_eq_true rfl) d_X12_asks_65 (fun H locs hw => ?_)
      refine lv_if_eq (tgt := 88) hx hb d_X12_asks_68 (by decide) (fun hc => ?_) (fun hc => ?_)
      · have h := ite_t h hc
        refine lv_iconst (v := (0 : Int32)) hx hb d_X12_asks_88 (by decide) ?_
        exact j89_51 τ y1 y2 y3 y4 y5 x7 x6 (0 : Int32) o h hk _ _ _ hw (lv_sub hl [2, 3, 4, 5, 6, 7, 1] rfl)
      · have h := ite_f h hc
        refine lv_aload_n hx hb d_X12_asks_71 rfl (lv_at hl 2 rfl) ?_
        refine lv_iload hx hb d_X12_asks_72 (lv_at hl 1 rfl) ?_
        refine lv_iload hx hb d_X12_asks_74 (lv_at hl 6 rfl) ?_
        refine lv_iload hx hb d_X12_asks_76 (lv_at hl 7 rfl) ?_
        obtain ⟨q9, e10, h⟩ := bd_some h
        refine r_callV (As := [.int x7, .int y4, .int y5]) (rest := [.int x6]) (st' := [.int q9, .int x6]) X hw hl mwX12_isSo wd_1552 wp_65 wd_1550 (c_X12_isSo hf e10) (r_recv X hw ct8 (o_300 hf)) rfl ⟨Nat.le_of_ble_eq_true rfl, Nat.le_of_ble_eq_true rfl⟩ ⟨Nat.le_refl _, Nat.le_refl _⟩ rfl rfl (Nat.le_of_ble_eq_true rfl) d_X12_asks_78 (fun H locs hw => ?_)
        refine lv_if_eq (tgt := 88) hx hb d_X12_asks_81 (by decide) (fun hc => ?_) (fun hc => ?_)
        · simp only [if_pos hc] at h
          refine lv_iconst (v := (0 : Int32)) hx hb d_X12_asks_88 (by decide) ?_
          exact j89_51 τ y1 y2 y3 y4 y5 x7 x6 (0 : Int32) o h hk _ _ _ hw (lv_sub hl [2, 3, 4, 5, 6, 7, 1] rfl)
        · simp only [if_neg hc] at h
          refine lv_iconst (v := (1 : Int32)) hx hb d_X12_asks_84 (by decide) ?_
          refine lv_goto (tgt := 89) hx hb d_X12_asks_85 (by decide) ?_
          exact j89_51 τ y1 y2 y3 y4 y5 x7 x6 (1 : Int32) o h hk _ _ _ hw (lv_sub hl [2, 3, 4, 5, 6, 7, 1] rfl)
  have j133_35 : ∀ (τ : St) (x1 : Int32) (x3 : Int32) (x4 : Int32) (x5 : Int32) (x7 : Int32) (s0 : Int32) (o : (Int32 × Int32 × Int32) ⊕ (Int32 × Int32)), f_X12_asks_j133_35 τ x1 x3 x4 x5 x7 s0 = some o → Sum.elim (fun z : Int32 × Int32 × Int32 => Wat p l e (rmk 3 68) s m args below meth c Q G 8 35 [] [(2, .int z.1), (3, .int z.2.1), (5, .int z.2.2), (0, .ref (ga G 300)), (1, .int x1), (4, .int x4)] χ τ) (fun z : Int32 × Int32 => Wat p l e (rmk 3 68) s m args below meth c Q G 8 147 [] [(0, .ref (ga G 300)), (1, .int x1), (2, .int z.1), (3, .int z.2), (4, .int x4)] χ τ) o → Wat p l e (rmk 3 68) s m args below meth c Q G 8 133 [.int s0] [(0, .ref (ga G 300)), (1, .int x1), (3, .int x3), (4, .int x4), (5, .int x5), (7, .int x7)] χ τ := by
    intro τ x1 x3 x4 x5 x7 s0 o h hk H locs ls hw hl
    unfold f_X12_asks_j133_35 at h
    refine lv_istore_n (lv' := [(2, .int s0), (0, .ref (ga G 300)), (1, .int x1), (3, .int x3), (4, .int x4), (5, .int x5), (7, .int x7)]) hx hb d_X12_asks_133 rfl hl (Nat.le_of_ble_eq_true rfl) rfl (fun ls hl => ?_)
    refine lv_iload_n hx hb d_X12_asks_134 rfl (lv_at hl 3 rfl) ?_
    refine lv_iload hx hb d_X12_asks_135 (lv_at hl 6 rfl) ?_
    refine r_min X hl wd_1103 ⟨Nat.le_of_ble_eq_true rfl, Nat.le_of_ble_eq_true rfl⟩ ⟨Nat.le_refl _, Nat.le_refl _⟩ d_X12_asks_137 ?_
    refine lv_istore_n (lv' := [(3, .int (if x7 < x3 then x7 else x3)), (2, .int s0), (0, .ref (ga G 300)), (1, .int x1), (4, .int x4), (5, .int x5), (7, .int x7)]) hx hb d_X12_asks_140 rfl hl (Nat.le_of_ble_eq_true rfl) rfl (fun ls hl => ?_)
    refine lv_iinc (v := (x5 + (1 : Int32))) (k := 5) (lv' := [(5, .int (x5 + (1 : Int32))), (3, .int (if x7 < x3 then x7 else x3)), (2, .int s0), (0, .ref (ga G 300)), (1, .int x1), (4, .int x4), (7, .int x7)]) hx hb d_X12_asks_141 hl rfl (by rfl) (Nat.le_of_ble_eq_true rfl) rfl (fun ls hl => ?_)
    refine lv_goto (tgt := 35) hx hb d_X12_asks_144 (by decide) ?_
    obtain rfl := Option.some.inj h
    dsimp only [Sum.elim_inl] at hk
    exact hk _ _ _ hw (lv_sub hl [2, 1, 0, 3, 4, 5] rfl)
  have b35 : ∀ (τ : St) (y1 : Int32) (y4 : Int32) (x2 : Int32) (x3 : Int32) (x5 : Int32) (o : (Int32 × Int32 × Int32) ⊕ (Int32 × Int32)), f_X12_asks_s35 τ y1 y4 x2 x3 x5 = some o → Sum.elim (fun z : Int32 × Int32 × Int32 => Wat p l e (rmk 3 68) s m args below meth c Q G 8 35 [] [(2, .int z.1), (3, .int z.2.1), (5, .int z.2.2), (0, .ref (ga G 300)), (1, .int y1), (4, .int y4)] χ τ) (fun z : Int32 × Int32 => Wat p l e (rmk 3 68) s m args below meth c Q G 8 147 [] [(0, .ref (ga G 300)), (1, .int y1), (2, .int z.1), (3, .int z.2), (4, .int y4)] χ τ) o → Wat p l e (rmk 3 68) s m args below meth c Q G 8 35 [] [(2, .int x2), (3, .int x3), (5, .int x5), (0, .ref (ga G 300)), (1, .int y1), (4, .int y4)] χ τ := by
    intro τ y1 y4 x2 x3 x5 o h hk H locs ls hw hl
    unfold f_X12_asks_s35 at h
    refine lv_iload hx hb d_X12_asks_35 (lv_at hl 2 rfl) ?_
    refine lv_iload hx hb d_X12_asks_37 (lv_at hl 5 rfl) ?_
    obtain ⟨q3, e4, h⟩ := bd_some h
    refine r_callS (As := [.int y4]) (rest := [.int x5]) (st' := [.int q3, .int x5]) X hw hl mwX12_highest wd_1536 wd_1535 (c_X12_highest hf e4) rfl ⟨Nat.le_of_ble_eq_true rfl, Nat.le_of_ble_eq_true rfl⟩ ⟨Nat.le_refl _, Nat.le_refl _⟩ rfl rfl (Nat.le_of_ble_eq_true rfl) d_X12_asks_39 (fun H locs hw => ?_)
    refine lv_icmp_gt (tgt := 147) hx hb d_X12_asks_42 (by decide) (fun hc => ?_) (fun hc => ?_)
    · have h := ite_t h hc
      obtain rfl := Option.some.inj h
      dsimp only [Sum.elim_inr] at hk
      exact hk _ _ _ hw (lv_sub hl [3, 4, 0, 1, 5] rfl)
    · have h := ite_f h hc
      refine lv_iconst (v := (0 : Int32)) hx hb d_X12_asks_45 (by decide) ?_
      refine lv_istore (lv' := [(6, .int (0 : Int32)), (2, .int x2), (3, .int x3), (5, .int x5), (0, .ref (ga G 300)), (1, .int y1), (4, .int y4)]) hx hb d_X12_asks_46 hl (Nat.le_of_ble_eq_true rfl) rfl (fun ls hl => ?_)
      refine lv_iconst (v := (0 : Int32)) hx hb d_X12_asks_48 (by decide) ?_
      refine lv_istore (lv' := [(7, .int (0 : Int32)), (6, .int (0 : Int32)), (2, .int x2), (3, .int x3), (5, .int x5), (0, .ref (ga G 300)), (1, .int y1), (4, .int y4)]) hx hb d_X12_asks_49 hl (Nat.le_of_ble_eq_true rfl) rfl (fun ls hl => ?_)
      obtain ⟨z11, e12, h⟩ := bd_some h
      refine iter_w (Wh := fun z : Int32 × Int32 => Wat p l e (rmk 3 68) s m args below meth c Q G 8 51 [] [(6, .int z.1), (7, .int z.2), (0, .ref (ga G 300)), (1, .int y1), (2, .int x2), (3, .int x3), (4, .int y4), (5, .int x5)] χ τ) (K := fun z : Int32 => Wat p l e (rmk 3 68) s m args below meth c Q G 8 101 [] [(0, .ref (ga G 300)), (1, .int y1), (2, .int x2), (3, .int x3), (4, .int y4), (5, .int x5), (6, .int z)] χ τ) (fun z o h1 h2 => b51 τ y1 x2 x3 y4 x5 z.1 z.2 o h1 h2) FU _ _ e12 ?_ _ _ _ hw (lv_sub hl [1, 0, 5, 6, 2, 3, 7, 4] rfl)
      intro H locs ls hw hl
      refine lv_iload hx hb d_X12_asks_101 (lv_at hl 6 rfl) ?_
      refine lv_iload_n hx hb d_X12_asks_103 rfl (lv_at hl 1 rfl) ?_
      obtain ⟨q14, e15, h⟩ := bd_some h
      refine r_callS (As := [.int y1]) (rest := [.int z11]) (st' := [.int q14, .int z11]) X hw hl mwJ6_bitCount_0f7a4 wd_436 wd_1272 (c_J6_bitCount_0f7a4 e15) rfl ⟨Nat.le_of_ble_eq_true rfl, Nat.le_of_ble_eq_true rfl⟩ ⟨Nat.le_refl _, Nat.le_refl _⟩ rfl rfl (Nat.le_of_ble_eq_true rfl) d_X12_asks_104 (fun H locs hw => ?_)
      refine lv_iload hx hb d_X12_asks_107 (lv_at hl 6 rfl) ?_
      refine lv_isub hx hb d_X12_asks_109 ?_
      refine r_max X hl wd_1232 ⟨Nat.le_of_ble_eq_true rfl, Nat.le_of_ble_eq_true rfl⟩ ⟨Nat.le_refl _, Nat.le_refl _⟩ d_X12_asks_110 ?_
      refine lv_istore (lv' := [(7, .int (if z11 < (q14 - z11) then (q14 - z11) else z11)), (0, .ref (ga G 300)), (1, .int y1), (2, .int x2), (3, .int x3), (4, .int y4), (5, .int x5), (6, .int z11)]) hx hb d_X12_asks_113 hl (Nat.le_of_ble_eq_true rfl) rfl (fun ls hl => ?_)
      refine lv_iload hx hb d_X12_asks_115 (lv_at hl 0 rfl) ?_
      refine lv_iload_n hx hb d_X12_asks_117 rfl (lv_at hl 4 rfl) ?_
      refine lv_icmp_ge (tgt := 132) hx hb d_X12_asks_118 (by decide) (fun hc => ?_) (fun hc => ?_)
      · simp only [if_pos hc] at h
        refine lv_iload_n hx hb d_X12_asks_132 rfl (lv_at hl 3 rfl) ?_
        exact j133_35 τ y1 x3 y4 x5 (if z11 < (q14 - z11) then (q14 - z11) else z11) x2 o h hk _ _ _ hw (lv_sub hl [1, 2, 4, 5, 6, 0] rfl)
      · simp only [if_neg hc] at h
        refine lv_bipush (v := (10 : Int32)) hx hb d_X12_asks_121 (by decide) ?_
        refine lv_iload hx hb d_X12_asks_123 (lv_at hl 5 rfl) ?_
        refine lv_imul hx hb d_X12_asks_125 ?_
        refine lv_iload hx hb d_X12_asks_126 (lv_at hl 6 rfl) ?_
        refine lv_iadd hx hb d_X12_asks_128 ?_
        refine lv_goto (tgt := 133) hx hb d_X12_asks_129 (by decide) ?_
        exact j133_35 τ y1 x3 y4 x5 (if z11 < (q14 - z11) then (q14 - z11) else z11) (((10 : Int32) * y4) + x5) o h hk _ _ _ hw (lv_sub hl [1, 2, 4, 5, 6, 0] rfl)
  have b26 : ∀ (τ : St) (y1 : Int32) (x2 : Int32) (x3 : Int32) (x4 : Int32) (o : (Int32 × Int32 × Int32) ⊕ (Int32 × Int32)), f_X12_asks_s26 τ y1 x2 x3 x4 = some o → Sum.elim (fun z : Int32 × Int32 × Int32 => Wat p l e (rmk 3 68) s m args below meth c Q G 8 26 [] [(2, .int z.1), (3, .int z.2.1), (4, .int z.2.2), (0, .ref (ga G 300)), (1, .int y1)] χ τ) (fun z : Int32 × Int32 => Wat p l e (rmk 3 68) s m args below meth c Q G 8 153 [] [(0, .ref (ga G 300)), (2, .int z.1), (3, .int z.2)] χ τ) o → Wat p l e (rmk 3 68) s m args below meth c Q G 8 26 [] [(2, .int x2), (3, .int x3), (4, .int x4), (0, .ref (ga G 300)), (1, .int y1)] χ τ := by
    intro τ y1 x2 x3 x4 o h hk H locs ls hw hl
    unfold f_X12_asks_s26 at h
    refine lv_iload hx hb d_X12_asks_26 (lv_at hl 2 rfl) ?_
    refine lv_iconst (v := (5 : Int32)) hx hb d_X12_asks_28 (by decide) ?_
    refine lv_icmp_ge (tgt := 153) hx hb d_X12_asks_29 (by decide) (fun hc => ?_) (fun hc => ?_)
    · have h := ite_t h hc
      obtain rfl := Option.some.inj h
      dsimp only [Sum.elim_inr] at hk
      exact hk _ _ _ hw (lv_sub hl [3, 0, 1] rfl)
    · have h := ite_f h hc
      refine lv_iconst (v := (0 : Int32)) hx hb d_X12_asks_32 (by decide) ?_
      refine lv_istore (lv' := [(5, .int (0 : Int32)), (2, .int x2), (3, .int x3), (4, .int x4), (0, .ref (ga G 300)), (1, .int y1)]) hx hb d_X12_asks_33 hl (Nat.le_of_ble_eq_true rfl) rfl (fun ls hl => ?_)
      obtain ⟨z16, e17, h⟩ := bd_some h
      refine iter_w (Wh := fun z : Int32 × Int32 × Int32 => Wat p l e (rmk 3 68) s m args below meth c Q G 8 35 [] [(2, .int z.1), (3, .int z.2.1), (5, .int z.2.2), (0, .ref (ga G 300)), (1, .int y1), (4, .int x4)] χ τ) (K := fun z : Int32 × Int32 => Wat p l e (rmk 3 68) s m args below meth c Q G 8 147 [] [(0, .ref (ga G 300)), (1, .int y1), (2, .int z.1), (3, .int z.2), (4, .int x4)] χ τ) (fun z o h1 h2 => b35 τ y1 x4 z.1 z.2.1 z.2.2 o h1 h2) FU _ _ e17 ?_ _ _ _ hw (lv_sub hl [1, 2, 0, 4, 5, 3] rfl)
      intro H locs ls hw hl
      refine lv_iinc (v := (x4 + (1 : Int32))) (k := 4) (lv' := [(4, .int (x4 + (1 : Int32))), (0, .ref (ga G 300)), (1, .int y1), (2, .int z16.1), (3, .int z16.2)]) hx hb d_X12_asks_147 hl rfl (by rfl) (Nat.le_of_ble_eq_true rfl) rfl (fun ls hl => ?_)
      refine lv_goto (tgt := 26) hx hb d_X12_asks_150 (by decide) ?_
      obtain rfl := Option.some.inj h
      dsimp only [Sum.elim_inl] at hk
      exact hk _ _ _ hw (lv_sub hl [3, 4, 0, 1, 2] rfl)
  intro H locs ls hw hl
  have hl : lv_has ls 8 [(0, .ref (ga G 300))] := hl
  unfold f_X12_asks at h
  refine lv_aload_n hx hb d_X12_asks_0 rfl (lv_at hl 0 rfl) ?_
  refine lv_iconst (v := (0 : Int32)) hx hb d_X12_asks_1 (by decide) ?_
  refine m_puti (j := 0) X hw ct8 (o_300 hf) (Nat.le_of_ble_eq_true rfl) rfl (Nat.le_of_ble_eq_true rfl) rfl rfl rfl wd_956 d_X12_asks_2 (fun H locs hw => ?_)
  refine lv_aload_n hx hb d_X12_asks_5 rfl (lv_at hl 0 rfl) ?_
  obtain ⟨q1, e2, h⟩ := bd_some h
  refine r_callV (As := []) (rest := []) (st' := [.int q1]) X hw hl mwX12_fitting wd_1548 wp_64 wd_1546 (c_X12_fitting hf e2) (r_recv X hw ct8 (o_300 hf)) rfl ⟨Nat.le_of_ble_eq_true rfl, Nat.le_of_ble_eq_true rfl⟩ ⟨Nat.le_refl _, Nat.le_refl _⟩ rfl rfl (Nat.le_of_ble_eq_true rfl) d_X12_asks_6 (fun H locs hw => ?_)
  refine lv_istore_n (lv' := [(1, .int q1), (0, .ref (ga G 300))]) hx hb d_X12_asks_9 rfl hl (Nat.le_of_ble_eq_true rfl) rfl (fun ls hl => ?_)
  refine lv_iload_n hx hb d_X12_asks_10 rfl (lv_at hl 0 rfl) ?_
  refine lv_if_ne (tgt := 17) hx hb d_X12_asks_11 (by decide) (fun hc => ?_) (fun hc => ?_)
  · have h := ite_f h hc
    refine lv_iconst (v := (-1 : Int32)) hx hb d_X12_asks_17 (by decide) ?_
    refine lv_istore_n (lv' := [(2, .int (-1 : Int32)), (1, .int q1), (0, .ref (ga G 300))]) hx hb d_X12_asks_18 rfl hl (Nat.le_of_ble_eq_true rfl) rfl (fun ls hl => ?_)
    refine r_ldcw X wd_1368 d_X12_asks_19 ?_
    refine lv_istore_n (lv' := [(3, .int (1000000 : Int32)), (2, .int (-1 : Int32)), (1, .int q1), (0, .ref (ga G 300))]) hx hb d_X12_asks_22 rfl hl (Nat.le_of_ble_eq_true rfl) rfl (fun ls hl => ?_)
    refine lv_iconst (v := (0 : Int32)) hx hb d_X12_asks_23 (by decide) ?_
    refine lv_istore (lv' := [(4, .int (0 : Int32)), (3, .int (1000000 : Int32)), (2, .int (-1 : Int32)), (1, .int q1), (0, .ref (ga G 300))]) hx hb d_X12_asks_24 hl (Nat.le_of_ble_eq_true rfl) rfl (fun ls hl => ?_)
    obtain ⟨z19, e20, h⟩ := bd_some h
    refine iter_w (Wh := fun z : Int32 × Int32 × Int32 => Wat p l e (rmk 3 68) s m args below meth c Q G 8 26 [] [(2, .int z.1), (3, .int z.2.1), (4, .int z.2.2), (0, .ref (ga G 300)), (1, .int q1)] χ (sF σ 300 0 (0 : Int32))) (K := fun z : Int32 × Int32 => Wat p l e (rmk 3 68) s m args below meth c Q G 8 153 [] [(0, .ref (ga G 300)), (2, .int z.1), (3, .int z.2)] χ (sF σ 300 0 (0 : Int32))) (fun z o h1 h2 => b26 (sF σ 300 0 (0 : Int32)) q1 z.1 z.2.1 z.2.2 o h1 h2) FU _ _ e20 ?_ _ _ _ hw (lv_sub hl [2, 1, 0, 4, 3] rfl)
    intro H locs ls hw hl
    refine lv_aload_n hx hb d_X12_asks_153 rfl (lv_at hl 0 rfl) ?_
    refine lv_iconst (v := (0 : Int32)) hx hb d_X12_asks_154 (by decide) ?_
    refine m_puti (j := 1) X hw ct8 (o_300 hf) (Nat.le_of_ble_eq_true rfl) rfl (Nat.le_of_ble_eq_true rfl) rfl rfl rfl wd_957 d_X12_asks_155 (fun H locs hw => ?_)
    refine lv_aload_n hx hb d_X12_asks_158 rfl (lv_at hl 0 rfl) ?_
    refine lv_iload_n hx hb d_X12_asks_159 rfl (lv_at hl 2 rfl) ?_
    refine lv_i2l hx hb d_X12_asks_160 rfl ?_
    obtain ⟨q22, e23, h⟩ := bd_some h
    refine r_callV (As := [.long (z19.2).toInt64]) (rest := []) (st' := []) X hw hl mwX12_enters wd_1282 wp_38 wd_1280 (c_X12_enters hf e23) (r_recv X hw ct8 (o_300 hf)) rfl ⟨Nat.le_of_ble_eq_true rfl, Nat.le_of_ble_eq_true rfl⟩ ⟨Nat.le_refl _, Nat.le_refl _⟩ rfl rfl (Nat.le_of_ble_eq_true rfl) d_X12_asks_161 (fun H locs hw => ?_)
    refine lv_iload_n hx hb d_X12_asks_164 rfl (lv_at hl 1 rfl) ?_
    obtain rfl := Option.some.inj h
    subst hQ
    exact r_iret X hr hlk hw d_X12_asks_165
  · have h := ite_t h hc
    refine lv_bipush (v := (-2 : Int32)) hx hb d_X12_asks_14 (by decide) ?_
    obtain rfl := Option.some.inj h
    subst hQ
    exact r_iret X hr hlk hw d_X12_asks_16
abbrev yX12_slips : MethodName := ⟨"OysterBedsModel", "slips", "(IIII)I"⟩
theorem mwX12_slips : MW yX12_slips prog_14_method_105_code 14 (some .int) 4 := ⟨wd_1561, wd_10, by decide +kernel⟩
theorem d_X12_slips_0 : decode prog_14_method_105_code 0 = .ok (.aload_n 0, 1) := by decide +kernel
theorem d_X12_slips_1 : decode prog_14_method_105_code 1 = .ok (.iconst 0, 1) := by decide +kernel
theorem d_X12_slips_2 : decode prog_14_method_105_code 2 = .ok (.putfield 87, 3) := by decide +kernel
theorem d_X12_slips_5 : decode prog_14_method_105_code 5 = .ok (.iload_n 1, 1) := by decide +kernel
theorem d_X12_slips_6 : decode prog_14_method_105_code 6 = .ok (.iload_n 2, 1) := by decide +kernel
theorem d_X12_slips_7 : decode prog_14_method_105_code 7 = .ok (.invokestatic 270, 3) := by decide +kernel
theorem d_X12_slips_10 : decode prog_14_method_105_code 10 = .ok (.ifCond .eq 28, 3) := by decide +kernel
theorem d_X12_slips_13 : decode prog_14_method_105_code 13 = .ok (.iload_n 3, 1) := by decide +kernel
theorem d_X12_slips_14 : decode prog_14_method_105_code 14 = .ok (.i2l, 1) := by decide +kernel
theorem d_X12_slips_15 : decode prog_14_method_105_code 15 = .ok (.lconst 0, 1) := by decide +kernel
theorem d_X12_slips_16 : decode prog_14_method_105_code 16 = .ok (.ldc2_w 398, 3) := by decide +kernel
theorem d_X12_slips_19 : decode prog_14_method_105_code 19 = .ok (.invokestatic 105, 3) := by decide +kernel
theorem d_X12_slips_22 : decode prog_14_method_105_code 22 = .ok (.ifCond .eq 16, 3) := by decide +kernel
theorem d_X12_slips_25 : decode prog_14_method_105_code 25 = .ok (.iload 4, 2) := by decide +kernel
theorem d_X12_slips_27 : decode prog_14_method_105_code 27 = .ok (.i2l, 1) := by decide +kernel
theorem d_X12_slips_28 : decode prog_14_method_105_code 28 = .ok (.lconst 0, 1) := by decide +kernel
theorem d_X12_slips_29 : decode prog_14_method_105_code 29 = .ok (.ldc2_w 313, 3) := by decide +kernel
theorem d_X12_slips_32 : decode prog_14_method_105_code 32 = .ok (.invokestatic 105, 3) := by decide +kernel
theorem d_X12_slips_35 : decode prog_14_method_105_code 35 = .ok (.ifCond .ne 5, 3) := by decide +kernel
theorem d_X12_slips_38 : decode prog_14_method_105_code 38 = .ok (.iconst (-1), 1) := by decide +kernel
theorem d_X12_slips_39 : decode prog_14_method_105_code 39 = .ok (.ireturn, 1) := by decide +kernel
theorem d_X12_slips_40 : decode prog_14_method_105_code 40 = .ok (.aload_n 0, 1) := by decide +kernel
theorem d_X12_slips_41 : decode prog_14_method_105_code 41 = .ok (.aload_n 0, 1) := by decide +kernel
theorem d_X12_slips_42 : decode prog_14_method_105_code 42 = .ok (.getfield 17, 3) := by decide +kernel
theorem d_X12_slips_45 : decode prog_14_method_105_code 45 = .ok (.iload_n 1, 1) := by decide +kernel
theorem d_X12_slips_46 : decode prog_14_method_105_code 46 = .ok (.iload_n 2, 1) := by decide +kernel
theorem d_X12_slips_47 : decode prog_14_method_105_code 47 = .ok (.invokevirtual 261, 3) := by decide +kernel
theorem d_X12_slips_50 : decode prog_14_method_105_code 50 = .ok (.istore 5, 2) := by decide +kernel
theorem d_X12_slips_52 : decode prog_14_method_105_code 52 = .ok (.aload_n 0, 1) := by decide +kernel
theorem d_X12_slips_53 : decode prog_14_method_105_code 53 = .ok (.aload_n 0, 1) := by decide +kernel
theorem d_X12_slips_54 : decode prog_14_method_105_code 54 = .ok (.getfield 17, 3) := by decide +kernel
theorem d_X12_slips_57 : decode prog_14_method_105_code 57 = .ok (.invokevirtual 228, 3) := by decide +kernel
theorem d_X12_slips_60 : decode prog_14_method_105_code 60 = .ok (.istore 6, 2) := by decide +kernel
theorem d_X12_slips_62 : decode prog_14_method_105_code 62 = .ok (.lconst 1, 1) := by decide +kernel
theorem d_X12_slips_63 : decode prog_14_method_105_code 63 = .ok (.lstore 7, 2) := by decide +kernel
theorem d_X12_slips_65 : decode prog_14_method_105_code 65 = .ok (.iconst 0, 1) := by decide +kernel
theorem d_X12_slips_66 : decode prog_14_method_105_code 66 = .ok (.istore 9, 2) := by decide +kernel
theorem d_X12_slips_68 : decode prog_14_method_105_code 68 = .ok (.iload 9, 2) := by decide +kernel
theorem d_X12_slips_70 : decode prog_14_method_105_code 70 = .ok (.bipush 8, 2) := by decide +kernel
theorem d_X12_slips_72 : decode prog_14_method_105_code 72 = .ok (.if_icmp .gt 30, 3) := by decide +kernel
theorem d_X12_slips_75 : decode prog_14_method_105_code 75 = .ok (.aload_n 0, 1) := by decide +kernel
theorem d_X12_slips_76 : decode prog_14_method_105_code 76 = .ok (.getfield 68, 3) := by decide +kernel
theorem d_X12_slips_79 : decode prog_14_method_105_code 79 = .ok (.iload 9, 2) := by decide +kernel
theorem d_X12_slips_81 : decode prog_14_method_105_code 81 = .ok (.iload 9, 2) := by decide +kernel
theorem d_X12_slips_83 : decode prog_14_method_105_code 83 = .ok (.ifCond .ne 7, 3) := by decide +kernel
theorem d_X12_slips_86 : decode prog_14_method_105_code 86 = .ok (.iconst 1, 1) := by decide +kernel
theorem d_X12_slips_87 : decode prog_14_method_105_code 87 = .ok (.goto 4, 3) := by decide +kernel
theorem d_X12_slips_90 : decode prog_14_method_105_code 90 = .ok (.iconst 0, 1) := by decide +kernel
theorem d_X12_slips_91 : decode prog_14_method_105_code 91 = .ok (.invokestatic 135, 3) := by decide +kernel
theorem d_X12_slips_94 : decode prog_14_method_105_code 94 = .ok (.i2l, 1) := by decide +kernel
theorem d_X12_slips_95 : decode prog_14_method_105_code 95 = .ok (.lastore, 1) := by decide +kernel
theorem d_X12_slips_96 : decode prog_14_method_105_code 96 = .ok (.iinc 9 1, 3) := by decide +kernel
theorem d_X12_slips_99 : decode prog_14_method_105_code 99 = .ok (.goto (-31), 3) := by decide +kernel
theorem d_X12_slips_102 : decode prog_14_method_105_code 102 = .ok (.iconst 0, 1) := by decide +kernel
theorem d_X12_slips_103 : decode prog_14_method_105_code 103 = .ok (.istore 9, 2) := by decide +kernel
theorem d_X12_slips_105 : decode prog_14_method_105_code 105 = .ok (.iload 9, 2) := by decide +kernel
theorem d_X12_slips_107 : decode prog_14_method_105_code 107 = .ok (.aload_n 0, 1) := by decide +kernel
theorem d_X12_slips_108 : decode prog_14_method_105_code 108 = .ok (.getfield 102, 3) := by decide +kernel
theorem d_X12_slips_111 : decode prog_14_method_105_code 111 = .ok (.if_icmp .ge 110, 3) := by decide +kernel
theorem d_X12_slips_114 : decode prog_14_method_105_code 114 = .ok (.iload 6, 2) := by decide +kernel
theorem d_X12_slips_116 : decode prog_14_method_105_code 116 = .ok (.iload 9, 2) := by decide +kernel
theorem d_X12_slips_118 : decode prog_14_method_105_code 118 = .ok (.invokestatic 113, 3) := by decide +kernel
theorem d_X12_slips_121 : decode prog_14_method_105_code 121 = .ok (.ifCond .eq 94, 3) := by decide +kernel
theorem d_X12_slips_124 : decode prog_14_method_105_code 124 = .ok (.iload 5, 2) := by decide +kernel
theorem d_X12_slips_126 : decode prog_14_method_105_code 126 = .ok (.iload 9, 2) := by decide +kernel
theorem d_X12_slips_128 : decode prog_14_method_105_code 128 = .ok (.invokestatic 113, 3) := by decide +kernel
theorem d_X12_slips_131 : decode prog_14_method_105_code 131 = .ok (.ifCond .eq 10, 3) := by decide +kernel
theorem d_X12_slips_134 : decode prog_14_method_105_code 134 = .ok (.bipush 10, 2) := by decide +kernel
theorem d_X12_slips_136 : decode prog_14_method_105_code 136 = .ok (.iload_n 3, 1) := by decide +kernel
theorem d_X12_slips_137 : decode prog_14_method_105_code 137 = .ok (.isub, 1) := by decide +kernel
theorem d_X12_slips_138 : decode prog_14_method_105_code 138 = .ok (.goto 4, 3) := by decide +kernel
theorem d_X12_slips_141 : decode prog_14_method_105_code 141 = .ok (.iload_n 3, 1) := by decide +kernel
theorem d_X12_slips_142 : decode prog_14_method_105_code 142 = .ok (.istore 10, 2) := by decide +kernel
theorem d_X12_slips_144 : decode prog_14_method_105_code 144 = .ok (.lload 7, 2) := by decide +kernel
theorem d_X12_slips_146 : decode prog_14_method_105_code 146 = .ok (.ldc2_w 398, 3) := by decide +kernel
theorem d_X12_slips_149 : decode prog_14_method_105_code 149 = .ok (.lmul, 1) := by decide +kernel
theorem d_X12_slips_150 : decode prog_14_method_105_code 150 = .ok (.lstore 7, 2) := by decide +kernel
theorem d_X12_slips_152 : decode prog_14_method_105_code 152 = .ok (.bipush 8, 2) := by decide +kernel
theorem d_X12_slips_154 : decode prog_14_method_105_code 154 = .ok (.istore 11, 2) := by decide +kernel
theorem d_X12_slips_156 : decode prog_14_method_105_code 156 = .ok (.iload 11, 2) := by decide +kernel
theorem d_X12_slips_158 : decode prog_14_method_105_code 158 = .ok (.ifCond .lt 57, 3) := by decide +kernel
theorem d_X12_slips_161 : decode prog_14_method_105_code 161 = .ok (.iload 11, 2) := by decide +kernel
theorem d_X12_slips_163 : decode prog_14_method_105_code 163 = .ok (.ifCond .le 15, 3) := by decide +kernel
theorem d_X12_slips_166 : decode prog_14_method_105_code 166 = .ok (.aload_n 0, 1) := by decide +kernel
theorem d_X12_slips_167 : decode prog_14_method_105_code 167 = .ok (.getfield 68, 3) := by decide +kernel
theorem d_X12_slips_170 : decode prog_14_method_105_code 170 = .ok (.iload 11, 2) := by decide +kernel
theorem d_X12_slips_172 : decode prog_14_method_105_code 172 = .ok (.iconst 1, 1) := by decide +kernel
theorem d_X12_slips_173 : decode prog_14_method_105_code 173 = .ok (.isub, 1) := by decide +kernel
theorem d_X12_slips_174 : decode prog_14_method_105_code 174 = .ok (.laload, 1) := by decide +kernel
theorem d_X12_slips_175 : decode prog_14_method_105_code 175 = .ok (.goto 4, 3) := by decide +kernel
theorem d_X12_slips_178 : decode prog_14_method_105_code 178 = .ok (.lconst 0, 1) := by decide +kernel
theorem d_X12_slips_179 : decode prog_14_method_105_code 179 = .ok (.lstore 12, 2) := by decide +kernel
theorem d_X12_slips_181 : decode prog_14_method_105_code 181 = .ok (.aload_n 0, 1) := by decide +kernel
theorem d_X12_slips_182 : decode prog_14_method_105_code 182 = .ok (.getfield 68, 3) := by decide +kernel
theorem d_X12_slips_185 : decode prog_14_method_105_code 185 = .ok (.iload 11, 2) := by decide +kernel
theorem d_X12_slips_187 : decode prog_14_method_105_code 187 = .ok (.aload_n 0, 1) := by decide +kernel
theorem d_X12_slips_188 : decode prog_14_method_105_code 188 = .ok (.getfield 68, 3) := by decide +kernel
theorem d_X12_slips_191 : decode prog_14_method_105_code 191 = .ok (.iload 11, 2) := by decide +kernel
theorem d_X12_slips_193 : decode prog_14_method_105_code 193 = .ok (.laload, 1) := by decide +kernel
theorem d_X12_slips_194 : decode prog_14_method_105_code 194 = .ok (.bipush 10, 2) := by decide +kernel
theorem d_X12_slips_196 : decode prog_14_method_105_code 196 = .ok (.iload 10, 2) := by decide +kernel
theorem d_X12_slips_198 : decode prog_14_method_105_code 198 = .ok (.isub, 1) := by decide +kernel
theorem d_X12_slips_199 : decode prog_14_method_105_code 199 = .ok (.i2l, 1) := by decide +kernel
theorem d_X12_slips_200 : decode prog_14_method_105_code 200 = .ok (.lmul, 1) := by decide +kernel
theorem d_X12_slips_201 : decode prog_14_method_105_code 201 = .ok (.lload 12, 2) := by decide +kernel
theorem d_X12_slips_203 : decode prog_14_method_105_code 203 = .ok (.iload 10, 2) := by decide +kernel
theorem d_X12_slips_205 : decode prog_14_method_105_code 205 = .ok (.i2l, 1) := by decide +kernel
theorem d_X12_slips_206 : decode prog_14_method_105_code 206 = .ok (.lmul, 1) := by decide +kernel
theorem d_X12_slips_207 : decode prog_14_method_105_code 207 = .ok (.ladd, 1) := by decide +kernel
theorem d_X12_slips_208 : decode prog_14_method_105_code 208 = .ok (.lastore, 1) := by decide +kernel
theorem d_X12_slips_209 : decode prog_14_method_105_code 209 = .ok (.iinc 11 (-1), 3) := by decide +kernel
theorem d_X12_slips_212 : decode prog_14_method_105_code 212 = .ok (.goto (-56), 3) := by decide +kernel
theorem d_X12_slips_215 : decode prog_14_method_105_code 215 = .ok (.iinc 9 1, 3) := by decide +kernel
theorem d_X12_slips_218 : decode prog_14_method_105_code 218 = .ok (.goto (-113), 3) := by decide +kernel
theorem d_X12_slips_221 : decode prog_14_method_105_code 221 = .ok (.aload_n 0, 1) := by decide +kernel
theorem d_X12_slips_222 : decode prog_14_method_105_code 222 = .ok (.aload_n 0, 1) := by decide +kernel
theorem d_X12_slips_223 : decode prog_14_method_105_code 223 = .ok (.getfield 68, 3) := by decide +kernel
theorem d_X12_slips_226 : decode prog_14_method_105_code 226 = .ok (.iload 4, 2) := by decide +kernel
theorem d_X12_slips_228 : decode prog_14_method_105_code 228 = .ok (.laload, 1) := by decide +kernel
theorem d_X12_slips_229 : decode prog_14_method_105_code 229 = .ok (.lload 7, 2) := by decide +kernel
theorem d_X12_slips_231 : decode prog_14_method_105_code 231 = .ok (.invokevirtual 362, 3) := by decide +kernel
theorem d_X12_slips_234 : decode prog_14_method_105_code 234 = .ok (.ireturn, 1) := by decide +kernel
def f_X12_slips_j91_68 (τ : St) (x3 : Int32) (x4 : Int32) (x5 : Int32) (x6 : Int32) (x7 : Int64) (x9 : Int32) (s1 : Int32) (s2 : Int32) : Option ((Int32 × St) ⊕ (St)) := (f_X12_flag s2).bind (fun q11 => gd (inb s1 10) (some (.inl ((x9 + (1 : Int32)), (sL τ 334 s1.toNatClampNeg q11.toInt64)))))
def f_X12_slips_s68 (τ : St) (y3 : Int32) (y4 : Int32) (y5 : Int32) (y6 : Int32) (y7 : Int64) (x9 : Int32) : Option ((Int32 × St) ⊕ (St)) := (if (8 : Int32) < x9 then some (.inr τ) else f_X12_slips_j91_68 τ y3 y4 y5 y6 y7 x9 x9 (if x9 = 0 then (1 : Int32) else (0 : Int32)))
def f_X12_slips_j215_105 (τ : St) (x3 : Int32) (x4 : Int32) (x5 : Int32) (x6 : Int32) (x7 : Int64) (x9 : Int32) : Option ((Int64 × Int32 × St) ⊕ (Int64 × St)) := some (.inl (x7, (x9 + (1 : Int32)), τ))
def f_X12_slips_j179_156 (τ : St) (x3 : Int32) (x4 : Int32) (x5 : Int32) (x6 : Int32) (x7 : Int64) (x9 : Int32) (x10 : Int32) (x11 : Int32) (s0 : Int64) : Option ((Int32 × St) ⊕ (St)) := gd (inb x11 10) (gd (inb x11 10) (some (.inl ((x11 + (-1 : Int32)), (sL τ 334 x11.toNatClampNeg (((cL τ 334 x11.toNatClampNeg) * ((10 : Int32) - x10).toInt64) + (s0 * x10.toInt64)))))))
def f_X12_slips_s156 (τ : St) (y3 : Int32) (y4 : Int32) (y5 : Int32) (y6 : Int32) (y7 : Int64) (y9 : Int32) (y10 : Int32) (x11 : Int32) : Option ((Int32 × St) ⊕ (St)) := (if x11 < 0 then some (.inr τ) else (if x11 ≤ 0 then f_X12_slips_j179_156 τ y3 y4 y5 y6 y7 y9 y10 x11 (0 : Int64) else gd (inb (x11 - (1 : Int32)) 10) (f_X12_slips_j179_156 τ y3 y4 y5 y6 y7 y9 y10 x11 (cL τ 334 (x11 - (1 : Int32)).toNatClampNeg))))
def f_X12_slips_j142_105 (τ : St) (x3 : Int32) (x4 : Int32) (x5 : Int32) (x6 : Int32) (x7 : Int64) (x9 : Int32) (s0 : Int32) : Option ((Int64 × Int32 × St) ⊕ (Int64 × St)) := (iter (fun z => f_X12_slips_s156 z.2 x3 x4 x5 x6 (x7 * (10 : Int64)) x9 s0 z.1) FU ((8 : Int32), τ)).bind (fun z24 => f_X12_slips_j215_105 z24 x3 x4 x5 x6 (x7 * (10 : Int64)) x9)
def f_X12_slips_s105 (τ : St) (y3 : Int32) (y4 : Int32) (y5 : Int32) (y6 : Int32) (x7 : Int64) (x9 : Int32) : Option ((Int64 × Int32 × St) ⊕ (Int64 × St)) := (if (cF τ 300 3) ≤ x9 then some (.inr (x7, τ)) else (f_X12_has y6 x9).bind (fun q17 => (if q17 = 0 then f_X12_slips_j215_105 τ y3 y4 y5 y6 x7 x9 else (f_X12_has y5 x9).bind (fun q19 => f_X12_slips_j142_105 τ y3 y4 y5 y6 x7 x9 (if q19 = 0 then y3 else ((10 : Int32) - y3))))))
def f_X12_slips (σ : St) (a1 : Int32) (a2 : Int32) (a3 : Int32) (a4 : Int32) : Option (Int32 × St) := (f_X12_isQuestion a1 a2).bind (fun q1 => (if q1 = 0 then some ((-1 : Int32), (sF σ 300 0 (0 : Int32))) else (f_X12_in a3.toInt64 (0 : Int64) (10 : Int64)).bind (fun q3 => (if q3 = 0 then some ((-1 : Int32), (sF σ 300 0 (0 : Int32))) else (f_X12_in a4.toInt64 (0 : Int64) (8 : Int64)).bind (fun q5 => (if q5 = 0 then some ((-1 : Int32), (sF σ 300 0 (0 : Int32))) else (f_X12_closing (sF σ 300 0 (0 : Int32)) 306 a1 a2).bind (fun q7 => (f_X12_openOnes q7.2 306).bind (fun q9 => (iter (fun z => f_X12_slips_s68 z.2 a3 a4 q7.1 q9 (1 : Int64) z.1) FU ((0 : Int32), q7.2)).bind (fun z14 => (iter (fun z => f_X12_slips_s105 z.2.2 a3 a4 q7.1 q9 z.1 z.2.1) FU ((1 : Int64), (0 : Int32), z14)).bind (fun z27 => gd (inb a4 10) ((f_X12_entersFraction z27.2 (cL z27.2 334 a4.toNatClampNeg) z27.1).bind (fun q31 => some (q31.1, q31.2)))))))))))))
theorem c_X12_slips {l : Launch} {G : gT} {χ σ : St} {a1 : Int32} {a2 : Int32} {a3 : Int32} {a4 : Int32} (hf : FW G) {q : Int32 × St} (h : f_X12_slips σ a1 a2 a3 a4 = some q) : Ct l G yX12_slips prog_14_method_105_code 14 (some .int) 202 4849 [.ref (ga G 300), .int a1, .int a2, .int a3, .int a4] χ σ (some (.int q.1)) χ q.2 := by
  refine Ct.of (by decide) (Nat.le_of_ble_eq_true rfl) ?_
  intro p e s m args below meth c Q X hr hlk hQ
  have hx := X.1
  have hb := X.2.1
  have j91_68 : ∀ (τ : St) (x3 : Int32) (x4 : Int32) (x5 : Int32) (x6 : Int32) (x7 : Int64) (x9 : Int32) (s1 : Int32) (s2 : Int32) (o : (Int32 × St) ⊕ (St)), f_X12_slips_j91_68 τ x3 x4 x5 x6 x7 x9 s1 s2 = some o → Sum.elim (fun z : Int32 × St => Wat p l e (rmk 202 4849) s m args below meth c Q G 14 68 [] [(9, .int z.1), (0, .ref (ga G 300)), (3, .int x3), (4, .int x4), (5, .int x5), (6, .int x6), (7, .long x7)] χ z.2) (fun z : St => Wat p l e (rmk 202 4849) s m args below meth c Q G 14 102 [] [(0, .ref (ga G 300)), (3, .int x3), (4, .int x4), (5, .int x5), (6, .int x6), (7, .long x7)] χ z) o → Wat p l e (rmk 202 4849) s m args below meth c Q G 14 91 [.int s2, .int s1, .ref (ga G 334)] [(0, .ref (ga G 300)), (3, .int x3), (4, .int x4), (5, .int x5), (6, .int x6), (7, .long x7), (9, .int x9)] χ τ := by
    intro τ x3 x4 x5 x6 x7 x9 s1 s2 o h hk H locs ls hw hl
    unfold f_X12_slips_j91_68 at h
    obtain ⟨q11, e12, h⟩ := bd_some h
    refine r_callS (As := [.int s2]) (rest := [.int s1, .ref (ga G 334)]) (st' := [.int q11, .int s1, .ref (ga G 334)]) X hw hl mwX12_flag wd_1180 wd_1179 (c_X12_flag hf e12) rfl ⟨Nat.le_of_ble_eq_true rfl, Nat.le_of_ble_eq_true rfl⟩ ⟨Nat.le_refl _, Nat.le_refl _⟩ rfl rfl (Nat.le_of_ble_eq_true rfl) d_X12_slips_91 (fun H locs hw => ?_)
    refine lv_i2l hx hb d_X12_slips_94 rfl ?_
    obtain ⟨hi13, h⟩ := gd_some h
    refine m_last X hw (o_334 hf) (Nat.le_of_ble_eq_true rfl) hi13 d_X12_slips_95 (fun H locs hw => ?_)
    refine lv_iinc (v := (x9 + (1 : Int32))) (k := 6) (lv' := [(9, .int (x9 + (1 : Int32))), (0, .ref (ga G 300)), (3, .int x3), (4, .int x4), (5, .int x5), (6, .int x6), (7, .long x7)]) hx hb d_X12_slips_96 hl rfl (by rfl) (Nat.le_of_ble_eq_true rfl) rfl (fun ls hl => ?_)
    refine lv_goto (tgt := 68) hx hb d_X12_slips_99 (by decide) ?_
    obtain rfl := Option.some.inj h
    dsimp only [Sum.elim_inl] at hk
    exact hk _ _ _ hw (lv_sub hl [0, 1, 2, 3, 4, 5, 6] rfl)
  have b68 : ∀ (τ : St) (y3 : Int32) (y4 : Int32) (y5 : Int32) (y6 : Int32) (y7 : Int64) (x9 : Int32) (o : (Int32 × St) ⊕ (St)), f_X12_slips_s68 τ y3 y4 y5 y6 y7 x9 = some o → Sum.elim (fun z : Int32 × St => Wat p l e (rmk 202 4849) s m args below meth c Q G 14 68 [] [(9, .int z.1), (0, .ref (ga G 300)), (3, .int y3), (4, .int y4), (5, .int y5), (6, .int y6), (7, .long y7)] χ z.2) (fun z : St => Wat p l e (rmk 202 4849) s m args below meth c Q G 14 102 [] [(0, .ref (ga G 300)), (3, .int y3), (4, .int y4), (5, .int y5), (6, .int y6), (7, .long y7)] χ z) o → Wat p l e (rmk 202 4849) s m args below meth c Q G 14 68 [] [(9, .int x9), (0, .ref (ga G 300)), (3, .int y3), (4, .int y4), (5, .int y5), (6, .int y6), (7, .long y7)] χ τ := by
    intro τ y3 y4 y5 y6 y7 x9 o h hk H locs ls hw hl
    unfold f_X12_slips_s68 at h
    refine lv_iload hx hb d_X12_slips_68 (lv_at hl 0 rfl) ?_
    refine lv_bipush (v := (8 : Int32)) hx hb d_X12_slips_70 (by decide) ?_
    refine lv_icmp_gt (tgt := 102) hx hb d_X12_slips_72 (by decide) (fun hc => ?_) (fun hc => ?_)
    · have h := ite_t h hc
      obtain rfl := Option.some.inj h
      dsimp only [Sum.elim_inr] at hk
      exact hk _ _ _ hw (lv_sub hl [1, 2, 3, 4, 5, 6] rfl)
    · have h := ite_f h hc
      refine lv_aload_n hx hb d_X12_slips_75 rfl (lv_at hl 1 rfl) ?_
      refine r_getr (j := 34) X hw ct8 (o_300 hf) rfl (Nat.le_of_ble_eq_true rfl) (q := 334) rfl wd_990 d_X12_slips_76 ?_
      refine lv_iload hx hb d_X12_slips_79 (lv_at hl 0 rfl) ?_
      refine lv_iload hx hb d_X12_slips_81 (lv_at hl 0 rfl) ?_
      refine lv_if_ne (tgt := 90) hx hb d_X12_slips_83 (by decide) (fun hc => ?_) (fun hc => ?_)
      · simp only [if_neg hc] at h
        refine lv_iconst (v := (0 : Int32)) hx hb d_X12_slips_90 (by decide) ?_
        exact j91_68 τ y3 y4 y5 y6 y7 x9 x9 (0 : Int32) o h hk _ _ _ hw (lv_sub hl [1, 2, 3, 4, 5, 6, 0] rfl)
      · simp only [if_pos hc] at h
        refine lv_iconst (v := (1 : Int32)) hx hb d_X12_slips_86 (by decide) ?_
        refine lv_goto (tgt := 91) hx hb d_X12_slips_87 (by decide) ?_
        exact j91_68 τ y3 y4 y5 y6 y7 x9 x9 (1 : Int32) o h hk _ _ _ hw (lv_sub hl [1, 2, 3, 4, 5, 6, 0] rfl)
  have j215_105 : ∀ (τ : St) (x3 : Int32) (x4 : Int32) (x5 : Int32) (x6 : Int32) (x7 : Int64) (x9 : Int32) (o : (Int64 × Int32 × St) ⊕ (Int64 × St)), f_X12_slips_j215_105 τ x3 x4 x5 x6 x7 x9 = some o → Sum.elim (fun z : Int64 × Int32 × St => Wat p l e (rmk 202 4849) s m args below meth c Q G 14 105 [] [(7, .long z.1), (9, .int z.2.1), (0, .ref (ga G 300)), (3, .int x3), (4, .int x4), (5, .int x5), (6, .int x6)] χ z.2.2) (fun z : Int64 × St => Wat p l e (rmk 202 4849) s m args below meth c Q G 14 221 [] [(0, .ref (ga G 300)), (4, .int x4), (7, .long z.1)] χ z.2) o → Wat p l e (rmk 202 4849) s m args below meth c Q G 14 215 [] [(0, .ref (ga G 300)), (3, .int x3), (4, .int x4), (5, .int x5), (6, .int x6), (7, .long x7), (9, .int x9)] χ τ := by
    intro τ x3 x4 x5 x6 x7 x9 o h hk H locs ls hw hl
    unfold f_X12_slips_j215_105 at h
    refine lv_iinc (v := (x9 + (1 : Int32))) (k := 6) (lv' := [(9, .int (x9 + (1 : Int32))), (0, .ref (ga G 300)), (3, .int x3), (4, .int x4), (5, .int x5), (6, .int x6), (7, .long x7)]) hx hb d_X12_slips_215 hl rfl (by rfl) (Nat.le_of_ble_eq_true rfl) rfl (fun ls hl => ?_)
    refine lv_goto (tgt := 105) hx hb d_X12_slips_218 (by decide) ?_
    obtain rfl := Option.some.inj h
    dsimp only [Sum.elim_inl] at hk
    exact hk _ _ _ hw (lv_sub hl [6, 0, 1, 2, 3, 4, 5] rfl)
  have j179_156 : ∀ (τ : St) (x3 : Int32) (x4 : Int32) (x5 : Int32) (x6 : Int32) (x7 : Int64) (x9 : Int32) (x10 : Int32) (x11 : Int32) (s0 : Int64) (o : (Int32 × St) ⊕ (St)), f_X12_slips_j179_156 τ x3 x4 x5 x6 x7 x9 x10 x11 s0 = some o → Sum.elim (fun z : Int32 × St => Wat p l e (rmk 202 4849) s m args below meth c Q G 14 156 [] [(11, .int z.1), (0, .ref (ga G 300)), (3, .int x3), (4, .int x4), (5, .int x5), (6, .int x6), (7, .long x7), (9, .int x9), (10, .int x10)] χ z.2) (fun z : St => Wat p l e (rmk 202 4849) s m args below meth c Q G 14 215 [] [(0, .ref (ga G 300)), (3, .int x3), (4, .int x4), (5, .int x5), (6, .int x6), (7, .long x7), (9, .int x9)] χ z) o → Wat p l e (rmk 202 4849) s m args below meth c Q G 14 179 [.long s0] [(0, .ref (ga G 300)), (3, .int x3), (4, .int x4), (5, .int x5), (6, .int x6), (7, .long x7), (9, .int x9), (10, .int x10), (11, .int x11)] χ τ := by
    intro τ x3 x4 x5 x6 x7 x9 x10 x11 s0 o h hk H locs ls hw hl
    unfold f_X12_slips_j179_156 at h
    refine lv_lstore (lv' := [(12, .long s0), (0, .ref (ga G 300)), (3, .int x3), (4, .int x4), (5, .int x5), (6, .int x6), (7, .long x7), (9, .int x9), (10, .int x10), (11, .int x11)]) hx hb d_X12_slips_179 hl (Nat.le_of_ble_eq_true rfl) rfl (fun ls hl => ?_)
    refine lv_aload_n hx hb d_X12_slips_181 rfl (lv_at hl 1 rfl) ?_
    refine r_getr (j := 34) X hw ct8 (o_300 hf) rfl (Nat.le_of_ble_eq_true rfl) (q := 334) rfl wd_990 d_X12_slips_182 ?_
    refine lv_iload hx hb d_X12_slips_185 (lv_at hl 9 rfl) ?_
    refine lv_aload_n hx hb d_X12_slips_187 rfl (lv_at hl 1 rfl) ?_
    refine r_getr (j := 34) X hw ct8 (o_300 hf) rfl (Nat.le_of_ble_eq_true rfl) (q := 334) rfl wd_990 d_X12_slips_188 ?_
    refine lv_iload hx hb d_X12_slips_191 (lv_at hl 9 rfl) ?_
    obtain ⟨hi21, h⟩ := gd_some h
    refine m_lald X hw (o_334 hf) (Nat.le_of_ble_eq_true rfl) hi21 d_X12_slips_193 ?_
    refine lv_bipush (v := (10 : Int32)) hx hb d_X12_slips_194 (by decide) ?_
    refine lv_iload hx hb d_X12_slips_196 (lv_at hl 8 rfl) ?_
    refine lv_isub hx hb d_X12_slips_198 ?_
    refine lv_i2l hx hb d_X12_slips_199 rfl ?_
    refine lv_lmul hx hb d_X12_slips_200 ?_
    refine lv_lload hx hb d_X12_slips_201 (lv_at hl 0 rfl) ?_
    refine lv_iload hx hb d_X12_slips_203 (lv_at hl 8 rfl) ?_
    refine lv_i2l hx hb d_X12_slips_205 rfl ?_
    refine lv_lmul hx hb d_X12_slips_206 ?_
    refine lv_ladd hx hb d_X12_slips_207 ?_
    obtain ⟨hi22, h⟩ := gd_some h
    refine m_last X hw (o_334 hf) (Nat.le_of_ble_eq_true rfl) hi22 d_X12_slips_208 (fun H locs hw => ?_)
    refine lv_iinc (v := (x11 + (-1 : Int32))) (k := 9) (lv' := [(11, .int (x11 + (-1 : Int32))), (12, .long s0), (0, .ref (ga G 300)), (3, .int x3), (4, .int x4), (5, .int x5), (6, .int x6), (7, .long x7), (9, .int x9), (10, .int x10)]) hx hb d_X12_slips_209 hl rfl (by rfl) (Nat.le_of_ble_eq_true rfl) rfl (fun ls hl => ?_)
    refine lv_goto (tgt := 156) hx hb d_X12_slips_212 (by decide) ?_
    obtain rfl := Option.some.inj h
    dsimp only [Sum.elim_inl] at hk
    exact hk _ _ _ hw (lv_sub hl [0, 2, 3, 4, 5, 6, 7, 8, 9] rfl)
  have b156 : ∀ (τ : St) (y3 : Int32) (y4 : Int32) (y5 : Int32) (y6 : Int32) (y7 : Int64) (y9 : Int32) (y10 : Int32) (x11 : Int32) (o : (Int32 × St) ⊕ (St)), f_X12_slips_s156 τ y3 y4 y5 y6 y7 y9 y10 x11 = some o → Sum.elim (fun z : Int32 × St => Wat p l e (rmk 202 4849) s m args below meth c Q G 14 156 [] [(11, .int z.1), (0, .ref (ga G 300)), (3, .int y3), (4, .int y4), (5, .int y5), (6, .int y6), (7, .long y7), (9, .int y9), (10, .int y10)] χ z.2) (fun z : St => Wat p l e (rmk 202 4849) s m args below meth c Q G 14 215 [] [(0, .ref (ga G 300)), (3, .int y3), (4, .int y4), (5, .int y5), (6, .int y6), (7, .long y7), (9, .int y9)] χ z) o → Wat p l e (rmk 202 4849) s m args below meth c Q G 14 156 [] [(11, .int x11), (0, .ref (ga G 300)), (3, .int y3), (4, .int y4), (5, .int y5), (6, .int y6), (7, .long y7), (9, .int y9), (10, .int y10)] χ τ := by
    intro τ y3 y4 y5 y6 y7 y9 y10 x11 o h hk H locs ls hw hl
    unfold f_X12_slips_s156 at h
    refine lv_iload hx hb d_X12_slips_156 (lv_at hl 0 rfl) ?_
    refine lv_if_lt (tgt := 215) hx hb d_X12_slips_158 (by decide) (fun hc => ?_) (fun hc => ?_)
    · have h := ite_t h hc
      obtain rfl := Option.some.inj h
      dsimp only [Sum.elim_inr] at hk
      exact hk _ _ _ hw (lv_sub hl [1, 2, 3, 4, 5, 6, 7] rfl)
    · have h := ite_f h hc
      refine lv_iload hx hb d_X12_slips_161 (lv_at hl 0 rfl) ?_
      refine lv_if_le (tgt := 178) hx hb d_X12_slips_163 (by decide) (fun hc => ?_) (fun hc => ?_)
      · have h := ite_t h hc
        refine lv_lconst (v := (0 : Int64)) hx hb d_X12_slips_178 (by decide) ?_
        exact j179_156 τ y3 y4 y5 y6 y7 y9 y10 x11 (0 : Int64) o h hk _ _ _ hw (lv_sub hl [1, 2, 3, 4, 5, 6, 7, 8, 0] rfl)
      · have h := ite_f h hc
        refine lv_aload_n hx hb d_X12_slips_166 rfl (lv_at hl 1 rfl) ?_
        refine r_getr (j := 34) X hw ct8 (o_300 hf) rfl (Nat.le_of_ble_eq_true rfl) (q := 334) rfl wd_990 d_X12_slips_167 ?_
        refine lv_iload hx hb d_X12_slips_170 (lv_at hl 0 rfl) ?_
        refine lv_iconst (v := (1 : Int32)) hx hb d_X12_slips_172 (by decide) ?_
        refine lv_isub hx hb d_X12_slips_173 ?_
        obtain ⟨hi23, h⟩ := gd_some h
        refine m_lald X hw (o_334 hf) (Nat.le_of_ble_eq_true rfl) hi23 d_X12_slips_174 ?_
        refine lv_goto (tgt := 179) hx hb d_X12_slips_175 (by decide) ?_
        exact j179_156 τ y3 y4 y5 y6 y7 y9 y10 x11 (cL τ 334 (x11 - (1 : Int32)).toNatClampNeg) o h hk _ _ _ hw (lv_sub hl [1, 2, 3, 4, 5, 6, 7, 8, 0] rfl)
  have j142_105 : ∀ (τ : St) (x3 : Int32) (x4 : Int32) (x5 : Int32) (x6 : Int32) (x7 : Int64) (x9 : Int32) (s0 : Int32) (o : (Int64 × Int32 × St) ⊕ (Int64 × St)), f_X12_slips_j142_105 τ x3 x4 x5 x6 x7 x9 s0 = some o → Sum.elim (fun z : Int64 × Int32 × St => Wat p l e (rmk 202 4849) s m args below meth c Q G 14 105 [] [(7, .long z.1), (9, .int z.2.1), (0, .ref (ga G 300)), (3, .int x3), (4, .int x4), (5, .int x5), (6, .int x6)] χ z.2.2) (fun z : Int64 × St => Wat p l e (rmk 202 4849) s m args below meth c Q G 14 221 [] [(0, .ref (ga G 300)), (4, .int x4), (7, .long z.1)] χ z.2) o → Wat p l e (rmk 202 4849) s m args below meth c Q G 14 142 [.int s0] [(0, .ref (ga G 300)), (3, .int x3), (4, .int x4), (5, .int x5), (6, .int x6), (7, .long x7), (9, .int x9)] χ τ := by
    intro τ x3 x4 x5 x6 x7 x9 s0 o h hk H locs ls hw hl
    unfold f_X12_slips_j142_105 at h
    refine lv_istore (lv' := [(10, .int s0), (0, .ref (ga G 300)), (3, .int x3), (4, .int x4), (5, .int x5), (6, .int x6), (7, .long x7), (9, .int x9)]) hx hb d_X12_slips_142 hl (Nat.le_of_ble_eq_true rfl) rfl (fun ls hl => ?_)
    refine lv_lload hx hb d_X12_slips_144 (lv_at hl 6 rfl) ?_
    refine r_ldc2 X wd_1562 d_X12_slips_146 ?_
    refine lv_lmul hx hb d_X12_slips_149 ?_
    refine lv_lstore (lv' := [(7, .long (x7 * (10 : Int64))), (10, .int s0), (0, .ref (ga G 300)), (3, .int x3), (4, .int x4), (5, .int x5), (6, .int x6), (9, .int x9)]) hx hb d_X12_slips_150 hl (Nat.le_of_ble_eq_true rfl) rfl (fun ls hl => ?_)
    refine lv_bipush (v := (8 : Int32)) hx hb d_X12_slips_152 (by decide) ?_
    refine lv_istore (lv' := [(11, .int (8 : Int32)), (7, .long (x7 * (10 : Int64))), (10, .int s0), (0, .ref (ga G 300)), (3, .int x3), (4, .int x4), (5, .int x5), (6, .int x6), (9, .int x9)]) hx hb d_X12_slips_154 hl (Nat.le_of_ble_eq_true rfl) rfl (fun ls hl => ?_)
    obtain ⟨z24, e25, h⟩ := bd_some h
    refine iter_w (Wh := fun z : Int32 × St => Wat p l e (rmk 202 4849) s m args below meth c Q G 14 156 [] [(11, .int z.1), (0, .ref (ga G 300)), (3, .int x3), (4, .int x4), (5, .int x5), (6, .int x6), (7, .long (x7 * (10 : Int64))), (9, .int x9), (10, .int s0)] χ z.2) (K := fun z : St => Wat p l e (rmk 202 4849) s m args below meth c Q G 14 215 [] [(0, .ref (ga G 300)), (3, .int x3), (4, .int x4), (5, .int x5), (6, .int x6), (7, .long (x7 * (10 : Int64))), (9, .int x9)] χ z) (fun z o h1 h2 => b156 z.2 x3 x4 x5 x6 (x7 * (10 : Int64)) x9 s0 z.1 o h1 h2) FU _ _ e25 ?_ _ _ _ hw (lv_sub hl [0, 3, 4, 5, 6, 7, 1, 8, 2] rfl)
    intro H locs ls hw hl
    exact j215_105 z24 x3 x4 x5 x6 (x7 * (10 : Int64)) x9 o h hk _ _ _ hw (lv_sub hl [0, 1, 2, 3, 4, 5, 6] rfl)
  have b105 : ∀ (τ : St) (y3 : Int32) (y4 : Int32) (y5 : Int32) (y6 : Int32) (x7 : Int64) (x9 : Int32) (o : (Int64 × Int32 × St) ⊕ (Int64 × St)), f_X12_slips_s105 τ y3 y4 y5 y6 x7 x9 = some o → Sum.elim (fun z : Int64 × Int32 × St => Wat p l e (rmk 202 4849) s m args below meth c Q G 14 105 [] [(7, .long z.1), (9, .int z.2.1), (0, .ref (ga G 300)), (3, .int y3), (4, .int y4), (5, .int y5), (6, .int y6)] χ z.2.2) (fun z : Int64 × St => Wat p l e (rmk 202 4849) s m args below meth c Q G 14 221 [] [(0, .ref (ga G 300)), (4, .int y4), (7, .long z.1)] χ z.2) o → Wat p l e (rmk 202 4849) s m args below meth c Q G 14 105 [] [(7, .long x7), (9, .int x9), (0, .ref (ga G 300)), (3, .int y3), (4, .int y4), (5, .int y5), (6, .int y6)] χ τ := by
    intro τ y3 y4 y5 y6 x7 x9 o h hk H locs ls hw hl
    unfold f_X12_slips_s105 at h
    refine lv_iload hx hb d_X12_slips_105 (lv_at hl 1 rfl) ?_
    refine lv_aload_n hx hb d_X12_slips_107 rfl (lv_at hl 2 rfl) ?_
    refine m_geti (j := 3) X hw ct8 (o_300 hf) (Nat.le_of_ble_eq_true rfl) rfl (Nat.le_of_ble_eq_true rfl) wd_959 d_X12_slips_108 ?_
    refine lv_icmp_ge (tgt := 221) hx hb d_X12_slips_111 (by decide) (fun hc => ?_) (fun hc => ?_)
    · have h := ite_t h hc
      obtain rfl := Option.some.inj h
      dsimp only [Sum.elim_inr] at hk
      exact hk _ _ _ hw (lv_sub hl [2, 4, 0] rfl)
    · have h := ite_f h hc
      refine lv_iload hx hb d_X12_slips_114 (lv_at hl 6 rfl) ?_
      refine lv_iload hx hb d_X12_slips_116 (lv_at hl 1 rfl) ?_
      obtain ⟨q17, e18, h⟩ := bd_some h
      refine r_callS (As := [.int y6, .int x9]) (rest := []) (st' := [.int q17]) X hw hl mwX12_has wd_1266 wd_1265 (c_X12_has hf e18) rfl ⟨Nat.le_of_ble_eq_true rfl, Nat.le_of_ble_eq_true rfl⟩ ⟨Nat.le_refl _, Nat.le_refl _⟩ rfl rfl (Nat.le_of_ble_eq_true rfl) d_X12_slips_118 (fun H locs hw => ?_)
      refine lv_if_eq (tgt := 215) hx hb d_X12_slips_121 (by decide) (fun hc => ?_) (fun hc => ?_)
      · have h := ite_t h hc
        exact j215_105 τ y3 y4 y5 y6 x7 x9 o h hk _ _ _ hw (lv_sub hl [2, 3, 4, 5, 6, 0, 1] rfl)
      · have h := ite_f h hc
        refine lv_iload hx hb d_X12_slips_124 (lv_at hl 5 rfl) ?_
        refine lv_iload hx hb d_X12_slips_126 (lv_at hl 1 rfl) ?_
        obtain ⟨q19, e20, h⟩ := bd_some h
        refine r_callS (As := [.int y5, .int x9]) (rest := []) (st' := [.int q19]) X hw hl mwX12_has wd_1266 wd_1265 (c_X12_has hf e20) rfl ⟨Nat.le_of_ble_eq_true rfl, Nat.le_of_ble_eq_true rfl⟩ ⟨Nat.le_refl _, Nat.le_refl _⟩ rfl rfl (Nat.le_of_ble_eq_true rfl) d_X12_slips_128 (fun H locs hw => ?_)
        refine lv_if_eq (tgt := 141) hx hb d_X12_slips_131 (by decide) (fun hc => ?_) (fun hc => ?_)
        · simp only [if_pos hc] at h
          refine lv_iload_n hx hb d_X12_slips_141 rfl (lv_at hl 3 rfl) ?_
          exact j142_105 τ y3 y4 y5 y6 x7 x9 y3 o h hk _ _ _ hw (lv_sub hl [2, 3, 4, 5, 6, 0, 1] rfl)
        · simp only [if_neg hc] at h
          refine lv_bipush (v := (10 : Int32)) hx hb d_X12_slips_134 (by decide) ?_
          refine lv_iload_n hx hb d_X12_slips_136 rfl (lv_at hl 3 rfl) ?_
          refine lv_isub hx hb d_X12_slips_137 ?_
          refine lv_goto (tgt := 142) hx hb d_X12_slips_138 (by decide) ?_
          exact j142_105 τ y3 y4 y5 y6 x7 x9 ((10 : Int32) - y3) o h hk _ _ _ hw (lv_sub hl [2, 3, 4, 5, 6, 0, 1] rfl)
  intro H locs ls hw hl
  have hl : lv_has ls 14 [(0, .ref (ga G 300)), (1, .int a1), (2, .int a2), (3, .int a3), (4, .int a4)] := hl
  unfold f_X12_slips at h
  refine lv_aload_n hx hb d_X12_slips_0 rfl (lv_at hl 0 rfl) ?_
  refine lv_iconst (v := (0 : Int32)) hx hb d_X12_slips_1 (by decide) ?_
  refine m_puti (j := 0) X hw ct8 (o_300 hf) (Nat.le_of_ble_eq_true rfl) rfl (Nat.le_of_ble_eq_true rfl) rfl rfl rfl wd_956 d_X12_slips_2 (fun H locs hw => ?_)
  refine lv_iload_n hx hb d_X12_slips_5 rfl (lv_at hl 1 rfl) ?_
  refine lv_iload_n hx hb d_X12_slips_6 rfl (lv_at hl 2 rfl) ?_
  obtain ⟨q1, e2, h⟩ := bd_some h
  refine r_callS (As := [.int a1, .int a2]) (rest := []) (st' := [.int q1]) X hw hl mwX12_isQuestion wd_1246 wd_1245 (c_X12_isQuestion hf e2) rfl ⟨Nat.le_of_ble_eq_true rfl, Nat.le_of_ble_eq_true rfl⟩ ⟨Nat.le_refl _, Nat.le_refl _⟩ rfl rfl (Nat.le_of_ble_eq_true rfl) d_X12_slips_7 (fun H locs hw => ?_)
  refine lv_if_eq (tgt := 38) hx hb d_X12_slips_10 (by decide) (fun hc => ?_) (fun hc => ?_)
  · have h := ite_t h hc
    refine lv_iconst (v := (-1 : Int32)) hx hb d_X12_slips_38 (by decide) ?_
    obtain rfl := Option.some.inj h
    subst hQ
    exact r_iret X hr hlk hw d_X12_slips_39
  · have h := ite_f h hc
    refine lv_iload_n hx hb d_X12_slips_13 rfl (lv_at hl 3 rfl) ?_
    refine lv_i2l hx hb d_X12_slips_14 rfl ?_
    refine lv_lconst (v := (0 : Int64)) hx hb d_X12_slips_15 (by decide) ?_
    refine r_ldc2 X wd_1562 d_X12_slips_16 ?_
    obtain ⟨q3, e4, h⟩ := bd_some h
    refine r_callS (As := [.long a3.toInt64, .long (0 : Int64), .long (10 : Int64)]) (rest := []) (st' := [.int q3]) X hw hl mwX12_in wd_1093 wd_1092 (c_X12_in hf e4) rfl ⟨Nat.le_of_ble_eq_true rfl, Nat.le_of_ble_eq_true rfl⟩ ⟨Nat.le_refl _, Nat.le_refl _⟩ rfl rfl (Nat.le_of_ble_eq_true rfl) d_X12_slips_19 (fun H locs hw => ?_)
    refine lv_if_eq (tgt := 38) hx hb d_X12_slips_22 (by decide) (fun hc => ?_) (fun hc => ?_)
    · have h := ite_t h hc
      refine lv_iconst (v := (-1 : Int32)) hx hb d_X12_slips_38 (by decide) ?_
      obtain rfl := Option.some.inj h
      subst hQ
      exact r_iret X hr hlk hw d_X12_slips_39
    · have h := ite_f h hc
      refine lv_iload hx hb d_X12_slips_25 (lv_at hl 4 rfl) ?_
      refine lv_i2l hx hb d_X12_slips_27 rfl ?_
      refine lv_lconst (v := (0 : Int64)) hx hb d_X12_slips_28 (by decide) ?_
      refine r_ldc2 X wd_1359 d_X12_slips_29 ?_
      obtain ⟨q5, e6, h⟩ := bd_some h
      refine r_callS (As := [.long a4.toInt64, .long (0 : Int64), .long (8 : Int64)]) (rest := []) (st' := [.int q5]) X hw hl mwX12_in wd_1093 wd_1092 (c_X12_in hf e6) rfl ⟨Nat.le_of_ble_eq_true rfl, Nat.le_of_ble_eq_true rfl⟩ ⟨Nat.le_refl _, Nat.le_refl _⟩ rfl rfl (Nat.le_of_ble_eq_true rfl) d_X12_slips_32 (fun H locs hw => ?_)
      refine lv_if_ne (tgt := 40) hx hb d_X12_slips_35 (by decide) (fun hc => ?_) (fun hc => ?_)
      · have h := ite_f h hc
        refine lv_aload_n hx hb d_X12_slips_40 rfl (lv_at hl 0 rfl) ?_
        refine lv_aload_n hx hb d_X12_slips_41 rfl (lv_at hl 0 rfl) ?_
        refine r_getr (j := 6) X hw ct8 (o_300 hf) rfl (Nat.le_of_ble_eq_true rfl) (q := 306) rfl wd_962 d_X12_slips_42 ?_
        refine lv_iload_n hx hb d_X12_slips_45 rfl (lv_at hl 1 rfl) ?_
        refine lv_iload_n hx hb d_X12_slips_46 rfl (lv_at hl 2 rfl) ?_
        obtain ⟨q7, e8, h⟩ := bd_some h
        refine r_callV (As := [.ref (ga G 306), .int a1, .int a2]) (rest := []) (st' := [.int q7.1]) X hw hl mwX12_closing wd_1259 wp_34 wd_1257 (c_X12_closing hf (o_306 hf) (Nat.le_of_ble_eq_true rfl) e8) (r_recv X hw ct8 (o_300 hf)) rfl ⟨Nat.le_of_ble_eq_true rfl, Nat.le_of_ble_eq_true rfl⟩ ⟨Nat.le_refl _, Nat.le_refl _⟩ rfl rfl (Nat.le_of_ble_eq_true rfl) d_X12_slips_47 (fun H locs hw => ?_)
        refine lv_istore (lv' := [(5, .int q7.1), (0, .ref (ga G 300)), (1, .int a1), (2, .int a2), (3, .int a3), (4, .int a4)]) hx hb d_X12_slips_50 hl (Nat.le_of_ble_eq_true rfl) rfl (fun ls hl => ?_)
        refine lv_aload_n hx hb d_X12_slips_52 rfl (lv_at hl 1 rfl) ?_
        refine lv_aload_n hx hb d_X12_slips_53 rfl (lv_at hl 1 rfl) ?_
        refine r_getr (j := 6) X hw ct8 (o_300 hf) rfl (Nat.le_of_ble_eq_true rfl) (q := 306) rfl wd_962 d_X12_slips_54 ?_
        obtain ⟨q9, e10, h⟩ := bd_some h
        refine r_callV (As := [.ref (ga G 306)]) (rest := []) (st' := [.int q9]) X hw hl mwX12_openOnes wd_1263 wp_35 wd_1261 (c_X12_openOnes hf (o_306 hf) (Nat.le_of_ble_eq_true rfl) e10) (r_recv X hw ct8 (o_300 hf)) rfl ⟨Nat.le_of_ble_eq_true rfl, Nat.le_of_ble_eq_true rfl⟩ ⟨Nat.le_refl _, Nat.le_refl _⟩ rfl rfl (Nat.le_of_ble_eq_true rfl) d_X12_slips_57 (fun H locs hw => ?_)
        refine lv_istore (lv' := [(6, .int q9), (5, .int q7.1), (0, .ref (ga G 300)), (1, .int a1), (2, .int a2), (3, .int a3), (4, .int a4)]) hx hb d_X12_slips_60 hl (Nat.le_of_ble_eq_true rfl) rfl (fun ls hl => ?_)
        refine lv_lconst (v := (1 : Int64)) hx hb d_X12_slips_62 (by decide) ?_
        refine lv_lstore (lv' := [(7, .long (1 : Int64)), (6, .int q9), (5, .int q7.1), (0, .ref (ga G 300)), (1, .int a1), (2, .int a2), (3, .int a3), (4, .int a4)]) hx hb d_X12_slips_63 hl (Nat.le_of_ble_eq_true rfl) rfl (fun ls hl => ?_)
        refine lv_iconst (v := (0 : Int32)) hx hb d_X12_slips_65 (by decide) ?_
        refine lv_istore (lv' := [(9, .int (0 : Int32)), (7, .long (1 : Int64)), (6, .int q9), (5, .int q7.1), (0, .ref (ga G 300)), (1, .int a1), (2, .int a2), (3, .int a3), (4, .int a4)]) hx hb d_X12_slips_66 hl (Nat.le_of_ble_eq_true rfl) rfl (fun ls hl => ?_)
        obtain ⟨z14, e15, h⟩ := bd_some h
        refine iter_w (Wh := fun z : Int32 × St => Wat p l e (rmk 202 4849) s m args below meth c Q G 14 68 [] [(9, .int z.1), (0, .ref (ga G 300)), (3, .int a3), (4, .int a4), (5, .int q7.1), (6, .int q9), (7, .long (1 : Int64))] χ z.2) (K := fun z : St => Wat p l e (rmk 202 4849) s m args below meth c Q G 14 102 [] [(0, .ref (ga G 300)), (3, .int a3), (4, .int a4), (5, .int q7.1), (6, .int q9), (7, .long (1 : Int64))] χ z) (fun z o h1 h2 => b68 z.2 a3 a4 q7.1 q9 (1 : Int64) z.1 o h1 h2) FU _ _ e15 ?_ _ _ _ hw (lv_sub hl [0, 4, 7, 8, 3, 2, 1] rfl)
        intro H locs ls hw hl
        refine lv_iconst (v := (0 : Int32)) hx hb d_X12_slips_102 (by decide) ?_
        refine lv_istore (lv' := [(9, .int (0 : Int32)), (0, .ref (ga G 300)), (3, .int a3), (4, .int a4), (5, .int q7.1), (6, .int q9), (7, .long (1 : Int64))]) hx hb d_X12_slips_103 hl (Nat.le_of_ble_eq_true rfl) rfl (fun ls hl => ?_)
        obtain ⟨z27, e28, h⟩ := bd_some h
        refine iter_w (Wh := fun z : Int64 × Int32 × St => Wat p l e (rmk 202 4849) s m args below meth c Q G 14 105 [] [(7, .long z.1), (9, .int z.2.1), (0, .ref (ga G 300)), (3, .int a3), (4, .int a4), (5, .int q7.1), (6, .int q9)] χ z.2.2) (K := fun z : Int64 × St => Wat p l e (rmk 202 4849) s m args below meth c Q G 14 221 [] [(0, .ref (ga G 300)), (4, .int a4), (7, .long z.1)] χ z.2) (fun z o h1 h2 => b105 z.2.2 a3 a4 q7.1 q9 z.1 z.2.1 o h1 h2) FU _ _ e28 ?_ _ _ _ hw (lv_sub hl [6, 0, 1, 2, 3, 4, 5] rfl)
        intro H locs ls hw hl
        refine lv_aload_n hx hb d_X12_slips_221 rfl (lv_at hl 0 rfl) ?_
        refine lv_aload_n hx hb d_X12_slips_222 rfl (lv_at hl 0 rfl) ?_
        refine r_getr (j := 34) X hw ct8 (o_300 hf) rfl (Nat.le_of_ble_eq_true rfl) (q := 334) rfl wd_990 d_X12_slips_223 ?_
        refine lv_iload hx hb d_X12_slips_226 (lv_at hl 1 rfl) ?_
        obtain ⟨hi30, h⟩ := gd_some h
        refine m_lald X hw (o_334 hf) (Nat.le_of_ble_eq_true rfl) hi30 d_X12_slips_228 ?_
        refine lv_lload hx hb d_X12_slips_229 (lv_at hl 2 rfl) ?_
        obtain ⟨q31, e32, h⟩ := bd_some h
        refine r_callV (As := [.long (cL z27.2 334 a4.toNatClampNeg), .long z27.1]) (rest := []) (st' := [.int q31.1]) X hw hl mwX12_entersFraction wd_1483 wp_61 wd_1481 (c_X12_entersFraction hf e32) (r_recv X hw ct8 (o_300 hf)) rfl ⟨Nat.le_of_ble_eq_true rfl, Nat.le_of_ble_eq_true rfl⟩ ⟨Nat.le_refl _, Nat.le_refl _⟩ rfl rfl (Nat.le_of_ble_eq_true rfl) d_X12_slips_231 (fun H locs hw => ?_)
        obtain rfl := Option.some.inj h
        subst hQ
        exact r_iret X hr hlk hw d_X12_slips_234
      · have h := ite_t h hc
        refine lv_iconst (v := (-1 : Int32)) hx hb d_X12_slips_38 (by decide) ?_
        obtain rfl := Option.some.inj h
        subst hQ
        exact r_iret X hr hlk hw d_X12_slips_39
abbrev yX12_sound : MethodName := ⟨"OysterBedsModel", "sound", "(IIIII)I"⟩
theorem mwX12_sound : MW yX12_sound prog_14_method_106_code 11 (some .int) 5 := ⟨wd_1566, wd_10, by decide +kernel⟩
theorem d_X12_sound_0 : decode prog_14_method_106_code 0 = .ok (.aload_n 0, 1) := by decide +kernel
theorem d_X12_sound_1 : decode prog_14_method_106_code 1 = .ok (.iconst 0, 1) := by decide +kernel
theorem d_X12_sound_2 : decode prog_14_method_106_code 2 = .ok (.putfield 87, 3) := by decide +kernel
theorem d_X12_sound_5 : decode prog_14_method_106_code 5 = .ok (.iload_n 1, 1) := by decide +kernel
theorem d_X12_sound_6 : decode prog_14_method_106_code 6 = .ok (.i2l, 1) := by decide +kernel
theorem d_X12_sound_7 : decode prog_14_method_106_code 7 = .ok (.lconst 0, 1) := by decide +kernel
theorem d_X12_sound_8 : decode prog_14_method_106_code 8 = .ok (.ldc2_w 398, 3) := by decide +kernel
theorem d_X12_sound_11 : decode prog_14_method_106_code 11 = .ok (.invokestatic 105, 3) := by decide +kernel
theorem d_X12_sound_14 : decode prog_14_method_106_code 14 = .ok (.ifCond .eq 53, 3) := by decide +kernel
theorem d_X12_sound_17 : decode prog_14_method_106_code 17 = .ok (.iload_n 2, 1) := by decide +kernel
theorem d_X12_sound_18 : decode prog_14_method_106_code 18 = .ok (.i2l, 1) := by decide +kernel
theorem d_X12_sound_19 : decode prog_14_method_106_code 19 = .ok (.lconst 0, 1) := by decide +kernel
theorem d_X12_sound_20 : decode prog_14_method_106_code 20 = .ok (.ldc2_w 398, 3) := by decide +kernel
theorem d_X12_sound_23 : decode prog_14_method_106_code 23 = .ok (.invokestatic 105, 3) := by decide +kernel
theorem d_X12_sound_26 : decode prog_14_method_106_code 26 = .ok (.ifCond .eq 41, 3) := by decide +kernel
theorem d_X12_sound_29 : decode prog_14_method_106_code 29 = .ok (.iload_n 3, 1) := by decide +kernel
theorem d_X12_sound_30 : decode prog_14_method_106_code 30 = .ok (.i2l, 1) := by decide +kernel
theorem d_X12_sound_31 : decode prog_14_method_106_code 31 = .ok (.lconst 0, 1) := by decide +kernel
theorem d_X12_sound_32 : decode prog_14_method_106_code 32 = .ok (.ldc2_w 398, 3) := by decide +kernel
theorem d_X12_sound_35 : decode prog_14_method_106_code 35 = .ok (.invokestatic 105, 3) := by decide +kernel
theorem d_X12_sound_38 : decode prog_14_method_106_code 38 = .ok (.ifCond .eq 29, 3) := by decide +kernel
theorem d_X12_sound_41 : decode prog_14_method_106_code 41 = .ok (.iload 4, 2) := by decide +kernel
theorem d_X12_sound_43 : decode prog_14_method_106_code 43 = .ok (.i2l, 1) := by decide +kernel
theorem d_X12_sound_44 : decode prog_14_method_106_code 44 = .ok (.lconst 0, 1) := by decide +kernel
theorem d_X12_sound_45 : decode prog_14_method_106_code 45 = .ok (.ldc2_w 313, 3) := by decide +kernel
theorem d_X12_sound_48 : decode prog_14_method_106_code 48 = .ok (.invokestatic 105, 3) := by decide +kernel
theorem d_X12_sound_51 : decode prog_14_method_106_code 51 = .ok (.ifCond .eq 16, 3) := by decide +kernel
theorem d_X12_sound_54 : decode prog_14_method_106_code 54 = .ok (.iload 5, 2) := by decide +kernel
theorem d_X12_sound_56 : decode prog_14_method_106_code 56 = .ok (.i2l, 1) := by decide +kernel
theorem d_X12_sound_57 : decode prog_14_method_106_code 57 = .ok (.lconst 0, 1) := by decide +kernel
theorem d_X12_sound_58 : decode prog_14_method_106_code 58 = .ok (.iload 4, 2) := by decide +kernel
theorem d_X12_sound_60 : decode prog_14_method_106_code 60 = .ok (.i2l, 1) := by decide +kernel
theorem d_X12_sound_61 : decode prog_14_method_106_code 61 = .ok (.invokestatic 105, 3) := by decide +kernel
theorem d_X12_sound_64 : decode prog_14_method_106_code 64 = .ok (.ifCond .ne 5, 3) := by decide +kernel
theorem d_X12_sound_67 : decode prog_14_method_106_code 67 = .ok (.iconst (-1), 1) := by decide +kernel
theorem d_X12_sound_68 : decode prog_14_method_106_code 68 = .ok (.ireturn, 1) := by decide +kernel
theorem d_X12_sound_69 : decode prog_14_method_106_code 69 = .ok (.iload_n 1, 1) := by decide +kernel
theorem d_X12_sound_70 : decode prog_14_method_106_code 70 = .ok (.i2l, 1) := by decide +kernel
theorem d_X12_sound_71 : decode prog_14_method_106_code 71 = .ok (.lstore 6, 2) := by decide +kernel
theorem d_X12_sound_73 : decode prog_14_method_106_code 73 = .ok (.bipush 10, 2) := by decide +kernel
theorem d_X12_sound_75 : decode prog_14_method_106_code 75 = .ok (.iload_n 1, 1) := by decide +kernel
theorem d_X12_sound_76 : decode prog_14_method_106_code 76 = .ok (.isub, 1) := by decide +kernel
theorem d_X12_sound_77 : decode prog_14_method_106_code 77 = .ok (.i2l, 1) := by decide +kernel
theorem d_X12_sound_78 : decode prog_14_method_106_code 78 = .ok (.lstore 8, 2) := by decide +kernel
theorem d_X12_sound_80 : decode prog_14_method_106_code 80 = .ok (.iconst 0, 1) := by decide +kernel
theorem d_X12_sound_81 : decode prog_14_method_106_code 81 = .ok (.istore 10, 2) := by decide +kernel
theorem d_X12_sound_83 : decode prog_14_method_106_code 83 = .ok (.iload 10, 2) := by decide +kernel
theorem d_X12_sound_85 : decode prog_14_method_106_code 85 = .ok (.iload 4, 2) := by decide +kernel
theorem d_X12_sound_87 : decode prog_14_method_106_code 87 = .ok (.if_icmp .ge 53, 3) := by decide +kernel
theorem d_X12_sound_90 : decode prog_14_method_106_code 90 = .ok (.lload 6, 2) := by decide +kernel
theorem d_X12_sound_92 : decode prog_14_method_106_code 92 = .ok (.iload 10, 2) := by decide +kernel
theorem d_X12_sound_94 : decode prog_14_method_106_code 94 = .ok (.iload 5, 2) := by decide +kernel
theorem d_X12_sound_96 : decode prog_14_method_106_code 96 = .ok (.if_icmp .ge 8, 3) := by decide +kernel
theorem d_X12_sound_99 : decode prog_14_method_106_code 99 = .ok (.iload_n 2, 1) := by decide +kernel
theorem d_X12_sound_100 : decode prog_14_method_106_code 100 = .ok (.i2l, 1) := by decide +kernel
theorem d_X12_sound_101 : decode prog_14_method_106_code 101 = .ok (.goto 8, 3) := by decide +kernel
theorem d_X12_sound_104 : decode prog_14_method_106_code 104 = .ok (.bipush 10, 2) := by decide +kernel
theorem d_X12_sound_106 : decode prog_14_method_106_code 106 = .ok (.iload_n 2, 1) := by decide +kernel
theorem d_X12_sound_107 : decode prog_14_method_106_code 107 = .ok (.isub, 1) := by decide +kernel
theorem d_X12_sound_108 : decode prog_14_method_106_code 108 = .ok (.i2l, 1) := by decide +kernel
theorem d_X12_sound_109 : decode prog_14_method_106_code 109 = .ok (.lmul, 1) := by decide +kernel
theorem d_X12_sound_110 : decode prog_14_method_106_code 110 = .ok (.lstore 6, 2) := by decide +kernel
theorem d_X12_sound_112 : decode prog_14_method_106_code 112 = .ok (.lload 8, 2) := by decide +kernel
theorem d_X12_sound_114 : decode prog_14_method_106_code 114 = .ok (.iload 10, 2) := by decide +kernel
theorem d_X12_sound_116 : decode prog_14_method_106_code 116 = .ok (.iload 5, 2) := by decide +kernel
theorem d_X12_sound_118 : decode prog_14_method_106_code 118 = .ok (.if_icmp .ge 8, 3) := by decide +kernel
theorem d_X12_sound_121 : decode prog_14_method_106_code 121 = .ok (.iload_n 3, 1) := by decide +kernel
theorem d_X12_sound_122 : decode prog_14_method_106_code 122 = .ok (.i2l, 1) := by decide +kernel
theorem d_X12_sound_123 : decode prog_14_method_106_code 123 = .ok (.goto 8, 3) := by decide +kernel
theorem d_X12_sound_126 : decode prog_14_method_106_code 126 = .ok (.bipush 10, 2) := by decide +kernel
theorem d_X12_sound_128 : decode prog_14_method_106_code 128 = .ok (.iload_n 3, 1) := by decide +kernel
theorem d_X12_sound_129 : decode prog_14_method_106_code 129 = .ok (.isub, 1) := by decide +kernel
theorem d_X12_sound_130 : decode prog_14_method_106_code 130 = .ok (.i2l, 1) := by decide +kernel
theorem d_X12_sound_131 : decode prog_14_method_106_code 131 = .ok (.lmul, 1) := by decide +kernel
theorem d_X12_sound_132 : decode prog_14_method_106_code 132 = .ok (.lstore 8, 2) := by decide +kernel
theorem d_X12_sound_134 : decode prog_14_method_106_code 134 = .ok (.iinc 10 1, 3) := by decide +kernel
theorem d_X12_sound_137 : decode prog_14_method_106_code 137 = .ok (.goto (-54), 3) := by decide +kernel
theorem d_X12_sound_140 : decode prog_14_method_106_code 140 = .ok (.lload 6, 2) := by decide +kernel
theorem d_X12_sound_142 : decode prog_14_method_106_code 142 = .ok (.lload 8, 2) := by decide +kernel
theorem d_X12_sound_144 : decode prog_14_method_106_code 144 = .ok (.ladd, 1) := by decide +kernel
theorem d_X12_sound_145 : decode prog_14_method_106_code 145 = .ok (.lconst 0, 1) := by decide +kernel
theorem d_X12_sound_146 : decode prog_14_method_106_code 146 = .ok (.lcmp, 1) := by decide +kernel
theorem d_X12_sound_147 : decode prog_14_method_106_code 147 = .ok (.ifCond .ne 8, 3) := by decide +kernel
theorem d_X12_sound_150 : decode prog_14_method_106_code 150 = .ok (.bipush (-2), 2) := by decide +kernel
theorem d_X12_sound_152 : decode prog_14_method_106_code 152 = .ok (.goto 14, 3) := by decide +kernel
theorem d_X12_sound_155 : decode prog_14_method_106_code 155 = .ok (.aload_n 0, 1) := by decide +kernel
theorem d_X12_sound_156 : decode prog_14_method_106_code 156 = .ok (.lload 6, 2) := by decide +kernel
theorem d_X12_sound_158 : decode prog_14_method_106_code 158 = .ok (.lload 6, 2) := by decide +kernel
theorem d_X12_sound_160 : decode prog_14_method_106_code 160 = .ok (.lload 8, 2) := by decide +kernel
theorem d_X12_sound_162 : decode prog_14_method_106_code 162 = .ok (.ladd, 1) := by decide +kernel
theorem d_X12_sound_163 : decode prog_14_method_106_code 163 = .ok (.invokevirtual 362, 3) := by decide +kernel
theorem d_X12_sound_166 : decode prog_14_method_106_code 166 = .ok (.ireturn, 1) := by decide +kernel
def f_X12_sound_j131_83 (τ : St) (x2 : Int32) (x3 : Int32) (x4 : Int32) (x5 : Int32) (x6 : Int64) (x10 : Int32) (s0 : Int64) (s1 : Int64) : Option ((Int64 × Int64 × Int32) ⊕ (Int64 × Int64)) := some (.inl (x6, (s0 * s1), (x10 + (1 : Int32))))
def f_X12_sound_j109_83 (τ : St) (x2 : Int32) (x3 : Int32) (x4 : Int32) (x5 : Int32) (x8 : Int64) (x10 : Int32) (s0 : Int64) (s1 : Int64) : Option ((Int64 × Int64 × Int32) ⊕ (Int64 × Int64)) := f_X12_sound_j131_83 τ x2 x3 x4 x5 (s0 * s1) x10 x8 (if x5 ≤ x10 then ((10 : Int32) - x3).toInt64 else x3.toInt64)
def f_X12_sound_s83 (τ : St) (y2 : Int32) (y3 : Int32) (y4 : Int32) (y5 : Int32) (x6 : Int64) (x8 : Int64) (x10 : Int32) : Option ((Int64 × Int64 × Int32) ⊕ (Int64 × Int64)) := (if y4 ≤ x10 then some (.inr (x6, x8)) else f_X12_sound_j109_83 τ y2 y3 y4 y5 x8 x10 x6 (if y5 ≤ x10 then ((10 : Int32) - y2).toInt64 else y2.toInt64))
def f_X12_sound (σ : St) (a1 : Int32) (a2 : Int32) (a3 : Int32) (a4 : Int32) (a5 : Int32) : Option (Int32 × St) := (f_X12_in a1.toInt64 (0 : Int64) (10 : Int64)).bind (fun q1 => (if q1 = 0 then some ((-1 : Int32), (sF σ 300 0 (0 : Int32))) else (f_X12_in a2.toInt64 (0 : Int64) (10 : Int64)).bind (fun q3 => (if q3 = 0 then some ((-1 : Int32), (sF σ 300 0 (0 : Int32))) else (f_X12_in a3.toInt64 (0 : Int64) (10 : Int64)).bind (fun q5 => (if q5 = 0 then some ((-1 : Int32), (sF σ 300 0 (0 : Int32))) else (f_X12_in a4.toInt64 (0 : Int64) (8 : Int64)).bind (fun q7 => (if q7 = 0 then some ((-1 : Int32), (sF σ 300 0 (0 : Int32))) else (f_X12_in a5.toInt64 (0 : Int64) a4.toInt64).bind (fun q9 => (if q9 = 0 then some ((-1 : Int32), (sF σ 300 0 (0 : Int32))) else (iter (fun z => f_X12_sound_s83 (sF σ 300 0 (0 : Int32)) a2 a3 a4 a5 z.1 z.2.1 z.2.2) FU (a1.toInt64, ((10 : Int32) - a1).toInt64, (0 : Int32))).bind (fun z11 => (if (lg_cmp (z11.1 + z11.2) (0 : Int64)) = 0 then some ((-2 : Int32), (sF σ 300 0 (0 : Int32))) else (f_X12_entersFraction (sF σ 300 0 (0 : Int32)) z11.1 (z11.1 + z11.2)).bind (fun q14 => some (q14.1, q14.2))))))))))))))
theorem c_X12_sound {l : Launch} {G : gT} {χ σ : St} {a1 : Int32} {a2 : Int32} {a3 : Int32} {a4 : Int32} {a5 : Int32} (hf : FW G) {q : Int32 × St} (h : f_X12_sound σ a1 a2 a3 a4 a5 = some q) : Ct l G yX12_sound prog_14_method_106_code 11 (some .int) 202 4849 [.ref (ga G 300), .int a1, .int a2, .int a3, .int a4, .int a5] χ σ (some (.int q.1)) χ q.2 := by
  refine Ct.of (by decide) (Nat.le_of_ble_eq_true rfl) ?_
  intro p e s m args below meth c Q X hr hlk hQ
  have hx := X.1
  have hb := X.2.1
  have j131_83 : ∀ (τ : St) (x2 : Int32) (x3 : Int32) (x4 : Int32) (x5 : Int32) (x6 : Int64) (x10 : Int32) (s0 : Int64) (s1 : Int64) (o : (Int64 × Int64 × Int32) ⊕ (Int64 × Int64)), f_X12_sound_j131_83 τ x2 x3 x4 x5 x6 x10 s0 s1 = some o → Sum.elim (fun z : Int64 × Int64 × Int32 => Wat p l e (rmk 202 4849) s m args below meth c Q G 11 83 [] [(6, .long z.1), (8, .long z.2.1), (10, .int z.2.2), (0, .ref (ga G 300)), (2, .int x2), (3, .int x3), (4, .int x4), (5, .int x5)] χ τ) (fun z : Int64 × Int64 => Wat p l e (rmk 202 4849) s m args below meth c Q G 11 140 [] [(0, .ref (ga G 300)), (6, .long z.1), (8, .long z.2)] χ τ) o → Wat p l e (rmk 202 4849) s m args below meth c Q G 11 131 [.long s1, .long s0] [(0, .ref (ga G 300)), (2, .int x2), (3, .int x3), (4, .int x4), (5, .int x5), (6, .long x6), (10, .int x10)] χ τ := by
    intro τ x2 x3 x4 x5 x6 x10 s0 s1 o h hk H locs ls hw hl
    unfold f_X12_sound_j131_83 at h
    refine lv_lmul hx hb d_X12_sound_131 ?_
    refine lv_lstore (lv' := [(8, .long (s0 * s1)), (0, .ref (ga G 300)), (2, .int x2), (3, .int x3), (4, .int x4), (5, .int x5), (6, .long x6), (10, .int x10)]) hx hb d_X12_sound_132 hl (Nat.le_of_ble_eq_true rfl) rfl (fun ls hl => ?_)
    refine lv_iinc (v := (x10 + (1 : Int32))) (k := 7) (lv' := [(10, .int (x10 + (1 : Int32))), (8, .long (s0 * s1)), (0, .ref (ga G 300)), (2, .int x2), (3, .int x3), (4, .int x4), (5, .int x5), (6, .long x6)]) hx hb d_X12_sound_134 hl rfl (by rfl) (Nat.le_of_ble_eq_true rfl) rfl (fun ls hl => ?_)
    refine lv_goto (tgt := 83) hx hb d_X12_sound_137 (by decide) ?_
    obtain rfl := Option.some.inj h
    dsimp only [Sum.elim_inl] at hk
    exact hk _ _ _ hw (lv_sub hl [7, 1, 0, 2, 3, 4, 5, 6] rfl)
  have j109_83 : ∀ (τ : St) (x2 : Int32) (x3 : Int32) (x4 : Int32) (x5 : Int32) (x8 : Int64) (x10 : Int32) (s0 : Int64) (s1 : Int64) (o : (Int64 × Int64 × Int32) ⊕ (Int64 × Int64)), f_X12_sound_j109_83 τ x2 x3 x4 x5 x8 x10 s0 s1 = some o → Sum.elim (fun z : Int64 × Int64 × Int32 => Wat p l e (rmk 202 4849) s m args below meth c Q G 11 83 [] [(6, .long z.1), (8, .long z.2.1), (10, .int z.2.2), (0, .ref (ga G 300)), (2, .int x2), (3, .int x3), (4, .int x4), (5, .int x5)] χ τ) (fun z : Int64 × Int64 => Wat p l e (rmk 202 4849) s m args below meth c Q G 11 140 [] [(0, .ref (ga G 300)), (6, .long z.1), (8, .long z.2)] χ τ) o → Wat p l e (rmk 202 4849) s m args below meth c Q G 11 109 [.long s1, .long s0] [(0, .ref (ga G 300)), (2, .int x2), (3, .int x3), (4, .int x4), (5, .int x5), (8, .long x8), (10, .int x10)] χ τ := by
    intro τ x2 x3 x4 x5 x8 x10 s0 s1 o h hk H locs ls hw hl
    unfold f_X12_sound_j109_83 at h
    refine lv_lmul hx hb d_X12_sound_109 ?_
    refine lv_lstore (lv' := [(6, .long (s0 * s1)), (0, .ref (ga G 300)), (2, .int x2), (3, .int x3), (4, .int x4), (5, .int x5), (8, .long x8), (10, .int x10)]) hx hb d_X12_sound_110 hl (Nat.le_of_ble_eq_true rfl) rfl (fun ls hl => ?_)
    refine lv_lload hx hb d_X12_sound_112 (lv_at hl 6 rfl) ?_
    refine lv_iload hx hb d_X12_sound_114 (lv_at hl 7 rfl) ?_
    refine lv_iload hx hb d_X12_sound_116 (lv_at hl 5 rfl) ?_
    refine lv_icmp_ge (tgt := 126) hx hb d_X12_sound_118 (by decide) (fun hc => ?_) (fun hc => ?_)
    · simp only [if_pos hc] at h
      refine lv_bipush (v := (10 : Int32)) hx hb d_X12_sound_126 (by decide) ?_
      refine lv_iload_n hx hb d_X12_sound_128 rfl (lv_at hl 3 rfl) ?_
      refine lv_isub hx hb d_X12_sound_129 ?_
      refine lv_i2l hx hb d_X12_sound_130 rfl ?_
      exact j131_83 τ x2 x3 x4 x5 (s0 * s1) x10 x8 ((10 : Int32) - x3).toInt64 o h hk _ _ _ hw (lv_sub hl [1, 2, 3, 4, 5, 0, 7] rfl)
    · simp only [if_neg hc] at h
      refine lv_iload_n hx hb d_X12_sound_121 rfl (lv_at hl 3 rfl) ?_
      refine lv_i2l hx hb d_X12_sound_122 rfl ?_
      refine lv_goto (tgt := 131) hx hb d_X12_sound_123 (by decide) ?_
      exact j131_83 τ x2 x3 x4 x5 (s0 * s1) x10 x8 x3.toInt64 o h hk _ _ _ hw (lv_sub hl [1, 2, 3, 4, 5, 0, 7] rfl)
  have b83 : ∀ (τ : St) (y2 : Int32) (y3 : Int32) (y4 : Int32) (y5 : Int32) (x6 : Int64) (x8 : Int64) (x10 : Int32) (o : (Int64 × Int64 × Int32) ⊕ (Int64 × Int64)), f_X12_sound_s83 τ y2 y3 y4 y5 x6 x8 x10 = some o → Sum.elim (fun z : Int64 × Int64 × Int32 => Wat p l e (rmk 202 4849) s m args below meth c Q G 11 83 [] [(6, .long z.1), (8, .long z.2.1), (10, .int z.2.2), (0, .ref (ga G 300)), (2, .int y2), (3, .int y3), (4, .int y4), (5, .int y5)] χ τ) (fun z : Int64 × Int64 => Wat p l e (rmk 202 4849) s m args below meth c Q G 11 140 [] [(0, .ref (ga G 300)), (6, .long z.1), (8, .long z.2)] χ τ) o → Wat p l e (rmk 202 4849) s m args below meth c Q G 11 83 [] [(6, .long x6), (8, .long x8), (10, .int x10), (0, .ref (ga G 300)), (2, .int y2), (3, .int y3), (4, .int y4), (5, .int y5)] χ τ := by
    intro τ y2 y3 y4 y5 x6 x8 x10 o h hk H locs ls hw hl
    unfold f_X12_sound_s83 at h
    refine lv_iload hx hb d_X12_sound_83 (lv_at hl 2 rfl) ?_
    refine lv_iload hx hb d_X12_sound_85 (lv_at hl 6 rfl) ?_
    refine lv_icmp_ge (tgt := 140) hx hb d_X12_sound_87 (by decide) (fun hc => ?_) (fun hc => ?_)
    · have h := ite_t h hc
      obtain rfl := Option.some.inj h
      dsimp only [Sum.elim_inr] at hk
      exact hk _ _ _ hw (lv_sub hl [3, 0, 1] rfl)
    · have h := ite_f h hc
      refine lv_lload hx hb d_X12_sound_90 (lv_at hl 0 rfl) ?_
      refine lv_iload hx hb d_X12_sound_92 (lv_at hl 2 rfl) ?_
      refine lv_iload hx hb d_X12_sound_94 (lv_at hl 7 rfl) ?_
      refine lv_icmp_ge (tgt := 104) hx hb d_X12_sound_96 (by decide) (fun hc => ?_) (fun hc => ?_)
      · simp only [if_pos hc] at h
        refine lv_bipush (v := (10 : Int32)) hx hb d_X12_sound_104 (by decide) ?_
        refine lv_iload_n hx hb d_X12_sound_106 rfl (lv_at hl 4 rfl) ?_
        refine lv_isub hx hb d_X12_sound_107 ?_
        refine lv_i2l hx hb d_X12_sound_108 rfl ?_
        exact j109_83 τ y2 y3 y4 y5 x8 x10 x6 ((10 : Int32) - y2).toInt64 o h hk _ _ _ hw (lv_sub hl [3, 4, 5, 6, 7, 1, 2] rfl)
      · simp only [if_neg hc] at h
        refine lv_iload_n hx hb d_X12_sound_99 rfl (lv_at hl 4 rfl) ?_
        refine lv_i2l hx hb d_X12_sound_100 rfl ?_
        refine lv_goto (tgt := 109) hx hb d_X12_sound_101 (by decide) ?_
        exact j109_83 τ y2 y3 y4 y5 x8 x10 x6 y2.toInt64 o h hk _ _ _ hw (lv_sub hl [3, 4, 5, 6, 7, 1, 2] rfl)
  intro H locs ls hw hl
  have hl : lv_has ls 11 [(0, .ref (ga G 300)), (1, .int a1), (2, .int a2), (3, .int a3), (4, .int a4), (5, .int a5)] := hl
  unfold f_X12_sound at h
  refine lv_aload_n hx hb d_X12_sound_0 rfl (lv_at hl 0 rfl) ?_
  refine lv_iconst (v := (0 : Int32)) hx hb d_X12_sound_1 (by decide) ?_
  refine m_puti (j := 0) X hw ct8 (o_300 hf) (Nat.le_of_ble_eq_true rfl) rfl (Nat.le_of_ble_eq_true rfl) rfl rfl rfl wd_956 d_X12_sound_2 (fun H locs hw => ?_)
  refine lv_iload_n hx hb d_X12_sound_5 rfl (lv_at hl 1 rfl) ?_
  refine lv_i2l hx hb d_X12_sound_6 rfl ?_
  refine lv_lconst (v := (0 : Int64)) hx hb d_X12_sound_7 (by decide) ?_
  refine r_ldc2 X wd_1562 d_X12_sound_8 ?_
  obtain ⟨q1, e2, h⟩ := bd_some h
  refine r_callS (As := [.long a1.toInt64, .long (0 : Int64), .long (10 : Int64)]) (rest := []) (st' := [.int q1]) X hw hl mwX12_in wd_1093 wd_1092 (c_X12_in hf e2) rfl ⟨Nat.le_of_ble_eq_true rfl, Nat.le_of_ble_eq_true rfl⟩ ⟨Nat.le_refl _, Nat.le_refl _⟩ rfl rfl (Nat.le_of_ble_eq_true rfl) d_X12_sound_11 (fun H locs hw => ?_)
  refine lv_if_eq (tgt := 67) hx hb d_X12_sound_14 (by decide) (fun hc => ?_) (fun hc => ?_)
  · have h := ite_t h hc
    refine lv_iconst (v := (-1 : Int32)) hx hb d_X12_sound_67 (by decide) ?_
    obtain rfl := Option.some.inj h
    subst hQ
    exact r_iret X hr hlk hw d_X12_sound_68
  · have h := ite_f h hc
    refine lv_iload_n hx hb d_X12_sound_17 rfl (lv_at hl 2 rfl) ?_
    refine lv_i2l hx hb d_X12_sound_18 rfl ?_
    refine lv_lconst (v := (0 : Int64)) hx hb d_X12_sound_19 (by decide) ?_
    refine r_ldc2 X wd_1562 d_X12_sound_20 ?_
    obtain ⟨q3, e4, h⟩ := bd_some h
    refine r_callS (As := [.long a2.toInt64, .long (0 : Int64), .long (10 : Int64)]) (rest := []) (st' := [.int q3]) X hw hl mwX12_in wd_1093 wd_1092 (c_X12_in hf e4) rfl ⟨Nat.le_of_ble_eq_true rfl, Nat.le_of_ble_eq_true rfl⟩ ⟨Nat.le_refl _, Nat.le_refl _⟩ rfl rfl (Nat.le_of_ble_eq_true rfl) d_X12_sound_23 (fun H locs hw => ?_)
    refine lv_if_eq (tgt := 67) hx hb d_X12_sound_26 (by decide) (fun hc => ?_) (fun hc => ?_)
    · have h := ite_t h hc
      refine lv_iconst (v := (-1 : Int32)) hx hb d_X12_sound_67 (by decide) ?_
      obtain rfl := Option.some.inj h
      subst hQ
      exact r_iret X hr hlk hw d_X12_sound_68
    · have h := ite_f h hc
      refine lv_iload_n hx hb d_X12_sound_29 rfl (lv_at hl 3 rfl) ?_
      refine lv_i2l hx hb d_X12_sound_30 rfl ?_
      refine lv_lconst (v := (0 : Int64)) hx hb d_X12_sound_31 (by decide) ?_
      refine r_ldc2 X wd_1562 d_X12_sound_32 ?_
      obtain ⟨q5, e6, h⟩ := bd_some h
      refine r_callS (As := [.long a3.toInt64, .long (0 : Int64), .long (10 : Int64)]) (rest := []) (st' := [.int q5]) X hw hl mwX12_in wd_1093 wd_1092 (c_X12_in hf e6) rfl ⟨Nat.le_of_ble_eq_true rfl, Nat.le_of_ble_eq_true rfl⟩ ⟨Nat.le_refl _, Nat.le_refl _⟩ rfl rfl (Nat.le_of_ble_eq_true rfl) d_X12_sound_35 (fun H locs hw => ?_)
      refine lv_if_eq (tgt := 67) hx hb d_X12_sound_38 (by decide) (fun hc => ?_) (fun hc => ?_)
      · have h := ite_t h hc
        refine lv_iconst (v := (-1 : Int32)) hx hb d_X12_sound_67 (by decide) ?_
        obtain rfl := Option.some.inj h
        subst hQ
        exact r_iret X hr hlk hw d_X12_sound_68
      · have h := ite_f h hc
        refine lv_iload hx hb d_X12_sound_41 (lv_at hl 4 rfl) ?_
        refine lv_i2l hx hb d_X12_sound_43 rfl ?_
        refine lv_lconst (v := (0 : Int64)) hx hb d_X12_sound_44 (by decide) ?_
        refine r_ldc2 X wd_1359 d_X12_sound_45 ?_
        obtain ⟨q7, e8, h⟩ := bd_some h
        refine r_callS (As := [.long a4.toInt64, .long (0 : Int64), .long (8 : Int64)]) (rest := []) (st' := [.int q7]) X hw hl mwX12_in wd_1093 wd_1092 (c_X12_in hf e8) rfl ⟨Nat.le_of_ble_eq_true rfl, Nat.le_of_ble_eq_true rfl⟩ ⟨Nat.le_refl _, Nat.le_refl _⟩ rfl rfl (Nat.le_of_ble_eq_true rfl) d_X12_sound_48 (fun H locs hw => ?_)
        refine lv_if_eq (tgt := 67) hx hb d_X12_sound_51 (by decide) (fun hc => ?_) (fun hc => ?_)
        · have h := ite_t h hc
          refine lv_iconst (v := (-1 : Int32)) hx hb d_X12_sound_67 (by decide) ?_
          obtain rfl := Option.some.inj h
          subst hQ
          exact r_iret X hr hlk hw d_X12_sound_68
        · have h := ite_f h hc
          refine lv_iload hx hb d_X12_sound_54 (lv_at hl 5 rfl) ?_
          refine lv_i2l hx hb d_X12_sound_56 rfl ?_
          refine lv_lconst (v := (0 : Int64)) hx hb d_X12_sound_57 (by decide) ?_
          refine lv_iload hx hb d_X12_sound_58 (lv_at hl 4 rfl) ?_
          refine lv_i2l hx hb d_X12_sound_60 rfl ?_
          obtain ⟨q9, e10, h⟩ := bd_some h
          refine r_callS (As := [.long a5.toInt64, .long (0 : Int64), .long a4.toInt64]) (rest := []) (st' := [.int q9]) X hw hl mwX12_in wd_1093 wd_1092 (c_X12_in hf e10) rfl ⟨Nat.le_of_ble_eq_true rfl, Nat.le_of_ble_eq_true rfl⟩ ⟨Nat.le_refl _, Nat.le_refl _⟩ rfl rfl (Nat.le_of_ble_eq_true rfl) d_X12_sound_61 (fun H locs hw => ?_)
          refine lv_if_ne (tgt := 69) hx hb d_X12_sound_64 (by decide) (fun hc => ?_) (fun hc => ?_)
          · have h := ite_f h hc
            refine lv_iload_n hx hb d_X12_sound_69 rfl (lv_at hl 1 rfl) ?_
            refine lv_i2l hx hb d_X12_sound_70 rfl ?_
            refine lv_lstore (lv' := [(6, .long a1.toInt64), (0, .ref (ga G 300)), (1, .int a1), (2, .int a2), (3, .int a3), (4, .int a4), (5, .int a5)]) hx hb d_X12_sound_71 hl (Nat.le_of_ble_eq_true rfl) rfl (fun ls hl => ?_)
            refine lv_bipush (v := (10 : Int32)) hx hb d_X12_sound_73 (by decide) ?_
            refine lv_iload_n hx hb d_X12_sound_75 rfl (lv_at hl 2 rfl) ?_
            refine lv_isub hx hb d_X12_sound_76 ?_
            refine lv_i2l hx hb d_X12_sound_77 rfl ?_
            refine lv_lstore (lv' := [(8, .long ((10 : Int32) - a1).toInt64), (6, .long a1.toInt64), (0, .ref (ga G 300)), (1, .int a1), (2, .int a2), (3, .int a3), (4, .int a4), (5, .int a5)]) hx hb d_X12_sound_78 hl (Nat.le_of_ble_eq_true rfl) rfl (fun ls hl => ?_)
            refine lv_iconst (v := (0 : Int32)) hx hb d_X12_sound_80 (by decide) ?_
            refine lv_istore (lv' := [(10, .int (0 : Int32)), (8, .long ((10 : Int32) - a1).toInt64), (6, .long a1.toInt64), (0, .ref (ga G 300)), (1, .int a1), (2, .int a2), (3, .int a3), (4, .int a4), (5, .int a5)]) hx hb d_X12_sound_81 hl (Nat.le_of_ble_eq_true rfl) rfl (fun ls hl => ?_)
            obtain ⟨z11, e12, h⟩ := bd_some h
            refine iter_w (Wh := fun z : Int64 × Int64 × Int32 => Wat p l e (rmk 202 4849) s m args below meth c Q G 11 83 [] [(6, .long z.1), (8, .long z.2.1), (10, .int z.2.2), (0, .ref (ga G 300)), (2, .int a2), (3, .int a3), (4, .int a4), (5, .int a5)] χ (sF σ 300 0 (0 : Int32))) (K := fun z : Int64 × Int64 => Wat p l e (rmk 202 4849) s m args below meth c Q G 11 140 [] [(0, .ref (ga G 300)), (6, .long z.1), (8, .long z.2)] χ (sF σ 300 0 (0 : Int32))) (fun z o h1 h2 => b83 (sF σ 300 0 (0 : Int32)) a2 a3 a4 a5 z.1 z.2.1 z.2.2 o h1 h2) FU _ _ e12 ?_ _ _ _ hw (lv_sub hl [2, 1, 0, 3, 5, 6, 7, 8] rfl)
            intro H locs ls hw hl
            refine lv_lload hx hb d_X12_sound_140 (lv_at hl 1 rfl) ?_
            refine lv_lload hx hb d_X12_sound_142 (lv_at hl 2 rfl) ?_
            refine lv_ladd hx hb d_X12_sound_144 ?_
            refine lv_lconst (v := (0 : Int64)) hx hb d_X12_sound_145 (by decide) ?_
            refine W.lcmp hx hb d_X12_sound_146 ?_
            refine lv_if_ne (tgt := 155) hx hb d_X12_sound_147 (by decide) (fun hc => ?_) (fun hc => ?_)
            · have h := ite_f h hc
              refine lv_aload_n hx hb d_X12_sound_155 rfl (lv_at hl 0 rfl) ?_
              refine lv_lload hx hb d_X12_sound_156 (lv_at hl 1 rfl) ?_
              refine lv_lload hx hb d_X12_sound_158 (lv_at hl 1 rfl) ?_
              refine lv_lload hx hb d_X12_sound_160 (lv_at hl 2 rfl) ?_
              refine lv_ladd hx hb d_X12_sound_162 ?_
              obtain ⟨q14, e15, h⟩ := bd_some h
              refine r_callV (As := [.long z11.1, .long (z11.1 + z11.2)]) (rest := []) (st' := [.int q14.1]) X hw hl mwX12_entersFraction wd_1483 wp_61 wd_1481 (c_X12_entersFraction hf e15) (r_recv X hw ct8 (o_300 hf)) rfl ⟨Nat.le_of_ble_eq_true rfl, Nat.le_of_ble_eq_true rfl⟩ ⟨Nat.le_refl _, Nat.le_refl _⟩ rfl rfl (Nat.le_of_ble_eq_true rfl) d_X12_sound_163 (fun H locs hw => ?_)
              obtain rfl := Option.some.inj h
              subst hQ
              exact r_iret X hr hlk hw d_X12_sound_166
            · have h := ite_t h hc
              refine lv_bipush (v := (-2 : Int32)) hx hb d_X12_sound_150 (by decide) ?_
              refine lv_goto (tgt := 166) hx hb d_X12_sound_152 (by decide) ?_
              obtain rfl := Option.some.inj h
              subst hQ
              exact r_iret X hr hlk hw d_X12_sound_166
          · have h := ite_t h hc
            refine lv_iconst (v := (-1 : Int32)) hx hb d_X12_sound_67 (by decide) ?_
            obtain rfl := Option.some.inj h
            subst hQ
            exact r_iret X hr hlk hw d_X12_sound_68
abbrev yX12_mayTake : MethodName := ⟨"OysterBedsModel", "mayTake", "(I)Z"⟩
theorem mwX12_mayTake : MW yX12_mayTake prog_14_method_107_code 3 (some .boolean) 1 := ⟨wd_1575, wd_10, by decide +kernel⟩
theorem d_X12_mayTake_0 : decode prog_14_method_107_code 0 = .ok (.iconst 1, 1) := by decide +kernel
theorem d_X12_mayTake_1 : decode prog_14_method_107_code 1 = .ok (.istore_n 1, 1) := by decide +kernel
theorem d_X12_mayTake_2 : decode prog_14_method_107_code 2 = .ok (.iconst 2, 1) := by decide +kernel
theorem d_X12_mayTake_3 : decode prog_14_method_107_code 3 = .ok (.istore_n 2, 1) := by decide +kernel
theorem d_X12_mayTake_4 : decode prog_14_method_107_code 4 = .ok (.iload_n 2, 1) := by decide +kernel
theorem d_X12_mayTake_5 : decode prog_14_method_107_code 5 = .ok (.iload_n 0, 1) := by decide +kernel
theorem d_X12_mayTake_6 : decode prog_14_method_107_code 6 = .ok (.if_icmp .ge 25, 3) := by decide +kernel
theorem d_X12_mayTake_9 : decode prog_14_method_107_code 9 = .ok (.iload_n 1, 1) := by decide +kernel
theorem d_X12_mayTake_10 : decode prog_14_method_107_code 10 = .ok (.ifCond .eq 13, 3) := by decide +kernel
theorem d_X12_mayTake_13 : decode prog_14_method_107_code 13 = .ok (.iload_n 0, 1) := by decide +kernel
theorem d_X12_mayTake_14 : decode prog_14_method_107_code 14 = .ok (.iload_n 2, 1) := by decide +kernel
theorem d_X12_mayTake_15 : decode prog_14_method_107_code 15 = .ok (.irem, 1) := by decide +kernel
theorem d_X12_mayTake_16 : decode prog_14_method_107_code 16 = .ok (.ifCond .eq 7, 3) := by decide +kernel
theorem d_X12_mayTake_19 : decode prog_14_method_107_code 19 = .ok (.iconst 1, 1) := by decide +kernel
theorem d_X12_mayTake_20 : decode prog_14_method_107_code 20 = .ok (.goto 4, 3) := by decide +kernel
theorem d_X12_mayTake_23 : decode prog_14_method_107_code 23 = .ok (.iconst 0, 1) := by decide +kernel
theorem d_X12_mayTake_24 : decode prog_14_method_107_code 24 = .ok (.istore_n 1, 1) := by decide +kernel
theorem d_X12_mayTake_25 : decode prog_14_method_107_code 25 = .ok (.iinc 2 1, 3) := by decide +kernel
theorem d_X12_mayTake_28 : decode prog_14_method_107_code 28 = .ok (.goto (-24), 3) := by decide +kernel
theorem d_X12_mayTake_31 : decode prog_14_method_107_code 31 = .ok (.iload_n 1, 1) := by decide +kernel
theorem d_X12_mayTake_32 : decode prog_14_method_107_code 32 = .ok (.ireturn, 1) := by decide +kernel
def f_X12_mayTake_j24_4 (x0 : Int32) (x2 : Int32) (s0 : Int32) : Option ((Int32 × Int32) ⊕ (Int32)) := some (.inl (s0, (x2 + (1 : Int32))))
def f_X12_mayTake_s4 (y0 : Int32) (x1 : Int32) (x2 : Int32) : Option ((Int32 × Int32) ⊕ (Int32)) := (if y0 ≤ x2 then some (.inr x1) else (if x1 = 0 then f_X12_mayTake_j24_4 y0 x2 (0 : Int32) else gd (nz x2) (f_X12_mayTake_j24_4 y0 x2 (if (y0 - y0 / x2 * x2) = 0 then (0 : Int32) else (1 : Int32)))))
def f_X12_mayTake (a0 : Int32) : Option (Int32) := (iter (fun z => f_X12_mayTake_s4 a0 z.1 z.2) FU ((1 : Int32), (2 : Int32))).bind (fun z2 => gd (nb z2) (some z2))
theorem c_X12_mayTake {l : Launch} {G : gT} {χ σ : St} {a0 : Int32} (hf : FW G) {q : Int32} (h : f_X12_mayTake a0 = some q) : Ct l G yX12_mayTake prog_14_method_107_code 3 (some .boolean) 0 0 [.int a0] χ σ (some (.int q)) χ σ := by
  refine Ct.of (by decide) (Nat.le_of_ble_eq_true rfl) ?_
  intro p e s m args below meth c Q X hr hlk hQ
  have hx := X.1
  have hb := X.2.1
  have j24_4 : ∀ (x0 : Int32) (x2 : Int32) (s0 : Int32) (o : (Int32 × Int32) ⊕ (Int32)), f_X12_mayTake_j24_4 x0 x2 s0 = some o → Sum.elim (fun z : Int32 × Int32 => Wat p l e (rmk 0 0) s m args below meth c Q G 3 4 [] [(1, .int z.1), (2, .int z.2), (0, .int x0)] χ σ) (fun z : Int32 => Wat p l e (rmk 0 0) s m args below meth c Q G 3 31 [] [(1, .int z)] χ σ) o → Wat p l e (rmk 0 0) s m args below meth c Q G 3 24 [.int s0] [(0, .int x0), (2, .int x2)] χ σ := by
    intro x0 x2 s0 o h hk H locs ls hw hl
    unfold f_X12_mayTake_j24_4 at h
    refine lv_istore_n (lv' := [(1, .int s0), (0, .int x0), (2, .int x2)]) hx hb d_X12_mayTake_24 rfl hl (Nat.le_of_ble_eq_true rfl) rfl (fun ls hl => ?_)
    refine lv_iinc (v := (x2 + (1 : Int32))) (k := 2) (lv' := [(2, .int (x2 + (1 : Int32))), (1, .int s0), (0, .int x0)]) hx hb d_X12_mayTake_25 hl rfl (by rfl) (Nat.le_of_ble_eq_true rfl) rfl (fun ls hl => ?_)
    refine lv_goto (tgt := 4) hx hb d_X12_mayTake_28 (by decide) ?_
    obtain rfl := Option.some.inj h
    dsimp only [Sum.elim_inl] at hk
    exact hk _ _ _ hw (lv_sub hl [1, 0, 2] rfl)
  have b4 : ∀ (y0 : Int32) (x1 : Int32) (x2 : Int32) (o : (Int32 × Int32) ⊕ (Int32)), f_X12_mayTake_s4 y0 x1 x2 = some o → Sum.elim (fun z : Int32 × Int32 => Wat p l e (rmk 0 0) s m args below meth c Q G 3 4 [] [(1, .int z.1), (2, .int z.2), (0, .int y0)] χ σ) (fun z : Int32 => Wat p l e (rmk 0 0) s m args below meth c Q G 3 31 [] [(1, .int z)] χ σ) o → Wat p l e (rmk 0 0) s m args below meth c Q G 3 4 [] [(1, .int x1), (2, .int x2), (0, .int y0)] χ σ := by
    intro y0 x1 x2 o h hk H locs ls hw hl
    unfold f_X12_mayTake_s4 at h
    refine lv_iload_n hx hb d_X12_mayTake_4 rfl (lv_at hl 1 rfl) ?_
    refine lv_iload_n hx hb d_X12_mayTake_5 rfl (lv_at hl 2 rfl) ?_
    refine lv_icmp_ge (tgt := 31) hx hb d_X12_mayTake_6 (by decide) (fun hc => ?_) (fun hc => ?_)
    · have h := ite_t h hc
      obtain rfl := Option.some.inj h
      dsimp only [Sum.elim_inr] at hk
      exact hk _ _ _ hw (lv_sub hl [0] rfl)
    · have h := ite_f h hc
      refine lv_iload_n hx hb d_X12_mayTake_9 rfl (lv_at hl 0 rfl) ?_
      refine lv_if_eq (tgt := 23) hx hb d_X12_mayTake_10 (by decide) (fun hc => ?_) (fun hc => ?_)
      · have h := ite_t h hc
        refine lv_iconst (v := (0 : Int32)) hx hb d_X12_mayTake_23 (by decide) ?_
        exact j24_4 y0 x2 (0 : Int32) o h hk _ _ _ hw (lv_sub hl [2, 1] rfl)
      · have h := ite_f h hc
        refine lv_iload_n hx hb d_X12_mayTake_13 rfl (lv_at hl 2 rfl) ?_
        refine lv_iload_n hx hb d_X12_mayTake_14 rfl (lv_at hl 1 rfl) ?_
        obtain ⟨hz1, h⟩ := gd_some h
        refine lv_irem hx hb d_X12_mayTake_15 (nz_ne hz1) ?_
        refine lv_if_eq (tgt := 23) hx hb d_X12_mayTake_16 (by decide) (fun hc => ?_) (fun hc => ?_)
        · simp only [if_pos hc] at h
          refine lv_iconst (v := (0 : Int32)) hx hb d_X12_mayTake_23 (by decide) ?_
          exact j24_4 y0 x2 (0 : Int32) o h hk _ _ _ hw (lv_sub hl [2, 1] rfl)
        · simp only [if_neg hc] at h
          refine lv_iconst (v := (1 : Int32)) hx hb d_X12_mayTake_19 (by decide) ?_
          refine lv_goto (tgt := 24) hx hb d_X12_mayTake_20 (by decide) ?_
          exact j24_4 y0 x2 (1 : Int32) o h hk _ _ _ hw (lv_sub hl [2, 1] rfl)
  intro H locs ls hw hl
  have hl : lv_has ls 3 [(0, .int a0)] := hl
  unfold f_X12_mayTake at h
  refine lv_iconst (v := (1 : Int32)) hx hb d_X12_mayTake_0 (by decide) ?_
  refine lv_istore_n (lv' := [(1, .int (1 : Int32)), (0, .int a0)]) hx hb d_X12_mayTake_1 rfl hl (Nat.le_of_ble_eq_true rfl) rfl (fun ls hl => ?_)
  refine lv_iconst (v := (2 : Int32)) hx hb d_X12_mayTake_2 (by decide) ?_
  refine lv_istore_n (lv' := [(2, .int (2 : Int32)), (1, .int (1 : Int32)), (0, .int a0)]) hx hb d_X12_mayTake_3 rfl hl (Nat.le_of_ble_eq_true rfl) rfl (fun ls hl => ?_)
  obtain ⟨z2, e3, h⟩ := bd_some h
  refine iter_w (Wh := fun z : Int32 × Int32 => Wat p l e (rmk 0 0) s m args below meth c Q G 3 4 [] [(1, .int z.1), (2, .int z.2), (0, .int a0)] χ σ) (K := fun z : Int32 => Wat p l e (rmk 0 0) s m args below meth c Q G 3 31 [] [(1, .int z)] χ σ) (fun z o h1 h2 => b4 a0 z.1 z.2 o h1 h2) FU _ _ e3 ?_ _ _ _ hw (lv_sub hl [1, 0, 2] rfl)
  intro H locs ls hw hl
  refine lv_iload_n hx hb d_X12_mayTake_31 rfl (lv_at hl 0 rfl) ?_
  obtain ⟨hv5, h⟩ := gd_some h
  obtain rfl := Option.some.inj h
  subst hQ
  exact r_zret X hr (nb_of hv5) hlk hw d_X12_mayTake_32
abbrev yX12_firm : MethodName := ⟨"OysterBedsModel", "firm", "(II)I"⟩
theorem mwX12_firm : MW yX12_firm prog_14_method_108_code 5 (some .int) 2 := ⟨wd_1570, wd_10, by decide +kernel⟩
theorem d_X12_firm_0 : decode prog_14_method_108_code 0 = .ok (.aload_n 0, 1) := by decide +kernel
theorem d_X12_firm_1 : decode prog_14_method_108_code 1 = .ok (.iconst 0, 1) := by decide +kernel
theorem d_X12_firm_2 : decode prog_14_method_108_code 2 = .ok (.putfield 87, 3) := by decide +kernel
theorem d_X12_firm_5 : decode prog_14_method_108_code 5 = .ok (.iload_n 1, 1) := by decide +kernel
theorem d_X12_firm_6 : decode prog_14_method_108_code 6 = .ok (.i2l, 1) := by decide +kernel
theorem d_X12_firm_7 : decode prog_14_method_108_code 7 = .ok (.lconst 0, 1) := by decide +kernel
theorem d_X12_firm_8 : decode prog_14_method_108_code 8 = .ok (.ldc2_w 279, 3) := by decide +kernel
theorem d_X12_firm_11 : decode prog_14_method_108_code 11 = .ok (.invokestatic 105, 3) := by decide +kernel
theorem d_X12_firm_14 : decode prog_14_method_108_code 14 = .ok (.ifCond .eq 17, 3) := by decide +kernel
theorem d_X12_firm_17 : decode prog_14_method_108_code 17 = .ok (.iload_n 2, 1) := by decide +kernel
theorem d_X12_firm_18 : decode prog_14_method_108_code 18 = .ok (.i2l, 1) := by decide +kernel
theorem d_X12_firm_19 : decode prog_14_method_108_code 19 = .ok (.ldc2_w 400, 3) := by decide +kernel
theorem d_X12_firm_22 : decode prog_14_method_108_code 22 = .ok (.ldc2_w 402, 3) := by decide +kernel
theorem d_X12_firm_25 : decode prog_14_method_108_code 25 = .ok (.invokestatic 105, 3) := by decide +kernel
theorem d_X12_firm_28 : decode prog_14_method_108_code 28 = .ok (.ifCond .ne 5, 3) := by decide +kernel
theorem d_X12_firm_31 : decode prog_14_method_108_code 31 = .ok (.iconst (-1), 1) := by decide +kernel
theorem d_X12_firm_32 : decode prog_14_method_108_code 32 = .ok (.ireturn, 1) := by decide +kernel
theorem d_X12_firm_33 : decode prog_14_method_108_code 33 = .ok (.aload_n 0, 1) := by decide +kernel
theorem d_X12_firm_34 : decode prog_14_method_108_code 34 = .ok (.getfield 71, 3) := by decide +kernel
theorem d_X12_firm_37 : decode prog_14_method_108_code 37 = .ok (.iconst 0, 1) := by decide +kernel
theorem d_X12_firm_38 : decode prog_14_method_108_code 38 = .ok (.iconst 1, 1) := by decide +kernel
theorem d_X12_firm_39 : decode prog_14_method_108_code 39 = .ok (.iastore, 1) := by decide +kernel
theorem d_X12_firm_40 : decode prog_14_method_108_code 40 = .ok (.iconst 1, 1) := by decide +kernel
theorem d_X12_firm_41 : decode prog_14_method_108_code 41 = .ok (.istore_n 3, 1) := by decide +kernel
theorem d_X12_firm_42 : decode prog_14_method_108_code 42 = .ok (.iload_n 3, 1) := by decide +kernel
theorem d_X12_firm_43 : decode prog_14_method_108_code 43 = .ok (.iload_n 1, 1) := by decide +kernel
theorem d_X12_firm_44 : decode prog_14_method_108_code 44 = .ok (.if_icmp .gt 71, 3) := by decide +kernel
theorem d_X12_firm_47 : decode prog_14_method_108_code 47 = .ok (.aload_n 0, 1) := by decide +kernel
theorem d_X12_firm_48 : decode prog_14_method_108_code 48 = .ok (.getfield 71, 3) := by decide +kernel
theorem d_X12_firm_51 : decode prog_14_method_108_code 51 = .ok (.iload_n 3, 1) := by decide +kernel
theorem d_X12_firm_52 : decode prog_14_method_108_code 52 = .ok (.iconst 0, 1) := by decide +kernel
theorem d_X12_firm_53 : decode prog_14_method_108_code 53 = .ok (.iastore, 1) := by decide +kernel
theorem d_X12_firm_54 : decode prog_14_method_108_code 54 = .ok (.iload_n 2, 1) := by decide +kernel
theorem d_X12_firm_55 : decode prog_14_method_108_code 55 = .ok (.iload_n 3, 1) := by decide +kernel
theorem d_X12_firm_56 : decode prog_14_method_108_code 56 = .ok (.invokestatic 126, 3) := by decide +kernel
theorem d_X12_firm_59 : decode prog_14_method_108_code 59 = .ok (.istore 4, 2) := by decide +kernel
theorem d_X12_firm_61 : decode prog_14_method_108_code 61 = .ok (.iload 4, 2) := by decide +kernel
theorem d_X12_firm_63 : decode prog_14_method_108_code 63 = .ok (.ifCond .le 46, 3) := by decide +kernel
theorem d_X12_firm_66 : decode prog_14_method_108_code 66 = .ok (.aload_n 0, 1) := by decide +kernel
theorem d_X12_firm_67 : decode prog_14_method_108_code 67 = .ok (.getfield 71, 3) := by decide +kernel
theorem d_X12_firm_70 : decode prog_14_method_108_code 70 = .ok (.iload_n 3, 1) := by decide +kernel
theorem d_X12_firm_71 : decode prog_14_method_108_code 71 = .ok (.iload 4, 2) := by decide +kernel
theorem d_X12_firm_73 : decode prog_14_method_108_code 73 = .ok (.invokestatic 404, 3) := by decide +kernel
theorem d_X12_firm_76 : decode prog_14_method_108_code 76 = .ok (.ifCond .eq 20, 3) := by decide +kernel
theorem d_X12_firm_79 : decode prog_14_method_108_code 79 = .ok (.aload_n 0, 1) := by decide +kernel
theorem d_X12_firm_80 : decode prog_14_method_108_code 80 = .ok (.getfield 71, 3) := by decide +kernel
theorem d_X12_firm_83 : decode prog_14_method_108_code 83 = .ok (.iload_n 3, 1) := by decide +kernel
theorem d_X12_firm_84 : decode prog_14_method_108_code 84 = .ok (.iload 4, 2) := by decide +kernel
theorem d_X12_firm_86 : decode prog_14_method_108_code 86 = .ok (.isub, 1) := by decide +kernel
theorem d_X12_firm_87 : decode prog_14_method_108_code 87 = .ok (.iaload, 1) := by decide +kernel
theorem d_X12_firm_88 : decode prog_14_method_108_code 88 = .ok (.ifCond .ne 8, 3) := by decide +kernel
theorem d_X12_firm_91 : decode prog_14_method_108_code 91 = .ok (.iload 4, 2) := by decide +kernel
theorem d_X12_firm_93 : decode prog_14_method_108_code 93 = .ok (.goto 9, 3) := by decide +kernel
theorem d_X12_firm_96 : decode prog_14_method_108_code 96 = .ok (.aload_n 0, 1) := by decide +kernel
theorem d_X12_firm_97 : decode prog_14_method_108_code 97 = .ok (.getfield 71, 3) := by decide +kernel
theorem d_X12_firm_100 : decode prog_14_method_108_code 100 = .ok (.iload_n 3, 1) := by decide +kernel
theorem d_X12_firm_101 : decode prog_14_method_108_code 101 = .ok (.iaload, 1) := by decide +kernel
theorem d_X12_firm_102 : decode prog_14_method_108_code 102 = .ok (.iastore, 1) := by decide +kernel
theorem d_X12_firm_103 : decode prog_14_method_108_code 103 = .ok (.iinc 4 (-1), 3) := by decide +kernel
theorem d_X12_firm_106 : decode prog_14_method_108_code 106 = .ok (.goto (-45), 3) := by decide +kernel
theorem d_X12_firm_109 : decode prog_14_method_108_code 109 = .ok (.iinc 3 1, 3) := by decide +kernel
theorem d_X12_firm_112 : decode prog_14_method_108_code 112 = .ok (.goto (-70), 3) := by decide +kernel
theorem d_X12_firm_115 : decode prog_14_method_108_code 115 = .ok (.iload_n 1, 1) := by decide +kernel
theorem d_X12_firm_116 : decode prog_14_method_108_code 116 = .ok (.ifCond .ne 7, 3) := by decide +kernel
theorem d_X12_firm_119 : decode prog_14_method_108_code 119 = .ok (.iconst 0, 1) := by decide +kernel
theorem d_X12_firm_120 : decode prog_14_method_108_code 120 = .ok (.goto 9, 3) := by decide +kernel
theorem d_X12_firm_123 : decode prog_14_method_108_code 123 = .ok (.aload_n 0, 1) := by decide +kernel
theorem d_X12_firm_124 : decode prog_14_method_108_code 124 = .ok (.getfield 71, 3) := by decide +kernel
theorem d_X12_firm_127 : decode prog_14_method_108_code 127 = .ok (.iload_n 1, 1) := by decide +kernel
theorem d_X12_firm_128 : decode prog_14_method_108_code 128 = .ok (.iaload, 1) := by decide +kernel
theorem d_X12_firm_129 : decode prog_14_method_108_code 129 = .ok (.ireturn, 1) := by decide +kernel
def f_X12_firm_j102_61 (τ : St) (x1 : Int32) (x2 : Int32) (x3 : Int32) (x4 : Int32) (s1 : Int32) (s2 : Int32) : Option ((Int32 × St) ⊕ (St)) := gd (inb s1 61) (some (.inl ((x4 + (-1 : Int32)), (sA τ 335 s1.toNatClampNeg s2))))
def f_X12_firm_j96_61 (τ : St) (x1 : Int32) (x2 : Int32) (x3 : Int32) (x4 : Int32) (s1 : Int32) : Option ((Int32 × St) ⊕ (St)) := gd (inb x3 61) (f_X12_firm_j102_61 τ x1 x2 x3 x4 s1 (cA τ 335 x3.toNatClampNeg))
def f_X12_firm_s61 (τ : St) (y1 : Int32) (y2 : Int32) (y3 : Int32) (x4 : Int32) : Option ((Int32 × St) ⊕ (St)) := (if x4 ≤ 0 then some (.inr τ) else (f_X12_mayTake x4).bind (fun q7 => (if q7 = 0 then f_X12_firm_j96_61 τ y1 y2 y3 x4 y3 else gd (inb (y3 - x4) 61) ((if (cA τ 335 (y3 - x4).toNatClampNeg) = 0 then f_X12_firm_j102_61 τ y1 y2 y3 x4 y3 x4 else f_X12_firm_j96_61 τ y1 y2 y3 x4 y3)))))
def f_X12_firm_s42 (τ : St) (y1 : Int32) (y2 : Int32) (x3 : Int32) : Option ((Int32 × St) ⊕ (St)) := (if y1 < x3 then some (.inr τ) else gd (inb x3 61) ((iter (fun z => f_X12_firm_s61 z.2 y1 y2 x3 z.1) FU ((if x3 < y2 then x3 else y2), (sA τ 335 x3.toNatClampNeg (0 : Int32)))).bind (fun z12 => some (.inl ((x3 + (1 : Int32)), z12)))))
def f_X12_firm (σ : St) (a1 : Int32) (a2 : Int32) : Option (Int32 × St) := (f_X12_in a1.toInt64 (0 : Int64) (60 : Int64)).bind (fun q1 => (if q1 = 0 then some ((-1 : Int32), (sF σ 300 0 (0 : Int32))) else (f_X12_in a2.toInt64 (2 : Int64) (30 : Int64)).bind (fun q3 => (if q3 = 0 then some ((-1 : Int32), (sF σ 300 0 (0 : Int32))) else gd (inb (0 : Int32) 61) ((iter (fun z => f_X12_firm_s42 z.2 a1 a2 z.1) FU ((1 : Int32), (sA (sF σ 300 0 (0 : Int32)) 335 (0 : Int32).toNatClampNeg (1 : Int32)))).bind (fun z15 => (if a1 = 0 then some ((0 : Int32), z15) else gd (inb a1 61) (some ((cA z15 335 a1.toNatClampNeg), z15)))))))))
theorem c_X12_firm {l : Launch} {G : gT} {χ σ : St} {a1 : Int32} {a2 : Int32} (hf : FW G) {q : Int32 × St} (h : f_X12_firm σ a1 a2 = some q) : Ct l G yX12_firm prog_14_method_108_code 5 (some .int) 1 25 [.ref (ga G 300), .int a1, .int a2] χ σ (some (.int q.1)) χ q.2 := by
  refine Ct.of (by decide) (Nat.le_of_ble_eq_true rfl) ?_
  intro p e s m args below meth c Q X hr hlk hQ
  have hx := X.1
  have hb := X.2.1
  have j102_61 : ∀ (τ : St) (x1 : Int32) (x2 : Int32) (x3 : Int32) (x4 : Int32) (s1 : Int32) (s2 : Int32) (o : (Int32 × St) ⊕ (St)), f_X12_firm_j102_61 τ x1 x2 x3 x4 s1 s2 = some o → Sum.elim (fun z : Int32 × St => Wat p l e (rmk 1 25) s m args below meth c Q G 5 61 [] [(4, .int z.1), (0, .ref (ga G 300)), (1, .int x1), (2, .int x2), (3, .int x3)] χ z.2) (fun z : St => Wat p l e (rmk 1 25) s m args below meth c Q G 5 109 [] [(0, .ref (ga G 300)), (1, .int x1), (2, .int x2), (3, .int x3)] χ z) o → Wat p l e (rmk 1 25) s m args below meth c Q G 5 102 [.int s2, .int s1, .ref (ga G 335)] [(0, .ref (ga G 300)), (1, .int x1), (2, .int x2), (3, .int x3), (4, .int x4)] χ τ := by
    intro τ x1 x2 x3 x4 s1 s2 o h hk H locs ls hw hl
    unfold f_X12_firm_j102_61 at h
    obtain ⟨hi10, h⟩ := gd_some h
    refine m_iast X hw (o_335 hf) (Nat.le_of_ble_eq_true rfl) hi10 d_X12_firm_102 (fun H locs hw => ?_)
    refine lv_iinc (v := (x4 + (-1 : Int32))) (k := 4) (lv' := [(4, .int (x4 + (-1 : Int32))), (0, .ref (ga G 300)), (1, .int x1), (2, .int x2), (3, .int x3)]) hx hb d_X12_firm_103 hl rfl (by rfl) (Nat.le_of_ble_eq_true rfl) rfl (fun ls hl => ?_)
    refine lv_goto (tgt := 61) hx hb d_X12_firm_106 (by decide) ?_
    obtain rfl := Option.some.inj h
    dsimp only [Sum.elim_inl] at hk
    exact hk _ _ _ hw (lv_sub hl [0, 1, 2, 3, 4] rfl)
  have j96_61 : ∀ (τ : St) (x1 : Int32) (x2 : Int32) (x3 : Int32) (x4 : Int32) (s1 : Int32) (o : (Int32 × St) ⊕ (St)), f_X12_firm_j96_61 τ x1 x2 x3 x4 s1 = some o → Sum.elim (fun z : Int32 × St => Wat p l e (rmk 1 25) s m args below meth c Q G 5 61 [] [(4, .int z.1), (0, .ref (ga G 300)), (1, .int x1), (2, .int x2), (3, .int x3)] χ z.2) (fun z : St => Wat p l e (rmk 1 25) s m args below meth c Q G 5 109 [] [(0, .ref (ga G 300)), (1, .int x1), (2, .int x2), (3, .int x3)] χ z) o → Wat p l e (rmk 1 25) s m args below meth c Q G 5 96 [.int s1, .ref (ga G 335)] [(0, .ref (ga G 300)), (1, .int x1), (2, .int x2), (3, .int x3), (4, .int x4)] χ τ := by
    intro τ x1 x2 x3 x4 s1 o h hk H locs ls hw hl
    unfold f_X12_firm_j96_61 at h
    refine lv_aload_n hx hb d_X12_firm_96 rfl (lv_at hl 0 rfl) ?_
    refine r_getr (j := 35) X hw ct8 (o_300 hf) rfl (Nat.le_of_ble_eq_true rfl) (q := 335) rfl wd_991 d_X12_firm_97 ?_
    refine lv_iload_n hx hb d_X12_firm_100 rfl (lv_at hl 3 rfl) ?_
    obtain ⟨hi9, h⟩ := gd_some h
    refine m_iald X hw (o_335 hf) (Nat.le_of_ble_eq_true rfl) hi9 d_X12_firm_101 ?_
    exact j102_61 τ x1 x2 x3 x4 s1 (cA τ 335 x3.toNatClampNeg) o h hk _ _ _ hw (lv_sub hl [0, 1, 2, 3, 4] rfl)
  have b61 : ∀ (τ : St) (y1 : Int32) (y2 : Int32) (y3 : Int32) (x4 : Int32) (o : (Int32 × St) ⊕ (St)), f_X12_firm_s61 τ y1 y2 y3 x4 = some o → Sum.elim (fun z : Int32 × St => Wat p l e (rmk 1 25) s m args below meth c Q G 5 61 [] [(4, .int z.1), (0, .ref (ga G 300)), (1, .int y1), (2, .int y2), (3, .int y3)] χ z.2) (fun z : St => Wat p l e (rmk 1 25) s m args below meth c Q G 5 109 [] [(0, .ref (ga G 300)), (1, .int y1), (2, .int y2), (3, .int y3)] χ z) o → Wat p l e (rmk 1 25) s m args below meth c Q G 5 61 [] [(4, .int x4), (0, .ref (ga G 300)), (1, .int y1), (2, .int y2), (3, .int y3)] χ τ := by
    intro τ y1 y2 y3 x4 o h hk H locs ls hw hl
    unfold f_X12_firm_s61 at h
    refine lv_iload hx hb d_X12_firm_61 (lv_at hl 0 rfl) ?_
    refine lv_if_le (tgt := 109) hx hb d_X12_firm_63 (by decide) (fun hc => ?_) (fun hc => ?_)
    · have h := ite_t h hc
      obtain rfl := Option.some.inj h
      dsimp only [Sum.elim_inr] at hk
      exact hk _ _ _ hw (lv_sub hl [1, 2, 3, 4] rfl)
    · have h := ite_f h hc
      refine lv_aload_n hx hb d_X12_firm_66 rfl (lv_at hl 1 rfl) ?_
      refine r_getr (j := 35) X hw ct8 (o_300 hf) rfl (Nat.le_of_ble_eq_true rfl) (q := 335) rfl wd_991 d_X12_firm_67 ?_
      refine lv_iload_n hx hb d_X12_firm_70 rfl (lv_at hl 4 rfl) ?_
      refine lv_iload hx hb d_X12_firm_71 (lv_at hl 0 rfl) ?_
      obtain ⟨q7, e8, h⟩ := bd_some h
      refine r_callS (As := [.int x4]) (rest := [.int y3, .ref (ga G 335)]) (st' := [.int q7, .int y3, .ref (ga G 335)]) X hw hl mwX12_mayTake wd_1574 wd_1573 (c_X12_mayTake hf e8) rfl ⟨Nat.le_of_ble_eq_true rfl, Nat.le_of_ble_eq_true rfl⟩ ⟨Nat.le_refl _, Nat.le_refl _⟩ rfl rfl (Nat.le_of_ble_eq_true rfl) d_X12_firm_73 (fun H locs hw => ?_)
      refine lv_if_eq (tgt := 96) hx hb d_X12_firm_76 (by decide) (fun hc => ?_) (fun hc => ?_)
      · have h := ite_t h hc
        exact j96_61 τ y1 y2 y3 x4 y3 o h hk _ _ _ hw (lv_sub hl [1, 2, 3, 4, 0] rfl)
      · have h := ite_f h hc
        refine lv_aload_n hx hb d_X12_firm_79 rfl (lv_at hl 1 rfl) ?_
        refine r_getr (j := 35) X hw ct8 (o_300 hf) rfl (Nat.le_of_ble_eq_true rfl) (q := 335) rfl wd_991 d_X12_firm_80 ?_
        refine lv_iload_n hx hb d_X12_firm_83 rfl (lv_at hl 4 rfl) ?_
        refine lv_iload hx hb d_X12_firm_84 (lv_at hl 0 rfl) ?_
        refine lv_isub hx hb d_X12_firm_86 ?_
        obtain ⟨hi11, h⟩ := gd_some h
        refine m_iald X hw (o_335 hf) (Nat.le_of_ble_eq_true rfl) hi11 d_X12_firm_87 ?_
        refine lv_if_ne (tgt := 96) hx hb d_X12_firm_88 (by decide) (fun hc => ?_) (fun hc => ?_)
        · have h := ite_f h hc
          exact j96_61 τ y1 y2 y3 x4 y3 o h hk _ _ _ hw (lv_sub hl [1, 2, 3, 4, 0] rfl)
        · have h := ite_t h hc
          refine lv_iload hx hb d_X12_firm_91 (lv_at hl 0 rfl) ?_
          refine lv_goto (tgt := 102) hx hb d_X12_firm_93 (by decide) ?_
          exact j102_61 τ y1 y2 y3 x4 y3 x4 o h hk _ _ _ hw (lv_sub hl [1, 2, 3, 4, 0] rfl)
  have b42 : ∀ (τ : St) (y1 : Int32) (y2 : Int32) (x3 : Int32) (o : (Int32 × St) ⊕ (St)), f_X12_firm_s42 τ y1 y2 x3 = some o → Sum.elim (fun z : Int32 × St => Wat p l e (rmk 1 25) s m args below meth c Q G 5 42 [] [(3, .int z.1), (0, .ref (ga G 300)), (1, .int y1), (2, .int y2)] χ z.2) (fun z : St => Wat p l e (rmk 1 25) s m args below meth c Q G 5 115 [] [(0, .ref (ga G 300)), (1, .int y1)] χ z) o → Wat p l e (rmk 1 25) s m args below meth c Q G 5 42 [] [(3, .int x3), (0, .ref (ga G 300)), (1, .int y1), (2, .int y2)] χ τ := by
    intro τ y1 y2 x3 o h hk H locs ls hw hl
    unfold f_X12_firm_s42 at h
    refine lv_iload_n hx hb d_X12_firm_42 rfl (lv_at hl 0 rfl) ?_
    refine lv_iload_n hx hb d_X12_firm_43 rfl (lv_at hl 2 rfl) ?_
    refine lv_icmp_gt (tgt := 115) hx hb d_X12_firm_44 (by decide) (fun hc => ?_) (fun hc => ?_)
    · have h := ite_t h hc
      obtain rfl := Option.some.inj h
      dsimp only [Sum.elim_inr] at hk
      exact hk _ _ _ hw (lv_sub hl [1, 2] rfl)
    · have h := ite_f h hc
      refine lv_aload_n hx hb d_X12_firm_47 rfl (lv_at hl 1 rfl) ?_
      refine r_getr (j := 35) X hw ct8 (o_300 hf) rfl (Nat.le_of_ble_eq_true rfl) (q := 335) rfl wd_991 d_X12_firm_48 ?_
      refine lv_iload_n hx hb d_X12_firm_51 rfl (lv_at hl 0 rfl) ?_
      refine lv_iconst (v := (0 : Int32)) hx hb d_X12_firm_52 (by decide) ?_
      obtain ⟨hi6, h⟩ := gd_some h
      refine m_iast X hw (o_335 hf) (Nat.le_of_ble_eq_true rfl) hi6 d_X12_firm_53 (fun H locs hw => ?_)
      refine lv_iload_n hx hb d_X12_firm_54 rfl (lv_at hl 3 rfl) ?_
      refine lv_iload_n hx hb d_X12_firm_55 rfl (lv_at hl 0 rfl) ?_
      refine r_min X hl wd_1103 ⟨Nat.le_of_ble_eq_true rfl, Nat.le_of_ble_eq_true rfl⟩ ⟨Nat.le_refl _, Nat.le_refl _⟩ d_X12_firm_56 ?_
      refine lv_istore (lv' := [(4, .int (if x3 < y2 then x3 else y2)), (3, .int x3), (0, .ref (ga G 300)), (1, .int y1), (2, .int y2)]) hx hb d_X12_firm_59 hl (Nat.le_of_ble_eq_true rfl) rfl (fun ls hl => ?_)
      obtain ⟨z12, e13, h⟩ := bd_some h
      refine iter_w (Wh := fun z : Int32 × St => Wat p l e (rmk 1 25) s m args below meth c Q G 5 61 [] [(4, .int z.1), (0, .ref (ga G 300)), (1, .int y1), (2, .int y2), (3, .int x3)] χ z.2) (K := fun z : St => Wat p l e (rmk 1 25) s m args below meth c Q G 5 109 [] [(0, .ref (ga G 300)), (1, .int y1), (2, .int y2), (3, .int x3)] χ z) (fun z o h1 h2 => b61 z.2 y1 y2 x3 z.1 o h1 h2) FU _ _ e13 ?_ _ _ _ hw (lv_sub hl [0, 2, 3, 4, 1] rfl)
      intro H locs ls hw hl
      refine lv_iinc (v := (x3 + (1 : Int32))) (k := 3) (lv' := [(3, .int (x3 + (1 : Int32))), (0, .ref (ga G 300)), (1, .int y1), (2, .int y2)]) hx hb d_X12_firm_109 hl rfl (by rfl) (Nat.le_of_ble_eq_true rfl) rfl (fun ls hl => ?_)
      refine lv_goto (tgt := 42) hx hb d_X12_firm_112 (by decide) ?_
      obtain rfl := Option.some.inj h
      dsimp only [Sum.elim_inl] at hk
      exact hk _ _ _ hw (lv_sub hl [0, 1, 2, 3] rfl)
  intro H locs ls hw hl
  have hl : lv_has ls 5 [(0, .ref (ga G 300)), (1, .int a1), (2, .int a2)] := hl
  unfold f_X12_firm at h
  refine lv_aload_n hx hb d_X12_firm_0 rfl (lv_at hl 0 rfl) ?_
  refine lv_iconst (v := (0 : Int32)) hx hb d_X12_firm_1 (by decide) ?_
  refine m_puti (j := 0) X hw ct8 (o_300 hf) (Nat.le_of_ble_eq_true rfl) rfl (Nat.le_of_ble_eq_true rfl) rfl rfl rfl wd_956 d_X12_firm_2 (fun H locs hw => ?_)
  refine lv_iload_n hx hb d_X12_firm_5 rfl (lv_at hl 1 rfl) ?_
  refine lv_i2l hx hb d_X12_firm_6 rfl ?_
  refine lv_lconst (v := (0 : Int64)) hx hb d_X12_firm_7 (by decide) ?_
  refine r_ldc2 X wd_1292 d_X12_firm_8 ?_
  obtain ⟨q1, e2, h⟩ := bd_some h
  refine r_callS (As := [.long a1.toInt64, .long (0 : Int64), .long (60 : Int64)]) (rest := []) (st' := [.int q1]) X hw hl mwX12_in wd_1093 wd_1092 (c_X12_in hf e2) rfl ⟨Nat.le_of_ble_eq_true rfl, Nat.le_of_ble_eq_true rfl⟩ ⟨Nat.le_refl _, Nat.le_refl _⟩ rfl rfl (Nat.le_of_ble_eq_true rfl) d_X12_firm_11 (fun H locs hw => ?_)
  refine lv_if_eq (tgt := 31) hx hb d_X12_firm_14 (by decide) (fun hc => ?_) (fun hc => ?_)
  · have h := ite_t h hc
    refine lv_iconst (v := (-1 : Int32)) hx hb d_X12_firm_31 (by decide) ?_
    obtain rfl := Option.some.inj h
    subst hQ
    exact r_iret X hr hlk hw d_X12_firm_32
  · have h := ite_f h hc
    refine lv_iload_n hx hb d_X12_firm_17 rfl (lv_at hl 2 rfl) ?_
    refine lv_i2l hx hb d_X12_firm_18 rfl ?_
    refine r_ldc2 X wd_1571 d_X12_firm_19 ?_
    refine r_ldc2 X wd_1572 d_X12_firm_22 ?_
    obtain ⟨q3, e4, h⟩ := bd_some h
    refine r_callS (As := [.long a2.toInt64, .long (2 : Int64), .long (30 : Int64)]) (rest := []) (st' := [.int q3]) X hw hl mwX12_in wd_1093 wd_1092 (c_X12_in hf e4) rfl ⟨Nat.le_of_ble_eq_true rfl, Nat.le_of_ble_eq_true rfl⟩ ⟨Nat.le_refl _, Nat.le_refl _⟩ rfl rfl (Nat.le_of_ble_eq_true rfl) d_X12_firm_25 (fun H locs hw => ?_)
    refine lv_if_ne (tgt := 33) hx hb d_X12_firm_28 (by decide) (fun hc => ?_) (fun hc => ?_)
    · have h := ite_f h hc
      refine lv_aload_n hx hb d_X12_firm_33 rfl (lv_at hl 0 rfl) ?_
      refine r_getr (j := 35) X hw ct8 (o_300 hf) rfl (Nat.le_of_ble_eq_true rfl) (q := 335) rfl wd_991 d_X12_firm_34 ?_
      refine lv_iconst (v := (0 : Int32)) hx hb d_X12_firm_37 (by decide) ?_
      refine lv_iconst (v := (1 : Int32)) hx hb d_X12_firm_38 (by decide) ?_
      obtain ⟨hi5, h⟩ := gd_some h
      refine m_iast X hw (o_335 hf) (Nat.le_of_ble_eq_true rfl) hi5 d_X12_firm_39 (fun H locs hw => ?_)
      refine lv_iconst (v := (1 : Int32)) hx hb d_X12_firm_40 (by decide) ?_
      refine lv_istore_n (lv' := [(3, .int (1 : Int32)), (0, .ref (ga G 300)), (1, .int a1), (2, .int a2)]) hx hb d_X12_firm_41 rfl hl (Nat.le_of_ble_eq_true rfl) rfl (fun ls hl => ?_)
      obtain ⟨z15, e16, h⟩ := bd_some h
      refine iter_w (Wh := fun z : Int32 × St => Wat p l e (rmk 1 25) s m args below meth c Q G 5 42 [] [(3, .int z.1), (0, .ref (ga G 300)), (1, .int a1), (2, .int a2)] χ z.2) (K := fun z : St => Wat p l e (rmk 1 25) s m args below meth c Q G 5 115 [] [(0, .ref (ga G 300)), (1, .int a1)] χ z) (fun z o h1 h2 => b42 z.2 a1 a2 z.1 o h1 h2) FU _ _ e16 ?_ _ _ _ hw (lv_sub hl [0, 1, 2, 3] rfl)
      intro H locs ls hw hl
      refine lv_iload_n hx hb d_X12_firm_115 rfl (lv_at hl 1 rfl) ?_
      refine lv_if_ne (tgt := 123) hx hb d_X12_firm_116 (by decide) (fun hc => ?_) (fun hc => ?_)
      · have h := ite_f h hc
        refine lv_aload_n hx hb d_X12_firm_123 rfl (lv_at hl 0 rfl) ?_
        refine r_getr (j := 35) X hw ct8 (o_300 hf) rfl (Nat.le_of_ble_eq_true rfl) (q := 335) rfl wd_991 d_X12_firm_124 ?_
        refine lv_iload_n hx hb d_X12_firm_127 rfl (lv_at hl 1 rfl) ?_
        obtain ⟨hi18, h⟩ := gd_some h
        refine m_iald X hw (o_335 hf) (Nat.le_of_ble_eq_true rfl) hi18 d_X12_firm_128 ?_
        obtain rfl := Option.some.inj h
        subst hQ
        exact r_iret X hr hlk hw d_X12_firm_129
      · have h := ite_t h hc
        refine lv_iconst (v := (0 : Int32)) hx hb d_X12_firm_119 (by decide) ?_
        refine lv_goto (tgt := 129) hx hb d_X12_firm_120 (by decide) ?_
        obtain rfl := Option.some.inj h
        subst hQ
        exact r_iret X hr hlk hw d_X12_firm_129
    · have h := ite_t h hc
      refine lv_iconst (v := (-1 : Int32)) hx hb d_X12_firm_31 (by decide) ?_
      obtain rfl := Option.some.inj h
      subst hQ
      exact r_iret X hr hlk hw d_X12_firm_32
abbrev yX12_closingAll : MethodName := ⟨"OysterBedsModel", "closingAll", "()I"⟩
theorem mwX12_closingAll : MW yX12_closingAll prog_14_method_109_code 3 (some .int) 0 := ⟨wd_1584, wd_10, by decide +kernel⟩
theorem d_X12_closingAll_0 : decode prog_14_method_109_code 0 = .ok (.iconst 0, 1) := by decide +kernel
theorem d_X12_closingAll_1 : decode prog_14_method_109_code 1 = .ok (.istore_n 1, 1) := by decide +kernel
theorem d_X12_closingAll_2 : decode prog_14_method_109_code 2 = .ok (.iconst 0, 1) := by decide +kernel
theorem d_X12_closingAll_3 : decode prog_14_method_109_code 3 = .ok (.istore_n 2, 1) := by decide +kernel
theorem d_X12_closingAll_4 : decode prog_14_method_109_code 4 = .ok (.iload_n 2, 1) := by decide +kernel
theorem d_X12_closingAll_5 : decode prog_14_method_109_code 5 = .ok (.bipush 40, 2) := by decide +kernel
theorem d_X12_closingAll_7 : decode prog_14_method_109_code 7 = .ok (.if_icmp .ge 31, 3) := by decide +kernel
theorem d_X12_closingAll_10 : decode prog_14_method_109_code 10 = .ok (.iload_n 1, 1) := by decide +kernel
theorem d_X12_closingAll_11 : decode prog_14_method_109_code 11 = .ok (.aload_n 0, 1) := by decide +kernel
theorem d_X12_closingAll_12 : decode prog_14_method_109_code 12 = .ok (.aload_n 0, 1) := by decide +kernel
theorem d_X12_closingAll_13 : decode prog_14_method_109_code 13 = .ok (.getfield 17, 3) := by decide +kernel
theorem d_X12_closingAll_16 : decode prog_14_method_109_code 16 = .ok (.iload_n 2, 1) := by decide +kernel
theorem d_X12_closingAll_17 : decode prog_14_method_109_code 17 = .ok (.bipush 10, 2) := by decide +kernel
theorem d_X12_closingAll_19 : decode prog_14_method_109_code 19 = .ok (.idiv, 1) := by decide +kernel
theorem d_X12_closingAll_20 : decode prog_14_method_109_code 20 = .ok (.iload_n 2, 1) := by decide +kernel
theorem d_X12_closingAll_21 : decode prog_14_method_109_code 21 = .ok (.bipush 10, 2) := by decide +kernel
theorem d_X12_closingAll_23 : decode prog_14_method_109_code 23 = .ok (.irem, 1) := by decide +kernel
theorem d_X12_closingAll_24 : decode prog_14_method_109_code 24 = .ok (.invokevirtual 261, 3) := by decide +kernel
theorem d_X12_closingAll_27 : decode prog_14_method_109_code 27 = .ok (.invokestatic 235, 3) := by decide +kernel
theorem d_X12_closingAll_30 : decode prog_14_method_109_code 30 = .ok (.iadd, 1) := by decide +kernel
theorem d_X12_closingAll_31 : decode prog_14_method_109_code 31 = .ok (.istore_n 1, 1) := by decide +kernel
theorem d_X12_closingAll_32 : decode prog_14_method_109_code 32 = .ok (.iinc 2 1, 3) := by decide +kernel
theorem d_X12_closingAll_35 : decode prog_14_method_109_code 35 = .ok (.goto (-31), 3) := by decide +kernel
theorem d_X12_closingAll_38 : decode prog_14_method_109_code 38 = .ok (.iload_n 1, 1) := by decide +kernel
theorem d_X12_closingAll_39 : decode prog_14_method_109_code 39 = .ok (.ireturn, 1) := by decide +kernel
def f_X12_closingAll_s4 (τ : St) (x1 : Int32) (x2 : Int32) : Option ((Int32 × Int32 × St) ⊕ (Int32 × St)) := (if (40 : Int32) ≤ x2 then some (.inr (x1, τ)) else (f_X12_closing τ 306 (x2 / (10 : Int32)) (x2 - x2 / (10 : Int32) * (10 : Int32))).bind (fun q1 => (f_J6_bitCount_0f7a4 q1.1).bind (fun q3 => some (.inl ((x1 + q3), (x2 + (1 : Int32)), q1.2)))))
def f_X12_closingAll (σ : St) : Option (Int32 × St) := (iter (fun z => f_X12_closingAll_s4 z.2.2 z.1 z.2.1) FU ((0 : Int32), (0 : Int32), σ)).bind (fun z5 => some (z5.1, z5.2))
theorem c_X12_closingAll {l : Launch} {G : gT} {χ σ : St} (hf : FW G) {q : Int32 × St} (h : f_X12_closingAll σ = some q) : Ct l G yX12_closingAll prog_14_method_109_code 3 (some .int) 4 91 [.ref (ga G 300)] χ σ (some (.int q.1)) χ q.2 := by
  refine Ct.of (by decide) (Nat.le_of_ble_eq_true rfl) ?_
  intro p e s m args below meth c Q X hr hlk hQ
  have hx := X.1
  have hb := X.2.1
  have b4 : ∀ (τ : St) (x1 : Int32) (x2 : Int32) (o : (Int32 × Int32 × St) ⊕ (Int32 × St)), f_X12_closingAll_s4 τ x1 x2 = some o → Sum.elim (fun z : Int32 × Int32 × St => Wat p l e (rmk 4 91) s m args below meth c Q G 3 4 [] [(1, .int z.1), (2, .int z.2.1), (0, .ref (ga G 300))] χ z.2.2) (fun z : Int32 × St => Wat p l e (rmk 4 91) s m args below meth c Q G 3 38 [] [(1, .int z.1)] χ z.2) o → Wat p l e (rmk 4 91) s m args below meth c Q G 3 4 [] [(1, .int x1), (2, .int x2), (0, .ref (ga G 300))] χ τ := by
    intro τ x1 x2 o h hk H locs ls hw hl
    unfold f_X12_closingAll_s4 at h
    refine lv_iload_n hx hb d_X12_closingAll_4 rfl (lv_at hl 1 rfl) ?_
    refine lv_bipush (v := (40 : Int32)) hx hb d_X12_closingAll_5 (by decide) ?_
    refine lv_icmp_ge (tgt := 38) hx hb d_X12_closingAll_7 (by decide) (fun hc => ?_) (fun hc => ?_)
    · have h := ite_t h hc
      obtain rfl := Option.some.inj h
      dsimp only [Sum.elim_inr] at hk
      exact hk _ _ _ hw (lv_sub hl [0] rfl)
    · have h := ite_f h hc
      refine lv_iload_n hx hb d_X12_closingAll_10 rfl (lv_at hl 0 rfl) ?_
      refine lv_aload_n hx hb d_X12_closingAll_11 rfl (lv_at hl 2 rfl) ?_
      refine lv_aload_n hx hb d_X12_closingAll_12 rfl (lv_at hl 2 rfl) ?_
      refine r_getr (j := 6) X hw ct8 (o_300 hf) rfl (Nat.le_of_ble_eq_true rfl) (q := 306) rfl wd_962 d_X12_closingAll_13 ?_
      refine lv_iload_n hx hb d_X12_closingAll_16 rfl (lv_at hl 1 rfl) ?_
      refine lv_bipush (v := (10 : Int32)) hx hb d_X12_closingAll_17 (by decide) ?_
      refine lv_idiv hx hb d_X12_closingAll_19 (by decide) ?_
      refine lv_iload_n hx hb d_X12_closingAll_20 rfl (lv_at hl 1 rfl) ?_
      refine lv_bipush (v := (10 : Int32)) hx hb d_X12_closingAll_21 (by decide) ?_
      refine lv_irem hx hb d_X12_closingAll_23 (by decide) ?_
      obtain ⟨q1, e2, h⟩ := bd_some h
      refine r_callV (As := [.ref (ga G 306), .int (x2 / (10 : Int32)), .int (x2 - x2 / (10 : Int32) * (10 : Int32))]) (rest := [.int x1]) (st' := [.int q1.1, .int x1]) X hw hl mwX12_closing wd_1259 wp_34 wd_1257 (c_X12_closing hf (o_306 hf) (Nat.le_of_ble_eq_true rfl) e2) (r_recv X hw ct8 (o_300 hf)) rfl ⟨Nat.le_of_ble_eq_true rfl, Nat.le_of_ble_eq_true rfl⟩ ⟨Nat.le_refl _, Nat.le_refl _⟩ rfl rfl (Nat.le_of_ble_eq_true rfl) d_X12_closingAll_24 (fun H locs hw => ?_)
      obtain ⟨q3, e4, h⟩ := bd_some h
      refine r_callS (As := [.int q1.1]) (rest := [.int x1]) (st' := [.int q3, .int x1]) X hw hl mwJ6_bitCount_0f7a4 wd_436 wd_1272 (c_J6_bitCount_0f7a4 e4) rfl ⟨Nat.le_of_ble_eq_true rfl, Nat.le_of_ble_eq_true rfl⟩ ⟨Nat.le_refl _, Nat.le_refl _⟩ rfl rfl (Nat.le_of_ble_eq_true rfl) d_X12_closingAll_27 (fun H locs hw => ?_)
      refine lv_iadd hx hb d_X12_closingAll_30 ?_
      refine lv_istore_n (lv' := [(1, .int (x1 + q3)), (2, .int x2), (0, .ref (ga G 300))]) hx hb d_X12_closingAll_31 rfl hl (Nat.le_of_ble_eq_true rfl) rfl (fun ls hl => ?_)
      refine lv_iinc (v := (x2 + (1 : Int32))) (k := 1) (lv' := [(2, .int (x2 + (1 : Int32))), (1, .int (x1 + q3)), (0, .ref (ga G 300))]) hx hb d_X12_closingAll_32 hl rfl (by rfl) (Nat.le_of_ble_eq_true rfl) rfl (fun ls hl => ?_)
      refine lv_goto (tgt := 4) hx hb d_X12_closingAll_35 (by decide) ?_
      obtain rfl := Option.some.inj h
      dsimp only [Sum.elim_inl] at hk
      exact hk _ _ _ hw (lv_sub hl [1, 0, 2] rfl)
  intro H locs ls hw hl
  have hl : lv_has ls 3 [(0, .ref (ga G 300))] := hl
  unfold f_X12_closingAll at h
  refine lv_iconst (v := (0 : Int32)) hx hb d_X12_closingAll_0 (by decide) ?_
  refine lv_istore_n (lv' := [(1, .int (0 : Int32)), (0, .ref (ga G 300))]) hx hb d_X12_closingAll_1 rfl hl (Nat.le_of_ble_eq_true rfl) rfl (fun ls hl => ?_)
  refine lv_iconst (v := (0 : Int32)) hx hb d_X12_closingAll_2 (by decide) ?_
  refine lv_istore_n (lv' := [(2, .int (0 : Int32)), (1, .int (0 : Int32)), (0, .ref (ga G 300))]) hx hb d_X12_closingAll_3 rfl hl (Nat.le_of_ble_eq_true rfl) rfl (fun ls hl => ?_)
  obtain ⟨z5, e6, h⟩ := bd_some h
  refine iter_w (Wh := fun z : Int32 × Int32 × St => Wat p l e (rmk 4 91) s m args below meth c Q G 3 4 [] [(1, .int z.1), (2, .int z.2.1), (0, .ref (ga G 300))] χ z.2.2) (K := fun z : Int32 × St => Wat p l e (rmk 4 91) s m args below meth c Q G 3 38 [] [(1, .int z.1)] χ z.2) (fun z o h1 h2 => b4 z.2.2 z.1 z.2.1 o h1 h2) FU _ _ e6 ?_ _ _ _ hw (lv_sub hl [1, 0, 2] rfl)
  intro H locs ls hw hl
  refine lv_iload_n hx hb d_X12_closingAll_38 rfl (lv_at hl 0 rfl) ?_
  obtain rfl := Option.some.inj h
  subst hQ
  exact r_iret X hr hlk hw d_X12_closingAll_39
abbrev yX12_gets : MethodName := ⟨"OysterBedsModel", "gets", "(III)I"⟩
theorem mwX12_gets : MW yX12_gets prog_14_method_111_code 3 (some .int) 3 := ⟨wd_1594, wd_10, by decide +kernel⟩
theorem d_X12_gets_0 : decode prog_14_method_111_code 0 = .ok (.iload_n 0, 1) := by decide +kernel
theorem d_X12_gets_1 : decode prog_14_method_111_code 1 = .ok (.iload_n 1, 1) := by decide +kernel
theorem d_X12_gets_2 : decode prog_14_method_111_code 2 = .ok (.if_icmp .le 11, 3) := by decide +kernel
theorem d_X12_gets_5 : decode prog_14_method_111_code 5 = .ok (.iload_n 2, 1) := by decide +kernel
theorem d_X12_gets_6 : decode prog_14_method_111_code 6 = .ok (.iload_n 0, 1) := by decide +kernel
theorem d_X12_gets_7 : decode prog_14_method_111_code 7 = .ok (.iload_n 1, 1) := by decide +kernel
theorem d_X12_gets_8 : decode prog_14_method_111_code 8 = .ok (.isub, 1) := by decide +kernel
theorem d_X12_gets_9 : decode prog_14_method_111_code 9 = .ok (.isub, 1) := by decide +kernel
theorem d_X12_gets_10 : decode prog_14_method_111_code 10 = .ok (.goto 19, 3) := by decide +kernel
theorem d_X12_gets_13 : decode prog_14_method_111_code 13 = .ok (.iload_n 0, 1) := by decide +kernel
theorem d_X12_gets_14 : decode prog_14_method_111_code 14 = .ok (.iload_n 1, 1) := by decide +kernel
theorem d_X12_gets_15 : decode prog_14_method_111_code 15 = .ok (.if_icmp .ge 11, 3) := by decide +kernel
theorem d_X12_gets_18 : decode prog_14_method_111_code 18 = .ok (.iload_n 2, 1) := by decide +kernel
theorem d_X12_gets_19 : decode prog_14_method_111_code 19 = .ok (.iconst 2, 1) := by decide +kernel
theorem d_X12_gets_20 : decode prog_14_method_111_code 20 = .ok (.idiv, 1) := by decide +kernel
theorem d_X12_gets_21 : decode prog_14_method_111_code 21 = .ok (.iload_n 0, 1) := by decide +kernel
theorem d_X12_gets_22 : decode prog_14_method_111_code 22 = .ok (.isub, 1) := by decide +kernel
theorem d_X12_gets_23 : decode prog_14_method_111_code 23 = .ok (.goto 6, 3) := by decide +kernel
theorem d_X12_gets_26 : decode prog_14_method_111_code 26 = .ok (.iload_n 2, 1) := by decide +kernel
theorem d_X12_gets_27 : decode prog_14_method_111_code 27 = .ok (.iconst 3, 1) := by decide +kernel
theorem d_X12_gets_28 : decode prog_14_method_111_code 28 = .ok (.idiv, 1) := by decide +kernel
theorem d_X12_gets_29 : decode prog_14_method_111_code 29 = .ok (.ireturn, 1) := by decide +kernel
def f_X12_gets (a0 : Int32) (a1 : Int32) (a2 : Int32) : Option (Int32) := some (if a0 ≤ a1 then (if a1 ≤ a0 then (a2 / (3 : Int32)) else ((a2 / (2 : Int32)) - a0)) else (a2 - (a0 - a1)))
theorem c_X12_gets {l : Launch} {G : gT} {χ σ : St} {a0 : Int32} {a1 : Int32} {a2 : Int32} (hf : FW G) {q : Int32} (h : f_X12_gets a0 a1 a2 = some q) : Ct l G yX12_gets prog_14_method_111_code 3 (some .int) 0 0 [.int a0, .int a1, .int a2] χ σ (some (.int q)) χ σ := by
  refine Ct.of (by decide) (Nat.le_of_ble_eq_true rfl) ?_
  intro p e s m args below meth c Q X hr hlk hQ
  have hx := X.1
  have hb := X.2.1
  intro H locs ls hw hl
  have hl : lv_has ls 3 [(0, .int a0), (1, .int a1), (2, .int a2)] := hl
  unfold f_X12_gets at h
  refine lv_iload_n hx hb d_X12_gets_0 rfl (lv_at hl 0 rfl) ?_
  refine lv_iload_n hx hb d_X12_gets_1 rfl (lv_at hl 1 rfl) ?_
  refine lv_icmp_le (tgt := 13) hx hb d_X12_gets_2 (by decide) (fun hc => ?_) (fun hc => ?_)
  · simp only [if_pos hc] at h
    refine lv_iload_n hx hb d_X12_gets_13 rfl (lv_at hl 0 rfl) ?_
    refine lv_iload_n hx hb d_X12_gets_14 rfl (lv_at hl 1 rfl) ?_
    refine lv_icmp_ge (tgt := 26) hx hb d_X12_gets_15 (by decide) (fun hc => ?_) (fun hc => ?_)
    · simp only [if_pos hc] at h
      refine lv_iload_n hx hb d_X12_gets_26 rfl (lv_at hl 2 rfl) ?_
      refine lv_iconst (v := (3 : Int32)) hx hb d_X12_gets_27 (by decide) ?_
      refine lv_idiv hx hb d_X12_gets_28 (by decide) ?_
      obtain rfl := Option.some.inj h
      subst hQ
      exact r_iret X hr hlk hw d_X12_gets_29
    · simp only [if_neg hc] at h
      refine lv_iload_n hx hb d_X12_gets_18 rfl (lv_at hl 2 rfl) ?_
      refine lv_iconst (v := (2 : Int32)) hx hb d_X12_gets_19 (by decide) ?_
      refine lv_idiv hx hb d_X12_gets_20 (by decide) ?_
      refine lv_iload_n hx hb d_X12_gets_21 rfl (lv_at hl 0 rfl) ?_
      refine lv_isub hx hb d_X12_gets_22 ?_
      refine lv_goto (tgt := 29) hx hb d_X12_gets_23 (by decide) ?_
      obtain rfl := Option.some.inj h
      subst hQ
      exact r_iret X hr hlk hw d_X12_gets_29
  · simp only [if_neg hc] at h
    refine lv_iload_n hx hb d_X12_gets_5 rfl (lv_at hl 2 rfl) ?_
    refine lv_iload_n hx hb d_X12_gets_6 rfl (lv_at hl 0 rfl) ?_
    refine lv_iload_n hx hb d_X12_gets_7 rfl (lv_at hl 1 rfl) ?_
    refine lv_isub hx hb d_X12_gets_8 ?_
    refine lv_isub hx hb d_X12_gets_9 ?_
    refine lv_goto (tgt := 29) hx hb d_X12_gets_10 (by decide) ?_
    obtain rfl := Option.some.inj h
    subst hQ
    exact r_iret X hr hlk hw d_X12_gets_29
abbrev yX12_isRest : MethodName := ⟨"OysterBedsModel", "isRest", "(III)Z"⟩
theorem mwX12_isRest : MW yX12_isRest prog_14_method_112_code 5 (some .boolean) 3 := ⟨wd_1591, wd_10, by decide +kernel⟩
theorem d_X12_isRest_0 : decode prog_14_method_112_code 0 = .ok (.iconst 1, 1) := by decide +kernel
theorem d_X12_isRest_1 : decode prog_14_method_112_code 1 = .ok (.istore_n 3, 1) := by decide +kernel
theorem d_X12_isRest_2 : decode prog_14_method_112_code 2 = .ok (.iconst 0, 1) := by decide +kernel
theorem d_X12_isRest_3 : decode prog_14_method_112_code 3 = .ok (.istore 4, 2) := by decide +kernel
theorem d_X12_isRest_5 : decode prog_14_method_112_code 5 = .ok (.iload 4, 2) := by decide +kernel
theorem d_X12_isRest_7 : decode prog_14_method_112_code 7 = .ok (.bipush 9, 2) := by decide +kernel
theorem d_X12_isRest_9 : decode prog_14_method_112_code 9 = .ok (.if_icmp .gt 35, 3) := by decide +kernel
theorem d_X12_isRest_12 : decode prog_14_method_112_code 12 = .ok (.iload_n 3, 1) := by decide +kernel
theorem d_X12_isRest_13 : decode prog_14_method_112_code 13 = .ok (.ifCond .eq 23, 3) := by decide +kernel
theorem d_X12_isRest_16 : decode prog_14_method_112_code 16 = .ok (.iload 4, 2) := by decide +kernel
theorem d_X12_isRest_18 : decode prog_14_method_112_code 18 = .ok (.iload_n 1, 1) := by decide +kernel
theorem d_X12_isRest_19 : decode prog_14_method_112_code 19 = .ok (.iload_n 2, 1) := by decide +kernel
theorem d_X12_isRest_20 : decode prog_14_method_112_code 20 = .ok (.invokestatic 411, 3) := by decide +kernel
theorem d_X12_isRest_23 : decode prog_14_method_112_code 23 = .ok (.iload_n 0, 1) := by decide +kernel
theorem d_X12_isRest_24 : decode prog_14_method_112_code 24 = .ok (.iload_n 1, 1) := by decide +kernel
theorem d_X12_isRest_25 : decode prog_14_method_112_code 25 = .ok (.iload_n 2, 1) := by decide +kernel
theorem d_X12_isRest_26 : decode prog_14_method_112_code 26 = .ok (.invokestatic 411, 3) := by decide +kernel
theorem d_X12_isRest_29 : decode prog_14_method_112_code 29 = .ok (.if_icmp .gt 7, 3) := by decide +kernel
theorem d_X12_isRest_32 : decode prog_14_method_112_code 32 = .ok (.iconst 1, 1) := by decide +kernel
theorem d_X12_isRest_33 : decode prog_14_method_112_code 33 = .ok (.goto 4, 3) := by decide +kernel
theorem d_X12_isRest_36 : decode prog_14_method_112_code 36 = .ok (.iconst 0, 1) := by decide +kernel
theorem d_X12_isRest_37 : decode prog_14_method_112_code 37 = .ok (.istore_n 3, 1) := by decide +kernel
theorem d_X12_isRest_38 : decode prog_14_method_112_code 38 = .ok (.iinc 4 1, 3) := by decide +kernel
theorem d_X12_isRest_41 : decode prog_14_method_112_code 41 = .ok (.goto (-36), 3) := by decide +kernel
theorem d_X12_isRest_44 : decode prog_14_method_112_code 44 = .ok (.iload_n 3, 1) := by decide +kernel
theorem d_X12_isRest_45 : decode prog_14_method_112_code 45 = .ok (.ireturn, 1) := by decide +kernel
def f_X12_isRest_j37_5 (x0 : Int32) (x1 : Int32) (x2 : Int32) (x4 : Int32) (s0 : Int32) : Option ((Int32 × Int32) ⊕ (Int32)) := some (.inl (s0, (x4 + (1 : Int32))))
def f_X12_isRest_s5 (y0 : Int32) (y1 : Int32) (y2 : Int32) (x3 : Int32) (x4 : Int32) : Option ((Int32 × Int32) ⊕ (Int32)) := (if (9 : Int32) < x4 then some (.inr x3) else (if x3 = 0 then f_X12_isRest_j37_5 y0 y1 y2 x4 (0 : Int32) else (f_X12_gets x4 y1 y2).bind (fun q1 => (f_X12_gets y0 y1 y2).bind (fun q3 => f_X12_isRest_j37_5 y0 y1 y2 x4 (if q3 < q1 then (0 : Int32) else (1 : Int32))))))
def f_X12_isRest (a0 : Int32) (a1 : Int32) (a2 : Int32) : Option (Int32) := (iter (fun z => f_X12_isRest_s5 a0 a1 a2 z.1 z.2) FU ((1 : Int32), (0 : Int32))).bind (fun z5 => gd (nb z5) (some z5))
theorem c_X12_isRest {l : Launch} {G : gT} {χ σ : St} {a0 : Int32} {a1 : Int32} {a2 : Int32} (hf : FW G) {q : Int32} (h : f_X12_isRest a0 a1 a2 = some q) : Ct l G yX12_isRest prog_14_method_112_code 5 (some .boolean) 1 22 [.int a0, .int a1, .int a2] χ σ (some (.int q)) χ σ := by
  refine Ct.of (by decide) (Nat.le_of_ble_eq_true rfl) ?_
  intro p e s m args below meth c Q X hr hlk hQ
  have hx := X.1
  have hb := X.2.1
  have j37_5 : ∀ (x0 : Int32) (x1 : Int32) (x2 : Int32) (x4 : Int32) (s0 : Int32) (o : (Int32 × Int32) ⊕ (Int32)), f_X12_isRest_j37_5 x0 x1 x2 x4 s0 = some o → Sum.elim (fun z : Int32 × Int32 => Wat p l e (rmk 1 22) s m args below meth c Q G 5 5 [] [(3, .int z.1), (4, .int z.2), (0, .int x0), (1, .int x1), (2, .int x2)] χ σ) (fun z : Int32 => Wat p l e (rmk 1 22) s m args below meth c Q G 5 44 [] [(3, .int z)] χ σ) o → Wat p l e (rmk 1 22) s m args below meth c Q G 5 37 [.int s0] [(0, .int x0), (1, .int x1), (2, .int x2), (4, .int x4)] χ σ := by
    intro x0 x1 x2 x4 s0 o h hk H locs ls hw hl
    unfold f_X12_isRest_j37_5 at h
    refine lv_istore_n (lv' := [(3, .int s0), (0, .int x0), (1, .int x1), (2, .int x2), (4, .int x4)]) hx hb d_X12_isRest_37 rfl hl (Nat.le_of_ble_eq_true rfl) rfl (fun ls hl => ?_)
    refine lv_iinc (v := (x4 + (1 : Int32))) (k := 4) (lv' := [(4, .int (x4 + (1 : Int32))), (3, .int s0), (0, .int x0), (1, .int x1), (2, .int x2)]) hx hb d_X12_isRest_38 hl rfl (by rfl) (Nat.le_of_ble_eq_true rfl) rfl (fun ls hl => ?_)
    refine lv_goto (tgt := 5) hx hb d_X12_isRest_41 (by decide) ?_
    obtain rfl := Option.some.inj h
    dsimp only [Sum.elim_inl] at hk
    exact hk _ _ _ hw (lv_sub hl [1, 0, 2, 3, 4] rfl)
  have b5 : ∀ (y0 : Int32) (y1 : Int32) (y2 : Int32) (x3 : Int32) (x4 : Int32) (o : (Int32 × Int32) ⊕ (Int32)), f_X12_isRest_s5 y0 y1 y2 x3 x4 = some o → Sum.elim (fun z : Int32 × Int32 => Wat p l e (rmk 1 22) s m args below meth c Q G 5 5 [] [(3, .int z.1), (4, .int z.2), (0, .int y0), (1, .int y1), (2, .int y2)] χ σ) (fun z : Int32 => Wat p l e (rmk 1 22) s m args below meth c Q G 5 44 [] [(3, .int z)] χ σ) o → Wat p l e (rmk 1 22) s m args below meth c Q G 5 5 [] [(3, .int x3), (4, .int x4), (0, .int y0), (1, .int y1), (2, .int y2)] χ σ := by
    intro y0 y1 y2 x3 x4 o h hk H locs ls hw hl
    unfold f_X12_isRest_s5 at h
    refine lv_iload hx hb d_X12_isRest_5 (lv_at hl 1 rfl) ?_
    refine lv_bipush (v := (9 : Int32)) hx hb d_X12_isRest_7 (by decide) ?_
    refine lv_icmp_gt (tgt := 44) hx hb d_X12_isRest_9 (by decide) (fun hc => ?_) (fun hc => ?_)
    · have h := ite_t h hc
      obtain rfl := Option.some.inj h
      dsimp only [Sum.elim_inr] at hk
      exact hk _ _ _ hw (lv_sub hl [0] rfl)
    · have h := ite_f h hc
      refine lv_iload_n hx hb d_X12_isRest_12 rfl (lv_at hl 0 rfl) ?_
      refine lv_if_eq (tgt := 36) hx hb d_X12_isRest_13 (by decide) (fun hc => ?_) (fun hc => ?_)
      · have h := ite_t h hc
        refine lv_iconst (v := (0 : Int32)) hx hb d_X12_isRest_36 (by decide) ?_
        exact j37_5 y0 y1 y2 x4 (0 : Int32) o h hk _ _ _ hw (lv_sub hl [2, 3, 4, 1] rfl)
      · have h := ite_f h hc
        refine lv_iload hx hb d_X12_isRest_16 (lv_at hl 1 rfl) ?_
        refine lv_iload_n hx hb d_X12_isRest_18 rfl (lv_at hl 3 rfl) ?_
        refine lv_iload_n hx hb d_X12_isRest_19 rfl (lv_at hl 4 rfl) ?_
        obtain ⟨q1, e2, h⟩ := bd_some h
        refine r_callS (As := [.int x4, .int y1, .int y2]) (rest := []) (st' := [.int q1]) X hw hl mwX12_gets wd_1593 wd_1592 (c_X12_gets hf e2) rfl ⟨Nat.le_of_ble_eq_true rfl, Nat.le_of_ble_eq_true rfl⟩ ⟨Nat.le_refl _, Nat.le_refl _⟩ rfl rfl (Nat.le_of_ble_eq_true rfl) d_X12_isRest_20 (fun H locs hw => ?_)
        refine lv_iload_n hx hb d_X12_isRest_23 rfl (lv_at hl 2 rfl) ?_
        refine lv_iload_n hx hb d_X12_isRest_24 rfl (lv_at hl 3 rfl) ?_
        refine lv_iload_n hx hb d_X12_isRest_25 rfl (lv_at hl 4 rfl) ?_
        obtain ⟨q3, e4, h⟩ := bd_some h
        refine r_callS (As := [.int y0, .int y1, .int y2]) (rest := [.int q1]) (st' := [.int q3, .int q1]) X hw hl mwX12_gets wd_1593 wd_1592 (c_X12_gets hf e4) rfl ⟨Nat.le_of_ble_eq_true rfl, Nat.le_of_ble_eq_true rfl⟩ ⟨Nat.le_refl _, Nat.le_refl _⟩ rfl rfl (Nat.le_of_ble_eq_true rfl) d_X12_isRest_26 (fun H locs hw => ?_)
        refine lv_icmp_gt (tgt := 36) hx hb d_X12_isRest_29 (by decide) (fun hc => ?_) (fun hc => ?_)
        · simp only [if_pos hc] at h
          refine lv_iconst (v := (0 : Int32)) hx hb d_X12_isRest_36 (by decide) ?_
          exact j37_5 y0 y1 y2 x4 (0 : Int32) o h hk _ _ _ hw (lv_sub hl [2, 3, 4, 1] rfl)
        · simp only [if_neg hc] at h
          refine lv_iconst (v := (1 : Int32)) hx hb d_X12_isRest_32 (by decide) ?_
          refine lv_goto (tgt := 37) hx hb d_X12_isRest_33 (by decide) ?_
          exact j37_5 y0 y1 y2 x4 (1 : Int32) o h hk _ _ _ hw (lv_sub hl [2, 3, 4, 1] rfl)
  intro H locs ls hw hl
  have hl : lv_has ls 5 [(0, .int a0), (1, .int a1), (2, .int a2)] := hl
  unfold f_X12_isRest at h
  refine lv_iconst (v := (1 : Int32)) hx hb d_X12_isRest_0 (by decide) ?_
  refine lv_istore_n (lv' := [(3, .int (1 : Int32)), (0, .int a0), (1, .int a1), (2, .int a2)]) hx hb d_X12_isRest_1 rfl hl (Nat.le_of_ble_eq_true rfl) rfl (fun ls hl => ?_)
  refine lv_iconst (v := (0 : Int32)) hx hb d_X12_isRest_2 (by decide) ?_
  refine lv_istore (lv' := [(4, .int (0 : Int32)), (3, .int (1 : Int32)), (0, .int a0), (1, .int a1), (2, .int a2)]) hx hb d_X12_isRest_3 hl (Nat.le_of_ble_eq_true rfl) rfl (fun ls hl => ?_)
  obtain ⟨z5, e6, h⟩ := bd_some h
  refine iter_w (Wh := fun z : Int32 × Int32 => Wat p l e (rmk 1 22) s m args below meth c Q G 5 5 [] [(3, .int z.1), (4, .int z.2), (0, .int a0), (1, .int a1), (2, .int a2)] χ σ) (K := fun z : Int32 => Wat p l e (rmk 1 22) s m args below meth c Q G 5 44 [] [(3, .int z)] χ σ) (fun z o h1 h2 => b5 a0 a1 a2 z.1 z.2 o h1 h2) FU _ _ e6 ?_ _ _ _ hw (lv_sub hl [1, 0, 2, 3, 4] rfl)
  intro H locs ls hw hl
  refine lv_iload_n hx hb d_X12_isRest_44 rfl (lv_at hl 0 rfl) ?_
  obtain ⟨hv8, h⟩ := gd_some h
  obtain rfl := Option.some.inj h
  subst hQ
  exact r_zret X hr (nb_of hv8) hlk hw d_X12_isRest_45
abbrev yX12_wordings : MethodName := ⟨"OysterBedsModel", "wordings", "(I)I"⟩
theorem mwX12_wordings : MW yX12_wordings prog_14_method_113_code 5 (some .int) 1 := ⟨wd_1588, wd_10, by decide +kernel⟩
theorem d_X12_wordings_0 : decode prog_14_method_113_code 0 = .ok (.aload_n 0, 1) := by decide +kernel
theorem d_X12_wordings_1 : decode prog_14_method_113_code 1 = .ok (.iconst 0, 1) := by decide +kernel
theorem d_X12_wordings_2 : decode prog_14_method_113_code 2 = .ok (.putfield 87, 3) := by decide +kernel
theorem d_X12_wordings_5 : decode prog_14_method_113_code 5 = .ok (.iload_n 1, 1) := by decide +kernel
theorem d_X12_wordings_6 : decode prog_14_method_113_code 6 = .ok (.i2l, 1) := by decide +kernel
theorem d_X12_wordings_7 : decode prog_14_method_113_code 7 = .ok (.lconst 0, 1) := by decide +kernel
theorem d_X12_wordings_8 : decode prog_14_method_113_code 8 = .ok (.ldc2_w 316, 3) := by decide +kernel
theorem d_X12_wordings_11 : decode prog_14_method_113_code 11 = .ok (.invokestatic 105, 3) := by decide +kernel
theorem d_X12_wordings_14 : decode prog_14_method_113_code 14 = .ok (.ifCond .ne 5, 3) := by decide +kernel
theorem d_X12_wordings_17 : decode prog_14_method_113_code 17 = .ok (.iconst (-1), 1) := by decide +kernel
theorem d_X12_wordings_18 : decode prog_14_method_113_code 18 = .ok (.ireturn, 1) := by decide +kernel
theorem d_X12_wordings_19 : decode prog_14_method_113_code 19 = .ok (.iconst 0, 1) := by decide +kernel
theorem d_X12_wordings_20 : decode prog_14_method_113_code 20 = .ok (.istore_n 2, 1) := by decide +kernel
theorem d_X12_wordings_21 : decode prog_14_method_113_code 21 = .ok (.aload_n 0, 1) := by decide +kernel
theorem d_X12_wordings_22 : decode prog_14_method_113_code 22 = .ok (.iconst 0, 1) := by decide +kernel
theorem d_X12_wordings_23 : decode prog_14_method_113_code 23 = .ok (.putfield 95, 3) := by decide +kernel
theorem d_X12_wordings_26 : decode prog_14_method_113_code 26 = .ok (.iconst 0, 1) := by decide +kernel
theorem d_X12_wordings_27 : decode prog_14_method_113_code 27 = .ok (.istore_n 3, 1) := by decide +kernel
theorem d_X12_wordings_28 : decode prog_14_method_113_code 28 = .ok (.iload_n 3, 1) := by decide +kernel
theorem d_X12_wordings_29 : decode prog_14_method_113_code 29 = .ok (.bipush 9, 2) := by decide +kernel
theorem d_X12_wordings_31 : decode prog_14_method_113_code 31 = .ok (.if_icmp .gt 65, 3) := by decide +kernel
theorem d_X12_wordings_34 : decode prog_14_method_113_code 34 = .ok (.iconst 0, 1) := by decide +kernel
theorem d_X12_wordings_35 : decode prog_14_method_113_code 35 = .ok (.istore 4, 2) := by decide +kernel
theorem d_X12_wordings_37 : decode prog_14_method_113_code 37 = .ok (.iload 4, 2) := by decide +kernel
theorem d_X12_wordings_39 : decode prog_14_method_113_code 39 = .ok (.bipush 9, 2) := by decide +kernel
theorem d_X12_wordings_41 : decode prog_14_method_113_code 41 = .ok (.if_icmp .gt 49, 3) := by decide +kernel
theorem d_X12_wordings_44 : decode prog_14_method_113_code 44 = .ok (.iload_n 3, 1) := by decide +kernel
theorem d_X12_wordings_45 : decode prog_14_method_113_code 45 = .ok (.iload 4, 2) := by decide +kernel
theorem d_X12_wordings_47 : decode prog_14_method_113_code 47 = .ok (.iload_n 1, 1) := by decide +kernel
theorem d_X12_wordings_48 : decode prog_14_method_113_code 48 = .ok (.invokestatic 414, 3) := by decide +kernel
theorem d_X12_wordings_51 : decode prog_14_method_113_code 51 = .ok (.ifCond .eq 33, 3) := by decide +kernel
theorem d_X12_wordings_54 : decode prog_14_method_113_code 54 = .ok (.iload 4, 2) := by decide +kernel
theorem d_X12_wordings_56 : decode prog_14_method_113_code 56 = .ok (.iload_n 3, 1) := by decide +kernel
theorem d_X12_wordings_57 : decode prog_14_method_113_code 57 = .ok (.iload_n 1, 1) := by decide +kernel
theorem d_X12_wordings_58 : decode prog_14_method_113_code 58 = .ok (.invokestatic 414, 3) := by decide +kernel
theorem d_X12_wordings_61 : decode prog_14_method_113_code 61 = .ok (.ifCond .eq 23, 3) := by decide +kernel
theorem d_X12_wordings_64 : decode prog_14_method_113_code 64 = .ok (.iload_n 2, 1) := by decide +kernel
theorem d_X12_wordings_65 : decode prog_14_method_113_code 65 = .ok (.ifCond .ne 16, 3) := by decide +kernel
theorem d_X12_wordings_68 : decode prog_14_method_113_code 68 = .ok (.aload_n 0, 1) := by decide +kernel
theorem d_X12_wordings_69 : decode prog_14_method_113_code 69 = .ok (.iload_n 3, 1) := by decide +kernel
theorem d_X12_wordings_70 : decode prog_14_method_113_code 70 = .ok (.i2l, 1) := by decide +kernel
theorem d_X12_wordings_71 : decode prog_14_method_113_code 71 = .ok (.invokevirtual 98, 3) := by decide +kernel
theorem d_X12_wordings_74 : decode prog_14_method_113_code 74 = .ok (.aload_n 0, 1) := by decide +kernel
theorem d_X12_wordings_75 : decode prog_14_method_113_code 75 = .ok (.iload 4, 2) := by decide +kernel
theorem d_X12_wordings_77 : decode prog_14_method_113_code 77 = .ok (.i2l, 1) := by decide +kernel
theorem d_X12_wordings_78 : decode prog_14_method_113_code 78 = .ok (.invokevirtual 98, 3) := by decide +kernel
theorem d_X12_wordings_81 : decode prog_14_method_113_code 81 = .ok (.iinc 2 1, 3) := by decide +kernel
theorem d_X12_wordings_84 : decode prog_14_method_113_code 84 = .ok (.iinc 4 1, 3) := by decide +kernel
theorem d_X12_wordings_87 : decode prog_14_method_113_code 87 = .ok (.goto (-50), 3) := by decide +kernel
theorem d_X12_wordings_90 : decode prog_14_method_113_code 90 = .ok (.iinc 3 1, 3) := by decide +kernel
theorem d_X12_wordings_93 : decode prog_14_method_113_code 93 = .ok (.goto (-65), 3) := by decide +kernel
theorem d_X12_wordings_96 : decode prog_14_method_113_code 96 = .ok (.iload_n 2, 1) := by decide +kernel
theorem d_X12_wordings_97 : decode prog_14_method_113_code 97 = .ok (.ireturn, 1) := by decide +kernel
def f_X12_wordings_j84_37 (τ : St) (x1 : Int32) (x2 : Int32) (x3 : Int32) (x4 : Int32) : Option ((Int32 × Int32 × St) ⊕ (Int32 × St)) := some (.inl (x2, (x4 + (1 : Int32)), τ))
def f_X12_wordings_j81_37 (τ : St) (x1 : Int32) (x2 : Int32) (x3 : Int32) (x4 : Int32) : Option ((Int32 × Int32 × St) ⊕ (Int32 × St)) := f_X12_wordings_j84_37 τ x1 (x2 + (1 : Int32)) x3 x4
def f_X12_wordings_s37 (τ : St) (y1 : Int32) (y3 : Int32) (x2 : Int32) (x4 : Int32) : Option ((Int32 × Int32 × St) ⊕ (Int32 × St)) := (if (9 : Int32) < x4 then some (.inr (x2, τ)) else (f_X12_isRest y3 x4 y1).bind (fun q3 => (if q3 = 0 then f_X12_wordings_j84_37 τ y1 x2 y3 x4 else (f_X12_isRest x4 y3 y1).bind (fun q5 => (if q5 = 0 then f_X12_wordings_j84_37 τ y1 x2 y3 x4 else (if x2 = 0 then (f_X12_enters τ y3.toInt64).bind (fun q7 => (f_X12_enters q7 x4.toInt64).bind (fun q9 => f_X12_wordings_j81_37 q9 y1 x2 y3 x4)) else f_X12_wordings_j81_37 τ y1 x2 y3 x4))))))
def f_X12_wordings_s28 (τ : St) (y1 : Int32) (x2 : Int32) (x3 : Int32) : Option ((Int32 × Int32 × St) ⊕ (Int32 × St)) := (if (9 : Int32) < x3 then some (.inr (x2, τ)) else (iter (fun z => f_X12_wordings_s37 z.2.2 y1 x3 z.1 z.2.1) FU (x2, (0 : Int32), τ)).bind (fun z11 => some (.inl (z11.1, (x3 + (1 : Int32)), z11.2))))
def f_X12_wordings (σ : St) (a1 : Int32) : Option (Int32 × St) := (f_X12_in a1.toInt64 (0 : Int64) (20 : Int64)).bind (fun q1 => (if q1 = 0 then some ((-1 : Int32), (sF σ 300 0 (0 : Int32))) else (iter (fun z => f_X12_wordings_s28 z.2.2 a1 z.1 z.2.1) FU ((0 : Int32), (0 : Int32), (sF (sF σ 300 0 (0 : Int32)) 300 1 (0 : Int32)))).bind (fun z14 => some (z14.1, z14.2))))
theorem c_X12_wordings {l : Launch} {G : gT} {χ σ : St} {a1 : Int32} (hf : FW G) {q : Int32 × St} (h : f_X12_wordings σ a1 = some q) : Ct l G yX12_wordings prog_14_method_113_code 5 (some .int) 2 46 [.ref (ga G 300), .int a1] χ σ (some (.int q.1)) χ q.2 := by
  refine Ct.of (by decide) (Nat.le_of_ble_eq_true rfl) ?_
  intro p e s m args below meth c Q X hr hlk hQ
  have hx := X.1
  have hb := X.2.1
  have j84_37 : ∀ (τ : St) (x1 : Int32) (x2 : Int32) (x3 : Int32) (x4 : Int32) (o : (Int32 × Int32 × St) ⊕ (Int32 × St)), f_X12_wordings_j84_37 τ x1 x2 x3 x4 = some o → Sum.elim (fun z : Int32 × Int32 × St => Wat p l e (rmk 2 46) s m args below meth c Q G 5 37 [] [(2, .int z.1), (4, .int z.2.1), (0, .ref (ga G 300)), (1, .int x1), (3, .int x3)] χ z.2.2) (fun z : Int32 × St => Wat p l e (rmk 2 46) s m args below meth c Q G 5 90 [] [(0, .ref (ga G 300)), (1, .int x1), (2, .int z.1), (3, .int x3)] χ z.2) o → Wat p l e (rmk 2 46) s m args below meth c Q G 5 84 [] [(0, .ref (ga G 300)), (1, .int x1), (2, .int x2), (3, .int x3), (4, .int x4)] χ τ := by
    intro τ x1 x2 x3 x4 o h hk H locs ls hw hl
    unfold f_X12_wordings_j84_37 at h
    refine lv_iinc (v := (x4 + (1 : Int32))) (k := 4) (lv' := [(4, .int (x4 + (1 : Int32))), (0, .ref (ga G 300)), (1, .int x1), (2, .int x2), (3, .int x3)]) hx hb d_X12_wordings_84 hl rfl (by rfl) (Nat.le_of_ble_eq_true rfl) rfl (fun ls hl => ?_)
    refine lv_goto (tgt := 37) hx hb d_X12_wordings_87 (by decide) ?_
    obtain rfl := Option.some.inj h
    dsimp only [Sum.elim_inl] at hk
    exact hk _ _ _ hw (lv_sub hl [3, 0, 1, 2, 4] rfl)
  have j81_37 : ∀ (τ : St) (x1 : Int32) (x2 : Int32) (x3 : Int32) (x4 : Int32) (o : (Int32 × Int32 × St) ⊕ (Int32 × St)), f_X12_wordings_j81_37 τ x1 x2 x3 x4 = some o → Sum.elim (fun z : Int32 × Int32 × St => Wat p l e (rmk 2 46) s m args below meth c Q G 5 37 [] [(2, .int z.1), (4, .int z.2.1), (0, .ref (ga G 300)), (1, .int x1), (3, .int x3)] χ z.2.2) (fun z : Int32 × St => Wat p l e (rmk 2 46) s m args below meth c Q G 5 90 [] [(0, .ref (ga G 300)), (1, .int x1), (2, .int z.1), (3, .int x3)] χ z.2) o → Wat p l e (rmk 2 46) s m args below meth c Q G 5 81 [] [(0, .ref (ga G 300)), (1, .int x1), (2, .int x2), (3, .int x3), (4, .int x4)] χ τ := by
    intro τ x1 x2 x3 x4 o h hk H locs ls hw hl
    unfold f_X12_wordings_j81_37 at h
    refine lv_iinc (v := (x2 + (1 : Int32))) (k := 2) (lv' := [(2, .int (x2 + (1 : Int32))), (0, .ref (ga G 300)), (1, .int x1), (3, .int x3), (4, .int x4)]) hx hb d_X12_wordings_81 hl rfl (by rfl) (Nat.le_of_ble_eq_true rfl) rfl (fun ls hl => ?_)
    exact j84_37 τ x1 (x2 + (1 : Int32)) x3 x4 o h hk _ _ _ hw (lv_sub hl [1, 2, 0, 3, 4] rfl)
  have b37 : ∀ (τ : St) (y1 : Int32) (y3 : Int32) (x2 : Int32) (x4 : Int32) (o : (Int32 × Int32 × St) ⊕ (Int32 × St)), f_X12_wordings_s37 τ y1 y3 x2 x4 = some o → Sum.elim (fun z : Int32 × Int32 × St => Wat p l e (rmk 2 46) s m args below meth c Q G 5 37 [] [(2, .int z.1), (4, .int z.2.1), (0, .ref (ga G 300)), (1, .int y1), (3, .int y3)] χ z.2.2) (fun z : Int32 × St => Wat p l e (rmk 2 46) s m args below meth c Q G 5 90 [] [(0, .ref (ga G 300)), (1, .int y1), (2, .int z.1), (3, .int y3)] χ z.2) o → Wat p l e (rmk 2 46) s m args below meth c Q G 5 37 [] [(2, .int x2), (4, .int x4), (0, .ref (ga G 300)), (1, .int y1), (3, .int y3)] χ τ := by
    intro τ y1 y3 x2 x4 o h hk H locs ls hw hl
    unfold f_X12_wordings_s37 at h
    refine lv_iload hx hb d_X12_wordings_37 (lv_at hl 1 rfl) ?_
    refine lv_bipush (v := (9 : Int32)) hx hb d_X12_wordings_39 (by decide) ?_
    refine lv_icmp_gt (tgt := 90) hx hb d_X12_wordings_41 (by decide) (fun hc => ?_) (fun hc => ?_)
    · have h := ite_t h hc
      obtain rfl := Option.some.inj h
      dsimp only [Sum.elim_inr] at hk
      exact hk _ _ _ hw (lv_sub hl [2, 3, 0, 4] rfl)
    · have h := ite_f h hc
      refine lv_iload_n hx hb d_X12_wordings_44 rfl (lv_at hl 4 rfl) ?_
      refine lv_iload hx hb d_X12_wordings_45 (lv_at hl 1 rfl) ?_
      refine lv_iload_n hx hb d_X12_wordings_47 rfl (lv_at hl 3 rfl) ?_
      obtain ⟨q3, e4, h⟩ := bd_some h
      refine r_callS (As := [.int y3, .int x4, .int y1]) (rest := []) (st' := [.int q3]) X hw hl mwX12_isRest wd_1590 wd_1589 (c_X12_isRest hf e4) rfl ⟨Nat.le_of_ble_eq_true rfl, Nat.le_of_ble_eq_true rfl⟩ ⟨Nat.le_refl _, Nat.le_refl _⟩ rfl rfl (Nat.le_of_ble_eq_true rfl) d_X12_wordings_48 (fun H locs hw => ?_)
      refine lv_if_eq (tgt := 84) hx hb d_X12_wordings_51 (by decide) (fun hc => ?_) (fun hc => ?_)
      · have h := ite_t h hc
        exact j84_37 τ y1 x2 y3 x4 o h hk _ _ _ hw (lv_sub hl [2, 3, 0, 4, 1] rfl)
      · have h := ite_f h hc
        refine lv_iload hx hb d_X12_wordings_54 (lv_at hl 1 rfl) ?_
        refine lv_iload_n hx hb d_X12_wordings_56 rfl (lv_at hl 4 rfl) ?_
        refine lv_iload_n hx hb d_X12_wordings_57 rfl (lv_at hl 3 rfl) ?_
        obtain ⟨q5, e6, h⟩ := bd_some h
        refine r_callS (As := [.int x4, .int y3, .int y1]) (rest := []) (st' := [.int q5]) X hw hl mwX12_isRest wd_1590 wd_1589 (c_X12_isRest hf e6) rfl ⟨Nat.le_of_ble_eq_true rfl, Nat.le_of_ble_eq_true rfl⟩ ⟨Nat.le_refl _, Nat.le_refl _⟩ rfl rfl (Nat.le_of_ble_eq_true rfl) d_X12_wordings_58 (fun H locs hw => ?_)
        refine lv_if_eq (tgt := 84) hx hb d_X12_wordings_61 (by decide) (fun hc => ?_) (fun hc => ?_)
        · have h := ite_t h hc
          exact j84_37 τ y1 x2 y3 x4 o h hk _ _ _ hw (lv_sub hl [2, 3, 0, 4, 1] rfl)
        · have h := ite_f h hc
          refine lv_iload_n hx hb d_X12_wordings_64 rfl (lv_at hl 0 rfl) ?_
          refine lv_if_ne (tgt := 81) hx hb d_X12_wordings_65 (by decide) (fun hc => ?_) (fun hc => ?_)
          · have h := ite_f h hc
            exact j81_37 τ y1 x2 y3 x4 o h hk _ _ _ hw (lv_sub hl [2, 3, 0, 4, 1] rfl)
          · have h := ite_t h hc
            refine lv_aload_n hx hb d_X12_wordings_68 rfl (lv_at hl 2 rfl) ?_
            refine lv_iload_n hx hb d_X12_wordings_69 rfl (lv_at hl 4 rfl) ?_
            refine lv_i2l hx hb d_X12_wordings_70 rfl ?_
            obtain ⟨q7, e8, h⟩ := bd_some h
            refine r_callV (As := [.long y3.toInt64]) (rest := []) (st' := []) X hw hl mwX12_enters wd_1282 wp_38 wd_1280 (c_X12_enters hf e8) (r_recv X hw ct8 (o_300 hf)) rfl ⟨Nat.le_of_ble_eq_true rfl, Nat.le_of_ble_eq_true rfl⟩ ⟨Nat.le_refl _, Nat.le_refl _⟩ rfl rfl (Nat.le_of_ble_eq_true rfl) d_X12_wordings_71 (fun H locs hw => ?_)
            refine lv_aload_n hx hb d_X12_wordings_74 rfl (lv_at hl 2 rfl) ?_
            refine lv_iload hx hb d_X12_wordings_75 (lv_at hl 1 rfl) ?_
            refine lv_i2l hx hb d_X12_wordings_77 rfl ?_
            obtain ⟨q9, e10, h⟩ := bd_some h
            refine r_callV (As := [.long x4.toInt64]) (rest := []) (st' := []) X hw hl mwX12_enters wd_1282 wp_38 wd_1280 (c_X12_enters hf e10) (r_recv X hw ct8 (o_300 hf)) rfl ⟨Nat.le_of_ble_eq_true rfl, Nat.le_of_ble_eq_true rfl⟩ ⟨Nat.le_refl _, Nat.le_refl _⟩ rfl rfl (Nat.le_of_ble_eq_true rfl) d_X12_wordings_78 (fun H locs hw => ?_)
            exact j81_37 q9 y1 x2 y3 x4 o h hk _ _ _ hw (lv_sub hl [2, 3, 0, 4, 1] rfl)
  have b28 : ∀ (τ : St) (y1 : Int32) (x2 : Int32) (x3 : Int32) (o : (Int32 × Int32 × St) ⊕ (Int32 × St)), f_X12_wordings_s28 τ y1 x2 x3 = some o → Sum.elim (fun z : Int32 × Int32 × St => Wat p l e (rmk 2 46) s m args below meth c Q G 5 28 [] [(2, .int z.1), (3, .int z.2.1), (0, .ref (ga G 300)), (1, .int y1)] χ z.2.2) (fun z : Int32 × St => Wat p l e (rmk 2 46) s m args below meth c Q G 5 96 [] [(2, .int z.1)] χ z.2) o → Wat p l e (rmk 2 46) s m args below meth c Q G 5 28 [] [(2, .int x2), (3, .int x3), (0, .ref (ga G 300)), (1, .int y1)] χ τ := by
    intro τ y1 x2 x3 o h hk H locs ls hw hl
    unfold f_X12_wordings_s28 at h
    refine lv_iload_n hx hb d_X12_wordings_28 rfl (lv_at hl 1 rfl) ?_
    refine lv_bipush (v := (9 : Int32)) hx hb d_X12_wordings_29 (by decide) ?_
    refine lv_icmp_gt (tgt := 96) hx hb d_X12_wordings_31 (by decide) (fun hc => ?_) (fun hc => ?_)
    · have h := ite_t h hc
      obtain rfl := Option.some.inj h
      dsimp only [Sum.elim_inr] at hk
      exact hk _ _ _ hw (lv_sub hl [0] rfl)
    · have h := ite_f h hc
      refine lv_iconst (v := (0 : Int32)) hx hb d_X12_wordings_34 (by decide) ?_
      refine lv_istore (lv' := [(4, .int (0 : Int32)), (2, .int x2), (3, .int x3), (0, .ref (ga G 300)), (1, .int y1)]) hx hb d_X12_wordings_35 hl (Nat.le_of_ble_eq_true rfl) rfl (fun ls hl => ?_)
      obtain ⟨z11, e12, h⟩ := bd_some h
      refine iter_w (Wh := fun z : Int32 × Int32 × St => Wat p l e (rmk 2 46) s m args below meth c Q G 5 37 [] [(2, .int z.1), (4, .int z.2.1), (0, .ref (ga G 300)), (1, .int y1), (3, .int x3)] χ z.2.2) (K := fun z : Int32 × St => Wat p l e (rmk 2 46) s m args below meth c Q G 5 90 [] [(0, .ref (ga G 300)), (1, .int y1), (2, .int z.1), (3, .int x3)] χ z.2) (fun z o h1 h2 => b37 z.2.2 y1 x3 z.1 z.2.1 o h1 h2) FU _ _ e12 ?_ _ _ _ hw (lv_sub hl [1, 0, 3, 4, 2] rfl)
      intro H locs ls hw hl
      refine lv_iinc (v := (x3 + (1 : Int32))) (k := 3) (lv' := [(3, .int (x3 + (1 : Int32))), (0, .ref (ga G 300)), (1, .int y1), (2, .int z11.1)]) hx hb d_X12_wordings_90 hl rfl (by rfl) (Nat.le_of_ble_eq_true rfl) rfl (fun ls hl => ?_)
      refine lv_goto (tgt := 28) hx hb d_X12_wordings_93 (by decide) ?_
      obtain rfl := Option.some.inj h
      dsimp only [Sum.elim_inl] at hk
      exact hk _ _ _ hw (lv_sub hl [3, 0, 1, 2] rfl)
  intro H locs ls hw hl
  have hl : lv_has ls 5 [(0, .ref (ga G 300)), (1, .int a1)] := hl
  unfold f_X12_wordings at h
  refine lv_aload_n hx hb d_X12_wordings_0 rfl (lv_at hl 0 rfl) ?_
  refine lv_iconst (v := (0 : Int32)) hx hb d_X12_wordings_1 (by decide) ?_
  refine m_puti (j := 0) X hw ct8 (o_300 hf) (Nat.le_of_ble_eq_true rfl) rfl (Nat.le_of_ble_eq_true rfl) rfl rfl rfl wd_956 d_X12_wordings_2 (fun H locs hw => ?_)
  refine lv_iload_n hx hb d_X12_wordings_5 rfl (lv_at hl 1 rfl) ?_
  refine lv_i2l hx hb d_X12_wordings_6 rfl ?_
  refine lv_lconst (v := (0 : Int64)) hx hb d_X12_wordings_7 (by decide) ?_
  refine r_ldc2 X wd_1377 d_X12_wordings_8 ?_
  obtain ⟨q1, e2, h⟩ := bd_some h
  refine r_callS (As := [.long a1.toInt64, .long (0 : Int64), .long (20 : Int64)]) (rest := []) (st' := [.int q1]) X hw hl mwX12_in wd_1093 wd_1092 (c_X12_in hf e2) rfl ⟨Nat.le_of_ble_eq_true rfl, Nat.le_of_ble_eq_true rfl⟩ ⟨Nat.le_refl _, Nat.le_refl _⟩ rfl rfl (Nat.le_of_ble_eq_true rfl) d_X12_wordings_11 (fun H locs hw => ?_)
  refine lv_if_ne (tgt := 19) hx hb d_X12_wordings_14 (by decide) (fun hc => ?_) (fun hc => ?_)
  · have h := ite_f h hc
    refine lv_iconst (v := (0 : Int32)) hx hb d_X12_wordings_19 (by decide) ?_
    refine lv_istore_n (lv' := [(2, .int (0 : Int32)), (0, .ref (ga G 300)), (1, .int a1)]) hx hb d_X12_wordings_20 rfl hl (Nat.le_of_ble_eq_true rfl) rfl (fun ls hl => ?_)
    refine lv_aload_n hx hb d_X12_wordings_21 rfl (lv_at hl 1 rfl) ?_
    refine lv_iconst (v := (0 : Int32)) hx hb d_X12_wordings_22 (by decide) ?_
    refine m_puti (j := 1) X hw ct8 (o_300 hf) (Nat.le_of_ble_eq_true rfl) rfl (Nat.le_of_ble_eq_true rfl) rfl rfl rfl wd_957 d_X12_wordings_23 (fun H locs hw => ?_)
    refine lv_iconst (v := (0 : Int32)) hx hb d_X12_wordings_26 (by decide) ?_
    refine lv_istore_n (lv' := [(3, .int (0 : Int32)), (2, .int (0 : Int32)), (0, .ref (ga G 300)), (1, .int a1)]) hx hb d_X12_wordings_27 rfl hl (Nat.le_of_ble_eq_true rfl) rfl (fun ls hl => ?_)
    obtain ⟨z14, e15, h⟩ := bd_some h
    refine iter_w (Wh := fun z : Int32 × Int32 × St => Wat p l e (rmk 2 46) s m args below meth c Q G 5 28 [] [(2, .int z.1), (3, .int z.2.1), (0, .ref (ga G 300)), (1, .int a1)] χ z.2.2) (K := fun z : Int32 × St => Wat p l e (rmk 2 46) s m args below meth c Q G 5 96 [] [(2, .int z.1)] χ z.2) (fun z o h1 h2 => b28 z.2.2 a1 z.1 z.2.1 o h1 h2) FU _ _ e15 ?_ _ _ _ hw (lv_sub hl [1, 0, 2, 3] rfl)
    intro H locs ls hw hl
    refine lv_iload_n hx hb d_X12_wordings_96 rfl (lv_at hl 0 rfl) ?_
    obtain rfl := Option.some.inj h
    subst hQ
    exact r_iret X hr hlk hw d_X12_wordings_97
  · have h := ite_t h hc
    refine lv_iconst (v := (-1 : Int32)) hx hb d_X12_wordings_17 (by decide) ?_
    obtain rfl := Option.some.inj h
    subst hQ
    exact r_iret X hr hlk hw d_X12_wordings_18
abbrev yX12_draws : MethodName := ⟨"OysterBedsModel", "draws", "(I)I"⟩
theorem mwX12_draws : MW yX12_draws prog_14_method_114_code 2 (some .int) 1 := ⟨wd_1602, wd_10, by decide +kernel⟩
theorem d_X12_draws_0 : decode prog_14_method_114_code 0 = .ok (.aload_n 0, 1) := by decide +kernel
theorem d_X12_draws_1 : decode prog_14_method_114_code 1 = .ok (.aload_n 0, 1) := by decide +kernel
theorem d_X12_draws_2 : decode prog_14_method_114_code 2 = .ok (.getfield 417, 3) := by decide +kernel
theorem d_X12_draws_5 : decode prog_14_method_114_code 5 = .ok (.ldc_w 420, 3) := by decide +kernel
theorem d_X12_draws_8 : decode prog_14_method_114_code 8 = .ok (.imul, 1) := by decide +kernel
theorem d_X12_draws_9 : decode prog_14_method_114_code 9 = .ok (.sipush 12345, 3) := by decide +kernel
theorem d_X12_draws_12 : decode prog_14_method_114_code 12 = .ok (.iadd, 1) := by decide +kernel
theorem d_X12_draws_13 : decode prog_14_method_114_code 13 = .ok (.putfield 417, 3) := by decide +kernel
theorem d_X12_draws_16 : decode prog_14_method_114_code 16 = .ok (.aload_n 0, 1) := by decide +kernel
theorem d_X12_draws_17 : decode prog_14_method_114_code 17 = .ok (.getfield 417, 3) := by decide +kernel
theorem d_X12_draws_20 : decode prog_14_method_114_code 20 = .ok (.bipush 16, 2) := by decide +kernel
theorem d_X12_draws_22 : decode prog_14_method_114_code 22 = .ok (.iushr, 1) := by decide +kernel
theorem d_X12_draws_23 : decode prog_14_method_114_code 23 = .ok (.iload_n 1, 1) := by decide +kernel
theorem d_X12_draws_24 : decode prog_14_method_114_code 24 = .ok (.irem, 1) := by decide +kernel
theorem d_X12_draws_25 : decode prog_14_method_114_code 25 = .ok (.ireturn, 1) := by decide +kernel
def f_X12_draws (σ : St) (a1 : Int32) : Option (Int32 × St) := gd (nz a1) (some ((((cF (sF σ 300 37 (((cF σ 300 37) * (1103515245 : Int32)) + (12345 : Int32))) 300 37).toUInt32 >>> ((16 : Int32).toUInt32 &&& Int32.toUInt32 31)).toInt32 - ((cF (sF σ 300 37 (((cF σ 300 37) * (1103515245 : Int32)) + (12345 : Int32))) 300 37).toUInt32 >>> ((16 : Int32).toUInt32 &&& Int32.toUInt32 31)).toInt32 / a1 * a1), (sF σ 300 37 (((cF σ 300 37) * (1103515245 : Int32)) + (12345 : Int32)))))
theorem c_X12_draws {l : Launch} {G : gT} {χ σ : St} {a1 : Int32} (hf : FW G) {q : Int32 × St} (h : f_X12_draws σ a1 = some q) : Ct l G yX12_draws prog_14_method_114_code 2 (some .int) 0 0 [.ref (ga G 300), .int a1] χ σ (some (.int q.1)) χ q.2 := by
  refine Ct.of (by decide) (Nat.le_of_ble_eq_true rfl) ?_
  intro p e s m args below meth c Q X hr hlk hQ
  have hx := X.1
  have hb := X.2.1
  intro H locs ls hw hl
  have hl : lv_has ls 2 [(0, .ref (ga G 300)), (1, .int a1)] := hl
  unfold f_X12_draws at h
  refine lv_aload_n hx hb d_X12_draws_0 rfl (lv_at hl 0 rfl) ?_
  refine lv_aload_n hx hb d_X12_draws_1 rfl (lv_at hl 0 rfl) ?_
  refine m_geti (j := 37) X hw ct8 (o_300 hf) (Nat.le_of_ble_eq_true rfl) rfl (Nat.le_of_ble_eq_true rfl) wd_993 d_X12_draws_2 ?_
  refine r_ldcw X wd_1603 d_X12_draws_5 ?_
  refine lv_imul hx hb d_X12_draws_8 ?_
  refine lv_sipush (v := (12345 : Int32)) hx hb d_X12_draws_9 (by decide) ?_
  refine lv_iadd hx hb d_X12_draws_12 ?_
  refine m_puti (j := 37) X hw ct8 (o_300 hf) (Nat.le_of_ble_eq_true rfl) rfl (Nat.le_of_ble_eq_true rfl) rfl rfl rfl wd_993 d_X12_draws_13 (fun H locs hw => ?_)
  refine lv_aload_n hx hb d_X12_draws_16 rfl (lv_at hl 0 rfl) ?_
  refine m_geti (j := 37) X hw ct8 (o_300 hf) (Nat.le_of_ble_eq_true rfl) rfl (Nat.le_of_ble_eq_true rfl) wd_993 d_X12_draws_17 ?_
  refine lv_bipush (v := (16 : Int32)) hx hb d_X12_draws_20 (by decide) ?_
  refine lv_iushr hx hb d_X12_draws_22 rfl ?_
  refine lv_iload_n hx hb d_X12_draws_23 rfl (lv_at hl 1 rfl) ?_
  obtain ⟨hz1, h⟩ := gd_some h
  refine lv_irem hx hb d_X12_draws_24 (nz_ne hz1) ?_
  obtain rfl := Option.some.inj h
  subst hQ
  exact r_iret X hr hlk hw d_X12_draws_25
abbrev yX12_years : MethodName := ⟨"OysterBedsModel", "years", "(II)I"⟩
theorem mwX12_years : MW yX12_years prog_14_method_115_code 7 (some .int) 2 := ⟨wd_1598, wd_10, by decide +kernel⟩
theorem d_X12_years_0 : decode prog_14_method_115_code 0 = .ok (.aload_n 0, 1) := by decide +kernel
theorem d_X12_years_1 : decode prog_14_method_115_code 1 = .ok (.iconst 0, 1) := by decide +kernel
theorem d_X12_years_2 : decode prog_14_method_115_code 2 = .ok (.putfield 87, 3) := by decide +kernel
theorem d_X12_years_5 : decode prog_14_method_115_code 5 = .ok (.iload_n 2, 1) := by decide +kernel
theorem d_X12_years_6 : decode prog_14_method_115_code 6 = .ok (.i2l, 1) := by decide +kernel
theorem d_X12_years_7 : decode prog_14_method_115_code 7 = .ok (.lconst 1, 1) := by decide +kernel
theorem d_X12_years_8 : decode prog_14_method_115_code 8 = .ok (.ldc2_w 279, 3) := by decide +kernel
theorem d_X12_years_11 : decode prog_14_method_115_code 11 = .ok (.invokestatic 105, 3) := by decide +kernel
theorem d_X12_years_14 : decode prog_14_method_115_code 14 = .ok (.ifCond .ne 5, 3) := by decide +kernel
theorem d_X12_years_17 : decode prog_14_method_115_code 17 = .ok (.iconst (-1), 1) := by decide +kernel
theorem d_X12_years_18 : decode prog_14_method_115_code 18 = .ok (.ireturn, 1) := by decide +kernel
theorem d_X12_years_19 : decode prog_14_method_115_code 19 = .ok (.aload_n 0, 1) := by decide +kernel
theorem d_X12_years_20 : decode prog_14_method_115_code 20 = .ok (.iload_n 1, 1) := by decide +kernel
theorem d_X12_years_21 : decode prog_14_method_115_code 21 = .ok (.putfield 417, 3) := by decide +kernel
theorem d_X12_years_24 : decode prog_14_method_115_code 24 = .ok (.aload_n 0, 1) := by decide +kernel
theorem d_X12_years_25 : decode prog_14_method_115_code 25 = .ok (.invokevirtual 318, 3) := by decide +kernel
theorem d_X12_years_28 : decode prog_14_method_115_code 28 = .ok (.iconst 0, 1) := by decide +kernel
theorem d_X12_years_29 : decode prog_14_method_115_code 29 = .ok (.istore_n 3, 1) := by decide +kernel
theorem d_X12_years_30 : decode prog_14_method_115_code 30 = .ok (.iconst 0, 1) := by decide +kernel
theorem d_X12_years_31 : decode prog_14_method_115_code 31 = .ok (.istore 4, 2) := by decide +kernel
theorem d_X12_years_33 : decode prog_14_method_115_code 33 = .ok (.iload 4, 2) := by decide +kernel
theorem d_X12_years_35 : decode prog_14_method_115_code 35 = .ok (.iload_n 2, 1) := by decide +kernel
theorem d_X12_years_36 : decode prog_14_method_115_code 36 = .ok (.if_icmp .ge 105, 3) := by decide +kernel
theorem d_X12_years_39 : decode prog_14_method_115_code 39 = .ok (.aload_n 0, 1) := by decide +kernel
theorem d_X12_years_40 : decode prog_14_method_115_code 40 = .ok (.iconst 4, 1) := by decide +kernel
theorem d_X12_years_41 : decode prog_14_method_115_code 41 = .ok (.invokevirtual 421, 3) := by decide +kernel
theorem d_X12_years_44 : decode prog_14_method_115_code 44 = .ok (.istore 5, 2) := by decide +kernel
theorem d_X12_years_46 : decode prog_14_method_115_code 46 = .ok (.iload 5, 2) := by decide +kernel
theorem d_X12_years_48 : decode prog_14_method_115_code 48 = .ok (.iconst 2, 1) := by decide +kernel
theorem d_X12_years_49 : decode prog_14_method_115_code 49 = .ok (.if_icmp .ge 15, 3) := by decide +kernel
theorem d_X12_years_52 : decode prog_14_method_115_code 52 = .ok (.aload_n 0, 1) := by decide +kernel
theorem d_X12_years_53 : decode prog_14_method_115_code 53 = .ok (.aload_n 0, 1) := by decide +kernel
theorem d_X12_years_54 : decode prog_14_method_115_code 54 = .ok (.getfield 20, 3) := by decide +kernel
theorem d_X12_years_57 : decode prog_14_method_115_code 57 = .ok (.iconst 1, 1) := by decide +kernel
theorem d_X12_years_58 : decode prog_14_method_115_code 58 = .ok (.invokevirtual 281, 3) := by decide +kernel
theorem d_X12_years_61 : decode prog_14_method_115_code 61 = .ok (.goto 74, 3) := by decide +kernel
theorem d_X12_years_64 : decode prog_14_method_115_code 64 = .ok (.iload 5, 2) := by decide +kernel
theorem d_X12_years_66 : decode prog_14_method_115_code 66 = .ok (.iconst 2, 1) := by decide +kernel
theorem d_X12_years_67 : decode prog_14_method_115_code 67 = .ok (.if_icmp .ne 35, 3) := by decide +kernel
theorem d_X12_years_70 : decode prog_14_method_115_code 70 = .ok (.aload_n 0, 1) := by decide +kernel
theorem d_X12_years_71 : decode prog_14_method_115_code 71 = .ok (.iconst 4, 1) := by decide +kernel
theorem d_X12_years_72 : decode prog_14_method_115_code 72 = .ok (.invokevirtual 421, 3) := by decide +kernel
theorem d_X12_years_75 : decode prog_14_method_115_code 75 = .ok (.istore 6, 2) := by decide +kernel
theorem d_X12_years_77 : decode prog_14_method_115_code 77 = .ok (.iload_n 3, 1) := by decide +kernel
theorem d_X12_years_78 : decode prog_14_method_115_code 78 = .ok (.aload_n 0, 1) := by decide +kernel
theorem d_X12_years_79 : decode prog_14_method_115_code 79 = .ok (.aload_n 0, 1) := by decide +kernel
theorem d_X12_years_80 : decode prog_14_method_115_code 80 = .ok (.getfield 20, 3) := by decide +kernel
theorem d_X12_years_83 : decode prog_14_method_115_code 83 = .ok (.iload 6, 2) := by decide +kernel
theorem d_X12_years_85 : decode prog_14_method_115_code 85 = .ok (.aload_n 0, 1) := by decide +kernel
theorem d_X12_years_86 : decode prog_14_method_115_code 86 = .ok (.bipush 10, 2) := by decide +kernel
theorem d_X12_years_88 : decode prog_14_method_115_code 88 = .ok (.invokevirtual 421, 3) := by decide +kernel
theorem d_X12_years_91 : decode prog_14_method_115_code 91 = .ok (.invokevirtual 276, 3) := by decide +kernel
theorem d_X12_years_94 : decode prog_14_method_115_code 94 = .ok (.invokestatic 235, 3) := by decide +kernel
theorem d_X12_years_97 : decode prog_14_method_115_code 97 = .ok (.iadd, 1) := by decide +kernel
theorem d_X12_years_98 : decode prog_14_method_115_code 98 = .ok (.istore_n 3, 1) := by decide +kernel
theorem d_X12_years_99 : decode prog_14_method_115_code 99 = .ok (.goto 36, 3) := by decide +kernel
theorem d_X12_years_102 : decode prog_14_method_115_code 102 = .ok (.aload_n 0, 1) := by decide +kernel
theorem d_X12_years_103 : decode prog_14_method_115_code 103 = .ok (.getfield 102, 3) := by decide +kernel
theorem d_X12_years_106 : decode prog_14_method_115_code 106 = .ok (.ifCond .le 29, 3) := by decide +kernel
theorem d_X12_years_109 : decode prog_14_method_115_code 109 = .ok (.aload_n 0, 1) := by decide +kernel
theorem d_X12_years_110 : decode prog_14_method_115_code 110 = .ok (.aload_n 0, 1) := by decide +kernel
theorem d_X12_years_111 : decode prog_14_method_115_code 111 = .ok (.getfield 102, 3) := by decide +kernel
theorem d_X12_years_114 : decode prog_14_method_115_code 114 = .ok (.invokevirtual 421, 3) := by decide +kernel
theorem d_X12_years_117 : decode prog_14_method_115_code 117 = .ok (.istore 6, 2) := by decide +kernel
theorem d_X12_years_119 : decode prog_14_method_115_code 119 = .ok (.aload_n 0, 1) := by decide +kernel
theorem d_X12_years_120 : decode prog_14_method_115_code 120 = .ok (.getfield 20, 3) := by decide +kernel
theorem d_X12_years_123 : decode prog_14_method_115_code 123 = .ok (.bipush 8, 2) := by decide +kernel
theorem d_X12_years_125 : decode prog_14_method_115_code 125 = .ok (.iload 6, 2) := by decide +kernel
theorem d_X12_years_127 : decode prog_14_method_115_code 127 = .ok (.iadd, 1) := by decide +kernel
theorem d_X12_years_128 : decode prog_14_method_115_code 128 = .ok (.aload_n 0, 1) := by decide +kernel
theorem d_X12_years_129 : decode prog_14_method_115_code 129 = .ok (.bipush 16, 2) := by decide +kernel
theorem d_X12_years_131 : decode prog_14_method_115_code 131 = .ok (.invokevirtual 421, 3) := by decide +kernel
theorem d_X12_years_134 : decode prog_14_method_115_code 134 = .ok (.iastore, 1) := by decide +kernel
theorem d_X12_years_135 : decode prog_14_method_115_code 135 = .ok (.iinc 4 1, 3) := by decide +kernel
theorem d_X12_years_138 : decode prog_14_method_115_code 138 = .ok (.goto (-105), 3) := by decide +kernel
theorem d_X12_years_141 : decode prog_14_method_115_code 141 = .ok (.aload_n 0, 1) := by decide +kernel
theorem d_X12_years_142 : decode prog_14_method_115_code 142 = .ok (.iconst 0, 1) := by decide +kernel
theorem d_X12_years_143 : decode prog_14_method_115_code 143 = .ok (.putfield 95, 3) := by decide +kernel
theorem d_X12_years_146 : decode prog_14_method_115_code 146 = .ok (.aload_n 0, 1) := by decide +kernel
theorem d_X12_years_147 : decode prog_14_method_115_code 147 = .ok (.aload_n 0, 1) := by decide +kernel
theorem d_X12_years_148 : decode prog_14_method_115_code 148 = .ok (.aload_n 0, 1) := by decide +kernel
theorem d_X12_years_149 : decode prog_14_method_115_code 149 = .ok (.getfield 20, 3) := by decide +kernel
theorem d_X12_years_152 : decode prog_14_method_115_code 152 = .ok (.invokevirtual 228, 3) := by decide +kernel
theorem d_X12_years_155 : decode prog_14_method_115_code 155 = .ok (.i2l, 1) := by decide +kernel
theorem d_X12_years_156 : decode prog_14_method_115_code 156 = .ok (.invokevirtual 98, 3) := by decide +kernel
theorem d_X12_years_159 : decode prog_14_method_115_code 159 = .ok (.aload_n 0, 1) := by decide +kernel
theorem d_X12_years_160 : decode prog_14_method_115_code 160 = .ok (.aload_n 0, 1) := by decide +kernel
theorem d_X12_years_161 : decode prog_14_method_115_code 161 = .ok (.aload_n 0, 1) := by decide +kernel
theorem d_X12_years_162 : decode prog_14_method_115_code 162 = .ok (.getfield 20, 3) := by decide +kernel
theorem d_X12_years_165 : decode prog_14_method_115_code 165 = .ok (.bipush 24, 2) := by decide +kernel
theorem d_X12_years_167 : decode prog_14_method_115_code 167 = .ok (.invokevirtual 254, 3) := by decide +kernel
theorem d_X12_years_170 : decode prog_14_method_115_code 170 = .ok (.i2l, 1) := by decide +kernel
theorem d_X12_years_171 : decode prog_14_method_115_code 171 = .ok (.invokevirtual 98, 3) := by decide +kernel
theorem d_X12_years_174 : decode prog_14_method_115_code 174 = .ok (.iload_n 3, 1) := by decide +kernel
theorem d_X12_years_175 : decode prog_14_method_115_code 175 = .ok (.ireturn, 1) := by decide +kernel
def f_X12_years_j135_33 (τ : St) (x2 : Int32) (x3 : Int32) (x4 : Int32) : Option ((Int32 × Int32 × St) ⊕ (Int32 × St)) := some (.inl (x3, (x4 + (1 : Int32)), τ))
def f_X12_years_s33 (τ : St) (y2 : Int32) (x3 : Int32) (x4 : Int32) : Option ((Int32 × Int32 × St) ⊕ (Int32 × St)) := (if y2 ≤ x4 then some (.inr (x3, τ)) else (f_X12_draws τ (4 : Int32)).bind (fun q5 => (if (2 : Int32) ≤ q5.1 then (if q5.1 = (2 : Int32) then (f_X12_draws q5.2 (4 : Int32)).bind (fun q12 => (f_X12_draws q12.2 (10 : Int32)).bind (fun q14 => (f_X12_asksAll q14.2 307 q12.1 q14.1).bind (fun q16 => (f_J6_bitCount_0f7a4 q16.1).bind (fun q18 => f_X12_years_j135_33 q16.2 y2 (x3 + q18) x4)))) else (if (cF q5.2 300 3) ≤ 0 then f_X12_years_j135_33 q5.2 y2 x3 x4 else (f_X12_draws q5.2 (cF q5.2 300 3)).bind (fun q7 => (f_X12_draws q7.2 (16 : Int32)).bind (fun q9 => gd (inb ((8 : Int32) + q7.1) 34) (f_X12_years_j135_33 (sA q9.2 307 ((8 : Int32) + q7.1).toNatClampNeg q9.1) y2 x3 x4))))) else (f_X12_goesOn q5.2 307 (1 : Int32)).bind (fun q20 => f_X12_years_j135_33 q20 y2 x3 x4))))
def f_X12_years (σ : St) (a1 : Int32) (a2 : Int32) : Option (Int32 × St) := (f_X12_in a2.toInt64 (1 : Int64) (60 : Int64)).bind (fun q1 => (if q1 = 0 then some ((-1 : Int32), (sF σ 300 0 (0 : Int32))) else (f_X12_copies (sF (sF σ 300 0 (0 : Int32)) 300 37 a1)).bind (fun q3 => (iter (fun z => f_X12_years_s33 z.2.2 a2 z.1 z.2.1) FU ((0 : Int32), (0 : Int32), q3)).bind (fun z22 => (f_X12_openOnes (sF z22.2 300 1 (0 : Int32)) 307).bind (fun q25 => (f_X12_enters (sF z22.2 300 1 (0 : Int32)) q25.toInt64).bind (fun q27 => (f_X12_sumOf q27 307 (24 : Int32)).bind (fun q29 => (f_X12_enters q27 q29.toInt64).bind (fun q31 => some (z22.1, q31)))))))))
theorem c_X12_years {l : Launch} {G : gT} {χ σ : St} {a1 : Int32} {a2 : Int32} (hf : FW G) {q : Int32 × St} (h : f_X12_years σ a1 a2 = some q) : Ct l G yX12_years prog_14_method_115_code 7 (some .int) 5 116 [.ref (ga G 300), .int a1, .int a2] χ σ (some (.int q.1)) χ q.2 := by
  refine Ct.of (by decide) (Nat.le_of_ble_eq_true rfl) ?_
  intro p e s m args below meth c Q X hr hlk hQ
  have hx := X.1
  have hb := X.2.1
  have j135_33 : ∀ (τ : St) (x2 : Int32) (x3 : Int32) (x4 : Int32) (o : (Int32 × Int32 × St) ⊕ (Int32 × St)), f_X12_years_j135_33 τ x2 x3 x4 = some o → Sum.elim (fun z : Int32 × Int32 × St => Wat p l e (rmk 5 116) s m args below meth c Q G 7 33 [] [(3, .int z.1), (4, .int z.2.1), (0, .ref (ga G 300)), (2, .int x2)] χ z.2.2) (fun z : Int32 × St => Wat p l e (rmk 5 116) s m args below meth c Q G 7 141 [] [(0, .ref (ga G 300)), (3, .int z.1)] χ z.2) o → Wat p l e (rmk 5 116) s m args below meth c Q G 7 135 [] [(0, .ref (ga G 300)), (2, .int x2), (3, .int x3), (4, .int x4)] χ τ := by
    intro τ x2 x3 x4 o h hk H locs ls hw hl
    unfold f_X12_years_j135_33 at h
    refine lv_iinc (v := (x4 + (1 : Int32))) (k := 3) (lv' := [(4, .int (x4 + (1 : Int32))), (0, .ref (ga G 300)), (2, .int x2), (3, .int x3)]) hx hb d_X12_years_135 hl rfl (by rfl) (Nat.le_of_ble_eq_true rfl) rfl (fun ls hl => ?_)
    refine lv_goto (tgt := 33) hx hb d_X12_years_138 (by decide) ?_
    obtain rfl := Option.some.inj h
    dsimp only [Sum.elim_inl] at hk
    exact hk _ _ _ hw (lv_sub hl [3, 0, 1, 2] rfl)
  have b33 : ∀ (τ : St) (y2 : Int32) (x3 : Int32) (x4 : Int32) (o : (Int32 × Int32 × St) ⊕ (Int32 × St)), f_X12_years_s33 τ y2 x3 x4 = some o → Sum.elim (fun z : Int32 × Int32 × St => Wat p l e (rmk 5 116) s m args below meth c Q G 7 33 [] [(3, .int z.1), (4, .int z.2.1), (0, .ref (ga G 300)), (2, .int y2)] χ z.2.2) (fun z : Int32 × St => Wat p l e (rmk 5 116) s m args below meth c Q G 7 141 [] [(0, .ref (ga G 300)), (3, .int z.1)] χ z.2) o → Wat p l e (rmk 5 116) s m args below meth c Q G 7 33 [] [(3, .int x3), (4, .int x4), (0, .ref (ga G 300)), (2, .int y2)] χ τ := by
    intro τ y2 x3 x4 o h hk H locs ls hw hl
    unfold f_X12_years_s33 at h
    refine lv_iload hx hb d_X12_years_33 (lv_at hl 1 rfl) ?_
    refine lv_iload_n hx hb d_X12_years_35 rfl (lv_at hl 3 rfl) ?_
    refine lv_icmp_ge (tgt := 141) hx hb d_X12_years_36 (by decide) (fun hc => ?_) (fun hc => ?_)
    · have h := ite_t h hc
      obtain rfl := Option.some.inj h
      dsimp only [Sum.elim_inr] at hk
      exact hk _ _ _ hw (lv_sub hl [2, 0] rfl)
    · have h := ite_f h hc
      refine lv_aload_n hx hb d_X12_years_39 rfl (lv_at hl 2 rfl) ?_
      refine lv_iconst (v := (4 : Int32)) hx hb d_X12_years_40 (by decide) ?_
      obtain ⟨q5, e6, h⟩ := bd_some h
      refine r_callV (As := [.int (4 : Int32)]) (rest := []) (st' := [.int q5.1]) X hw hl mwX12_draws wd_1601 wp_67 wd_1599 (c_X12_draws hf e6) (r_recv X hw ct8 (o_300 hf)) rfl ⟨Nat.le_of_ble_eq_true rfl, Nat.le_of_ble_eq_true rfl⟩ ⟨Nat.le_refl _, Nat.le_refl _⟩ rfl rfl (Nat.le_of_ble_eq_true rfl) d_X12_years_41 (fun H locs hw => ?_)
      refine lv_istore (lv' := [(5, .int q5.1), (3, .int x3), (4, .int x4), (0, .ref (ga G 300)), (2, .int y2)]) hx hb d_X12_years_44 hl (Nat.le_of_ble_eq_true rfl) rfl (fun ls hl => ?_)
      refine lv_iload hx hb d_X12_years_46 (lv_at hl 0 rfl) ?_
      refine lv_iconst (v := (2 : Int32)) hx hb d_X12_years_48 (by decide) ?_
      refine lv_icmp_ge (tgt := 64) hx hb d_X12_years_49 (by decide) (fun hc => ?_) (fun hc => ?_)
      · have h := ite_t h hc
        refine lv_iload hx hb d_X12_years_64 (lv_at hl 0 rfl) ?_
        refine lv_iconst (v := (2 : Int32)) hx hb d_X12_years_66 (by decide) ?_
        refine lv_icmp_ne (tgt := 102) hx hb d_X12_years_67 (by decide) (fun hc => ?_) (fun hc => ?_)
        · have h := ite_f h hc
          refine lv_aload_n hx hb d_X12_years_102 rfl (lv_at hl 3 rfl) ?_
          refine m_geti (j := 3) X hw ct8 (o_300 hf) (Nat.le_of_ble_eq_true rfl) rfl (Nat.le_of_ble_eq_true rfl) wd_959 d_X12_years_103 ?_
          refine lv_if_le (tgt := 135) hx hb d_X12_years_106 (by decide) (fun hc => ?_) (fun hc => ?_)
          · have h := ite_t h hc
            exact j135_33 q5.2 y2 x3 x4 o h hk _ _ _ hw (lv_sub hl [3, 4, 1, 2] rfl)
          · have h := ite_f h hc
            refine lv_aload_n hx hb d_X12_years_109 rfl (lv_at hl 3 rfl) ?_
            refine lv_aload_n hx hb d_X12_years_110 rfl (lv_at hl 3 rfl) ?_
            refine m_geti (j := 3) X hw ct8 (o_300 hf) (Nat.le_of_ble_eq_true rfl) rfl (Nat.le_of_ble_eq_true rfl) wd_959 d_X12_years_111 ?_
            obtain ⟨q7, e8, h⟩ := bd_some h
            refine r_callV (As := [.int (cF q5.2 300 3)]) (rest := []) (st' := [.int q7.1]) X hw hl mwX12_draws wd_1601 wp_67 wd_1599 (c_X12_draws hf e8) (r_recv X hw ct8 (o_300 hf)) rfl ⟨Nat.le_of_ble_eq_true rfl, Nat.le_of_ble_eq_true rfl⟩ ⟨Nat.le_refl _, Nat.le_refl _⟩ rfl rfl (Nat.le_of_ble_eq_true rfl) d_X12_years_114 (fun H locs hw => ?_)
            refine lv_istore (lv' := [(6, .int q7.1), (5, .int q5.1), (3, .int x3), (4, .int x4), (0, .ref (ga G 300)), (2, .int y2)]) hx hb d_X12_years_117 hl (Nat.le_of_ble_eq_true rfl) rfl (fun ls hl => ?_)
            refine lv_aload_n hx hb d_X12_years_119 rfl (lv_at hl 4 rfl) ?_
            refine r_getr (j := 7) X hw ct8 (o_300 hf) rfl (Nat.le_of_ble_eq_true rfl) (q := 307) rfl wd_963 d_X12_years_120 ?_
            refine lv_bipush (v := (8 : Int32)) hx hb d_X12_years_123 (by decide) ?_
            refine lv_iload hx hb d_X12_years_125 (lv_at hl 0 rfl) ?_
            refine lv_iadd hx hb d_X12_years_127 ?_
            refine lv_aload_n hx hb d_X12_years_128 rfl (lv_at hl 4 rfl) ?_
            refine lv_bipush (v := (16 : Int32)) hx hb d_X12_years_129 (by decide) ?_
            obtain ⟨q9, e10, h⟩ := bd_some h
            refine r_callV (As := [.int (16 : Int32)]) (rest := [.int ((8 : Int32) + q7.1), .ref (ga G 307)]) (st' := [.int q9.1, .int ((8 : Int32) + q7.1), .ref (ga G 307)]) X hw hl mwX12_draws wd_1601 wp_67 wd_1599 (c_X12_draws hf e10) (r_recv X hw ct8 (o_300 hf)) rfl ⟨Nat.le_of_ble_eq_true rfl, Nat.le_of_ble_eq_true rfl⟩ ⟨Nat.le_refl _, Nat.le_refl _⟩ rfl rfl (Nat.le_of_ble_eq_true rfl) d_X12_years_131 (fun H locs hw => ?_)
            obtain ⟨hi11, h⟩ := gd_some h
            refine m_iast X hw (o_307 hf) (Nat.le_of_ble_eq_true rfl) hi11 d_X12_years_134 (fun H locs hw => ?_)
            exact j135_33 (sA q9.2 307 ((8 : Int32) + q7.1).toNatClampNeg q9.1) y2 x3 x4 o h hk _ _ _ hw (lv_sub hl [4, 5, 2, 3] rfl)
        · have h := ite_t h hc
          refine lv_aload_n hx hb d_X12_years_70 rfl (lv_at hl 3 rfl) ?_
          refine lv_iconst (v := (4 : Int32)) hx hb d_X12_years_71 (by decide) ?_
          obtain ⟨q12, e13, h⟩ := bd_some h
          refine r_callV (As := [.int (4 : Int32)]) (rest := []) (st' := [.int q12.1]) X hw hl mwX12_draws wd_1601 wp_67 wd_1599 (c_X12_draws hf e13) (r_recv X hw ct8 (o_300 hf)) rfl ⟨Nat.le_of_ble_eq_true rfl, Nat.le_of_ble_eq_true rfl⟩ ⟨Nat.le_refl _, Nat.le_refl _⟩ rfl rfl (Nat.le_of_ble_eq_true rfl) d_X12_years_72 (fun H locs hw => ?_)
          refine lv_istore (lv' := [(6, .int q12.1), (5, .int q5.1), (3, .int x3), (4, .int x4), (0, .ref (ga G 300)), (2, .int y2)]) hx hb d_X12_years_75 hl (Nat.le_of_ble_eq_true rfl) rfl (fun ls hl => ?_)
          refine lv_iload_n hx hb d_X12_years_77 rfl (lv_at hl 2 rfl) ?_
          refine lv_aload_n hx hb d_X12_years_78 rfl (lv_at hl 4 rfl) ?_
          refine lv_aload_n hx hb d_X12_years_79 rfl (lv_at hl 4 rfl) ?_
          refine r_getr (j := 7) X hw ct8 (o_300 hf) rfl (Nat.le_of_ble_eq_true rfl) (q := 307) rfl wd_963 d_X12_years_80 ?_
          refine lv_iload hx hb d_X12_years_83 (lv_at hl 0 rfl) ?_
          refine lv_aload_n hx hb d_X12_years_85 rfl (lv_at hl 4 rfl) ?_
          refine lv_bipush (v := (10 : Int32)) hx hb d_X12_years_86 (by decide) ?_
          obtain ⟨q14, e15, h⟩ := bd_some h
          refine r_callV (As := [.int (10 : Int32)]) (rest := [.int q12.1, .ref (ga G 307), .ref (ga G 300), .int x3]) (st' := [.int q14.1, .int q12.1, .ref (ga G 307), .ref (ga G 300), .int x3]) X hw hl mwX12_draws wd_1601 wp_67 wd_1599 (c_X12_draws hf e15) (r_recv X hw ct8 (o_300 hf)) rfl ⟨Nat.le_of_ble_eq_true rfl, Nat.le_of_ble_eq_true rfl⟩ ⟨Nat.le_refl _, Nat.le_refl _⟩ rfl rfl (Nat.le_of_ble_eq_true rfl) d_X12_years_88 (fun H locs hw => ?_)
          obtain ⟨q16, e17, h⟩ := bd_some h
          refine r_callV (As := [.ref (ga G 307), .int q12.1, .int q14.1]) (rest := [.int x3]) (st' := [.int q16.1, .int x3]) X hw hl mwX12_asksAll wd_1255 wp_33 wd_1253 (c_X12_asksAll hf (o_307 hf) (Nat.le_of_ble_eq_true rfl) e17) (r_recv X hw ct8 (o_300 hf)) rfl ⟨Nat.le_of_ble_eq_true rfl, Nat.le_of_ble_eq_true rfl⟩ ⟨Nat.le_refl _, Nat.le_refl _⟩ rfl rfl (Nat.le_of_ble_eq_true rfl) d_X12_years_91 (fun H locs hw => ?_)
          obtain ⟨q18, e19, h⟩ := bd_some h
          refine r_callS (As := [.int q16.1]) (rest := [.int x3]) (st' := [.int q18, .int x3]) X hw hl mwJ6_bitCount_0f7a4 wd_436 wd_1272 (c_J6_bitCount_0f7a4 e19) rfl ⟨Nat.le_of_ble_eq_true rfl, Nat.le_of_ble_eq_true rfl⟩ ⟨Nat.le_refl _, Nat.le_refl _⟩ rfl rfl (Nat.le_of_ble_eq_true rfl) d_X12_years_94 (fun H locs hw => ?_)
          refine lv_iadd hx hb d_X12_years_97 ?_
          refine lv_istore_n (lv' := [(3, .int (x3 + q18)), (6, .int q12.1), (5, .int q5.1), (4, .int x4), (0, .ref (ga G 300)), (2, .int y2)]) hx hb d_X12_years_98 rfl hl (Nat.le_of_ble_eq_true rfl) rfl (fun ls hl => ?_)
          refine lv_goto (tgt := 135) hx hb d_X12_years_99 (by decide) ?_
          exact j135_33 q16.2 y2 (x3 + q18) x4 o h hk _ _ _ hw (lv_sub hl [4, 5, 0, 3] rfl)
      · have h := ite_f h hc
        refine lv_aload_n hx hb d_X12_years_52 rfl (lv_at hl 3 rfl) ?_
        refine lv_aload_n hx hb d_X12_years_53 rfl (lv_at hl 3 rfl) ?_
        refine r_getr (j := 7) X hw ct8 (o_300 hf) rfl (Nat.le_of_ble_eq_true rfl) (q := 307) rfl wd_963 d_X12_years_54 ?_
        refine lv_iconst (v := (1 : Int32)) hx hb d_X12_years_57 (by decide) ?_
        obtain ⟨q20, e21, h⟩ := bd_some h
        refine r_callV (As := [.ref (ga G 307), .int (1 : Int32)]) (rest := []) (st' := []) X hw hl mwX12_goesOn wd_1295 wp_40 wd_1293 (c_X12_goesOn hf (o_307 hf) (Nat.le_of_ble_eq_true rfl) e21) (r_recv X hw ct8 (o_300 hf)) rfl ⟨Nat.le_of_ble_eq_true rfl, Nat.le_of_ble_eq_true rfl⟩ ⟨Nat.le_refl _, Nat.le_refl _⟩ rfl rfl (Nat.le_of_ble_eq_true rfl) d_X12_years_58 (fun H locs hw => ?_)
        refine lv_goto (tgt := 135) hx hb d_X12_years_61 (by decide) ?_
        exact j135_33 q20 y2 x3 x4 o h hk _ _ _ hw (lv_sub hl [3, 4, 1, 2] rfl)
  intro H locs ls hw hl
  have hl : lv_has ls 7 [(0, .ref (ga G 300)), (1, .int a1), (2, .int a2)] := hl
  unfold f_X12_years at h
  refine lv_aload_n hx hb d_X12_years_0 rfl (lv_at hl 0 rfl) ?_
  refine lv_iconst (v := (0 : Int32)) hx hb d_X12_years_1 (by decide) ?_
  refine m_puti (j := 0) X hw ct8 (o_300 hf) (Nat.le_of_ble_eq_true rfl) rfl (Nat.le_of_ble_eq_true rfl) rfl rfl rfl wd_956 d_X12_years_2 (fun H locs hw => ?_)
  refine lv_iload_n hx hb d_X12_years_5 rfl (lv_at hl 2 rfl) ?_
  refine lv_i2l hx hb d_X12_years_6 rfl ?_
  refine lv_lconst (v := (1 : Int64)) hx hb d_X12_years_7 (by decide) ?_
  refine r_ldc2 X wd_1292 d_X12_years_8 ?_
  obtain ⟨q1, e2, h⟩ := bd_some h
  refine r_callS (As := [.long a2.toInt64, .long (1 : Int64), .long (60 : Int64)]) (rest := []) (st' := [.int q1]) X hw hl mwX12_in wd_1093 wd_1092 (c_X12_in hf e2) rfl ⟨Nat.le_of_ble_eq_true rfl, Nat.le_of_ble_eq_true rfl⟩ ⟨Nat.le_refl _, Nat.le_refl _⟩ rfl rfl (Nat.le_of_ble_eq_true rfl) d_X12_years_11 (fun H locs hw => ?_)
  refine lv_if_ne (tgt := 19) hx hb d_X12_years_14 (by decide) (fun hc => ?_) (fun hc => ?_)
  · have h := ite_f h hc
    refine lv_aload_n hx hb d_X12_years_19 rfl (lv_at hl 0 rfl) ?_
    refine lv_iload_n hx hb d_X12_years_20 rfl (lv_at hl 1 rfl) ?_
    refine m_puti (j := 37) X hw ct8 (o_300 hf) (Nat.le_of_ble_eq_true rfl) rfl (Nat.le_of_ble_eq_true rfl) rfl rfl rfl wd_993 d_X12_years_21 (fun H locs hw => ?_)
    refine lv_aload_n hx hb d_X12_years_24 rfl (lv_at hl 0 rfl) ?_
    obtain ⟨q3, e4, h⟩ := bd_some h
    refine r_callV (As := []) (rest := []) (st' := []) X hw hl mwX12_copies wd_1380 wp_50 wd_1378 (c_X12_copies hf e4) (r_recv X hw ct8 (o_300 hf)) rfl ⟨Nat.le_of_ble_eq_true rfl, Nat.le_of_ble_eq_true rfl⟩ ⟨Nat.le_refl _, Nat.le_refl _⟩ rfl rfl (Nat.le_of_ble_eq_true rfl) d_X12_years_25 (fun H locs hw => ?_)
    refine lv_iconst (v := (0 : Int32)) hx hb d_X12_years_28 (by decide) ?_
    refine lv_istore_n (lv' := [(3, .int (0 : Int32)), (0, .ref (ga G 300)), (1, .int a1), (2, .int a2)]) hx hb d_X12_years_29 rfl hl (Nat.le_of_ble_eq_true rfl) rfl (fun ls hl => ?_)
    refine lv_iconst (v := (0 : Int32)) hx hb d_X12_years_30 (by decide) ?_
    refine lv_istore (lv' := [(4, .int (0 : Int32)), (3, .int (0 : Int32)), (0, .ref (ga G 300)), (1, .int a1), (2, .int a2)]) hx hb d_X12_years_31 hl (Nat.le_of_ble_eq_true rfl) rfl (fun ls hl => ?_)
    obtain ⟨z22, e23, h⟩ := bd_some h
    refine iter_w (Wh := fun z : Int32 × Int32 × St => Wat p l e (rmk 5 116) s m args below meth c Q G 7 33 [] [(3, .int z.1), (4, .int z.2.1), (0, .ref (ga G 300)), (2, .int a2)] χ z.2.2) (K := fun z : Int32 × St => Wat p l e (rmk 5 116) s m args below meth c Q G 7 141 [] [(0, .ref (ga G 300)), (3, .int z.1)] χ z.2) (fun z o h1 h2 => b33 z.2.2 a2 z.1 z.2.1 o h1 h2) FU _ _ e23 ?_ _ _ _ hw (lv_sub hl [1, 0, 2, 4] rfl)
    intro H locs ls hw hl
    refine lv_aload_n hx hb d_X12_years_141 rfl (lv_at hl 0 rfl) ?_
    refine lv_iconst (v := (0 : Int32)) hx hb d_X12_years_142 (by decide) ?_
    refine m_puti (j := 1) X hw ct8 (o_300 hf) (Nat.le_of_ble_eq_true rfl) rfl (Nat.le_of_ble_eq_true rfl) rfl rfl rfl wd_957 d_X12_years_143 (fun H locs hw => ?_)
    refine lv_aload_n hx hb d_X12_years_146 rfl (lv_at hl 0 rfl) ?_
    refine lv_aload_n hx hb d_X12_years_147 rfl (lv_at hl 0 rfl) ?_
    refine lv_aload_n hx hb d_X12_years_148 rfl (lv_at hl 0 rfl) ?_
    refine r_getr (j := 7) X hw ct8 (o_300 hf) rfl (Nat.le_of_ble_eq_true rfl) (q := 307) rfl wd_963 d_X12_years_149 ?_
    obtain ⟨q25, e26, h⟩ := bd_some h
    refine r_callV (As := [.ref (ga G 307)]) (rest := [.ref (ga G 300)]) (st' := [.int q25, .ref (ga G 300)]) X hw hl mwX12_openOnes wd_1263 wp_35 wd_1261 (c_X12_openOnes hf (o_307 hf) (Nat.le_of_ble_eq_true rfl) e26) (r_recv X hw ct8 (o_300 hf)) rfl ⟨Nat.le_of_ble_eq_true rfl, Nat.le_of_ble_eq_true rfl⟩ ⟨Nat.le_refl _, Nat.le_refl _⟩ rfl rfl (Nat.le_of_ble_eq_true rfl) d_X12_years_152 (fun H locs hw => ?_)
    refine lv_i2l hx hb d_X12_years_155 rfl ?_
    obtain ⟨q27, e28, h⟩ := bd_some h
    refine r_callV (As := [.long q25.toInt64]) (rest := []) (st' := []) X hw hl mwX12_enters wd_1282 wp_38 wd_1280 (c_X12_enters hf e28) (r_recv X hw ct8 (o_300 hf)) rfl ⟨Nat.le_of_ble_eq_true rfl, Nat.le_of_ble_eq_true rfl⟩ ⟨Nat.le_refl _, Nat.le_refl _⟩ rfl rfl (Nat.le_of_ble_eq_true rfl) d_X12_years_156 (fun H locs hw => ?_)
    refine lv_aload_n hx hb d_X12_years_159 rfl (lv_at hl 0 rfl) ?_
    refine lv_aload_n hx hb d_X12_years_160 rfl (lv_at hl 0 rfl) ?_
    refine lv_aload_n hx hb d_X12_years_161 rfl (lv_at hl 0 rfl) ?_
    refine r_getr (j := 7) X hw ct8 (o_300 hf) rfl (Nat.le_of_ble_eq_true rfl) (q := 307) rfl wd_963 d_X12_years_162 ?_
    refine lv_bipush (v := (24 : Int32)) hx hb d_X12_years_165 (by decide) ?_
    obtain ⟨q29, e30, h⟩ := bd_some h
    refine r_callV (As := [.ref (ga G 307), .int (24 : Int32)]) (rest := [.ref (ga G 300)]) (st' := [.int q29, .ref (ga G 300)]) X hw hl mwX12_sumOf wd_1235 wp_31 wd_1233 (c_X12_sumOf hf (o_307 hf) (Nat.le_of_ble_eq_true rfl) e30) (r_recv X hw ct8 (o_300 hf)) rfl ⟨Nat.le_of_ble_eq_true rfl, Nat.le_of_ble_eq_true rfl⟩ ⟨Nat.le_refl _, Nat.le_refl _⟩ rfl rfl (Nat.le_of_ble_eq_true rfl) d_X12_years_167 (fun H locs hw => ?_)
    refine lv_i2l hx hb d_X12_years_170 rfl ?_
    obtain ⟨q31, e32, h⟩ := bd_some h
    refine r_callV (As := [.long q29.toInt64]) (rest := []) (st' := []) X hw hl mwX12_enters wd_1282 wp_38 wd_1280 (c_X12_enters hf e32) (r_recv X hw ct8 (o_300 hf)) rfl ⟨Nat.le_of_ble_eq_true rfl, Nat.le_of_ble_eq_true rfl⟩ ⟨Nat.le_refl _, Nat.le_refl _⟩ rfl rfl (Nat.le_of_ble_eq_true rfl) d_X12_years_171 (fun H locs hw => ?_)
    refine lv_iload_n hx hb d_X12_years_174 rfl (lv_at hl 1 rfl) ?_
    obtain rfl := Option.some.inj h
    subst hQ
    exact r_iret X hr hlk hw d_X12_years_175
  · have h := ite_t h hc
    refine lv_iconst (v := (-1 : Int32)) hx hb d_X12_years_17 (by decide) ?_
    obtain rfl := Option.some.inj h
    subst hQ
    exact r_iret X hr hlk hw d_X12_years_18
abbrev yX12_keep : MethodName := ⟨"OysterBedsModel", "keep", "(I)Z"⟩
theorem mwX12_keep : MW yX12_keep prog_14_method_116_code 3 (some .boolean) 1 := ⟨wd_1607, wd_10, by decide +kernel⟩
theorem d_X12_keep_0 : decode prog_14_method_116_code 0 = .ok (.aload_n 0, 1) := by decide +kernel
theorem d_X12_keep_1 : decode prog_14_method_116_code 1 = .ok (.iconst 0, 1) := by decide +kernel
theorem d_X12_keep_2 : decode prog_14_method_116_code 2 = .ok (.putfield 87, 3) := by decide +kernel
theorem d_X12_keep_5 : decode prog_14_method_116_code 5 = .ok (.iload_n 1, 1) := by decide +kernel
theorem d_X12_keep_6 : decode prog_14_method_116_code 6 = .ok (.i2l, 1) := by decide +kernel
theorem d_X12_keep_7 : decode prog_14_method_116_code 7 = .ok (.lconst 0, 1) := by decide +kernel
theorem d_X12_keep_8 : decode prog_14_method_116_code 8 = .ok (.ldc2_w 400, 3) := by decide +kernel
theorem d_X12_keep_11 : decode prog_14_method_116_code 11 = .ok (.invokestatic 105, 3) := by decide +kernel
theorem d_X12_keep_14 : decode prog_14_method_116_code 14 = .ok (.ifCond .ne 5, 3) := by decide +kernel
theorem d_X12_keep_17 : decode prog_14_method_116_code 17 = .ok (.iconst 0, 1) := by decide +kernel
theorem d_X12_keep_18 : decode prog_14_method_116_code 18 = .ok (.ireturn, 1) := by decide +kernel
theorem d_X12_keep_19 : decode prog_14_method_116_code 19 = .ok (.aload_n 0, 1) := by decide +kernel
theorem d_X12_keep_20 : decode prog_14_method_116_code 20 = .ok (.getfield 77, 3) := by decide +kernel
theorem d_X12_keep_23 : decode prog_14_method_116_code 23 = .ok (.iload_n 1, 1) := by decide +kernel
theorem d_X12_keep_24 : decode prog_14_method_116_code 24 = .ok (.iconst 1, 1) := by decide +kernel
theorem d_X12_keep_25 : decode prog_14_method_116_code 25 = .ok (.bastore, 1) := by decide +kernel
theorem d_X12_keep_26 : decode prog_14_method_116_code 26 = .ok (.aload_n 0, 1) := by decide +kernel
theorem d_X12_keep_27 : decode prog_14_method_116_code 27 = .ok (.getfield 81, 3) := by decide +kernel
theorem d_X12_keep_30 : decode prog_14_method_116_code 30 = .ok (.iload_n 1, 1) := by decide +kernel
theorem d_X12_keep_31 : decode prog_14_method_116_code 31 = .ok (.aload_n 0, 1) := by decide +kernel
theorem d_X12_keep_32 : decode prog_14_method_116_code 32 = .ok (.getfield 190, 3) := by decide +kernel
theorem d_X12_keep_35 : decode prog_14_method_116_code 35 = .ok (.iastore, 1) := by decide +kernel
theorem d_X12_keep_36 : decode prog_14_method_116_code 36 = .ok (.iconst 0, 1) := by decide +kernel
theorem d_X12_keep_37 : decode prog_14_method_116_code 37 = .ok (.istore_n 2, 1) := by decide +kernel
theorem d_X12_keep_38 : decode prog_14_method_116_code 38 = .ok (.iload_n 2, 1) := by decide +kernel
theorem d_X12_keep_39 : decode prog_14_method_116_code 39 = .ok (.bipush 34, 2) := by decide +kernel
theorem d_X12_keep_41 : decode prog_14_method_116_code 41 = .ok (.if_icmp .ge 26, 3) := by decide +kernel
theorem d_X12_keep_44 : decode prog_14_method_116_code 44 = .ok (.aload_n 0, 1) := by decide +kernel
theorem d_X12_keep_45 : decode prog_14_method_116_code 45 = .ok (.getfield 84, 3) := by decide +kernel
theorem d_X12_keep_48 : decode prog_14_method_116_code 48 = .ok (.bipush 34, 2) := by decide +kernel
theorem d_X12_keep_50 : decode prog_14_method_116_code 50 = .ok (.iload_n 1, 1) := by decide +kernel
theorem d_X12_keep_51 : decode prog_14_method_116_code 51 = .ok (.imul, 1) := by decide +kernel
theorem d_X12_keep_52 : decode prog_14_method_116_code 52 = .ok (.iload_n 2, 1) := by decide +kernel
theorem d_X12_keep_53 : decode prog_14_method_116_code 53 = .ok (.iadd, 1) := by decide +kernel
theorem d_X12_keep_54 : decode prog_14_method_116_code 54 = .ok (.aload_n 0, 1) := by decide +kernel
theorem d_X12_keep_55 : decode prog_14_method_116_code 55 = .ok (.getfield 17, 3) := by decide +kernel
theorem d_X12_keep_58 : decode prog_14_method_116_code 58 = .ok (.iload_n 2, 1) := by decide +kernel
theorem d_X12_keep_59 : decode prog_14_method_116_code 59 = .ok (.iaload, 1) := by decide +kernel
theorem d_X12_keep_60 : decode prog_14_method_116_code 60 = .ok (.iastore, 1) := by decide +kernel
theorem d_X12_keep_61 : decode prog_14_method_116_code 61 = .ok (.iinc 2 1, 3) := by decide +kernel
theorem d_X12_keep_64 : decode prog_14_method_116_code 64 = .ok (.goto (-26), 3) := by decide +kernel
theorem d_X12_keep_67 : decode prog_14_method_116_code 67 = .ok (.iconst 1, 1) := by decide +kernel
theorem d_X12_keep_68 : decode prog_14_method_116_code 68 = .ok (.ireturn, 1) := by decide +kernel
def f_X12_keep_s38 (τ : St) (y1 : Int32) (x2 : Int32) : Option ((Int32 × St) ⊕ (St)) := (if (34 : Int32) ≤ x2 then some (.inr τ) else gd (inb x2 34) (gd (inb (((34 : Int32) * y1) + x2) 102) (some (.inl ((x2 + (1 : Int32)), (sA τ 340 (((34 : Int32) * y1) + x2).toNatClampNeg (cA τ 306 x2.toNatClampNeg)))))))
def f_X12_keep (σ : St) (a1 : Int32) : Option (Int32 × St) := (f_X12_in a1.toInt64 (0 : Int64) (2 : Int64)).bind (fun q1 => (if q1 = 0 then some ((0 : Int32), (sF σ 300 0 (0 : Int32))) else gd (inb a1 3) (gd (inb a1 3) ((iter (fun z => f_X12_keep_s38 z.2 a1 z.1) FU ((0 : Int32), (sA (sA (sF σ 300 0 (0 : Int32)) 338 a1.toNatClampNeg (vp_nar .boolean (1 : Int32))) 339 a1.toNatClampNeg (cF (sA (sF σ 300 0 (0 : Int32)) 338 a1.toNatClampNeg (vp_nar .boolean (1 : Int32))) 300 4)))).bind (fun z7 => some ((1 : Int32), z7))))))
theorem c_X12_keep {l : Launch} {G : gT} {χ σ : St} {a1 : Int32} (hf : FW G) {q : Int32 × St} (h : f_X12_keep σ a1 = some q) : Ct l G yX12_keep prog_14_method_116_code 3 (some .boolean) 1 25 [.ref (ga G 300), .int a1] χ σ (some (.int q.1)) χ q.2 := by
  refine Ct.of (by decide) (Nat.le_of_ble_eq_true rfl) ?_
  intro p e s m args below meth c Q X hr hlk hQ
  have hx := X.1
  have hb := X.2.1
  have b38 : ∀ (τ : St) (y1 : Int32) (x2 : Int32) (o : (Int32 × St) ⊕ (St)), f_X12_keep_s38 τ y1 x2 = some o → Sum.elim (fun z : Int32 × St => Wat p l e (rmk 1 25) s m args below meth c Q G 3 38 [] [(2, .int z.1), (0, .ref (ga G 300)), (1, .int y1)] χ z.2) (fun z : St => Wat p l e (rmk 1 25) s m args below meth c Q G 3 67 [] [] χ z) o → Wat p l e (rmk 1 25) s m args below meth c Q G 3 38 [] [(2, .int x2), (0, .ref (ga G 300)), (1, .int y1)] χ τ := by
    intro τ y1 x2 o h hk H locs ls hw hl
    unfold f_X12_keep_s38 at h
    refine lv_iload_n hx hb d_X12_keep_38 rfl (lv_at hl 0 rfl) ?_
    refine lv_bipush (v := (34 : Int32)) hx hb d_X12_keep_39 (by decide) ?_
    refine lv_icmp_ge (tgt := 67) hx hb d_X12_keep_41 (by decide) (fun hc => ?_) (fun hc => ?_)
    · have h := ite_t h hc
      obtain rfl := Option.some.inj h
      dsimp only [Sum.elim_inr] at hk
      exact hk _ _ _ hw (lv_sub hl [] rfl)
    · have h := ite_f h hc
      refine lv_aload_n hx hb d_X12_keep_44 rfl (lv_at hl 1 rfl) ?_
      refine r_getr (j := 40) X hw ct8 (o_300 hf) rfl (Nat.le_of_ble_eq_true rfl) (q := 340) rfl wd_996 d_X12_keep_45 ?_
      refine lv_bipush (v := (34 : Int32)) hx hb d_X12_keep_48 (by decide) ?_
      refine lv_iload_n hx hb d_X12_keep_50 rfl (lv_at hl 2 rfl) ?_
      refine lv_imul hx hb d_X12_keep_51 ?_
      refine lv_iload_n hx hb d_X12_keep_52 rfl (lv_at hl 0 rfl) ?_
      refine lv_iadd hx hb d_X12_keep_53 ?_
      refine lv_aload_n hx hb d_X12_keep_54 rfl (lv_at hl 1 rfl) ?_
      refine r_getr (j := 6) X hw ct8 (o_300 hf) rfl (Nat.le_of_ble_eq_true rfl) (q := 306) rfl wd_962 d_X12_keep_55 ?_
      refine lv_iload_n hx hb d_X12_keep_58 rfl (lv_at hl 0 rfl) ?_
      obtain ⟨hi5, h⟩ := gd_some h
      refine m_iald X hw (o_306 hf) (Nat.le_of_ble_eq_true rfl) hi5 d_X12_keep_59 ?_
      obtain ⟨hi6, h⟩ := gd_some h
      refine m_iast X hw (o_340 hf) (Nat.le_of_ble_eq_true rfl) hi6 d_X12_keep_60 (fun H locs hw => ?_)
      refine lv_iinc (v := (x2 + (1 : Int32))) (k := 0) (lv' := [(2, .int (x2 + (1 : Int32))), (0, .ref (ga G 300)), (1, .int y1)]) hx hb d_X12_keep_61 hl rfl (by rfl) (Nat.le_of_ble_eq_true rfl) rfl (fun ls hl => ?_)
      refine lv_goto (tgt := 38) hx hb d_X12_keep_64 (by decide) ?_
      obtain rfl := Option.some.inj h
      dsimp only [Sum.elim_inl] at hk
      exact hk _ _ _ hw (lv_sub hl [0, 1, 2] rfl)
  intro H locs ls hw hl
  have hl : lv_has ls 3 [(0, .ref (ga G 300)), (1, .int a1)] := hl
  unfold f_X12_keep at h
  refine lv_aload_n hx hb d_X12_keep_0 rfl (lv_at hl 0 rfl) ?_
  refine lv_iconst (v := (0 : Int32)) hx hb d_X12_keep_1 (by decide) ?_
  refine m_puti (j := 0) X hw ct8 (o_300 hf) (Nat.le_of_ble_eq_true rfl) rfl (Nat.le_of_ble_eq_true rfl) rfl rfl rfl wd_956 d_X12_keep_2 (fun H locs hw => ?_)
  refine lv_iload_n hx hb d_X12_keep_5 rfl (lv_at hl 1 rfl) ?_
  refine lv_i2l hx hb d_X12_keep_6 rfl ?_
  refine lv_lconst (v := (0 : Int64)) hx hb d_X12_keep_7 (by decide) ?_
  refine r_ldc2 X wd_1571 d_X12_keep_8 ?_
  obtain ⟨q1, e2, h⟩ := bd_some h
  refine r_callS (As := [.long a1.toInt64, .long (0 : Int64), .long (2 : Int64)]) (rest := []) (st' := [.int q1]) X hw hl mwX12_in wd_1093 wd_1092 (c_X12_in hf e2) rfl ⟨Nat.le_of_ble_eq_true rfl, Nat.le_of_ble_eq_true rfl⟩ ⟨Nat.le_refl _, Nat.le_refl _⟩ rfl rfl (Nat.le_of_ble_eq_true rfl) d_X12_keep_11 (fun H locs hw => ?_)
  refine lv_if_ne (tgt := 19) hx hb d_X12_keep_14 (by decide) (fun hc => ?_) (fun hc => ?_)
  · have h := ite_f h hc
    refine lv_aload_n hx hb d_X12_keep_19 rfl (lv_at hl 0 rfl) ?_
    refine r_getr (j := 38) X hw ct8 (o_300 hf) rfl (Nat.le_of_ble_eq_true rfl) (q := 338) rfl wd_994 d_X12_keep_20 ?_
    refine lv_iload_n hx hb d_X12_keep_23 rfl (lv_at hl 1 rfl) ?_
    refine lv_iconst (v := (1 : Int32)) hx hb d_X12_keep_24 (by decide) ?_
    obtain ⟨hi3, h⟩ := gd_some h
    refine m_zast X hw (o_338 hf) (Nat.le_of_ble_eq_true rfl) hi3 d_X12_keep_25 (fun H locs hw => ?_)
    refine lv_aload_n hx hb d_X12_keep_26 rfl (lv_at hl 0 rfl) ?_
    refine r_getr (j := 39) X hw ct8 (o_300 hf) rfl (Nat.le_of_ble_eq_true rfl) (q := 339) rfl wd_995 d_X12_keep_27 ?_
    refine lv_iload_n hx hb d_X12_keep_30 rfl (lv_at hl 1 rfl) ?_
    refine lv_aload_n hx hb d_X12_keep_31 rfl (lv_at hl 0 rfl) ?_
    refine m_geti (j := 4) X hw ct8 (o_300 hf) (Nat.le_of_ble_eq_true rfl) rfl (Nat.le_of_ble_eq_true rfl) wd_960 d_X12_keep_32 ?_
    obtain ⟨hi4, h⟩ := gd_some h
    refine m_iast X hw (o_339 hf) (Nat.le_of_ble_eq_true rfl) hi4 d_X12_keep_35 (fun H locs hw => ?_)
    refine lv_iconst (v := (0 : Int32)) hx hb d_X12_keep_36 (by decide) ?_
    refine lv_istore_n (lv' := [(2, .int (0 : Int32)), (0, .ref (ga G 300)), (1, .int a1)]) hx hb d_X12_keep_37 rfl hl (Nat.le_of_ble_eq_true rfl) rfl (fun ls hl => ?_)
    obtain ⟨z7, e8, h⟩ := bd_some h
    refine iter_w (Wh := fun z : Int32 × St => Wat p l e (rmk 1 25) s m args below meth c Q G 3 38 [] [(2, .int z.1), (0, .ref (ga G 300)), (1, .int a1)] χ z.2) (K := fun z : St => Wat p l e (rmk 1 25) s m args below meth c Q G 3 67 [] [] χ z) (fun z o h1 h2 => b38 z.2 a1 z.1 o h1 h2) FU _ _ e8 ?_ _ _ _ hw (lv_sub hl [0, 1, 2] rfl)
    intro H locs ls hw hl
    refine lv_iconst (v := (1 : Int32)) hx hb d_X12_keep_67 (by decide) ?_
    obtain rfl := Option.some.inj h
    subst hQ
    exact r_zret X hr nbz1 hlk hw d_X12_keep_68
  · have h := ite_t h hc
    refine lv_iconst (v := (0 : Int32)) hx hb d_X12_keep_17 (by decide) ?_
    obtain rfl := Option.some.inj h
    subst hQ
    exact r_zret X hr nbz0 hlk hw d_X12_keep_18
abbrev yX12_again : MethodName := ⟨"OysterBedsModel", "again", "(I)Z"⟩
theorem mwX12_again : MW yX12_again prog_14_method_117_code 3 (some .boolean) 1 := ⟨wd_1611, wd_10, by decide +kernel⟩
theorem d_X12_again_0 : decode prog_14_method_117_code 0 = .ok (.aload_n 0, 1) := by decide +kernel
theorem d_X12_again_1 : decode prog_14_method_117_code 1 = .ok (.iconst 0, 1) := by decide +kernel
theorem d_X12_again_2 : decode prog_14_method_117_code 2 = .ok (.putfield 87, 3) := by decide +kernel
theorem d_X12_again_5 : decode prog_14_method_117_code 5 = .ok (.iload_n 1, 1) := by decide +kernel
theorem d_X12_again_6 : decode prog_14_method_117_code 6 = .ok (.i2l, 1) := by decide +kernel
theorem d_X12_again_7 : decode prog_14_method_117_code 7 = .ok (.lconst 0, 1) := by decide +kernel
theorem d_X12_again_8 : decode prog_14_method_117_code 8 = .ok (.ldc2_w 400, 3) := by decide +kernel
theorem d_X12_again_11 : decode prog_14_method_117_code 11 = .ok (.invokestatic 105, 3) := by decide +kernel
theorem d_X12_again_14 : decode prog_14_method_117_code 14 = .ok (.ifCond .eq 25, 3) := by decide +kernel
theorem d_X12_again_17 : decode prog_14_method_117_code 17 = .ok (.aload_n 0, 1) := by decide +kernel
theorem d_X12_again_18 : decode prog_14_method_117_code 18 = .ok (.getfield 77, 3) := by decide +kernel
theorem d_X12_again_21 : decode prog_14_method_117_code 21 = .ok (.iload_n 1, 1) := by decide +kernel
theorem d_X12_again_22 : decode prog_14_method_117_code 22 = .ok (.baload, 1) := by decide +kernel
theorem d_X12_again_23 : decode prog_14_method_117_code 23 = .ok (.ifCond .eq 16, 3) := by decide +kernel
theorem d_X12_again_26 : decode prog_14_method_117_code 26 = .ok (.aload_n 0, 1) := by decide +kernel
theorem d_X12_again_27 : decode prog_14_method_117_code 27 = .ok (.getfield 81, 3) := by decide +kernel
theorem d_X12_again_30 : decode prog_14_method_117_code 30 = .ok (.iload_n 1, 1) := by decide +kernel
theorem d_X12_again_31 : decode prog_14_method_117_code 31 = .ok (.iaload, 1) := by decide +kernel
theorem d_X12_again_32 : decode prog_14_method_117_code 32 = .ok (.aload_n 0, 1) := by decide +kernel
theorem d_X12_again_33 : decode prog_14_method_117_code 33 = .ok (.getfield 190, 3) := by decide +kernel
theorem d_X12_again_36 : decode prog_14_method_117_code 36 = .ok (.if_icmp .eq 5, 3) := by decide +kernel
theorem d_X12_again_39 : decode prog_14_method_117_code 39 = .ok (.iconst 0, 1) := by decide +kernel
theorem d_X12_again_40 : decode prog_14_method_117_code 40 = .ok (.ireturn, 1) := by decide +kernel
theorem d_X12_again_41 : decode prog_14_method_117_code 41 = .ok (.iconst 0, 1) := by decide +kernel
theorem d_X12_again_42 : decode prog_14_method_117_code 42 = .ok (.istore_n 2, 1) := by decide +kernel
theorem d_X12_again_43 : decode prog_14_method_117_code 43 = .ok (.iload_n 2, 1) := by decide +kernel
theorem d_X12_again_44 : decode prog_14_method_117_code 44 = .ok (.bipush 34, 2) := by decide +kernel
theorem d_X12_again_46 : decode prog_14_method_117_code 46 = .ok (.if_icmp .ge 26, 3) := by decide +kernel
theorem d_X12_again_49 : decode prog_14_method_117_code 49 = .ok (.aload_n 0, 1) := by decide +kernel
theorem d_X12_again_50 : decode prog_14_method_117_code 50 = .ok (.getfield 17, 3) := by decide +kernel
theorem d_X12_again_53 : decode prog_14_method_117_code 53 = .ok (.iload_n 2, 1) := by decide +kernel
theorem d_X12_again_54 : decode prog_14_method_117_code 54 = .ok (.aload_n 0, 1) := by decide +kernel
theorem d_X12_again_55 : decode prog_14_method_117_code 55 = .ok (.getfield 84, 3) := by decide +kernel
theorem d_X12_again_58 : decode prog_14_method_117_code 58 = .ok (.bipush 34, 2) := by decide +kernel
theorem d_X12_again_60 : decode prog_14_method_117_code 60 = .ok (.iload_n 1, 1) := by decide +kernel
theorem d_X12_again_61 : decode prog_14_method_117_code 61 = .ok (.imul, 1) := by decide +kernel
theorem d_X12_again_62 : decode prog_14_method_117_code 62 = .ok (.iload_n 2, 1) := by decide +kernel
theorem d_X12_again_63 : decode prog_14_method_117_code 63 = .ok (.iadd, 1) := by decide +kernel
theorem d_X12_again_64 : decode prog_14_method_117_code 64 = .ok (.iaload, 1) := by decide +kernel
theorem d_X12_again_65 : decode prog_14_method_117_code 65 = .ok (.iastore, 1) := by decide +kernel
theorem d_X12_again_66 : decode prog_14_method_117_code 66 = .ok (.iinc 2 1, 3) := by decide +kernel
theorem d_X12_again_69 : decode prog_14_method_117_code 69 = .ok (.goto (-26), 3) := by decide +kernel
theorem d_X12_again_72 : decode prog_14_method_117_code 72 = .ok (.aload_n 0, 1) := by decide +kernel
theorem d_X12_again_73 : decode prog_14_method_117_code 73 = .ok (.iconst 0, 1) := by decide +kernel
theorem d_X12_again_74 : decode prog_14_method_117_code 74 = .ok (.putfield 187, 3) := by decide +kernel
theorem d_X12_again_77 : decode prog_14_method_117_code 77 = .ok (.iconst 1, 1) := by decide +kernel
theorem d_X12_again_78 : decode prog_14_method_117_code 78 = .ok (.ireturn, 1) := by decide +kernel
def f_X12_again_s43 (τ : St) (y1 : Int32) (x2 : Int32) : Option ((Int32 × St) ⊕ (St)) := (if (34 : Int32) ≤ x2 then some (.inr τ) else gd (inb (((34 : Int32) * y1) + x2) 102) (gd (inb x2 34) (some (.inl ((x2 + (1 : Int32)), (sA τ 306 x2.toNatClampNeg (cA τ 340 (((34 : Int32) * y1) + x2).toNatClampNeg)))))))
def f_X12_again (σ : St) (a1 : Int32) : Option (Int32 × St) := (f_X12_in a1.toInt64 (0 : Int64) (2 : Int64)).bind (fun q1 => (if q1 = 0 then some ((0 : Int32), (sF σ 300 0 (0 : Int32))) else gd (inb a1 3) ((if (cA (sF σ 300 0 (0 : Int32)) 338 a1.toNatClampNeg) = 0 then some ((0 : Int32), (sF σ 300 0 (0 : Int32))) else gd (inb a1 3) ((if (cA (sF σ 300 0 (0 : Int32)) 339 a1.toNatClampNeg) = (cF (sF σ 300 0 (0 : Int32)) 300 4) then (iter (fun z => f_X12_again_s43 z.2 a1 z.1) FU ((0 : Int32), (sF σ 300 0 (0 : Int32)))).bind (fun z7 => some ((1 : Int32), (sF z7 300 21 (0 : Int32)))) else some ((0 : Int32), (sF σ 300 0 (0 : Int32)))))))))
theorem c_X12_again {l : Launch} {G : gT} {χ σ : St} {a1 : Int32} (hf : FW G) {q : Int32 × St} (h : f_X12_again σ a1 = some q) : Ct l G yX12_again prog_14_method_117_code 3 (some .boolean) 1 25 [.ref (ga G 300), .int a1] χ σ (some (.int q.1)) χ q.2 := by
  refine Ct.of (by decide) (Nat.le_of_ble_eq_true rfl) ?_
  intro p e s m args below meth c Q X hr hlk hQ
  have hx := X.1
  have hb := X.2.1
  have b43 : ∀ (τ : St) (y1 : Int32) (x2 : Int32) (o : (Int32 × St) ⊕ (St)), f_X12_again_s43 τ y1 x2 = some o → Sum.elim (fun z : Int32 × St => Wat p l e (rmk 1 25) s m args below meth c Q G 3 43 [] [(2, .int z.1), (0, .ref (ga G 300)), (1, .int y1)] χ z.2) (fun z : St => Wat p l e (rmk 1 25) s m args below meth c Q G 3 72 [] [(0, .ref (ga G 300))] χ z) o → Wat p l e (rmk 1 25) s m args below meth c Q G 3 43 [] [(2, .int x2), (0, .ref (ga G 300)), (1, .int y1)] χ τ := by
    intro τ y1 x2 o h hk H locs ls hw hl
    unfold f_X12_again_s43 at h
    refine lv_iload_n hx hb d_X12_again_43 rfl (lv_at hl 0 rfl) ?_
    refine lv_bipush (v := (34 : Int32)) hx hb d_X12_again_44 (by decide) ?_
    refine lv_icmp_ge (tgt := 72) hx hb d_X12_again_46 (by decide) (fun hc => ?_) (fun hc => ?_)
    · have h := ite_t h hc
      obtain rfl := Option.some.inj h
      dsimp only [Sum.elim_inr] at hk
      exact hk _ _ _ hw (lv_sub hl [1] rfl)
    · have h := ite_f h hc
      refine lv_aload_n hx hb d_X12_again_49 rfl (lv_at hl 1 rfl) ?_
      refine r_getr (j := 6) X hw ct8 (o_300 hf) rfl (Nat.le_of_ble_eq_true rfl) (q := 306) rfl wd_962 d_X12_again_50 ?_
      refine lv_iload_n hx hb d_X12_again_53 rfl (lv_at hl 0 rfl) ?_
      refine lv_aload_n hx hb d_X12_again_54 rfl (lv_at hl 1 rfl) ?_
      refine r_getr (j := 40) X hw ct8 (o_300 hf) rfl (Nat.le_of_ble_eq_true rfl) (q := 340) rfl wd_996 d_X12_again_55 ?_
      refine lv_bipush (v := (34 : Int32)) hx hb d_X12_again_58 (by decide) ?_
      refine lv_iload_n hx hb d_X12_again_60 rfl (lv_at hl 2 rfl) ?_
      refine lv_imul hx hb d_X12_again_61 ?_
      refine lv_iload_n hx hb d_X12_again_62 rfl (lv_at hl 0 rfl) ?_
      refine lv_iadd hx hb d_X12_again_63 ?_
      obtain ⟨hi5, h⟩ := gd_some h
      refine m_iald X hw (o_340 hf) (Nat.le_of_ble_eq_true rfl) hi5 d_X12_again_64 ?_
      obtain ⟨hi6, h⟩ := gd_some h
      refine m_iast X hw (o_306 hf) (Nat.le_of_ble_eq_true rfl) hi6 d_X12_again_65 (fun H locs hw => ?_)
      refine lv_iinc (v := (x2 + (1 : Int32))) (k := 0) (lv' := [(2, .int (x2 + (1 : Int32))), (0, .ref (ga G 300)), (1, .int y1)]) hx hb d_X12_again_66 hl rfl (by rfl) (Nat.le_of_ble_eq_true rfl) rfl (fun ls hl => ?_)
      refine lv_goto (tgt := 43) hx hb d_X12_again_69 (by decide) ?_
      obtain rfl := Option.some.inj h
      dsimp only [Sum.elim_inl] at hk
      exact hk _ _ _ hw (lv_sub hl [0, 1, 2] rfl)
  intro H locs ls hw hl
  have hl : lv_has ls 3 [(0, .ref (ga G 300)), (1, .int a1)] := hl
  unfold f_X12_again at h
  refine lv_aload_n hx hb d_X12_again_0 rfl (lv_at hl 0 rfl) ?_
  refine lv_iconst (v := (0 : Int32)) hx hb d_X12_again_1 (by decide) ?_
  refine m_puti (j := 0) X hw ct8 (o_300 hf) (Nat.le_of_ble_eq_true rfl) rfl (Nat.le_of_ble_eq_true rfl) rfl rfl rfl wd_956 d_X12_again_2 (fun H locs hw => ?_)
  refine lv_iload_n hx hb d_X12_again_5 rfl (lv_at hl 1 rfl) ?_
  refine lv_i2l hx hb d_X12_again_6 rfl ?_
  refine lv_lconst (v := (0 : Int64)) hx hb d_X12_again_7 (by decide) ?_
  refine r_ldc2 X wd_1571 d_X12_again_8 ?_
  obtain ⟨q1, e2, h⟩ := bd_some h
  refine r_callS (As := [.long a1.toInt64, .long (0 : Int64), .long (2 : Int64)]) (rest := []) (st' := [.int q1]) X hw hl mwX12_in wd_1093 wd_1092 (c_X12_in hf e2) rfl ⟨Nat.le_of_ble_eq_true rfl, Nat.le_of_ble_eq_true rfl⟩ ⟨Nat.le_refl _, Nat.le_refl _⟩ rfl rfl (Nat.le_of_ble_eq_true rfl) d_X12_again_11 (fun H locs hw => ?_)
  refine lv_if_eq (tgt := 39) hx hb d_X12_again_14 (by decide) (fun hc => ?_) (fun hc => ?_)
  · have h := ite_t h hc
    refine lv_iconst (v := (0 : Int32)) hx hb d_X12_again_39 (by decide) ?_
    obtain rfl := Option.some.inj h
    subst hQ
    exact r_zret X hr nbz0 hlk hw d_X12_again_40
  · have h := ite_f h hc
    refine lv_aload_n hx hb d_X12_again_17 rfl (lv_at hl 0 rfl) ?_
    refine r_getr (j := 38) X hw ct8 (o_300 hf) rfl (Nat.le_of_ble_eq_true rfl) (q := 338) rfl wd_994 d_X12_again_18 ?_
    refine lv_iload_n hx hb d_X12_again_21 rfl (lv_at hl 1 rfl) ?_
    obtain ⟨hi3, h⟩ := gd_some h
    refine m_zald X hw (o_338 hf) (Nat.le_of_ble_eq_true rfl) hi3 d_X12_again_22 ?_
    refine lv_if_eq (tgt := 39) hx hb d_X12_again_23 (by decide) (fun hc => ?_) (fun hc => ?_)
    · have h := ite_t h hc
      refine lv_iconst (v := (0 : Int32)) hx hb d_X12_again_39 (by decide) ?_
      obtain rfl := Option.some.inj h
      subst hQ
      exact r_zret X hr nbz0 hlk hw d_X12_again_40
    · have h := ite_f h hc
      refine lv_aload_n hx hb d_X12_again_26 rfl (lv_at hl 0 rfl) ?_
      refine r_getr (j := 39) X hw ct8 (o_300 hf) rfl (Nat.le_of_ble_eq_true rfl) (q := 339) rfl wd_995 d_X12_again_27 ?_
      refine lv_iload_n hx hb d_X12_again_30 rfl (lv_at hl 1 rfl) ?_
      obtain ⟨hi4, h⟩ := gd_some h
      refine m_iald X hw (o_339 hf) (Nat.le_of_ble_eq_true rfl) hi4 d_X12_again_31 ?_
      refine lv_aload_n hx hb d_X12_again_32 rfl (lv_at hl 0 rfl) ?_
      refine m_geti (j := 4) X hw ct8 (o_300 hf) (Nat.le_of_ble_eq_true rfl) rfl (Nat.le_of_ble_eq_true rfl) wd_960 d_X12_again_33 ?_
      refine lv_icmp_eq (tgt := 41) hx hb d_X12_again_36 (by decide) (fun hc => ?_) (fun hc => ?_)
      · have h := ite_t h hc
        refine lv_iconst (v := (0 : Int32)) hx hb d_X12_again_41 (by decide) ?_
        refine lv_istore_n (lv' := [(2, .int (0 : Int32)), (0, .ref (ga G 300)), (1, .int a1)]) hx hb d_X12_again_42 rfl hl (Nat.le_of_ble_eq_true rfl) rfl (fun ls hl => ?_)
        obtain ⟨z7, e8, h⟩ := bd_some h
        refine iter_w (Wh := fun z : Int32 × St => Wat p l e (rmk 1 25) s m args below meth c Q G 3 43 [] [(2, .int z.1), (0, .ref (ga G 300)), (1, .int a1)] χ z.2) (K := fun z : St => Wat p l e (rmk 1 25) s m args below meth c Q G 3 72 [] [(0, .ref (ga G 300))] χ z) (fun z o h1 h2 => b43 z.2 a1 z.1 o h1 h2) FU _ _ e8 ?_ _ _ _ hw (lv_sub hl [0, 1, 2] rfl)
        intro H locs ls hw hl
        refine lv_aload_n hx hb d_X12_again_72 rfl (lv_at hl 0 rfl) ?_
        refine lv_iconst (v := (0 : Int32)) hx hb d_X12_again_73 (by decide) ?_
        refine m_puti (j := 21) X hw ct8 (o_300 hf) (Nat.le_of_ble_eq_true rfl) rfl (Nat.le_of_ble_eq_true rfl) rfl rfl rfl wd_977 d_X12_again_74 (fun H locs hw => ?_)
        refine lv_iconst (v := (1 : Int32)) hx hb d_X12_again_77 (by decide) ?_
        obtain rfl := Option.some.inj h
        subst hQ
        exact r_zret X hr nbz1 hlk hw d_X12_again_78
      · have h := ite_f h hc
        refine lv_iconst (v := (0 : Int32)) hx hb d_X12_again_39 (by decide) ?_
        obtain rfl := Option.some.inj h
        subst hQ
        exact r_zret X hr nbz0 hlk hw d_X12_again_40
abbrev yX12_count : MethodName := ⟨"OysterBedsModel", "count", "(I)I"⟩
theorem mwX12_count : MW yX12_count prog_14_method_118_code 2 (some .int) 1 := ⟨wd_1615, wd_10, by decide +kernel⟩
theorem d_X12_count_0 : decode prog_14_method_118_code 0 = .ok (.aload_n 0, 1) := by decide +kernel
theorem d_X12_count_1 : decode prog_14_method_118_code 1 = .ok (.iconst 0, 1) := by decide +kernel
theorem d_X12_count_2 : decode prog_14_method_118_code 2 = .ok (.putfield 87, 3) := by decide +kernel
theorem d_X12_count_5 : decode prog_14_method_118_code 5 = .ok (.iload_n 1, 1) := by decide +kernel
theorem d_X12_count_6 : decode prog_14_method_118_code 6 = .ok (.tableswitch 134 0 10 #[58, 63, 72, 80, 88, 99, 109, 114, 119, 124, 129], 58) := by decide +kernel
theorem d_X12_count_64 : decode prog_14_method_118_code 64 = .ok (.aload_n 0, 1) := by decide +kernel
theorem d_X12_count_65 : decode prog_14_method_118_code 65 = .ok (.getfield 102, 3) := by decide +kernel
theorem d_X12_count_68 : decode prog_14_method_118_code 68 = .ok (.ireturn, 1) := by decide +kernel
theorem d_X12_count_69 : decode prog_14_method_118_code 69 = .ok (.aload_n 0, 1) := by decide +kernel
theorem d_X12_count_70 : decode prog_14_method_118_code 70 = .ok (.aload_n 0, 1) := by decide +kernel
theorem d_X12_count_71 : decode prog_14_method_118_code 71 = .ok (.getfield 17, 3) := by decide +kernel
theorem d_X12_count_74 : decode prog_14_method_118_code 74 = .ok (.invokevirtual 228, 3) := by decide +kernel
theorem d_X12_count_77 : decode prog_14_method_118_code 77 = .ok (.ireturn, 1) := by decide +kernel
theorem d_X12_count_78 : decode prog_14_method_118_code 78 = .ok (.aload_n 0, 1) := by decide +kernel
theorem d_X12_count_79 : decode prog_14_method_118_code 79 = .ok (.getfield 17, 3) := by decide +kernel
theorem d_X12_count_82 : decode prog_14_method_118_code 82 = .ok (.bipush 32, 2) := by decide +kernel
theorem d_X12_count_84 : decode prog_14_method_118_code 84 = .ok (.iaload, 1) := by decide +kernel
theorem d_X12_count_85 : decode prog_14_method_118_code 85 = .ok (.ireturn, 1) := by decide +kernel
theorem d_X12_count_86 : decode prog_14_method_118_code 86 = .ok (.aload_n 0, 1) := by decide +kernel
theorem d_X12_count_87 : decode prog_14_method_118_code 87 = .ok (.getfield 17, 3) := by decide +kernel
theorem d_X12_count_90 : decode prog_14_method_118_code 90 = .ok (.bipush 33, 2) := by decide +kernel
theorem d_X12_count_92 : decode prog_14_method_118_code 92 = .ok (.iaload, 1) := by decide +kernel
theorem d_X12_count_93 : decode prog_14_method_118_code 93 = .ok (.ireturn, 1) := by decide +kernel
theorem d_X12_count_94 : decode prog_14_method_118_code 94 = .ok (.aload_n 0, 1) := by decide +kernel
theorem d_X12_count_95 : decode prog_14_method_118_code 95 = .ok (.aload_n 0, 1) := by decide +kernel
theorem d_X12_count_96 : decode prog_14_method_118_code 96 = .ok (.getfield 17, 3) := by decide +kernel
theorem d_X12_count_99 : decode prog_14_method_118_code 99 = .ok (.bipush 24, 2) := by decide +kernel
theorem d_X12_count_101 : decode prog_14_method_118_code 101 = .ok (.invokevirtual 254, 3) := by decide +kernel
theorem d_X12_count_104 : decode prog_14_method_118_code 104 = .ok (.ireturn, 1) := by decide +kernel
theorem d_X12_count_105 : decode prog_14_method_118_code 105 = .ok (.aload_n 0, 1) := by decide +kernel
theorem d_X12_count_106 : decode prog_14_method_118_code 106 = .ok (.aload_n 0, 1) := by decide +kernel
theorem d_X12_count_107 : decode prog_14_method_118_code 107 = .ok (.getfield 17, 3) := by decide +kernel
theorem d_X12_count_110 : decode prog_14_method_118_code 110 = .ok (.iconst 0, 1) := by decide +kernel
theorem d_X12_count_111 : decode prog_14_method_118_code 111 = .ok (.invokevirtual 254, 3) := by decide +kernel
theorem d_X12_count_114 : decode prog_14_method_118_code 114 = .ok (.ireturn, 1) := by decide +kernel
theorem d_X12_count_115 : decode prog_14_method_118_code 115 = .ok (.aload_n 0, 1) := by decide +kernel
theorem d_X12_count_116 : decode prog_14_method_118_code 116 = .ok (.getfield 373, 3) := by decide +kernel
theorem d_X12_count_119 : decode prog_14_method_118_code 119 = .ok (.ireturn, 1) := by decide +kernel
theorem d_X12_count_120 : decode prog_14_method_118_code 120 = .ok (.aload_n 0, 1) := by decide +kernel
theorem d_X12_count_121 : decode prog_14_method_118_code 121 = .ok (.getfield 388, 3) := by decide +kernel
theorem d_X12_count_124 : decode prog_14_method_118_code 124 = .ok (.ireturn, 1) := by decide +kernel
theorem d_X12_count_125 : decode prog_14_method_118_code 125 = .ok (.aload_n 0, 1) := by decide +kernel
theorem d_X12_count_126 : decode prog_14_method_118_code 126 = .ok (.getfield 187, 3) := by decide +kernel
theorem d_X12_count_129 : decode prog_14_method_118_code 129 = .ok (.ireturn, 1) := by decide +kernel
theorem d_X12_count_130 : decode prog_14_method_118_code 130 = .ok (.aload_n 0, 1) := by decide +kernel
theorem d_X12_count_131 : decode prog_14_method_118_code 131 = .ok (.getfield 95, 3) := by decide +kernel
theorem d_X12_count_134 : decode prog_14_method_118_code 134 = .ok (.ireturn, 1) := by decide +kernel
theorem d_X12_count_135 : decode prog_14_method_118_code 135 = .ok (.aload_n 0, 1) := by decide +kernel
theorem d_X12_count_136 : decode prog_14_method_118_code 136 = .ok (.getfield 117, 3) := by decide +kernel
theorem d_X12_count_139 : decode prog_14_method_118_code 139 = .ok (.ireturn, 1) := by decide +kernel
theorem d_X12_count_140 : decode prog_14_method_118_code 140 = .ok (.bipush (-100), 2) := by decide +kernel
theorem d_X12_count_142 : decode prog_14_method_118_code 142 = .ok (.ireturn, 1) := by decide +kernel
def f_X12_count (σ : St) (a1 : Int32) : Option (Int32 × St) := (if a1 = (0 : Int32) then some ((cF (sF σ 300 0 (0 : Int32)) 300 3), (sF σ 300 0 (0 : Int32))) else if a1 = (1 : Int32) then (f_X12_openOnes (sF σ 300 0 (0 : Int32)) 306).bind (fun q1 => some (q1, (sF σ 300 0 (0 : Int32)))) else if a1 = (2 : Int32) then gd (inb (32 : Int32) 34) (some ((cA (sF σ 300 0 (0 : Int32)) 306 (32 : Int32).toNatClampNeg), (sF σ 300 0 (0 : Int32)))) else if a1 = (3 : Int32) then gd (inb (33 : Int32) 34) (some ((cA (sF σ 300 0 (0 : Int32)) 306 (33 : Int32).toNatClampNeg), (sF σ 300 0 (0 : Int32)))) else if a1 = (4 : Int32) then (f_X12_sumOf (sF σ 300 0 (0 : Int32)) 306 (24 : Int32)).bind (fun q5 => some (q5, (sF σ 300 0 (0 : Int32)))) else if a1 = (5 : Int32) then (f_X12_sumOf (sF σ 300 0 (0 : Int32)) 306 (0 : Int32)).bind (fun q7 => some (q7, (sF σ 300 0 (0 : Int32)))) else if a1 = (6 : Int32) then some ((cF (sF σ 300 0 (0 : Int32)) 300 27), (sF σ 300 0 (0 : Int32))) else if a1 = (7 : Int32) then some ((cF (sF σ 300 0 (0 : Int32)) 300 31), (sF σ 300 0 (0 : Int32))) else if a1 = (8 : Int32) then some ((cF (sF σ 300 0 (0 : Int32)) 300 21), (sF σ 300 0 (0 : Int32))) else if a1 = (9 : Int32) then some ((cF (sF σ 300 0 (0 : Int32)) 300 1), (sF σ 300 0 (0 : Int32))) else if a1 = (10 : Int32) then some ((cF (sF σ 300 0 (0 : Int32)) 300 9), (sF σ 300 0 (0 : Int32))) else some ((-100 : Int32), (sF σ 300 0 (0 : Int32))))
theorem c_X12_count {l : Launch} {G : gT} {χ σ : St} {a1 : Int32} (hf : FW G) {q : Int32 × St} (h : f_X12_count σ a1 = some q) : Ct l G yX12_count prog_14_method_118_code 2 (some .int) 1 24 [.ref (ga G 300), .int a1] χ σ (some (.int q.1)) χ q.2 := by
  refine Ct.of (by decide) (Nat.le_of_ble_eq_true rfl) ?_
  intro p e s m args below meth c Q X hr hlk hQ
  have hx := X.1
  have hb := X.2.1
  intro H locs ls hw hl
  have hl : lv_has ls 2 [(0, .ref (ga G 300)), (1, .int a1)] := hl
  unfold f_X12_count at h
  refine lv_aload_n hx hb d_X12_count_0 rfl (lv_at hl 0 rfl) ?_
  refine lv_iconst (v := (0 : Int32)) hx hb d_X12_count_1 (by decide) ?_
  refine m_puti (j := 0) X hw ct8 (o_300 hf) (Nat.le_of_ble_eq_true rfl) rfl (Nat.le_of_ble_eq_true rfl) rfl rfl rfl wd_956 d_X12_count_2 (fun H locs hw => ?_)
  refine lv_iload_n hx hb d_X12_count_5 rfl (lv_at hl 1 rfl) ?_
  by_cases hc0 : a1 = (0 : Int32)
  · have h := ite_t h hc0
    refine lv_tableIn (tgt := 64) hx hb d_X12_count_6 (by rw [hc0]; decide) (by rw [hc0]; decide) (by rw [hc0]; rfl) (by decide) ?_
    refine lv_aload_n hx hb d_X12_count_64 rfl (lv_at hl 0 rfl) ?_
    refine m_geti (j := 3) X hw ct8 (o_300 hf) (Nat.le_of_ble_eq_true rfl) rfl (Nat.le_of_ble_eq_true rfl) wd_959 d_X12_count_65 ?_
    obtain rfl := Option.some.inj h
    subst hQ
    exact r_iret X hr hlk hw d_X12_count_68
  have h := ite_f h hc0
  by_cases hc1 : a1 = (1 : Int32)
  · have h := ite_t h hc1
    refine lv_tableIn (tgt := 69) hx hb d_X12_count_6 (by rw [hc1]; decide) (by rw [hc1]; decide) (by rw [hc1]; rfl) (by decide) ?_
    refine lv_aload_n hx hb d_X12_count_69 rfl (lv_at hl 0 rfl) ?_
    refine lv_aload_n hx hb d_X12_count_70 rfl (lv_at hl 0 rfl) ?_
    refine r_getr (j := 6) X hw ct8 (o_300 hf) rfl (Nat.le_of_ble_eq_true rfl) (q := 306) rfl wd_962 d_X12_count_71 ?_
    obtain ⟨q1, e2, h⟩ := bd_some h
    refine r_callV (As := [.ref (ga G 306)]) (rest := []) (st' := [.int q1]) X hw hl mwX12_openOnes wd_1263 wp_35 wd_1261 (c_X12_openOnes hf (o_306 hf) (Nat.le_of_ble_eq_true rfl) e2) (r_recv X hw ct8 (o_300 hf)) rfl ⟨Nat.le_of_ble_eq_true rfl, Nat.le_of_ble_eq_true rfl⟩ ⟨Nat.le_refl _, Nat.le_refl _⟩ rfl rfl (Nat.le_of_ble_eq_true rfl) d_X12_count_74 (fun H locs hw => ?_)
    obtain rfl := Option.some.inj h
    subst hQ
    exact r_iret X hr hlk hw d_X12_count_77
  have h := ite_f h hc1
  by_cases hc2 : a1 = (2 : Int32)
  · have h := ite_t h hc2
    refine lv_tableIn (tgt := 78) hx hb d_X12_count_6 (by rw [hc2]; decide) (by rw [hc2]; decide) (by rw [hc2]; rfl) (by decide) ?_
    refine lv_aload_n hx hb d_X12_count_78 rfl (lv_at hl 0 rfl) ?_
    refine r_getr (j := 6) X hw ct8 (o_300 hf) rfl (Nat.le_of_ble_eq_true rfl) (q := 306) rfl wd_962 d_X12_count_79 ?_
    refine lv_bipush (v := (32 : Int32)) hx hb d_X12_count_82 (by decide) ?_
    obtain ⟨hi3, h⟩ := gd_some h
    refine m_iald X hw (o_306 hf) (Nat.le_of_ble_eq_true rfl) hi3 d_X12_count_84 ?_
    obtain rfl := Option.some.inj h
    subst hQ
    exact r_iret X hr hlk hw d_X12_count_85
  have h := ite_f h hc2
  by_cases hc3 : a1 = (3 : Int32)
  · have h := ite_t h hc3
    refine lv_tableIn (tgt := 86) hx hb d_X12_count_6 (by rw [hc3]; decide) (by rw [hc3]; decide) (by rw [hc3]; rfl) (by decide) ?_
    refine lv_aload_n hx hb d_X12_count_86 rfl (lv_at hl 0 rfl) ?_
    refine r_getr (j := 6) X hw ct8 (o_300 hf) rfl (Nat.le_of_ble_eq_true rfl) (q := 306) rfl wd_962 d_X12_count_87 ?_
    refine lv_bipush (v := (33 : Int32)) hx hb d_X12_count_90 (by decide) ?_
    obtain ⟨hi4, h⟩ := gd_some h
    refine m_iald X hw (o_306 hf) (Nat.le_of_ble_eq_true rfl) hi4 d_X12_count_92 ?_
    obtain rfl := Option.some.inj h
    subst hQ
    exact r_iret X hr hlk hw d_X12_count_93
  have h := ite_f h hc3
  by_cases hc4 : a1 = (4 : Int32)
  · have h := ite_t h hc4
    refine lv_tableIn (tgt := 94) hx hb d_X12_count_6 (by rw [hc4]; decide) (by rw [hc4]; decide) (by rw [hc4]; rfl) (by decide) ?_
    refine lv_aload_n hx hb d_X12_count_94 rfl (lv_at hl 0 rfl) ?_
    refine lv_aload_n hx hb d_X12_count_95 rfl (lv_at hl 0 rfl) ?_
    refine r_getr (j := 6) X hw ct8 (o_300 hf) rfl (Nat.le_of_ble_eq_true rfl) (q := 306) rfl wd_962 d_X12_count_96 ?_
    refine lv_bipush (v := (24 : Int32)) hx hb d_X12_count_99 (by decide) ?_
    obtain ⟨q5, e6, h⟩ := bd_some h
    refine r_callV (As := [.ref (ga G 306), .int (24 : Int32)]) (rest := []) (st' := [.int q5]) X hw hl mwX12_sumOf wd_1235 wp_31 wd_1233 (c_X12_sumOf hf (o_306 hf) (Nat.le_of_ble_eq_true rfl) e6) (r_recv X hw ct8 (o_300 hf)) rfl ⟨Nat.le_of_ble_eq_true rfl, Nat.le_of_ble_eq_true rfl⟩ ⟨Nat.le_refl _, Nat.le_refl _⟩ rfl rfl (Nat.le_of_ble_eq_true rfl) d_X12_count_101 (fun H locs hw => ?_)
    obtain rfl := Option.some.inj h
    subst hQ
    exact r_iret X hr hlk hw d_X12_count_104
  have h := ite_f h hc4
  by_cases hc5 : a1 = (5 : Int32)
  · have h := ite_t h hc5
    refine lv_tableIn (tgt := 105) hx hb d_X12_count_6 (by rw [hc5]; decide) (by rw [hc5]; decide) (by rw [hc5]; rfl) (by decide) ?_
    refine lv_aload_n hx hb d_X12_count_105 rfl (lv_at hl 0 rfl) ?_
    refine lv_aload_n hx hb d_X12_count_106 rfl (lv_at hl 0 rfl) ?_
    refine r_getr (j := 6) X hw ct8 (o_300 hf) rfl (Nat.le_of_ble_eq_true rfl) (q := 306) rfl wd_962 d_X12_count_107 ?_
    refine lv_iconst (v := (0 : Int32)) hx hb d_X12_count_110 (by decide) ?_
    obtain ⟨q7, e8, h⟩ := bd_some h
    refine r_callV (As := [.ref (ga G 306), .int (0 : Int32)]) (rest := []) (st' := [.int q7]) X hw hl mwX12_sumOf wd_1235 wp_31 wd_1233 (c_X12_sumOf hf (o_306 hf) (Nat.le_of_ble_eq_true rfl) e8) (r_recv X hw ct8 (o_300 hf)) rfl ⟨Nat.le_of_ble_eq_true rfl, Nat.le_of_ble_eq_true rfl⟩ ⟨Nat.le_refl _, Nat.le_refl _⟩ rfl rfl (Nat.le_of_ble_eq_true rfl) d_X12_count_111 (fun H locs hw => ?_)
    obtain rfl := Option.some.inj h
    subst hQ
    exact r_iret X hr hlk hw d_X12_count_114
  have h := ite_f h hc5
  by_cases hc6 : a1 = (6 : Int32)
  · have h := ite_t h hc6
    refine lv_tableIn (tgt := 115) hx hb d_X12_count_6 (by rw [hc6]; decide) (by rw [hc6]; decide) (by rw [hc6]; rfl) (by decide) ?_
    refine lv_aload_n hx hb d_X12_count_115 rfl (lv_at hl 0 rfl) ?_
    refine m_geti (j := 27) X hw ct8 (o_300 hf) (Nat.le_of_ble_eq_true rfl) rfl (Nat.le_of_ble_eq_true rfl) wd_983 d_X12_count_116 ?_
    obtain rfl := Option.some.inj h
    subst hQ
    exact r_iret X hr hlk hw d_X12_count_119
  have h := ite_f h hc6
  by_cases hc7 : a1 = (7 : Int32)
  · have h := ite_t h hc7
    refine lv_tableIn (tgt := 120) hx hb d_X12_count_6 (by rw [hc7]; decide) (by rw [hc7]; decide) (by rw [hc7]; rfl) (by decide) ?_
    refine lv_aload_n hx hb d_X12_count_120 rfl (lv_at hl 0 rfl) ?_
    refine m_geti (j := 31) X hw ct8 (o_300 hf) (Nat.le_of_ble_eq_true rfl) rfl (Nat.le_of_ble_eq_true rfl) wd_987 d_X12_count_121 ?_
    obtain rfl := Option.some.inj h
    subst hQ
    exact r_iret X hr hlk hw d_X12_count_124
  have h := ite_f h hc7
  by_cases hc8 : a1 = (8 : Int32)
  · have h := ite_t h hc8
    refine lv_tableIn (tgt := 125) hx hb d_X12_count_6 (by rw [hc8]; decide) (by rw [hc8]; decide) (by rw [hc8]; rfl) (by decide) ?_
    refine lv_aload_n hx hb d_X12_count_125 rfl (lv_at hl 0 rfl) ?_
    refine m_geti (j := 21) X hw ct8 (o_300 hf) (Nat.le_of_ble_eq_true rfl) rfl (Nat.le_of_ble_eq_true rfl) wd_977 d_X12_count_126 ?_
    obtain rfl := Option.some.inj h
    subst hQ
    exact r_iret X hr hlk hw d_X12_count_129
  have h := ite_f h hc8
  by_cases hc9 : a1 = (9 : Int32)
  · have h := ite_t h hc9
    refine lv_tableIn (tgt := 130) hx hb d_X12_count_6 (by rw [hc9]; decide) (by rw [hc9]; decide) (by rw [hc9]; rfl) (by decide) ?_
    refine lv_aload_n hx hb d_X12_count_130 rfl (lv_at hl 0 rfl) ?_
    refine m_geti (j := 1) X hw ct8 (o_300 hf) (Nat.le_of_ble_eq_true rfl) rfl (Nat.le_of_ble_eq_true rfl) wd_957 d_X12_count_131 ?_
    obtain rfl := Option.some.inj h
    subst hQ
    exact r_iret X hr hlk hw d_X12_count_134
  have h := ite_f h hc9
  by_cases hc10 : a1 = (10 : Int32)
  · have h := ite_t h hc10
    refine lv_tableIn (tgt := 135) hx hb d_X12_count_6 (by rw [hc10]; decide) (by rw [hc10]; decide) (by rw [hc10]; rfl) (by decide) ?_
    refine lv_aload_n hx hb d_X12_count_135 rfl (lv_at hl 0 rfl) ?_
    refine m_geti (j := 9) X hw ct8 (o_300 hf) (Nat.le_of_ble_eq_true rfl) rfl (Nat.le_of_ble_eq_true rfl) wd_965 d_X12_count_136 ?_
    obtain rfl := Option.some.inj h
    subst hQ
    exact r_iret X hr hlk hw d_X12_count_139
  have h := ite_f h hc10
  have hn0 := lv_neT hc0 (a := 0) (by decide)
  have hn1 := lv_neT hc1 (a := 1) (by decide)
  have hn2 := lv_neT hc2 (a := 2) (by decide)
  have hn3 := lv_neT hc3 (a := 3) (by decide)
  have hn4 := lv_neT hc4 (a := 4) (by decide)
  have hn5 := lv_neT hc5 (a := 5) (by decide)
  have hn6 := lv_neT hc6 (a := 6) (by decide)
  have hn7 := lv_neT hc7 (a := 7) (by decide)
  have hn8 := lv_neT hc8 (a := 8) (by decide)
  have hn9 := lv_neT hc9 (a := 9) (by decide)
  have hn10 := lv_neT hc10 (a := 10) (by decide)
  refine lv_tableOut (tgt := 140) hx hb d_X12_count_6 (by omega) (by decide) ?_
  refine lv_bipush (v := (-100 : Int32)) hx hb d_X12_count_140 (by decide) ?_
  obtain rfl := Option.some.inj h
  subst hQ
  exact r_iret X hr hlk hw d_X12_count_142
abbrev yX12_row : MethodName := ⟨"OysterBedsModel", "row", "(I)J"⟩
theorem mwX12_row : MW yX12_row prog_14_method_119_code 2 (some .long) 1 := ⟨wd_1619, wd_10, by decide +kernel⟩
theorem d_X12_row_0 : decode prog_14_method_119_code 0 = .ok (.aload_n 0, 1) := by decide +kernel
theorem d_X12_row_1 : decode prog_14_method_119_code 1 = .ok (.iconst 0, 1) := by decide +kernel
theorem d_X12_row_2 : decode prog_14_method_119_code 2 = .ok (.putfield 87, 3) := by decide +kernel
theorem d_X12_row_5 : decode prog_14_method_119_code 5 = .ok (.iload_n 1, 1) := by decide +kernel
theorem d_X12_row_6 : decode prog_14_method_119_code 6 = .ok (.i2l, 1) := by decide +kernel
theorem d_X12_row_7 : decode prog_14_method_119_code 7 = .ok (.lconst 0, 1) := by decide +kernel
theorem d_X12_row_8 : decode prog_14_method_119_code 8 = .ok (.aload_n 0, 1) := by decide +kernel
theorem d_X12_row_9 : decode prog_14_method_119_code 9 = .ok (.getfield 95, 3) := by decide +kernel
theorem d_X12_row_12 : decode prog_14_method_119_code 12 = .ok (.iconst 1, 1) := by decide +kernel
theorem d_X12_row_13 : decode prog_14_method_119_code 13 = .ok (.isub, 1) := by decide +kernel
theorem d_X12_row_14 : decode prog_14_method_119_code 14 = .ok (.i2l, 1) := by decide +kernel
theorem d_X12_row_15 : decode prog_14_method_119_code 15 = .ok (.invokestatic 105, 3) := by decide +kernel
theorem d_X12_row_18 : decode prog_14_method_119_code 18 = .ok (.ifCond .ne 10, 3) := by decide +kernel
theorem d_X12_row_21 : decode prog_14_method_119_code 21 = .ok (.aload_n 0, 1) := by decide +kernel
theorem d_X12_row_22 : decode prog_14_method_119_code 22 = .ok (.iconst 1, 1) := by decide +kernel
theorem d_X12_row_23 : decode prog_14_method_119_code 23 = .ok (.putfield 87, 3) := by decide +kernel
theorem d_X12_row_26 : decode prog_14_method_119_code 26 = .ok (.lconst 0, 1) := by decide +kernel
theorem d_X12_row_27 : decode prog_14_method_119_code 27 = .ok (.lreturn, 1) := by decide +kernel
theorem d_X12_row_28 : decode prog_14_method_119_code 28 = .ok (.aload_n 0, 1) := by decide +kernel
theorem d_X12_row_29 : decode prog_14_method_119_code 29 = .ok (.getfield 9, 3) := by decide +kernel
theorem d_X12_row_32 : decode prog_14_method_119_code 32 = .ok (.iload_n 1, 1) := by decide +kernel
theorem d_X12_row_33 : decode prog_14_method_119_code 33 = .ok (.laload, 1) := by decide +kernel
theorem d_X12_row_34 : decode prog_14_method_119_code 34 = .ok (.lreturn, 1) := by decide +kernel
def f_X12_row (σ : St) (a1 : Int32) : Option (Int64 × St) := (f_X12_in a1.toInt64 (0 : Int64) ((cF (sF σ 300 0 (0 : Int32)) 300 1) - (1 : Int32)).toInt64).bind (fun q1 => (if q1 = 0 then some ((0 : Int64), (sF (sF σ 300 0 (0 : Int32)) 300 0 (1 : Int32))) else gd (inb a1 24) (some ((cL (sF σ 300 0 (0 : Int32)) 302 a1.toNatClampNeg), (sF σ 300 0 (0 : Int32))))))
theorem c_X12_row {l : Launch} {G : gT} {χ σ : St} {a1 : Int32} (hf : FW G) {q : Int64 × St} (h : f_X12_row σ a1 = some q) : Ct l G yX12_row prog_14_method_119_code 2 (some .long) 1 25 [.ref (ga G 300), .int a1] χ σ (some (.long q.1)) χ q.2 := by
  refine Ct.of (by decide) (Nat.le_of_ble_eq_true rfl) ?_
  intro p e s m args below meth c Q X hr hlk hQ
  have hx := X.1
  have hb := X.2.1
  intro H locs ls hw hl
  have hl : lv_has ls 2 [(0, .ref (ga G 300)), (1, .int a1)] := hl
  unfold f_X12_row at h
  refine lv_aload_n hx hb d_X12_row_0 rfl (lv_at hl 0 rfl) ?_
  refine lv_iconst (v := (0 : Int32)) hx hb d_X12_row_1 (by decide) ?_
  refine m_puti (j := 0) X hw ct8 (o_300 hf) (Nat.le_of_ble_eq_true rfl) rfl (Nat.le_of_ble_eq_true rfl) rfl rfl rfl wd_956 d_X12_row_2 (fun H locs hw => ?_)
  refine lv_iload_n hx hb d_X12_row_5 rfl (lv_at hl 1 rfl) ?_
  refine lv_i2l hx hb d_X12_row_6 rfl ?_
  refine lv_lconst (v := (0 : Int64)) hx hb d_X12_row_7 (by decide) ?_
  refine lv_aload_n hx hb d_X12_row_8 rfl (lv_at hl 0 rfl) ?_
  refine m_geti (j := 1) X hw ct8 (o_300 hf) (Nat.le_of_ble_eq_true rfl) rfl (Nat.le_of_ble_eq_true rfl) wd_957 d_X12_row_9 ?_
  refine lv_iconst (v := (1 : Int32)) hx hb d_X12_row_12 (by decide) ?_
  refine lv_isub hx hb d_X12_row_13 ?_
  refine lv_i2l hx hb d_X12_row_14 rfl ?_
  obtain ⟨q1, e2, h⟩ := bd_some h
  refine r_callS (As := [.long a1.toInt64, .long (0 : Int64), .long ((cF (sF σ 300 0 (0 : Int32)) 300 1) - (1 : Int32)).toInt64]) (rest := []) (st' := [.int q1]) X hw hl mwX12_in wd_1093 wd_1092 (c_X12_in hf e2) rfl ⟨Nat.le_of_ble_eq_true rfl, Nat.le_of_ble_eq_true rfl⟩ ⟨Nat.le_refl _, Nat.le_refl _⟩ rfl rfl (Nat.le_of_ble_eq_true rfl) d_X12_row_15 (fun H locs hw => ?_)
  refine lv_if_ne (tgt := 28) hx hb d_X12_row_18 (by decide) (fun hc => ?_) (fun hc => ?_)
  · have h := ite_f h hc
    refine lv_aload_n hx hb d_X12_row_28 rfl (lv_at hl 0 rfl) ?_
    refine r_getr (j := 2) X hw ct8 (o_300 hf) rfl (Nat.le_of_ble_eq_true rfl) (q := 302) rfl wd_958 d_X12_row_29 ?_
    refine lv_iload_n hx hb d_X12_row_32 rfl (lv_at hl 1 rfl) ?_
    obtain ⟨hi3, h⟩ := gd_some h
    refine m_lald X hw (o_302 hf) (Nat.le_of_ble_eq_true rfl) hi3 d_X12_row_33 ?_
    obtain rfl := Option.some.inj h
    subst hQ
    exact r_lret X hr hlk hw d_X12_row_34
  · have h := ite_t h hc
    refine lv_aload_n hx hb d_X12_row_21 rfl (lv_at hl 0 rfl) ?_
    refine lv_iconst (v := (1 : Int32)) hx hb d_X12_row_22 (by decide) ?_
    refine m_puti (j := 0) X hw ct8 (o_300 hf) (Nat.le_of_ble_eq_true rfl) rfl (Nat.le_of_ble_eq_true rfl) rfl rfl rfl wd_956 d_X12_row_23 (fun H locs hw => ?_)
    refine lv_lconst (v := (0 : Int64)) hx hb d_X12_row_26 (by decide) ?_
    obtain rfl := Option.some.inj h
    subst hQ
    exact r_lret X hr hlk hw d_X12_row_27
