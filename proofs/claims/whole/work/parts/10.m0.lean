abbrev yX12_thrown : MethodName := ⟨"OysterBedsModel", "thrown", "()I"⟩
theorem mwX12_thrown : MW yX12_thrown prog_14_method_2_code 1 (some .int) 0 := ⟨wd_1083, wd_10, by decide +kernel⟩
theorem d_X12_thrown_0 : decode prog_14_method_2_code 0 = .ok (.aload_n 0, 1) := by decide +kernel
theorem d_X12_thrown_1 : decode prog_14_method_2_code 1 = .ok (.getfield 87, 3) := by decide +kernel
theorem d_X12_thrown_4 : decode prog_14_method_2_code 4 = .ok (.ireturn, 1) := by decide +kernel
def f_X12_thrown (σ : St) : Option (Int32) := some (cF σ 300 0)
theorem c_X12_thrown {l : Launch} {G : gT} {χ σ : St} (hf : FW G) {q : Int32} (h : f_X12_thrown σ = some q) : Ct l G yX12_thrown prog_14_method_2_code 1 (some .int) 0 0 [.ref (ga G 300)] χ σ (some (.int q)) χ σ := by
  refine Ct.of (by decide) (Nat.le_of_ble_eq_true rfl) ?_
  intro p e s m args below meth c Q X hr hlk hQ
  have hx := X.1
  have hb := X.2.1
  intro H locs ls hw hl
  have hl : lv_has ls 1 [(0, .ref (ga G 300))] := hl
  unfold f_X12_thrown at h
  refine lv_aload_n hx hb d_X12_thrown_0 rfl (lv_at hl 0 rfl) ?_
  refine m_geti (j := 0) X hw ct8 (o_300 hf) (Nat.le_of_ble_eq_true rfl) rfl (Nat.le_of_ble_eq_true rfl) wd_956 d_X12_thrown_1 ?_
  obtain rfl := Option.some.inj h
  subst hQ
  exact r_iret X hr hlk hw d_X12_thrown_4
abbrev yX12_refuse : MethodName := ⟨"OysterBedsModel", "refuse", "()I"⟩
theorem mwX12_refuse : MW yX12_refuse prog_14_method_3_code 1 (some .int) 0 := ⟨wd_1226, wd_10, by decide +kernel⟩
theorem d_X12_refuse_0 : decode prog_14_method_3_code 0 = .ok (.aload_n 0, 1) := by decide +kernel
theorem d_X12_refuse_1 : decode prog_14_method_3_code 1 = .ok (.iconst 1, 1) := by decide +kernel
theorem d_X12_refuse_2 : decode prog_14_method_3_code 2 = .ok (.putfield 87, 3) := by decide +kernel
theorem d_X12_refuse_5 : decode prog_14_method_3_code 5 = .ok (.iconst 0, 1) := by decide +kernel
theorem d_X12_refuse_6 : decode prog_14_method_3_code 6 = .ok (.ireturn, 1) := by decide +kernel
def f_X12_refuse (σ : St) : Option (Int32 × St) := some ((0 : Int32), (sF σ 300 0 (1 : Int32)))
theorem c_X12_refuse {l : Launch} {G : gT} {χ σ : St} (hf : FW G) {q : Int32 × St} (h : f_X12_refuse σ = some q) : Ct l G yX12_refuse prog_14_method_3_code 1 (some .int) 0 0 [.ref (ga G 300)] χ σ (some (.int q.1)) χ q.2 := by
  refine Ct.of (by decide) (Nat.le_of_ble_eq_true rfl) ?_
  intro p e s m args below meth c Q X hr hlk hQ
  have hx := X.1
  have hb := X.2.1
  intro H locs ls hw hl
  have hl : lv_has ls 1 [(0, .ref (ga G 300))] := hl
  unfold f_X12_refuse at h
  refine lv_aload_n hx hb d_X12_refuse_0 rfl (lv_at hl 0 rfl) ?_
  refine lv_iconst (v := (1 : Int32)) hx hb d_X12_refuse_1 (by decide) ?_
  refine m_puti (j := 0) X hw ct8 (o_300 hf) (Nat.le_of_ble_eq_true rfl) rfl (Nat.le_of_ble_eq_true rfl) rfl rfl rfl wd_956 d_X12_refuse_2 (fun H locs hw => ?_)
  refine lv_iconst (v := (0 : Int32)) hx hb d_X12_refuse_5 (by decide) ?_
  obtain rfl := Option.some.inj h
  subst hQ
  exact r_iret X hr hlk hw d_X12_refuse_6
abbrev yX12_in : MethodName := ⟨"OysterBedsModel", "in", "(JJJ)Z"⟩
theorem mwX12_in : MW yX12_in prog_14_method_4_code 6 (some .boolean) 3 := ⟨wd_1094, wd_10, by decide +kernel⟩
theorem d_X12_in_0 : decode prog_14_method_4_code 0 = .ok (.lload_n 0, 1) := by decide +kernel
theorem d_X12_in_1 : decode prog_14_method_4_code 1 = .ok (.lload_n 2, 1) := by decide +kernel
theorem d_X12_in_2 : decode prog_14_method_4_code 2 = .ok (.lcmp, 1) := by decide +kernel
theorem d_X12_in_3 : decode prog_14_method_4_code 3 = .ok (.ifCond .lt 14, 3) := by decide +kernel
theorem d_X12_in_6 : decode prog_14_method_4_code 6 = .ok (.lload_n 0, 1) := by decide +kernel
theorem d_X12_in_7 : decode prog_14_method_4_code 7 = .ok (.lload 4, 2) := by decide +kernel
theorem d_X12_in_9 : decode prog_14_method_4_code 9 = .ok (.lcmp, 1) := by decide +kernel
theorem d_X12_in_10 : decode prog_14_method_4_code 10 = .ok (.ifCond .gt 7, 3) := by decide +kernel
theorem d_X12_in_13 : decode prog_14_method_4_code 13 = .ok (.iconst 1, 1) := by decide +kernel
theorem d_X12_in_14 : decode prog_14_method_4_code 14 = .ok (.goto 4, 3) := by decide +kernel
theorem d_X12_in_17 : decode prog_14_method_4_code 17 = .ok (.iconst 0, 1) := by decide +kernel
theorem d_X12_in_18 : decode prog_14_method_4_code 18 = .ok (.ireturn, 1) := by decide +kernel
def f_X12_in (a0 : Int64) (a2 : Int64) (a4 : Int64) : Option (Int32) := some (if (lg_cmp a0 a2) < 0 then (0 : Int32) else (if 0 < (lg_cmp a0 a4) then (0 : Int32) else (1 : Int32)))
theorem c_X12_in {l : Launch} {G : gT} {χ σ : St} {a0 : Int64} {a2 : Int64} {a4 : Int64} (hf : FW G) {q : Int32} (h : f_X12_in a0 a2 a4 = some q) : Ct l G yX12_in prog_14_method_4_code 6 (some .boolean) 0 0 [.long a0, .long a2, .long a4] χ σ (some (.int q)) χ σ := by
  refine Ct.of (by decide) (Nat.le_of_ble_eq_true rfl) ?_
  intro p e s m args below meth c Q X hr hlk hQ
  have hx := X.1
  have hb := X.2.1
  intro H locs ls hw hl
  have hl : lv_has ls 6 [(0, .long a0), (2, .long a2), (4, .long a4)] := hl
  unfold f_X12_in at h
  refine lv_lload_n hx hb d_X12_in_0 rfl (lv_at hl 0 rfl) ?_
  refine lv_lload_n hx hb d_X12_in_1 rfl (lv_at hl 1 rfl) ?_
  refine W.lcmp hx hb d_X12_in_2 ?_
  refine lv_if_lt (tgt := 17) hx hb d_X12_in_3 (by decide) (fun hc => ?_) (fun hc => ?_)
  · simp only [if_pos hc] at h
    refine lv_iconst (v := (0 : Int32)) hx hb d_X12_in_17 (by decide) ?_
    obtain rfl := Option.some.inj h
    subst hQ
    exact r_zret X hr nbz0 hlk hw d_X12_in_18
  · simp only [if_neg hc] at h
    refine lv_lload_n hx hb d_X12_in_6 rfl (lv_at hl 0 rfl) ?_
    refine lv_lload hx hb d_X12_in_7 (lv_at hl 2 rfl) ?_
    refine W.lcmp hx hb d_X12_in_9 ?_
    refine lv_if_gt (tgt := 17) hx hb d_X12_in_10 (by decide) (fun hc => ?_) (fun hc => ?_)
    · simp only [if_pos hc] at h
      refine lv_iconst (v := (0 : Int32)) hx hb d_X12_in_17 (by decide) ?_
      obtain rfl := Option.some.inj h
      subst hQ
      exact r_zret X hr nbz0 hlk hw d_X12_in_18
    · simp only [if_neg hc] at h
      refine lv_iconst (v := (1 : Int32)) hx hb d_X12_in_13 (by decide) ?_
      refine lv_goto (tgt := 18) hx hb d_X12_in_14 (by decide) ?_
      obtain rfl := Option.some.inj h
      subst hQ
      exact r_zret X hr nbz1 hlk hw d_X12_in_18
abbrev yX12_has : MethodName := ⟨"OysterBedsModel", "has", "(II)Z"⟩
theorem mwX12_has : MW yX12_has prog_14_method_5_code 2 (some .boolean) 2 := ⟨wd_1267, wd_10, by decide +kernel⟩
theorem d_X12_has_0 : decode prog_14_method_5_code 0 = .ok (.iload_n 0, 1) := by decide +kernel
theorem d_X12_has_1 : decode prog_14_method_5_code 1 = .ok (.iload_n 1, 1) := by decide +kernel
theorem d_X12_has_2 : decode prog_14_method_5_code 2 = .ok (.ishr, 1) := by decide +kernel
theorem d_X12_has_3 : decode prog_14_method_5_code 3 = .ok (.iconst 1, 1) := by decide +kernel
theorem d_X12_has_4 : decode prog_14_method_5_code 4 = .ok (.iand, 1) := by decide +kernel
theorem d_X12_has_5 : decode prog_14_method_5_code 5 = .ok (.iconst 1, 1) := by decide +kernel
theorem d_X12_has_6 : decode prog_14_method_5_code 6 = .ok (.if_icmp .ne 7, 3) := by decide +kernel
theorem d_X12_has_9 : decode prog_14_method_5_code 9 = .ok (.iconst 1, 1) := by decide +kernel
theorem d_X12_has_10 : decode prog_14_method_5_code 10 = .ok (.goto 4, 3) := by decide +kernel
theorem d_X12_has_13 : decode prog_14_method_5_code 13 = .ok (.iconst 0, 1) := by decide +kernel
theorem d_X12_has_14 : decode prog_14_method_5_code 14 = .ok (.ireturn, 1) := by decide +kernel
def f_X12_has (a0 : Int32) (a1 : Int32) : Option (Int32) := some (if ((a0 >>> (a1 &&& 31)) &&& (1 : Int32)) = (1 : Int32) then (1 : Int32) else (0 : Int32))
theorem c_X12_has {l : Launch} {G : gT} {χ σ : St} {a0 : Int32} {a1 : Int32} (hf : FW G) {q : Int32} (h : f_X12_has a0 a1 = some q) : Ct l G yX12_has prog_14_method_5_code 2 (some .boolean) 0 0 [.int a0, .int a1] χ σ (some (.int q)) χ σ := by
  refine Ct.of (by decide) (Nat.le_of_ble_eq_true rfl) ?_
  intro p e s m args below meth c Q X hr hlk hQ
  have hx := X.1
  have hb := X.2.1
  intro H locs ls hw hl
  have hl : lv_has ls 2 [(0, .int a0), (1, .int a1)] := hl
  unfold f_X12_has at h
  refine lv_iload_n hx hb d_X12_has_0 rfl (lv_at hl 0 rfl) ?_
  refine lv_iload_n hx hb d_X12_has_1 rfl (lv_at hl 1 rfl) ?_
  refine lv_ishr hx hb d_X12_has_2 ?_
  refine lv_iconst (v := (1 : Int32)) hx hb d_X12_has_3 (by decide) ?_
  refine lv_iand hx hb d_X12_has_4 ?_
  refine lv_iconst (v := (1 : Int32)) hx hb d_X12_has_5 (by decide) ?_
  refine lv_icmp_ne (tgt := 13) hx hb d_X12_has_6 (by decide) (fun hc => ?_) (fun hc => ?_)
  · simp only [if_neg hc] at h
    refine lv_iconst (v := (0 : Int32)) hx hb d_X12_has_13 (by decide) ?_
    obtain rfl := Option.some.inj h
    subst hQ
    exact r_zret X hr nbz0 hlk hw d_X12_has_14
  · simp only [if_pos hc] at h
    refine lv_iconst (v := (1 : Int32)) hx hb d_X12_has_9 (by decide) ?_
    refine lv_goto (tgt := 14) hx hb d_X12_has_10 (by decide) ?_
    obtain rfl := Option.some.inj h
    subst hQ
    exact r_zret X hr nbz1 hlk hw d_X12_has_14
abbrev yX12_flag : MethodName := ⟨"OysterBedsModel", "flag", "(Z)I"⟩
theorem mwX12_flag : MW yX12_flag prog_14_method_6_code 1 (some .int) 1 := ⟨wd_1181, wd_10, by decide +kernel⟩
theorem d_X12_flag_0 : decode prog_14_method_6_code 0 = .ok (.iload_n 0, 1) := by decide +kernel
theorem d_X12_flag_1 : decode prog_14_method_6_code 1 = .ok (.ifCond .eq 7, 3) := by decide +kernel
theorem d_X12_flag_4 : decode prog_14_method_6_code 4 = .ok (.iconst 1, 1) := by decide +kernel
theorem d_X12_flag_5 : decode prog_14_method_6_code 5 = .ok (.goto 4, 3) := by decide +kernel
theorem d_X12_flag_8 : decode prog_14_method_6_code 8 = .ok (.iconst 0, 1) := by decide +kernel
theorem d_X12_flag_9 : decode prog_14_method_6_code 9 = .ok (.ireturn, 1) := by decide +kernel
def f_X12_flag (a0 : Int32) : Option (Int32) := some (if a0 = 0 then (0 : Int32) else (1 : Int32))
theorem c_X12_flag {l : Launch} {G : gT} {χ σ : St} {a0 : Int32} (hf : FW G) {q : Int32} (h : f_X12_flag a0 = some q) : Ct l G yX12_flag prog_14_method_6_code 1 (some .int) 0 0 [.int a0] χ σ (some (.int q)) χ σ := by
  refine Ct.of (by decide) (Nat.le_of_ble_eq_true rfl) ?_
  intro p e s m args below meth c Q X hr hlk hQ
  have hx := X.1
  have hb := X.2.1
  intro H locs ls hw hl
  have hl : lv_has ls 1 [(0, .int a0)] := hl
  unfold f_X12_flag at h
  refine lv_iload_n hx hb d_X12_flag_0 rfl (lv_at hl 0 rfl) ?_
  refine lv_if_eq (tgt := 8) hx hb d_X12_flag_1 (by decide) (fun hc => ?_) (fun hc => ?_)
  · simp only [if_pos hc] at h
    refine lv_iconst (v := (0 : Int32)) hx hb d_X12_flag_8 (by decide) ?_
    obtain rfl := Option.some.inj h
    subst hQ
    exact r_iret X hr hlk hw d_X12_flag_9
  · simp only [if_neg hc] at h
    refine lv_iconst (v := (1 : Int32)) hx hb d_X12_flag_4 (by decide) ?_
    refine lv_goto (tgt := 9) hx hb d_X12_flag_5 (by decide) ?_
    obtain rfl := Option.some.inj h
    subst hQ
    exact r_iret X hr hlk hw d_X12_flag_9
abbrev yX12_common : MethodName := ⟨"OysterBedsModel", "common", "(JJ)J"⟩
theorem mwX12_common : MW yX12_common prog_14_method_7_code 4 (some .long) 2 := ⟨wd_1487, wd_10, by decide +kernel⟩
theorem d_X12_common_0 : decode prog_14_method_7_code 0 = .ok (.lload_n 2, 1) := by decide +kernel
theorem d_X12_common_1 : decode prog_14_method_7_code 1 = .ok (.lconst 0, 1) := by decide +kernel
theorem d_X12_common_2 : decode prog_14_method_7_code 2 = .ok (.lcmp, 1) := by decide +kernel
theorem d_X12_common_3 : decode prog_14_method_7_code 3 = .ok (.ifCond .ne 7, 3) := by decide +kernel
theorem d_X12_common_6 : decode prog_14_method_7_code 6 = .ok (.lload_n 0, 1) := by decide +kernel
theorem d_X12_common_7 : decode prog_14_method_7_code 7 = .ok (.goto 10, 3) := by decide +kernel
theorem d_X12_common_10 : decode prog_14_method_7_code 10 = .ok (.lload_n 2, 1) := by decide +kernel
theorem d_X12_common_11 : decode prog_14_method_7_code 11 = .ok (.lload_n 0, 1) := by decide +kernel
theorem d_X12_common_12 : decode prog_14_method_7_code 12 = .ok (.lload_n 2, 1) := by decide +kernel
theorem d_X12_common_13 : decode prog_14_method_7_code 13 = .ok (.lrem, 1) := by decide +kernel
theorem d_X12_common_14 : decode prog_14_method_7_code 14 = .ok (.invokestatic 91, 3) := by decide +kernel
theorem d_X12_common_17 : decode prog_14_method_7_code 17 = .ok (.lreturn, 1) := by decide +kernel
def f_X12_common_b (rec_X12_common : Int64 → Int64 → Option (Int64)) (a0 : Int64) (a2 : Int64) : Option (Int64) := (if (lg_cmp a2 (0 : Int64)) = 0 then some a0 else gd (nzl a2) ((rec_X12_common a2 (a0 - a0 / a2 * a2)).bind (fun q2 => some q2)))
theorem c_X12_common_b {l : Launch} {G : gT} {χ σ : St} {d : Nat} (rec_X12_common : Int64 → Int64 → Option (Int64)) {a0 : Int64} {a2 : Int64} (hf : FW G) (hrec_X12_common : ∀ {χ σ : St} {a0 : Int64} {a2 : Int64} {q : Int64}, rec_X12_common a0 a2 = some q → Ct l G yX12_common prog_14_method_7_code 4 (some .long) (d + 0) (d * 24 + 0) [.long a0, .long a2] χ σ (some (.long q)) χ σ) {q : Int64} (h : f_X12_common_b rec_X12_common a0 a2 = some q) : Ct l G yX12_common prog_14_method_7_code 4 (some .long) (d + 1 + 0) ((d + 1) * 24 + 0) [.long a0, .long a2] χ σ (some (.long q)) χ σ := by
  refine Ct.of (by decide) (Nat.le_of_ble_eq_true rfl) ?_
  intro p e s m args below meth c Q X hr hlk hQ
  have hx := X.1
  have hb := X.2.1
  intro H locs ls hw hl
  have hl : lv_has ls 4 [(0, .long a0), (2, .long a2)] := hl
  unfold f_X12_common_b at h
  refine lv_lload_n hx hb d_X12_common_0 rfl (lv_at hl 1 rfl) ?_
  refine lv_lconst (v := (0 : Int64)) hx hb d_X12_common_1 (by decide) ?_
  refine W.lcmp hx hb d_X12_common_2 ?_
  refine lv_if_ne (tgt := 10) hx hb d_X12_common_3 (by decide) (fun hc => ?_) (fun hc => ?_)
  · have h := ite_f h hc
    refine lv_lload_n hx hb d_X12_common_10 rfl (lv_at hl 1 rfl) ?_
    refine lv_lload_n hx hb d_X12_common_11 rfl (lv_at hl 0 rfl) ?_
    refine lv_lload_n hx hb d_X12_common_12 rfl (lv_at hl 1 rfl) ?_
    obtain ⟨hz1, h⟩ := gd_some h
    refine lv_lrem hx hb d_X12_common_13 (nzl_ne hz1) ?_
    obtain ⟨q2, e3, h⟩ := bd_some h
    refine r_callS (As := [.long a2, .long (a0 - a0 / a2 * a2)]) (rest := []) (st' := [.long q2]) X hw hl mwX12_common wd_1486 wd_1485 (hrec_X12_common e3) rfl ⟨Nat.le_refl _, by show 8 + (4 + 11) + (d * 24 + 0) ≤ (d + 1) * 24 + 0; omega⟩ ⟨Nat.le_refl _, Nat.le_refl _⟩ rfl rfl (Nat.le_of_ble_eq_true rfl) d_X12_common_14 (fun H locs hw => ?_)
    obtain rfl := Option.some.inj h
    subst hQ
    exact r_lret X hr hlk hw d_X12_common_17
  · have h := ite_t h hc
    refine lv_lload_n hx hb d_X12_common_6 rfl (lv_at hl 0 rfl) ?_
    refine lv_goto (tgt := 17) hx hb d_X12_common_7 (by decide) ?_
    obtain rfl := Option.some.inj h
    subst hQ
    exact r_lret X hr hlk hw d_X12_common_17
def f_X12_common : Nat → Int64 → Int64 → Option (Int64)
  | 0 => fun _ _ => none
  | d + 1 => f_X12_common_b (f_X12_common d)
theorem cd_X12_common {l : Launch} {G : gT} (hf : FW G) : ∀ (d : Nat), ∀ {χ σ : St} {a0 : Int64} {a2 : Int64} {q : Int64}, f_X12_common d a0 a2 = some q → Ct l G yX12_common prog_14_method_7_code 4 (some .long) (d + 0) (d * 24 + 0) [.long a0, .long a2] χ σ (some (.long q)) χ σ := by
  intro d
  induction d with
  | zero => intro χ σ a0 a2 q h; cases h
  | succ d ih => intro χ σ a0 a2 q h; exact c_X12_common_b (f_X12_common d) hf ih h
theorem c_X12_common {l : Launch} {G : gT} {χ σ : St} {a0 : Int64} {a2 : Int64} {q : Int64} (hf : FW G) (h : f_X12_common 200 a0 a2 = some q) : Ct l G yX12_common prog_14_method_7_code 4 (some .long) 200 4800 [.long a0, .long a2] χ σ (some (.long q)) χ σ := cd_X12_common hf 200 h
abbrev yX12_enters : MethodName := ⟨"OysterBedsModel", "enters", "(J)V"⟩
theorem mwX12_enters : MW yX12_enters prog_14_method_8_code 3 none 1 := ⟨wd_1283, wd_10, by decide +kernel⟩
theorem d_X12_enters_0 : decode prog_14_method_8_code 0 = .ok (.aload_n 0, 1) := by decide +kernel
theorem d_X12_enters_1 : decode prog_14_method_8_code 1 = .ok (.getfield 9, 3) := by decide +kernel
theorem d_X12_enters_4 : decode prog_14_method_8_code 4 = .ok (.aload_n 0, 1) := by decide +kernel
theorem d_X12_enters_5 : decode prog_14_method_8_code 5 = .ok (.getfield 95, 3) := by decide +kernel
theorem d_X12_enters_8 : decode prog_14_method_8_code 8 = .ok (.lload_n 1, 1) := by decide +kernel
theorem d_X12_enters_9 : decode prog_14_method_8_code 9 = .ok (.lastore, 1) := by decide +kernel
theorem d_X12_enters_10 : decode prog_14_method_8_code 10 = .ok (.aload_n 0, 1) := by decide +kernel
theorem d_X12_enters_11 : decode prog_14_method_8_code 11 = .ok (.dup, 1) := by decide +kernel
theorem d_X12_enters_12 : decode prog_14_method_8_code 12 = .ok (.getfield 95, 3) := by decide +kernel
theorem d_X12_enters_15 : decode prog_14_method_8_code 15 = .ok (.iconst 1, 1) := by decide +kernel
theorem d_X12_enters_16 : decode prog_14_method_8_code 16 = .ok (.iadd, 1) := by decide +kernel
theorem d_X12_enters_17 : decode prog_14_method_8_code 17 = .ok (.putfield 95, 3) := by decide +kernel
theorem d_X12_enters_20 : decode prog_14_method_8_code 20 = .ok (.return_, 1) := by decide +kernel
def f_X12_enters (σ : St) (a1 : Int64) : Option (St) := gd (inb (cF σ 300 1) 24) (some (sF (sL σ 302 (cF σ 300 1).toNatClampNeg a1) 300 1 ((cF (sL σ 302 (cF σ 300 1).toNatClampNeg a1) 300 1) + (1 : Int32))))
theorem c_X12_enters {l : Launch} {G : gT} {χ σ : St} {a1 : Int64} (hf : FW G) {q : St} (h : f_X12_enters σ a1 = some q) : Ct l G yX12_enters prog_14_method_8_code 3 none 0 0 [.ref (ga G 300), .long a1] χ σ (none) χ q := by
  refine Ct.of (by decide) (Nat.le_of_ble_eq_true rfl) ?_
  intro p e s m args below meth c Q X hr hlk hQ
  have hx := X.1
  have hb := X.2.1
  intro H locs ls hw hl
  have hl : lv_has ls 3 [(0, .ref (ga G 300)), (1, .long a1)] := hl
  unfold f_X12_enters at h
  refine lv_aload_n hx hb d_X12_enters_0 rfl (lv_at hl 0 rfl) ?_
  refine r_getr (j := 2) X hw ct8 (o_300 hf) rfl (Nat.le_of_ble_eq_true rfl) (q := 302) rfl wd_958 d_X12_enters_1 ?_
  refine lv_aload_n hx hb d_X12_enters_4 rfl (lv_at hl 0 rfl) ?_
  refine m_geti (j := 1) X hw ct8 (o_300 hf) (Nat.le_of_ble_eq_true rfl) rfl (Nat.le_of_ble_eq_true rfl) wd_957 d_X12_enters_5 ?_
  refine lv_lload_n hx hb d_X12_enters_8 rfl (lv_at hl 1 rfl) ?_
  obtain ⟨hi1, h⟩ := gd_some h
  refine m_last X hw (o_302 hf) (Nat.le_of_ble_eq_true rfl) hi1 d_X12_enters_9 (fun H locs hw => ?_)
  refine lv_aload_n hx hb d_X12_enters_10 rfl (lv_at hl 0 rfl) ?_
  refine lv_dup hx hb d_X12_enters_11 rfl ?_
  refine m_geti (j := 1) X hw ct8 (o_300 hf) (Nat.le_of_ble_eq_true rfl) rfl (Nat.le_of_ble_eq_true rfl) wd_957 d_X12_enters_12 ?_
  refine lv_iconst (v := (1 : Int32)) hx hb d_X12_enters_15 (by decide) ?_
  refine lv_iadd hx hb d_X12_enters_16 ?_
  refine m_puti (j := 1) X hw ct8 (o_300 hf) (Nat.le_of_ble_eq_true rfl) rfl (Nat.le_of_ble_eq_true rfl) rfl rfl rfl wd_957 d_X12_enters_17 (fun H locs hw => ?_)
  obtain rfl := Option.some.inj h
  subst hQ
  exact r_vret X hr hlk hw d_X12_enters_20
abbrev yX12_entersFraction : MethodName := ⟨"OysterBedsModel", "entersFraction", "(JJ)I"⟩
theorem mwX12_entersFraction : MW yX12_entersFraction prog_14_method_9_code 7 (some .int) 2 := ⟨wd_1484, wd_10, by decide +kernel⟩
theorem d_X12_entersFraction_0 : decode prog_14_method_9_code 0 = .ok (.lload_n 1, 1) := by decide +kernel
theorem d_X12_entersFraction_1 : decode prog_14_method_9_code 1 = .ok (.lload_n 3, 1) := by decide +kernel
theorem d_X12_entersFraction_2 : decode prog_14_method_9_code 2 = .ok (.invokestatic 91, 3) := by decide +kernel
theorem d_X12_entersFraction_5 : decode prog_14_method_9_code 5 = .ok (.lstore 5, 2) := by decide +kernel
theorem d_X12_entersFraction_7 : decode prog_14_method_9_code 7 = .ok (.aload_n 0, 1) := by decide +kernel
theorem d_X12_entersFraction_8 : decode prog_14_method_9_code 8 = .ok (.iconst 0, 1) := by decide +kernel
theorem d_X12_entersFraction_9 : decode prog_14_method_9_code 9 = .ok (.putfield 95, 3) := by decide +kernel
theorem d_X12_entersFraction_12 : decode prog_14_method_9_code 12 = .ok (.aload_n 0, 1) := by decide +kernel
theorem d_X12_entersFraction_13 : decode prog_14_method_9_code 13 = .ok (.lload_n 1, 1) := by decide +kernel
theorem d_X12_entersFraction_14 : decode prog_14_method_9_code 14 = .ok (.lload 5, 2) := by decide +kernel
theorem d_X12_entersFraction_16 : decode prog_14_method_9_code 16 = .ok (.ldiv, 1) := by decide +kernel
theorem d_X12_entersFraction_17 : decode prog_14_method_9_code 17 = .ok (.invokevirtual 98, 3) := by decide +kernel
theorem d_X12_entersFraction_20 : decode prog_14_method_9_code 20 = .ok (.aload_n 0, 1) := by decide +kernel
theorem d_X12_entersFraction_21 : decode prog_14_method_9_code 21 = .ok (.lload_n 3, 1) := by decide +kernel
theorem d_X12_entersFraction_22 : decode prog_14_method_9_code 22 = .ok (.lload 5, 2) := by decide +kernel
theorem d_X12_entersFraction_24 : decode prog_14_method_9_code 24 = .ok (.ldiv, 1) := by decide +kernel
theorem d_X12_entersFraction_25 : decode prog_14_method_9_code 25 = .ok (.invokevirtual 98, 3) := by decide +kernel
theorem d_X12_entersFraction_28 : decode prog_14_method_9_code 28 = .ok (.iconst 0, 1) := by decide +kernel
theorem d_X12_entersFraction_29 : decode prog_14_method_9_code 29 = .ok (.ireturn, 1) := by decide +kernel
def f_X12_entersFraction (σ : St) (a1 : Int64) (a3 : Int64) : Option (Int32 × St) := (f_X12_common 200 a1 a3).bind (fun q1 => gd (nzl q1) ((f_X12_enters (sF σ 300 1 (0 : Int32)) (a1 / q1)).bind (fun q4 => gd (nzl q1) ((f_X12_enters q4 (a3 / q1)).bind (fun q7 => some ((0 : Int32), q7))))))
theorem c_X12_entersFraction {l : Launch} {G : gT} {χ σ : St} {a1 : Int64} {a3 : Int64} (hf : FW G) {q : Int32 × St} (h : f_X12_entersFraction σ a1 a3 = some q) : Ct l G yX12_entersFraction prog_14_method_9_code 7 (some .int) 201 4823 [.ref (ga G 300), .long a1, .long a3] χ σ (some (.int q.1)) χ q.2 := by
  refine Ct.of (by decide) (Nat.le_of_ble_eq_true rfl) ?_
  intro p e s m args below meth c Q X hr hlk hQ
  have hx := X.1
  have hb := X.2.1
  intro H locs ls hw hl
  have hl : lv_has ls 7 [(0, .ref (ga G 300)), (1, .long a1), (3, .long a3)] := hl
  unfold f_X12_entersFraction at h
  refine lv_lload_n hx hb d_X12_entersFraction_0 rfl (lv_at hl 1 rfl) ?_
  refine lv_lload_n hx hb d_X12_entersFraction_1 rfl (lv_at hl 2 rfl) ?_
  obtain ⟨q1, e2, h⟩ := bd_some h
  refine r_callS (As := [.long a1, .long a3]) (rest := []) (st' := [.long q1]) X hw hl mwX12_common wd_1486 wd_1485 (c_X12_common hf e2) rfl ⟨Nat.le_of_ble_eq_true rfl, Nat.le_of_ble_eq_true rfl⟩ ⟨Nat.le_refl _, Nat.le_refl _⟩ rfl rfl (Nat.le_of_ble_eq_true rfl) d_X12_entersFraction_2 (fun H locs hw => ?_)
  refine lv_lstore (lv' := [(5, .long q1), (0, .ref (ga G 300)), (1, .long a1), (3, .long a3)]) hx hb d_X12_entersFraction_5 hl (Nat.le_of_ble_eq_true rfl) rfl (fun ls hl => ?_)
  refine lv_aload_n hx hb d_X12_entersFraction_7 rfl (lv_at hl 1 rfl) ?_
  refine lv_iconst (v := (0 : Int32)) hx hb d_X12_entersFraction_8 (by decide) ?_
  refine m_puti (j := 1) X hw ct8 (o_300 hf) (Nat.le_of_ble_eq_true rfl) rfl (Nat.le_of_ble_eq_true rfl) rfl rfl rfl wd_957 d_X12_entersFraction_9 (fun H locs hw => ?_)
  refine lv_aload_n hx hb d_X12_entersFraction_12 rfl (lv_at hl 1 rfl) ?_
  refine lv_lload_n hx hb d_X12_entersFraction_13 rfl (lv_at hl 2 rfl) ?_
  refine lv_lload hx hb d_X12_entersFraction_14 (lv_at hl 0 rfl) ?_
  obtain ⟨hz3, h⟩ := gd_some h
  refine lv_ldiv hx hb d_X12_entersFraction_16 (nzl_ne hz3) ?_
  obtain ⟨q4, e5, h⟩ := bd_some h
  refine r_callV (As := [.long (a1 / q1)]) (rest := []) (st' := []) X hw hl mwX12_enters wd_1282 wp_38 wd_1280 (c_X12_enters hf e5) (r_recv X hw ct8 (o_300 hf)) rfl ⟨Nat.le_of_ble_eq_true rfl, Nat.le_of_ble_eq_true rfl⟩ ⟨Nat.le_refl _, Nat.le_refl _⟩ rfl rfl (Nat.le_of_ble_eq_true rfl) d_X12_entersFraction_17 (fun H locs hw => ?_)
  refine lv_aload_n hx hb d_X12_entersFraction_20 rfl (lv_at hl 1 rfl) ?_
  refine lv_lload_n hx hb d_X12_entersFraction_21 rfl (lv_at hl 3 rfl) ?_
  refine lv_lload hx hb d_X12_entersFraction_22 (lv_at hl 0 rfl) ?_
  obtain ⟨hz6, h⟩ := gd_some h
  refine lv_ldiv hx hb d_X12_entersFraction_24 (nzl_ne hz6) ?_
  obtain ⟨q7, e8, h⟩ := bd_some h
  refine r_callV (As := [.long (a3 / q1)]) (rest := []) (st' := []) X hw hl mwX12_enters wd_1282 wp_38 wd_1280 (c_X12_enters hf e8) (r_recv X hw ct8 (o_300 hf)) rfl ⟨Nat.le_of_ble_eq_true rfl, Nat.le_of_ble_eq_true rfl⟩ ⟨Nat.le_refl _, Nat.le_refl _⟩ rfl rfl (Nat.le_of_ble_eq_true rfl) d_X12_entersFraction_25 (fun H locs hw => ?_)
  refine lv_iconst (v := (0 : Int32)) hx hb d_X12_entersFraction_28 (by decide) ?_
  obtain rfl := Option.some.inj h
  subst hQ
  exact r_iret X hr hlk hw d_X12_entersFraction_29
abbrev yX12_isOyster : MethodName := ⟨"OysterBedsModel", "isOyster", "(I)Z"⟩
theorem mwX12_isOyster : MW yX12_isOyster prog_14_method_10_code 2 (some .boolean) 1 := ⟨wd_1221, wd_10, by decide +kernel⟩
theorem d_X12_isOyster_0 : decode prog_14_method_10_code 0 = .ok (.iload_n 1, 1) := by decide +kernel
theorem d_X12_isOyster_1 : decode prog_14_method_10_code 1 = .ok (.i2l, 1) := by decide +kernel
theorem d_X12_isOyster_2 : decode prog_14_method_10_code 2 = .ok (.lconst 0, 1) := by decide +kernel
theorem d_X12_isOyster_3 : decode prog_14_method_10_code 3 = .ok (.aload_n 0, 1) := by decide +kernel
theorem d_X12_isOyster_4 : decode prog_14_method_10_code 4 = .ok (.getfield 102, 3) := by decide +kernel
theorem d_X12_isOyster_7 : decode prog_14_method_10_code 7 = .ok (.iconst 1, 1) := by decide +kernel
theorem d_X12_isOyster_8 : decode prog_14_method_10_code 8 = .ok (.isub, 1) := by decide +kernel
theorem d_X12_isOyster_9 : decode prog_14_method_10_code 9 = .ok (.i2l, 1) := by decide +kernel
theorem d_X12_isOyster_10 : decode prog_14_method_10_code 10 = .ok (.invokestatic 105, 3) := by decide +kernel
theorem d_X12_isOyster_13 : decode prog_14_method_10_code 13 = .ok (.ireturn, 1) := by decide +kernel
def f_X12_isOyster (σ : St) (a1 : Int32) : Option (Int32) := (f_X12_in a1.toInt64 (0 : Int64) ((cF σ 300 3) - (1 : Int32)).toInt64).bind (fun q1 => gd (nb q1) (some q1))
theorem c_X12_isOyster {l : Launch} {G : gT} {χ σ : St} {a1 : Int32} (hf : FW G) {q : Int32} (h : f_X12_isOyster σ a1 = some q) : Ct l G yX12_isOyster prog_14_method_10_code 2 (some .boolean) 1 25 [.ref (ga G 300), .int a1] χ σ (some (.int q)) χ σ := by
  refine Ct.of (by decide) (Nat.le_of_ble_eq_true rfl) ?_
  intro p e s m args below meth c Q X hr hlk hQ
  have hx := X.1
  have hb := X.2.1
  intro H locs ls hw hl
  have hl : lv_has ls 2 [(0, .ref (ga G 300)), (1, .int a1)] := hl
  unfold f_X12_isOyster at h
  refine lv_iload_n hx hb d_X12_isOyster_0 rfl (lv_at hl 1 rfl) ?_
  refine lv_i2l hx hb d_X12_isOyster_1 rfl ?_
  refine lv_lconst (v := (0 : Int64)) hx hb d_X12_isOyster_2 (by decide) ?_
  refine lv_aload_n hx hb d_X12_isOyster_3 rfl (lv_at hl 0 rfl) ?_
  refine m_geti (j := 3) X hw ct8 (o_300 hf) (Nat.le_of_ble_eq_true rfl) rfl (Nat.le_of_ble_eq_true rfl) wd_959 d_X12_isOyster_4 ?_
  refine lv_iconst (v := (1 : Int32)) hx hb d_X12_isOyster_7 (by decide) ?_
  refine lv_isub hx hb d_X12_isOyster_8 ?_
  refine lv_i2l hx hb d_X12_isOyster_9 rfl ?_
  obtain ⟨q1, e2, h⟩ := bd_some h
  refine r_callS (As := [.long a1.toInt64, .long (0 : Int64), .long ((cF σ 300 3) - (1 : Int32)).toInt64]) (rest := []) (st' := [.int q1]) X hw hl mwX12_in wd_1093 wd_1092 (c_X12_in hf e2) rfl ⟨Nat.le_of_ble_eq_true rfl, Nat.le_of_ble_eq_true rfl⟩ ⟨Nat.le_refl _, Nat.le_refl _⟩ rfl rfl (Nat.le_of_ble_eq_true rfl) d_X12_isOyster_10 (fun H locs hw => ?_)
  obtain ⟨hv3, h⟩ := gd_some h
  obtain rfl := Option.some.inj h
  subst hQ
  exact r_zret X hr (nb_of hv3) hlk hw d_X12_isOyster_13
abbrev yX12_isQuestion : MethodName := ⟨"OysterBedsModel", "isQuestion", "(II)Z"⟩
theorem mwX12_isQuestion : MW yX12_isQuestion prog_14_method_11_code 2 (some .boolean) 2 := ⟨wd_1247, wd_10, by decide +kernel⟩
theorem d_X12_isQuestion_0 : decode prog_14_method_11_code 0 = .ok (.iload_n 0, 1) := by decide +kernel
theorem d_X12_isQuestion_1 : decode prog_14_method_11_code 1 = .ok (.i2l, 1) := by decide +kernel
theorem d_X12_isQuestion_2 : decode prog_14_method_11_code 2 = .ok (.lconst 0, 1) := by decide +kernel
theorem d_X12_isQuestion_3 : decode prog_14_method_11_code 3 = .ok (.ldc2_w 109, 3) := by decide +kernel
theorem d_X12_isQuestion_6 : decode prog_14_method_11_code 6 = .ok (.invokestatic 105, 3) := by decide +kernel
theorem d_X12_isQuestion_9 : decode prog_14_method_11_code 9 = .ok (.ifCond .eq 19, 3) := by decide +kernel
theorem d_X12_isQuestion_12 : decode prog_14_method_11_code 12 = .ok (.iload_n 1, 1) := by decide +kernel
theorem d_X12_isQuestion_13 : decode prog_14_method_11_code 13 = .ok (.i2l, 1) := by decide +kernel
theorem d_X12_isQuestion_14 : decode prog_14_method_11_code 14 = .ok (.lconst 0, 1) := by decide +kernel
theorem d_X12_isQuestion_15 : decode prog_14_method_11_code 15 = .ok (.ldc2_w 111, 3) := by decide +kernel
theorem d_X12_isQuestion_18 : decode prog_14_method_11_code 18 = .ok (.invokestatic 105, 3) := by decide +kernel
theorem d_X12_isQuestion_21 : decode prog_14_method_11_code 21 = .ok (.ifCond .eq 7, 3) := by decide +kernel
theorem d_X12_isQuestion_24 : decode prog_14_method_11_code 24 = .ok (.iconst 1, 1) := by decide +kernel
theorem d_X12_isQuestion_25 : decode prog_14_method_11_code 25 = .ok (.goto 4, 3) := by decide +kernel
theorem d_X12_isQuestion_28 : decode prog_14_method_11_code 28 = .ok (.iconst 0, 1) := by decide +kernel
theorem d_X12_isQuestion_29 : decode prog_14_method_11_code 29 = .ok (.ireturn, 1) := by decide +kernel
def f_X12_isQuestion (a0 : Int32) (a1 : Int32) : Option (Int32) := (f_X12_in a0.toInt64 (0 : Int64) (3 : Int64)).bind (fun q1 => (if q1 = 0 then some (0 : Int32) else (f_X12_in a1.toInt64 (0 : Int64) (9 : Int64)).bind (fun q3 => some (if q3 = 0 then (0 : Int32) else (1 : Int32)))))
theorem c_X12_isQuestion {l : Launch} {G : gT} {χ σ : St} {a0 : Int32} {a1 : Int32} (hf : FW G) {q : Int32} (h : f_X12_isQuestion a0 a1 = some q) : Ct l G yX12_isQuestion prog_14_method_11_code 2 (some .boolean) 1 25 [.int a0, .int a1] χ σ (some (.int q)) χ σ := by
  refine Ct.of (by decide) (Nat.le_of_ble_eq_true rfl) ?_
  intro p e s m args below meth c Q X hr hlk hQ
  have hx := X.1
  have hb := X.2.1
  intro H locs ls hw hl
  have hl : lv_has ls 2 [(0, .int a0), (1, .int a1)] := hl
  unfold f_X12_isQuestion at h
  refine lv_iload_n hx hb d_X12_isQuestion_0 rfl (lv_at hl 0 rfl) ?_
  refine lv_i2l hx hb d_X12_isQuestion_1 rfl ?_
  refine lv_lconst (v := (0 : Int64)) hx hb d_X12_isQuestion_2 (by decide) ?_
  refine r_ldc2 X wd_1231 d_X12_isQuestion_3 ?_
  obtain ⟨q1, e2, h⟩ := bd_some h
  refine r_callS (As := [.long a0.toInt64, .long (0 : Int64), .long (3 : Int64)]) (rest := []) (st' := [.int q1]) X hw hl mwX12_in wd_1093 wd_1092 (c_X12_in hf e2) rfl ⟨Nat.le_of_ble_eq_true rfl, Nat.le_of_ble_eq_true rfl⟩ ⟨Nat.le_refl _, Nat.le_refl _⟩ rfl rfl (Nat.le_of_ble_eq_true rfl) d_X12_isQuestion_6 (fun H locs hw => ?_)
  refine lv_if_eq (tgt := 28) hx hb d_X12_isQuestion_9 (by decide) (fun hc => ?_) (fun hc => ?_)
  · have h := ite_t h hc
    refine lv_iconst (v := (0 : Int32)) hx hb d_X12_isQuestion_28 (by decide) ?_
    obtain rfl := Option.some.inj h
    subst hQ
    exact r_zret X hr nbz0 hlk hw d_X12_isQuestion_29
  · have h := ite_f h hc
    refine lv_iload_n hx hb d_X12_isQuestion_12 rfl (lv_at hl 1 rfl) ?_
    refine lv_i2l hx hb d_X12_isQuestion_13 rfl ?_
    refine lv_lconst (v := (0 : Int64)) hx hb d_X12_isQuestion_14 (by decide) ?_
    refine r_ldc2 X wd_1248 d_X12_isQuestion_15 ?_
    obtain ⟨q3, e4, h⟩ := bd_some h
    refine r_callS (As := [.long a1.toInt64, .long (0 : Int64), .long (9 : Int64)]) (rest := []) (st' := [.int q3]) X hw hl mwX12_in wd_1093 wd_1092 (c_X12_in hf e4) rfl ⟨Nat.le_of_ble_eq_true rfl, Nat.le_of_ble_eq_true rfl⟩ ⟨Nat.le_refl _, Nat.le_refl _⟩ rfl rfl (Nat.le_of_ble_eq_true rfl) d_X12_isQuestion_18 (fun H locs hw => ?_)
    refine lv_if_eq (tgt := 28) hx hb d_X12_isQuestion_21 (by decide) (fun hc => ?_) (fun hc => ?_)
    · simp only [if_pos hc] at h
      refine lv_iconst (v := (0 : Int32)) hx hb d_X12_isQuestion_28 (by decide) ?_
      obtain rfl := Option.some.inj h
      subst hQ
      exact r_zret X hr nbz0 hlk hw d_X12_isQuestion_29
    · simp only [if_neg hc] at h
      refine lv_iconst (v := (1 : Int32)) hx hb d_X12_isQuestion_24 (by decide) ?_
      refine lv_goto (tgt := 29) hx hb d_X12_isQuestion_25 (by decide) ?_
      obtain rfl := Option.some.inj h
      subst hQ
      exact r_zret X hr nbz1 hlk hw d_X12_isQuestion_29
abbrev yX12_all : MethodName := ⟨"OysterBedsModel", "all", "()I"⟩
theorem mwX12_all : MW yX12_all prog_14_method_12_code 1 (some .int) 0 := ⟨wd_1410, wd_10, by decide +kernel⟩
theorem d_X12_all_0 : decode prog_14_method_12_code 0 = .ok (.iconst 1, 1) := by decide +kernel
theorem d_X12_all_1 : decode prog_14_method_12_code 1 = .ok (.aload_n 0, 1) := by decide +kernel
theorem d_X12_all_2 : decode prog_14_method_12_code 2 = .ok (.getfield 102, 3) := by decide +kernel
theorem d_X12_all_5 : decode prog_14_method_12_code 5 = .ok (.ishl, 1) := by decide +kernel
theorem d_X12_all_6 : decode prog_14_method_12_code 6 = .ok (.iconst 1, 1) := by decide +kernel
theorem d_X12_all_7 : decode prog_14_method_12_code 7 = .ok (.isub, 1) := by decide +kernel
theorem d_X12_all_8 : decode prog_14_method_12_code 8 = .ok (.ireturn, 1) := by decide +kernel
def f_X12_all (σ : St) : Option (Int32) := some (((1 : Int32) <<< ((cF σ 300 3) &&& 31)) - (1 : Int32))
theorem c_X12_all {l : Launch} {G : gT} {χ σ : St} (hf : FW G) {q : Int32} (h : f_X12_all σ = some q) : Ct l G yX12_all prog_14_method_12_code 1 (some .int) 0 0 [.ref (ga G 300)] χ σ (some (.int q)) χ σ := by
  refine Ct.of (by decide) (Nat.le_of_ble_eq_true rfl) ?_
  intro p e s m args below meth c Q X hr hlk hQ
  have hx := X.1
  have hb := X.2.1
  intro H locs ls hw hl
  have hl : lv_has ls 1 [(0, .ref (ga G 300))] := hl
  unfold f_X12_all at h
  refine lv_iconst (v := (1 : Int32)) hx hb d_X12_all_0 (by decide) ?_
  refine lv_aload_n hx hb d_X12_all_1 rfl (lv_at hl 0 rfl) ?_
  refine m_geti (j := 3) X hw ct8 (o_300 hf) (Nat.le_of_ble_eq_true rfl) rfl (Nat.le_of_ble_eq_true rfl) wd_959 d_X12_all_2 ?_
  refine lv_ishl hx hb d_X12_all_5 ?_
  refine lv_iconst (v := (1 : Int32)) hx hb d_X12_all_6 (by decide) ?_
  refine lv_isub hx hb d_X12_all_7 ?_
  obtain rfl := Option.some.inj h
  subst hQ
  exact r_iret X hr hlk hw d_X12_all_8
abbrev yX12_openOnes : MethodName := ⟨"OysterBedsModel", "openOnes", "([I)I"⟩
theorem mwX12_openOnes : MW yX12_openOnes prog_14_method_13_code 4 (some .int) 1 := ⟨wd_1264, wd_10, by decide +kernel⟩
theorem d_X12_openOnes_0 : decode prog_14_method_13_code 0 = .ok (.iconst 0, 1) := by decide +kernel
theorem d_X12_openOnes_1 : decode prog_14_method_13_code 1 = .ok (.istore_n 2, 1) := by decide +kernel
theorem d_X12_openOnes_2 : decode prog_14_method_13_code 2 = .ok (.iconst 0, 1) := by decide +kernel
theorem d_X12_openOnes_3 : decode prog_14_method_13_code 3 = .ok (.istore_n 3, 1) := by decide +kernel
theorem d_X12_openOnes_4 : decode prog_14_method_13_code 4 = .ok (.iload_n 3, 1) := by decide +kernel
theorem d_X12_openOnes_5 : decode prog_14_method_13_code 5 = .ok (.aload_n 0, 1) := by decide +kernel
theorem d_X12_openOnes_6 : decode prog_14_method_13_code 6 = .ok (.getfield 102, 3) := by decide +kernel
theorem d_X12_openOnes_9 : decode prog_14_method_13_code 9 = .ok (.if_icmp .ge 28, 3) := by decide +kernel
theorem d_X12_openOnes_12 : decode prog_14_method_13_code 12 = .ok (.iload_n 2, 1) := by decide +kernel
theorem d_X12_openOnes_13 : decode prog_14_method_13_code 13 = .ok (.aload_n 1, 1) := by decide +kernel
theorem d_X12_openOnes_14 : decode prog_14_method_13_code 14 = .ok (.bipush 16, 2) := by decide +kernel
theorem d_X12_openOnes_16 : decode prog_14_method_13_code 16 = .ok (.iload_n 3, 1) := by decide +kernel
theorem d_X12_openOnes_17 : decode prog_14_method_13_code 17 = .ok (.iadd, 1) := by decide +kernel
theorem d_X12_openOnes_18 : decode prog_14_method_13_code 18 = .ok (.iaload, 1) := by decide +kernel
theorem d_X12_openOnes_19 : decode prog_14_method_13_code 19 = .ok (.ifCond .ne 9, 3) := by decide +kernel
theorem d_X12_openOnes_22 : decode prog_14_method_13_code 22 = .ok (.iconst 1, 1) := by decide +kernel
theorem d_X12_openOnes_23 : decode prog_14_method_13_code 23 = .ok (.iload_n 3, 1) := by decide +kernel
theorem d_X12_openOnes_24 : decode prog_14_method_13_code 24 = .ok (.ishl, 1) := by decide +kernel
theorem d_X12_openOnes_25 : decode prog_14_method_13_code 25 = .ok (.goto 4, 3) := by decide +kernel
theorem d_X12_openOnes_28 : decode prog_14_method_13_code 28 = .ok (.iconst 0, 1) := by decide +kernel
theorem d_X12_openOnes_29 : decode prog_14_method_13_code 29 = .ok (.ior, 1) := by decide +kernel
theorem d_X12_openOnes_30 : decode prog_14_method_13_code 30 = .ok (.istore_n 2, 1) := by decide +kernel
theorem d_X12_openOnes_31 : decode prog_14_method_13_code 31 = .ok (.iinc 3 1, 3) := by decide +kernel
theorem d_X12_openOnes_34 : decode prog_14_method_13_code 34 = .ok (.goto (-30), 3) := by decide +kernel
theorem d_X12_openOnes_37 : decode prog_14_method_13_code 37 = .ok (.iload_n 2, 1) := by decide +kernel
theorem d_X12_openOnes_38 : decode prog_14_method_13_code 38 = .ok (.ireturn, 1) := by decide +kernel
def f_X12_openOnes_j29_4 (r : Nat) (σ : St) (x3 : Int32) (s0 : Int32) (s1 : Int32) : Option ((Int32 × Int32) ⊕ (Int32)) := some (.inl ((s0 ||| s1), (x3 + (1 : Int32))))
def f_X12_openOnes_s4 (r : Nat) (σ : St) (x2 : Int32) (x3 : Int32) : Option ((Int32 × Int32) ⊕ (Int32)) := (if (cF σ 300 3) ≤ x3 then some (.inr x2) else gd (inb ((16 : Int32) + x3) 34) (f_X12_openOnes_j29_4 r σ x3 x2 (if (cA σ r ((16 : Int32) + x3).toNatClampNeg) = 0 then ((1 : Int32) <<< (x3 &&& 31)) else (0 : Int32))))
def f_X12_openOnes (σ : St) (r : Nat) : Option (Int32) := (iter (fun z => f_X12_openOnes_s4 r σ z.1 z.2) FU ((0 : Int32), (0 : Int32))).bind (fun z2 => some z2)
theorem c_X12_openOnes {l : Launch} {G : gT} {χ σ : St} {r : Nat} (hf : FW G) (hr : OP G r 11 34) (hr3 : 300 ≤ r) {q : Int32} (h : f_X12_openOnes σ r = some q) : Ct l G yX12_openOnes prog_14_method_13_code 4 (some .int) 0 0 [.ref (ga G 300), .ref (ga G r)] χ σ (some (.int q)) χ σ := by
  refine Ct.of (by decide) (Nat.le_of_ble_eq_true rfl) ?_
  intro p e s m args below meth c Q X hret hlk hQ
  have hx := X.1
  have hb := X.2.1
  have j29_4 : ∀ (x3 : Int32) (s0 : Int32) (s1 : Int32) (o : (Int32 × Int32) ⊕ (Int32)), f_X12_openOnes_j29_4 r σ x3 s0 s1 = some o → Sum.elim (fun z : Int32 × Int32 => Wat p l e (rmk 0 0) s m args below meth c Q G 4 4 [] [(2, .int z.1), (3, .int z.2), (0, .ref (ga G 300)), (1, .ref (ga G r))] χ σ) (fun z : Int32 => Wat p l e (rmk 0 0) s m args below meth c Q G 4 37 [] [(2, .int z)] χ σ) o → Wat p l e (rmk 0 0) s m args below meth c Q G 4 29 [.int s1, .int s0] [(0, .ref (ga G 300)), (1, .ref (ga G r)), (3, .int x3)] χ σ := by
    intro x3 s0 s1 o h hk H locs ls hw hl
    unfold f_X12_openOnes_j29_4 at h
    refine lv_ior hx hb d_X12_openOnes_29 ?_
    refine lv_istore_n (lv' := [(2, .int (s0 ||| s1)), (0, .ref (ga G 300)), (1, .ref (ga G r)), (3, .int x3)]) hx hb d_X12_openOnes_30 rfl hl (Nat.le_of_ble_eq_true rfl) rfl (fun ls hl => ?_)
    refine lv_iinc (v := (x3 + (1 : Int32))) (k := 3) (lv' := [(3, .int (x3 + (1 : Int32))), (2, .int (s0 ||| s1)), (0, .ref (ga G 300)), (1, .ref (ga G r))]) hx hb d_X12_openOnes_31 hl rfl (by rfl) (Nat.le_of_ble_eq_true rfl) rfl (fun ls hl => ?_)
    refine lv_goto (tgt := 4) hx hb d_X12_openOnes_34 (by decide) ?_
    obtain rfl := Option.some.inj h
    dsimp only [Sum.elim_inl] at hk
    exact hk _ _ _ hw (lv_sub hl [1, 0, 2, 3] rfl)
  have b4 : ∀ (x2 : Int32) (x3 : Int32) (o : (Int32 × Int32) ⊕ (Int32)), f_X12_openOnes_s4 r σ x2 x3 = some o → Sum.elim (fun z : Int32 × Int32 => Wat p l e (rmk 0 0) s m args below meth c Q G 4 4 [] [(2, .int z.1), (3, .int z.2), (0, .ref (ga G 300)), (1, .ref (ga G r))] χ σ) (fun z : Int32 => Wat p l e (rmk 0 0) s m args below meth c Q G 4 37 [] [(2, .int z)] χ σ) o → Wat p l e (rmk 0 0) s m args below meth c Q G 4 4 [] [(2, .int x2), (3, .int x3), (0, .ref (ga G 300)), (1, .ref (ga G r))] χ σ := by
    intro x2 x3 o h hk H locs ls hw hl
    unfold f_X12_openOnes_s4 at h
    refine lv_iload_n hx hb d_X12_openOnes_4 rfl (lv_at hl 1 rfl) ?_
    refine lv_aload_n hx hb d_X12_openOnes_5 rfl (lv_at hl 2 rfl) ?_
    refine m_geti (j := 3) X hw ct8 (o_300 hf) (Nat.le_of_ble_eq_true rfl) rfl (Nat.le_of_ble_eq_true rfl) wd_959 d_X12_openOnes_6 ?_
    refine lv_icmp_ge (tgt := 37) hx hb d_X12_openOnes_9 (by decide) (fun hc => ?_) (fun hc => ?_)
    · have h := ite_t h hc
      obtain rfl := Option.some.inj h
      dsimp only [Sum.elim_inr] at hk
      exact hk _ _ _ hw (lv_sub hl [0] rfl)
    · have h := ite_f h hc
      refine lv_iload_n hx hb d_X12_openOnes_12 rfl (lv_at hl 0 rfl) ?_
      refine lv_aload_n hx hb d_X12_openOnes_13 rfl (lv_at hl 3 rfl) ?_
      refine lv_bipush (v := (16 : Int32)) hx hb d_X12_openOnes_14 (by decide) ?_
      refine lv_iload_n hx hb d_X12_openOnes_16 rfl (lv_at hl 1 rfl) ?_
      refine lv_iadd hx hb d_X12_openOnes_17 ?_
      obtain ⟨hi1, h⟩ := gd_some h
      refine m_iald X hw hr hr3 hi1 d_X12_openOnes_18 ?_
      refine lv_if_ne (tgt := 28) hx hb d_X12_openOnes_19 (by decide) (fun hc => ?_) (fun hc => ?_)
      · simp only [if_neg hc] at h
        refine lv_iconst (v := (0 : Int32)) hx hb d_X12_openOnes_28 (by decide) ?_
        exact j29_4 x3 x2 (0 : Int32) o h hk _ _ _ hw (lv_sub hl [2, 3, 1] rfl)
      · simp only [if_pos hc] at h
        refine lv_iconst (v := (1 : Int32)) hx hb d_X12_openOnes_22 (by decide) ?_
        refine lv_iload_n hx hb d_X12_openOnes_23 rfl (lv_at hl 1 rfl) ?_
        refine lv_ishl hx hb d_X12_openOnes_24 ?_
        refine lv_goto (tgt := 29) hx hb d_X12_openOnes_25 (by decide) ?_
        exact j29_4 x3 x2 ((1 : Int32) <<< (x3 &&& 31)) o h hk _ _ _ hw (lv_sub hl [2, 3, 1] rfl)
  intro H locs ls hw hl
  have hl : lv_has ls 4 [(0, .ref (ga G 300)), (1, .ref (ga G r))] := hl
  unfold f_X12_openOnes at h
  refine lv_iconst (v := (0 : Int32)) hx hb d_X12_openOnes_0 (by decide) ?_
  refine lv_istore_n (lv' := [(2, .int (0 : Int32)), (0, .ref (ga G 300)), (1, .ref (ga G r))]) hx hb d_X12_openOnes_1 rfl hl (Nat.le_of_ble_eq_true rfl) rfl (fun ls hl => ?_)
  refine lv_iconst (v := (0 : Int32)) hx hb d_X12_openOnes_2 (by decide) ?_
  refine lv_istore_n (lv' := [(3, .int (0 : Int32)), (2, .int (0 : Int32)), (0, .ref (ga G 300)), (1, .ref (ga G r))]) hx hb d_X12_openOnes_3 rfl hl (Nat.le_of_ble_eq_true rfl) rfl (fun ls hl => ?_)
  obtain ⟨z2, e3, h⟩ := bd_some h
  refine iter_w (Wh := fun z : Int32 × Int32 => Wat p l e (rmk 0 0) s m args below meth c Q G 4 4 [] [(2, .int z.1), (3, .int z.2), (0, .ref (ga G 300)), (1, .ref (ga G r))] χ σ) (K := fun z : Int32 => Wat p l e (rmk 0 0) s m args below meth c Q G 4 37 [] [(2, .int z)] χ σ) (fun z o h1 h2 => b4 z.1 z.2 o h1 h2) FU _ _ e3 ?_ _ _ _ hw (lv_sub hl [1, 0, 2, 3] rfl)
  intro H locs ls hw hl
  refine lv_iload_n hx hb d_X12_openOnes_37 rfl (lv_at hl 0 rfl) ?_
  obtain rfl := Option.some.inj h
  subst hQ
  exact r_iret X hret hlk hw d_X12_openOnes_38
abbrev yX12_yesOf : MethodName := ⟨"OysterBedsModel", "yesOf", "([II)I"⟩
theorem mwX12_yesOf : MW yX12_yesOf prog_14_method_14_code 5 (some .int) 2 := ⟨wd_1354, wd_10, by decide +kernel⟩
theorem d_X12_yesOf_0 : decode prog_14_method_14_code 0 = .ok (.iconst 0, 1) := by decide +kernel
theorem d_X12_yesOf_1 : decode prog_14_method_14_code 1 = .ok (.istore_n 3, 1) := by decide +kernel
theorem d_X12_yesOf_2 : decode prog_14_method_14_code 2 = .ok (.iconst 0, 1) := by decide +kernel
theorem d_X12_yesOf_3 : decode prog_14_method_14_code 3 = .ok (.istore 4, 2) := by decide +kernel
theorem d_X12_yesOf_5 : decode prog_14_method_14_code 5 = .ok (.iload 4, 2) := by decide +kernel
theorem d_X12_yesOf_7 : decode prog_14_method_14_code 7 = .ok (.aload_n 0, 1) := by decide +kernel
theorem d_X12_yesOf_8 : decode prog_14_method_14_code 8 = .ok (.getfield 102, 3) := by decide +kernel
theorem d_X12_yesOf_11 : decode prog_14_method_14_code 11 = .ok (.if_icmp .ge 34, 3) := by decide +kernel
theorem d_X12_yesOf_14 : decode prog_14_method_14_code 14 = .ok (.iload_n 3, 1) := by decide +kernel
theorem d_X12_yesOf_15 : decode prog_14_method_14_code 15 = .ok (.aload_n 1, 1) := by decide +kernel
theorem d_X12_yesOf_16 : decode prog_14_method_14_code 16 = .ok (.bipush 8, 2) := by decide +kernel
theorem d_X12_yesOf_18 : decode prog_14_method_14_code 18 = .ok (.iload 4, 2) := by decide +kernel
theorem d_X12_yesOf_20 : decode prog_14_method_14_code 20 = .ok (.iadd, 1) := by decide +kernel
theorem d_X12_yesOf_21 : decode prog_14_method_14_code 21 = .ok (.iaload, 1) := by decide +kernel
theorem d_X12_yesOf_22 : decode prog_14_method_14_code 22 = .ok (.iload_n 2, 1) := by decide +kernel
theorem d_X12_yesOf_23 : decode prog_14_method_14_code 23 = .ok (.invokestatic 113, 3) := by decide +kernel
theorem d_X12_yesOf_26 : decode prog_14_method_14_code 26 = .ok (.ifCond .eq 10, 3) := by decide +kernel
theorem d_X12_yesOf_29 : decode prog_14_method_14_code 29 = .ok (.iconst 1, 1) := by decide +kernel
theorem d_X12_yesOf_30 : decode prog_14_method_14_code 30 = .ok (.iload 4, 2) := by decide +kernel
theorem d_X12_yesOf_32 : decode prog_14_method_14_code 32 = .ok (.ishl, 1) := by decide +kernel
theorem d_X12_yesOf_33 : decode prog_14_method_14_code 33 = .ok (.goto 4, 3) := by decide +kernel
theorem d_X12_yesOf_36 : decode prog_14_method_14_code 36 = .ok (.iconst 0, 1) := by decide +kernel
theorem d_X12_yesOf_37 : decode prog_14_method_14_code 37 = .ok (.ior, 1) := by decide +kernel
theorem d_X12_yesOf_38 : decode prog_14_method_14_code 38 = .ok (.istore_n 3, 1) := by decide +kernel
theorem d_X12_yesOf_39 : decode prog_14_method_14_code 39 = .ok (.iinc 4 1, 3) := by decide +kernel
theorem d_X12_yesOf_42 : decode prog_14_method_14_code 42 = .ok (.goto (-37), 3) := by decide +kernel
theorem d_X12_yesOf_45 : decode prog_14_method_14_code 45 = .ok (.iload_n 3, 1) := by decide +kernel
theorem d_X12_yesOf_46 : decode prog_14_method_14_code 46 = .ok (.ireturn, 1) := by decide +kernel
def f_X12_yesOf_j37_5 (r : Nat) (σ : St) (x2 : Int32) (x4 : Int32) (s0 : Int32) (s1 : Int32) : Option ((Int32 × Int32) ⊕ (Int32)) := some (.inl ((s0 ||| s1), (x4 + (1 : Int32))))
def f_X12_yesOf_s5 (r : Nat) (σ : St) (y2 : Int32) (x3 : Int32) (x4 : Int32) : Option ((Int32 × Int32) ⊕ (Int32)) := (if (cF σ 300 3) ≤ x4 then some (.inr x3) else gd (inb ((8 : Int32) + x4) 34) ((f_X12_has (cA σ r ((8 : Int32) + x4).toNatClampNeg) y2).bind (fun q2 => f_X12_yesOf_j37_5 r σ y2 x4 x3 (if q2 = 0 then (0 : Int32) else ((1 : Int32) <<< (x4 &&& 31))))))
def f_X12_yesOf (σ : St) (r : Nat) (a2 : Int32) : Option (Int32) := (iter (fun z => f_X12_yesOf_s5 r σ a2 z.1 z.2) FU ((0 : Int32), (0 : Int32))).bind (fun z4 => some z4)
theorem c_X12_yesOf {l : Launch} {G : gT} {χ σ : St} {r : Nat} {a2 : Int32} (hf : FW G) (hr : OP G r 11 34) (hr3 : 300 ≤ r) {q : Int32} (h : f_X12_yesOf σ r a2 = some q) : Ct l G yX12_yesOf prog_14_method_14_code 5 (some .int) 1 21 [.ref (ga G 300), .ref (ga G r), .int a2] χ σ (some (.int q)) χ σ := by
  refine Ct.of (by decide) (Nat.le_of_ble_eq_true rfl) ?_
  intro p e s m args below meth c Q X hret hlk hQ
  have hx := X.1
  have hb := X.2.1
  have j37_5 : ∀ (x2 : Int32) (x4 : Int32) (s0 : Int32) (s1 : Int32) (o : (Int32 × Int32) ⊕ (Int32)), f_X12_yesOf_j37_5 r σ x2 x4 s0 s1 = some o → Sum.elim (fun z : Int32 × Int32 => Wat p l e (rmk 1 21) s m args below meth c Q G 5 5 [] [(3, .int z.1), (4, .int z.2), (0, .ref (ga G 300)), (1, .ref (ga G r)), (2, .int x2)] χ σ) (fun z : Int32 => Wat p l e (rmk 1 21) s m args below meth c Q G 5 45 [] [(3, .int z)] χ σ) o → Wat p l e (rmk 1 21) s m args below meth c Q G 5 37 [.int s1, .int s0] [(0, .ref (ga G 300)), (1, .ref (ga G r)), (2, .int x2), (4, .int x4)] χ σ := by
    intro x2 x4 s0 s1 o h hk H locs ls hw hl
    unfold f_X12_yesOf_j37_5 at h
    refine lv_ior hx hb d_X12_yesOf_37 ?_
    refine lv_istore_n (lv' := [(3, .int (s0 ||| s1)), (0, .ref (ga G 300)), (1, .ref (ga G r)), (2, .int x2), (4, .int x4)]) hx hb d_X12_yesOf_38 rfl hl (Nat.le_of_ble_eq_true rfl) rfl (fun ls hl => ?_)
    refine lv_iinc (v := (x4 + (1 : Int32))) (k := 4) (lv' := [(4, .int (x4 + (1 : Int32))), (3, .int (s0 ||| s1)), (0, .ref (ga G 300)), (1, .ref (ga G r)), (2, .int x2)]) hx hb d_X12_yesOf_39 hl rfl (by rfl) (Nat.le_of_ble_eq_true rfl) rfl (fun ls hl => ?_)
    refine lv_goto (tgt := 5) hx hb d_X12_yesOf_42 (by decide) ?_
    obtain rfl := Option.some.inj h
    dsimp only [Sum.elim_inl] at hk
    exact hk _ _ _ hw (lv_sub hl [1, 0, 2, 3, 4] rfl)
  have b5 : ∀ (y2 : Int32) (x3 : Int32) (x4 : Int32) (o : (Int32 × Int32) ⊕ (Int32)), f_X12_yesOf_s5 r σ y2 x3 x4 = some o → Sum.elim (fun z : Int32 × Int32 => Wat p l e (rmk 1 21) s m args below meth c Q G 5 5 [] [(3, .int z.1), (4, .int z.2), (0, .ref (ga G 300)), (1, .ref (ga G r)), (2, .int y2)] χ σ) (fun z : Int32 => Wat p l e (rmk 1 21) s m args below meth c Q G 5 45 [] [(3, .int z)] χ σ) o → Wat p l e (rmk 1 21) s m args below meth c Q G 5 5 [] [(3, .int x3), (4, .int x4), (0, .ref (ga G 300)), (1, .ref (ga G r)), (2, .int y2)] χ σ := by
    intro y2 x3 x4 o h hk H locs ls hw hl
    unfold f_X12_yesOf_s5 at h
    refine lv_iload hx hb d_X12_yesOf_5 (lv_at hl 1 rfl) ?_
    refine lv_aload_n hx hb d_X12_yesOf_7 rfl (lv_at hl 2 rfl) ?_
    refine m_geti (j := 3) X hw ct8 (o_300 hf) (Nat.le_of_ble_eq_true rfl) rfl (Nat.le_of_ble_eq_true rfl) wd_959 d_X12_yesOf_8 ?_
    refine lv_icmp_ge (tgt := 45) hx hb d_X12_yesOf_11 (by decide) (fun hc => ?_) (fun hc => ?_)
    · have h := ite_t h hc
      obtain rfl := Option.some.inj h
      dsimp only [Sum.elim_inr] at hk
      exact hk _ _ _ hw (lv_sub hl [0] rfl)
    · have h := ite_f h hc
      refine lv_iload_n hx hb d_X12_yesOf_14 rfl (lv_at hl 0 rfl) ?_
      refine lv_aload_n hx hb d_X12_yesOf_15 rfl (lv_at hl 3 rfl) ?_
      refine lv_bipush (v := (8 : Int32)) hx hb d_X12_yesOf_16 (by decide) ?_
      refine lv_iload hx hb d_X12_yesOf_18 (lv_at hl 1 rfl) ?_
      refine lv_iadd hx hb d_X12_yesOf_20 ?_
      obtain ⟨hi1, h⟩ := gd_some h
      refine m_iald X hw hr hr3 hi1 d_X12_yesOf_21 ?_
      refine lv_iload_n hx hb d_X12_yesOf_22 rfl (lv_at hl 4 rfl) ?_
      obtain ⟨q2, e3, h⟩ := bd_some h
      refine r_callS (As := [.int (cA σ r ((8 : Int32) + x4).toNatClampNeg), .int y2]) (rest := [.int x3]) (st' := [.int q2, .int x3]) X hw hl mwX12_has wd_1266 wd_1265 (c_X12_has hf e3) rfl ⟨Nat.le_of_ble_eq_true rfl, Nat.le_of_ble_eq_true rfl⟩ ⟨Nat.le_refl _, Nat.le_refl _⟩ rfl rfl (Nat.le_of_ble_eq_true rfl) d_X12_yesOf_23 (fun H locs hw => ?_)
      refine lv_if_eq (tgt := 36) hx hb d_X12_yesOf_26 (by decide) (fun hc => ?_) (fun hc => ?_)
      · simp only [if_pos hc] at h
        refine lv_iconst (v := (0 : Int32)) hx hb d_X12_yesOf_36 (by decide) ?_
        exact j37_5 y2 x4 x3 (0 : Int32) o h hk _ _ _ hw (lv_sub hl [2, 3, 4, 1] rfl)
      · simp only [if_neg hc] at h
        refine lv_iconst (v := (1 : Int32)) hx hb d_X12_yesOf_29 (by decide) ?_
        refine lv_iload hx hb d_X12_yesOf_30 (lv_at hl 1 rfl) ?_
        refine lv_ishl hx hb d_X12_yesOf_32 ?_
        refine lv_goto (tgt := 37) hx hb d_X12_yesOf_33 (by decide) ?_
        exact j37_5 y2 x4 x3 ((1 : Int32) <<< (x4 &&& 31)) o h hk _ _ _ hw (lv_sub hl [2, 3, 4, 1] rfl)
  intro H locs ls hw hl
  have hl : lv_has ls 5 [(0, .ref (ga G 300)), (1, .ref (ga G r)), (2, .int a2)] := hl
  unfold f_X12_yesOf at h
  refine lv_iconst (v := (0 : Int32)) hx hb d_X12_yesOf_0 (by decide) ?_
  refine lv_istore_n (lv' := [(3, .int (0 : Int32)), (0, .ref (ga G 300)), (1, .ref (ga G r)), (2, .int a2)]) hx hb d_X12_yesOf_1 rfl hl (Nat.le_of_ble_eq_true rfl) rfl (fun ls hl => ?_)
  refine lv_iconst (v := (0 : Int32)) hx hb d_X12_yesOf_2 (by decide) ?_
  refine lv_istore (lv' := [(4, .int (0 : Int32)), (3, .int (0 : Int32)), (0, .ref (ga G 300)), (1, .ref (ga G r)), (2, .int a2)]) hx hb d_X12_yesOf_3 hl (Nat.le_of_ble_eq_true rfl) rfl (fun ls hl => ?_)
  obtain ⟨z4, e5, h⟩ := bd_some h
  refine iter_w (Wh := fun z : Int32 × Int32 => Wat p l e (rmk 1 21) s m args below meth c Q G 5 5 [] [(3, .int z.1), (4, .int z.2), (0, .ref (ga G 300)), (1, .ref (ga G r)), (2, .int a2)] χ σ) (K := fun z : Int32 => Wat p l e (rmk 1 21) s m args below meth c Q G 5 45 [] [(3, .int z)] χ σ) (fun z o h1 h2 => b5 a2 z.1 z.2 o h1 h2) FU _ _ e5 ?_ _ _ _ hw (lv_sub hl [1, 0, 2, 3, 4] rfl)
  intro H locs ls hw hl
  refine lv_iload_n hx hb d_X12_yesOf_45 rfl (lv_at hl 0 rfl) ?_
  obtain rfl := Option.some.inj h
  subst hQ
  exact r_iret X hret hlk hw d_X12_yesOf_46
abbrev yX12_kinOf : MethodName := ⟨"OysterBedsModel", "kinOf", "(I)I"⟩
theorem mwX12_kinOf : MW yX12_kinOf prog_14_method_15_code 4 (some .int) 1 := ⟨wd_1271, wd_10, by decide +kernel⟩
theorem d_X12_kinOf_0 : decode prog_14_method_15_code 0 = .ok (.iconst 0, 1) := by decide +kernel
theorem d_X12_kinOf_1 : decode prog_14_method_15_code 1 = .ok (.istore_n 2, 1) := by decide +kernel
theorem d_X12_kinOf_2 : decode prog_14_method_15_code 2 = .ok (.iconst 0, 1) := by decide +kernel
theorem d_X12_kinOf_3 : decode prog_14_method_15_code 3 = .ok (.istore_n 3, 1) := by decide +kernel
theorem d_X12_kinOf_4 : decode prog_14_method_15_code 4 = .ok (.iload_n 3, 1) := by decide +kernel
theorem d_X12_kinOf_5 : decode prog_14_method_15_code 5 = .ok (.aload_n 0, 1) := by decide +kernel
theorem d_X12_kinOf_6 : decode prog_14_method_15_code 6 = .ok (.getfield 102, 3) := by decide +kernel
theorem d_X12_kinOf_9 : decode prog_14_method_15_code 9 = .ok (.if_icmp .ge 29, 3) := by decide +kernel
theorem d_X12_kinOf_12 : decode prog_14_method_15_code 12 = .ok (.iload_n 2, 1) := by decide +kernel
theorem d_X12_kinOf_13 : decode prog_14_method_15_code 13 = .ok (.aload_n 0, 1) := by decide +kernel
theorem d_X12_kinOf_14 : decode prog_14_method_15_code 14 = .ok (.getfield 13, 3) := by decide +kernel
theorem d_X12_kinOf_17 : decode prog_14_method_15_code 17 = .ok (.iload_n 3, 1) := by decide +kernel
theorem d_X12_kinOf_18 : decode prog_14_method_15_code 18 = .ok (.iaload, 1) := by decide +kernel
theorem d_X12_kinOf_19 : decode prog_14_method_15_code 19 = .ok (.iload_n 1, 1) := by decide +kernel
theorem d_X12_kinOf_20 : decode prog_14_method_15_code 20 = .ok (.if_icmp .ne 9, 3) := by decide +kernel
theorem d_X12_kinOf_23 : decode prog_14_method_15_code 23 = .ok (.iconst 1, 1) := by decide +kernel
theorem d_X12_kinOf_24 : decode prog_14_method_15_code 24 = .ok (.iload_n 3, 1) := by decide +kernel
theorem d_X12_kinOf_25 : decode prog_14_method_15_code 25 = .ok (.ishl, 1) := by decide +kernel
theorem d_X12_kinOf_26 : decode prog_14_method_15_code 26 = .ok (.goto 4, 3) := by decide +kernel
theorem d_X12_kinOf_29 : decode prog_14_method_15_code 29 = .ok (.iconst 0, 1) := by decide +kernel
theorem d_X12_kinOf_30 : decode prog_14_method_15_code 30 = .ok (.ior, 1) := by decide +kernel
theorem d_X12_kinOf_31 : decode prog_14_method_15_code 31 = .ok (.istore_n 2, 1) := by decide +kernel
theorem d_X12_kinOf_32 : decode prog_14_method_15_code 32 = .ok (.iinc 3 1, 3) := by decide +kernel
theorem d_X12_kinOf_35 : decode prog_14_method_15_code 35 = .ok (.goto (-31), 3) := by decide +kernel
theorem d_X12_kinOf_38 : decode prog_14_method_15_code 38 = .ok (.iload_n 2, 1) := by decide +kernel
theorem d_X12_kinOf_39 : decode prog_14_method_15_code 39 = .ok (.ireturn, 1) := by decide +kernel
def f_X12_kinOf_j30_4 (σ : St) (x1 : Int32) (x3 : Int32) (s0 : Int32) (s1 : Int32) : Option ((Int32 × Int32) ⊕ (Int32)) := some (.inl ((s0 ||| s1), (x3 + (1 : Int32))))
def f_X12_kinOf_s4 (σ : St) (y1 : Int32) (x2 : Int32) (x3 : Int32) : Option ((Int32 × Int32) ⊕ (Int32)) := (if (cF σ 300 3) ≤ x3 then some (.inr x2) else gd (inb x3 8) (f_X12_kinOf_j30_4 σ y1 x3 x2 (if (cA σ 305 x3.toNatClampNeg) = y1 then ((1 : Int32) <<< (x3 &&& 31)) else (0 : Int32))))
def f_X12_kinOf (σ : St) (a1 : Int32) : Option (Int32) := (iter (fun z => f_X12_kinOf_s4 σ a1 z.1 z.2) FU ((0 : Int32), (0 : Int32))).bind (fun z2 => some z2)
theorem c_X12_kinOf {l : Launch} {G : gT} {χ σ : St} {a1 : Int32} (hf : FW G) {q : Int32} (h : f_X12_kinOf σ a1 = some q) : Ct l G yX12_kinOf prog_14_method_15_code 4 (some .int) 0 0 [.ref (ga G 300), .int a1] χ σ (some (.int q)) χ σ := by
  refine Ct.of (by decide) (Nat.le_of_ble_eq_true rfl) ?_
  intro p e s m args below meth c Q X hr hlk hQ
  have hx := X.1
  have hb := X.2.1
  have j30_4 : ∀ (x1 : Int32) (x3 : Int32) (s0 : Int32) (s1 : Int32) (o : (Int32 × Int32) ⊕ (Int32)), f_X12_kinOf_j30_4 σ x1 x3 s0 s1 = some o → Sum.elim (fun z : Int32 × Int32 => Wat p l e (rmk 0 0) s m args below meth c Q G 4 4 [] [(2, .int z.1), (3, .int z.2), (0, .ref (ga G 300)), (1, .int x1)] χ σ) (fun z : Int32 => Wat p l e (rmk 0 0) s m args below meth c Q G 4 38 [] [(2, .int z)] χ σ) o → Wat p l e (rmk 0 0) s m args below meth c Q G 4 30 [.int s1, .int s0] [(0, .ref (ga G 300)), (1, .int x1), (3, .int x3)] χ σ := by
    intro x1 x3 s0 s1 o h hk H locs ls hw hl
    unfold f_X12_kinOf_j30_4 at h
    refine lv_ior hx hb d_X12_kinOf_30 ?_
    refine lv_istore_n (lv' := [(2, .int (s0 ||| s1)), (0, .ref (ga G 300)), (1, .int x1), (3, .int x3)]) hx hb d_X12_kinOf_31 rfl hl (Nat.le_of_ble_eq_true rfl) rfl (fun ls hl => ?_)
    refine lv_iinc (v := (x3 + (1 : Int32))) (k := 3) (lv' := [(3, .int (x3 + (1 : Int32))), (2, .int (s0 ||| s1)), (0, .ref (ga G 300)), (1, .int x1)]) hx hb d_X12_kinOf_32 hl rfl (by rfl) (Nat.le_of_ble_eq_true rfl) rfl (fun ls hl => ?_)
    refine lv_goto (tgt := 4) hx hb d_X12_kinOf_35 (by decide) ?_
    obtain rfl := Option.some.inj h
    dsimp only [Sum.elim_inl] at hk
    exact hk _ _ _ hw (lv_sub hl [1, 0, 2, 3] rfl)
  have b4 : ∀ (y1 : Int32) (x2 : Int32) (x3 : Int32) (o : (Int32 × Int32) ⊕ (Int32)), f_X12_kinOf_s4 σ y1 x2 x3 = some o → Sum.elim (fun z : Int32 × Int32 => Wat p l e (rmk 0 0) s m args below meth c Q G 4 4 [] [(2, .int z.1), (3, .int z.2), (0, .ref (ga G 300)), (1, .int y1)] χ σ) (fun z : Int32 => Wat p l e (rmk 0 0) s m args below meth c Q G 4 38 [] [(2, .int z)] χ σ) o → Wat p l e (rmk 0 0) s m args below meth c Q G 4 4 [] [(2, .int x2), (3, .int x3), (0, .ref (ga G 300)), (1, .int y1)] χ σ := by
    intro y1 x2 x3 o h hk H locs ls hw hl
    unfold f_X12_kinOf_s4 at h
    refine lv_iload_n hx hb d_X12_kinOf_4 rfl (lv_at hl 1 rfl) ?_
    refine lv_aload_n hx hb d_X12_kinOf_5 rfl (lv_at hl 2 rfl) ?_
    refine m_geti (j := 3) X hw ct8 (o_300 hf) (Nat.le_of_ble_eq_true rfl) rfl (Nat.le_of_ble_eq_true rfl) wd_959 d_X12_kinOf_6 ?_
    refine lv_icmp_ge (tgt := 38) hx hb d_X12_kinOf_9 (by decide) (fun hc => ?_) (fun hc => ?_)
    · have h := ite_t h hc
      obtain rfl := Option.some.inj h
      dsimp only [Sum.elim_inr] at hk
      exact hk _ _ _ hw (lv_sub hl [0] rfl)
    · have h := ite_f h hc
      refine lv_iload_n hx hb d_X12_kinOf_12 rfl (lv_at hl 0 rfl) ?_
      refine lv_aload_n hx hb d_X12_kinOf_13 rfl (lv_at hl 2 rfl) ?_
      refine r_getr (j := 5) X hw ct8 (o_300 hf) rfl (Nat.le_of_ble_eq_true rfl) (q := 305) rfl wd_961 d_X12_kinOf_14 ?_
      refine lv_iload_n hx hb d_X12_kinOf_17 rfl (lv_at hl 1 rfl) ?_
      obtain ⟨hi1, h⟩ := gd_some h
      refine m_iald X hw (o_305 hf) (Nat.le_of_ble_eq_true rfl) hi1 d_X12_kinOf_18 ?_
      refine lv_iload_n hx hb d_X12_kinOf_19 rfl (lv_at hl 3 rfl) ?_
      refine lv_icmp_ne (tgt := 29) hx hb d_X12_kinOf_20 (by decide) (fun hc => ?_) (fun hc => ?_)
      · simp only [if_neg hc] at h
        refine lv_iconst (v := (0 : Int32)) hx hb d_X12_kinOf_29 (by decide) ?_
        exact j30_4 y1 x3 x2 (0 : Int32) o h hk _ _ _ hw (lv_sub hl [2, 3, 1] rfl)
      · simp only [if_pos hc] at h
        refine lv_iconst (v := (1 : Int32)) hx hb d_X12_kinOf_23 (by decide) ?_
        refine lv_iload_n hx hb d_X12_kinOf_24 rfl (lv_at hl 1 rfl) ?_
        refine lv_ishl hx hb d_X12_kinOf_25 ?_
        refine lv_goto (tgt := 30) hx hb d_X12_kinOf_26 (by decide) ?_
        exact j30_4 y1 x3 x2 ((1 : Int32) <<< (x3 &&& 31)) o h hk _ _ _ hw (lv_sub hl [2, 3, 1] rfl)
  intro H locs ls hw hl
  have hl : lv_has ls 4 [(0, .ref (ga G 300)), (1, .int a1)] := hl
  unfold f_X12_kinOf at h
  refine lv_iconst (v := (0 : Int32)) hx hb d_X12_kinOf_0 (by decide) ?_
  refine lv_istore_n (lv' := [(2, .int (0 : Int32)), (0, .ref (ga G 300)), (1, .int a1)]) hx hb d_X12_kinOf_1 rfl hl (Nat.le_of_ble_eq_true rfl) rfl (fun ls hl => ?_)
  refine lv_iconst (v := (0 : Int32)) hx hb d_X12_kinOf_2 (by decide) ?_
  refine lv_istore_n (lv' := [(3, .int (0 : Int32)), (2, .int (0 : Int32)), (0, .ref (ga G 300)), (1, .int a1)]) hx hb d_X12_kinOf_3 rfl hl (Nat.le_of_ble_eq_true rfl) rfl (fun ls hl => ?_)
  obtain ⟨z2, e3, h⟩ := bd_some h
  refine iter_w (Wh := fun z : Int32 × Int32 => Wat p l e (rmk 0 0) s m args below meth c Q G 4 4 [] [(2, .int z.1), (3, .int z.2), (0, .ref (ga G 300)), (1, .int a1)] χ σ) (K := fun z : Int32 => Wat p l e (rmk 0 0) s m args below meth c Q G 4 38 [] [(2, .int z)] χ σ) (fun z o h1 h2 => b4 a1 z.1 z.2 o h1 h2) FU _ _ e3 ?_ _ _ _ hw (lv_sub hl [1, 0, 2, 3] rfl)
  intro H locs ls hw hl
  refine lv_iload_n hx hb d_X12_kinOf_38 rfl (lv_at hl 0 rfl) ?_
  obtain rfl := Option.some.inj h
  subst hQ
  exact r_iret X hr hlk hw d_X12_kinOf_39
abbrev yX12_sumOf : MethodName := ⟨"OysterBedsModel", "sumOf", "([II)I"⟩
theorem mwX12_sumOf : MW yX12_sumOf prog_14_method_16_code 5 (some .int) 2 := ⟨wd_1236, wd_10, by decide +kernel⟩
theorem d_X12_sumOf_0 : decode prog_14_method_16_code 0 = .ok (.iconst 0, 1) := by decide +kernel
theorem d_X12_sumOf_1 : decode prog_14_method_16_code 1 = .ok (.istore_n 3, 1) := by decide +kernel
theorem d_X12_sumOf_2 : decode prog_14_method_16_code 2 = .ok (.iconst 0, 1) := by decide +kernel
theorem d_X12_sumOf_3 : decode prog_14_method_16_code 3 = .ok (.istore 4, 2) := by decide +kernel
theorem d_X12_sumOf_5 : decode prog_14_method_16_code 5 = .ok (.iload 4, 2) := by decide +kernel
theorem d_X12_sumOf_7 : decode prog_14_method_16_code 7 = .ok (.aload_n 0, 1) := by decide +kernel
theorem d_X12_sumOf_8 : decode prog_14_method_16_code 8 = .ok (.getfield 102, 3) := by decide +kernel
theorem d_X12_sumOf_11 : decode prog_14_method_16_code 11 = .ok (.if_icmp .ge 18, 3) := by decide +kernel
theorem d_X12_sumOf_14 : decode prog_14_method_16_code 14 = .ok (.iload_n 3, 1) := by decide +kernel
theorem d_X12_sumOf_15 : decode prog_14_method_16_code 15 = .ok (.aload_n 1, 1) := by decide +kernel
theorem d_X12_sumOf_16 : decode prog_14_method_16_code 16 = .ok (.iload_n 2, 1) := by decide +kernel
theorem d_X12_sumOf_17 : decode prog_14_method_16_code 17 = .ok (.iload 4, 2) := by decide +kernel
theorem d_X12_sumOf_19 : decode prog_14_method_16_code 19 = .ok (.iadd, 1) := by decide +kernel
theorem d_X12_sumOf_20 : decode prog_14_method_16_code 20 = .ok (.iaload, 1) := by decide +kernel
theorem d_X12_sumOf_21 : decode prog_14_method_16_code 21 = .ok (.iadd, 1) := by decide +kernel
theorem d_X12_sumOf_22 : decode prog_14_method_16_code 22 = .ok (.istore_n 3, 1) := by decide +kernel
theorem d_X12_sumOf_23 : decode prog_14_method_16_code 23 = .ok (.iinc 4 1, 3) := by decide +kernel
theorem d_X12_sumOf_26 : decode prog_14_method_16_code 26 = .ok (.goto (-21), 3) := by decide +kernel
theorem d_X12_sumOf_29 : decode prog_14_method_16_code 29 = .ok (.iload_n 3, 1) := by decide +kernel
theorem d_X12_sumOf_30 : decode prog_14_method_16_code 30 = .ok (.ireturn, 1) := by decide +kernel
def f_X12_sumOf_s5 (r : Nat) (σ : St) (y2 : Int32) (x3 : Int32) (x4 : Int32) : Option ((Int32 × Int32) ⊕ (Int32)) := (if (cF σ 300 3) ≤ x4 then some (.inr x3) else gd (inb (y2 + x4) 34) (some (.inl ((x3 + (cA σ r (y2 + x4).toNatClampNeg)), (x4 + (1 : Int32))))))
def f_X12_sumOf (σ : St) (r : Nat) (a2 : Int32) : Option (Int32) := (iter (fun z => f_X12_sumOf_s5 r σ a2 z.1 z.2) FU ((0 : Int32), (0 : Int32))).bind (fun z2 => some z2)
theorem c_X12_sumOf {l : Launch} {G : gT} {χ σ : St} {r : Nat} {a2 : Int32} (hf : FW G) (hr : OP G r 11 34) (hr3 : 300 ≤ r) {q : Int32} (h : f_X12_sumOf σ r a2 = some q) : Ct l G yX12_sumOf prog_14_method_16_code 5 (some .int) 0 0 [.ref (ga G 300), .ref (ga G r), .int a2] χ σ (some (.int q)) χ σ := by
  refine Ct.of (by decide) (Nat.le_of_ble_eq_true rfl) ?_
  intro p e s m args below meth c Q X hret hlk hQ
  have hx := X.1
  have hb := X.2.1
  have b5 : ∀ (y2 : Int32) (x3 : Int32) (x4 : Int32) (o : (Int32 × Int32) ⊕ (Int32)), f_X12_sumOf_s5 r σ y2 x3 x4 = some o → Sum.elim (fun z : Int32 × Int32 => Wat p l e (rmk 0 0) s m args below meth c Q G 5 5 [] [(3, .int z.1), (4, .int z.2), (0, .ref (ga G 300)), (1, .ref (ga G r)), (2, .int y2)] χ σ) (fun z : Int32 => Wat p l e (rmk 0 0) s m args below meth c Q G 5 29 [] [(3, .int z)] χ σ) o → Wat p l e (rmk 0 0) s m args below meth c Q G 5 5 [] [(3, .int x3), (4, .int x4), (0, .ref (ga G 300)), (1, .ref (ga G r)), (2, .int y2)] χ σ := by
    intro y2 x3 x4 o h hk H locs ls hw hl
    unfold f_X12_sumOf_s5 at h
    refine lv_iload hx hb d_X12_sumOf_5 (lv_at hl 1 rfl) ?_
    refine lv_aload_n hx hb d_X12_sumOf_7 rfl (lv_at hl 2 rfl) ?_
    refine m_geti (j := 3) X hw ct8 (o_300 hf) (Nat.le_of_ble_eq_true rfl) rfl (Nat.le_of_ble_eq_true rfl) wd_959 d_X12_sumOf_8 ?_
    refine lv_icmp_ge (tgt := 29) hx hb d_X12_sumOf_11 (by decide) (fun hc => ?_) (fun hc => ?_)
    · have h := ite_t h hc
      obtain rfl := Option.some.inj h
      dsimp only [Sum.elim_inr] at hk
      exact hk _ _ _ hw (lv_sub hl [0] rfl)
    · have h := ite_f h hc
      refine lv_iload_n hx hb d_X12_sumOf_14 rfl (lv_at hl 0 rfl) ?_
      refine lv_aload_n hx hb d_X12_sumOf_15 rfl (lv_at hl 3 rfl) ?_
      refine lv_iload_n hx hb d_X12_sumOf_16 rfl (lv_at hl 4 rfl) ?_
      refine lv_iload hx hb d_X12_sumOf_17 (lv_at hl 1 rfl) ?_
      refine lv_iadd hx hb d_X12_sumOf_19 ?_
      obtain ⟨hi1, h⟩ := gd_some h
      refine m_iald X hw hr hr3 hi1 d_X12_sumOf_20 ?_
      refine lv_iadd hx hb d_X12_sumOf_21 ?_
      refine lv_istore_n (lv' := [(3, .int (x3 + (cA σ r (y2 + x4).toNatClampNeg))), (4, .int x4), (0, .ref (ga G 300)), (1, .ref (ga G r)), (2, .int y2)]) hx hb d_X12_sumOf_22 rfl hl (Nat.le_of_ble_eq_true rfl) rfl (fun ls hl => ?_)
      refine lv_iinc (v := (x4 + (1 : Int32))) (k := 1) (lv' := [(4, .int (x4 + (1 : Int32))), (3, .int (x3 + (cA σ r (y2 + x4).toNatClampNeg))), (0, .ref (ga G 300)), (1, .ref (ga G r)), (2, .int y2)]) hx hb d_X12_sumOf_23 hl rfl (by rfl) (Nat.le_of_ble_eq_true rfl) rfl (fun ls hl => ?_)
      refine lv_goto (tgt := 5) hx hb d_X12_sumOf_26 (by decide) ?_
      obtain rfl := Option.some.inj h
      dsimp only [Sum.elim_inl] at hk
      exact hk _ _ _ hw (lv_sub hl [1, 0, 2, 3, 4] rfl)
  intro H locs ls hw hl
  have hl : lv_has ls 5 [(0, .ref (ga G 300)), (1, .ref (ga G r)), (2, .int a2)] := hl
  unfold f_X12_sumOf at h
  refine lv_iconst (v := (0 : Int32)) hx hb d_X12_sumOf_0 (by decide) ?_
  refine lv_istore_n (lv' := [(3, .int (0 : Int32)), (0, .ref (ga G 300)), (1, .ref (ga G r)), (2, .int a2)]) hx hb d_X12_sumOf_1 rfl hl (Nat.le_of_ble_eq_true rfl) rfl (fun ls hl => ?_)
  refine lv_iconst (v := (0 : Int32)) hx hb d_X12_sumOf_2 (by decide) ?_
  refine lv_istore (lv' := [(4, .int (0 : Int32)), (3, .int (0 : Int32)), (0, .ref (ga G 300)), (1, .ref (ga G r)), (2, .int a2)]) hx hb d_X12_sumOf_3 hl (Nat.le_of_ble_eq_true rfl) rfl (fun ls hl => ?_)
  obtain ⟨z2, e3, h⟩ := bd_some h
  refine iter_w (Wh := fun z : Int32 × Int32 => Wat p l e (rmk 0 0) s m args below meth c Q G 5 5 [] [(3, .int z.1), (4, .int z.2), (0, .ref (ga G 300)), (1, .ref (ga G r)), (2, .int a2)] χ σ) (K := fun z : Int32 => Wat p l e (rmk 0 0) s m args below meth c Q G 5 29 [] [(3, .int z)] χ σ) (fun z o h1 h2 => b5 a2 z.1 z.2 o h1 h2) FU _ _ e3 ?_ _ _ _ hw (lv_sub hl [1, 0, 2, 3, 4] rfl)
  intro H locs ls hw hl
  refine lv_iload_n hx hb d_X12_sumOf_29 rfl (lv_at hl 0 rfl) ?_
  obtain rfl := Option.some.inj h
  subst hQ
  exact r_iret X hret hlk hw d_X12_sumOf_30
abbrev yX12_copies : MethodName := ⟨"OysterBedsModel", "copies", "()V"⟩
theorem mwX12_copies : MW yX12_copies prog_14_method_17_code 2 none 0 := ⟨wd_1381, wd_10, by decide +kernel⟩
theorem d_X12_copies_0 : decode prog_14_method_17_code 0 = .ok (.iconst 0, 1) := by decide +kernel
theorem d_X12_copies_1 : decode prog_14_method_17_code 1 = .ok (.istore_n 1, 1) := by decide +kernel
theorem d_X12_copies_2 : decode prog_14_method_17_code 2 = .ok (.iload_n 1, 1) := by decide +kernel
theorem d_X12_copies_3 : decode prog_14_method_17_code 3 = .ok (.bipush 34, 2) := by decide +kernel
theorem d_X12_copies_5 : decode prog_14_method_17_code 5 = .ok (.if_icmp .ge 21, 3) := by decide +kernel
theorem d_X12_copies_8 : decode prog_14_method_17_code 8 = .ok (.aload_n 0, 1) := by decide +kernel
theorem d_X12_copies_9 : decode prog_14_method_17_code 9 = .ok (.getfield 20, 3) := by decide +kernel
theorem d_X12_copies_12 : decode prog_14_method_17_code 12 = .ok (.iload_n 1, 1) := by decide +kernel
theorem d_X12_copies_13 : decode prog_14_method_17_code 13 = .ok (.aload_n 0, 1) := by decide +kernel
theorem d_X12_copies_14 : decode prog_14_method_17_code 14 = .ok (.getfield 17, 3) := by decide +kernel
theorem d_X12_copies_17 : decode prog_14_method_17_code 17 = .ok (.iload_n 1, 1) := by decide +kernel
theorem d_X12_copies_18 : decode prog_14_method_17_code 18 = .ok (.iaload, 1) := by decide +kernel
theorem d_X12_copies_19 : decode prog_14_method_17_code 19 = .ok (.iastore, 1) := by decide +kernel
theorem d_X12_copies_20 : decode prog_14_method_17_code 20 = .ok (.iinc 1 1, 3) := by decide +kernel
theorem d_X12_copies_23 : decode prog_14_method_17_code 23 = .ok (.goto (-21), 3) := by decide +kernel
theorem d_X12_copies_26 : decode prog_14_method_17_code 26 = .ok (.return_, 1) := by decide +kernel
def f_X12_copies_s2 (τ : St) (x1 : Int32) : Option ((Int32 × St) ⊕ (St)) := (if (34 : Int32) ≤ x1 then some (.inr τ) else gd (inb x1 34) (gd (inb x1 34) (some (.inl ((x1 + (1 : Int32)), (sA τ 307 x1.toNatClampNeg (cA τ 306 x1.toNatClampNeg)))))))
def f_X12_copies (σ : St) : Option (St) := (iter (fun z => f_X12_copies_s2 z.2 z.1) FU ((0 : Int32), σ)).bind (fun z3 => some z3)
theorem c_X12_copies {l : Launch} {G : gT} {χ σ : St} (hf : FW G) {q : St} (h : f_X12_copies σ = some q) : Ct l G yX12_copies prog_14_method_17_code 2 none 0 0 [.ref (ga G 300)] χ σ (none) χ q := by
  refine Ct.of (by decide) (Nat.le_of_ble_eq_true rfl) ?_
  intro p e s m args below meth c Q X hr hlk hQ
  have hx := X.1
  have hb := X.2.1
  have b2 : ∀ (τ : St) (x1 : Int32) (o : (Int32 × St) ⊕ (St)), f_X12_copies_s2 τ x1 = some o → Sum.elim (fun z : Int32 × St => Wat p l e (rmk 0 0) s m args below meth c Q G 2 2 [] [(1, .int z.1), (0, .ref (ga G 300))] χ z.2) (fun z : St => Wat p l e (rmk 0 0) s m args below meth c Q G 2 26 [] [] χ z) o → Wat p l e (rmk 0 0) s m args below meth c Q G 2 2 [] [(1, .int x1), (0, .ref (ga G 300))] χ τ := by
    intro τ x1 o h hk H locs ls hw hl
    unfold f_X12_copies_s2 at h
    refine lv_iload_n hx hb d_X12_copies_2 rfl (lv_at hl 0 rfl) ?_
    refine lv_bipush (v := (34 : Int32)) hx hb d_X12_copies_3 (by decide) ?_
    refine lv_icmp_ge (tgt := 26) hx hb d_X12_copies_5 (by decide) (fun hc => ?_) (fun hc => ?_)
    · have h := ite_t h hc
      obtain rfl := Option.some.inj h
      dsimp only [Sum.elim_inr] at hk
      exact hk _ _ _ hw (lv_sub hl [] rfl)
    · have h := ite_f h hc
      refine lv_aload_n hx hb d_X12_copies_8 rfl (lv_at hl 1 rfl) ?_
      refine r_getr (j := 7) X hw ct8 (o_300 hf) rfl (Nat.le_of_ble_eq_true rfl) (q := 307) rfl wd_963 d_X12_copies_9 ?_
      refine lv_iload_n hx hb d_X12_copies_12 rfl (lv_at hl 0 rfl) ?_
      refine lv_aload_n hx hb d_X12_copies_13 rfl (lv_at hl 1 rfl) ?_
      refine r_getr (j := 6) X hw ct8 (o_300 hf) rfl (Nat.le_of_ble_eq_true rfl) (q := 306) rfl wd_962 d_X12_copies_14 ?_
      refine lv_iload_n hx hb d_X12_copies_17 rfl (lv_at hl 0 rfl) ?_
      obtain ⟨hi1, h⟩ := gd_some h
      refine m_iald X hw (o_306 hf) (Nat.le_of_ble_eq_true rfl) hi1 d_X12_copies_18 ?_
      obtain ⟨hi2, h⟩ := gd_some h
      refine m_iast X hw (o_307 hf) (Nat.le_of_ble_eq_true rfl) hi2 d_X12_copies_19 (fun H locs hw => ?_)
      refine lv_iinc (v := (x1 + (1 : Int32))) (k := 0) (lv' := [(1, .int (x1 + (1 : Int32))), (0, .ref (ga G 300))]) hx hb d_X12_copies_20 hl rfl (by rfl) (Nat.le_of_ble_eq_true rfl) rfl (fun ls hl => ?_)
      refine lv_goto (tgt := 2) hx hb d_X12_copies_23 (by decide) ?_
      obtain rfl := Option.some.inj h
      dsimp only [Sum.elim_inl] at hk
      exact hk _ _ _ hw (lv_sub hl [0, 1] rfl)
  intro H locs ls hw hl
  have hl : lv_has ls 2 [(0, .ref (ga G 300))] := hl
  unfold f_X12_copies at h
  refine lv_iconst (v := (0 : Int32)) hx hb d_X12_copies_0 (by decide) ?_
  refine lv_istore_n (lv' := [(1, .int (0 : Int32)), (0, .ref (ga G 300))]) hx hb d_X12_copies_1 rfl hl (Nat.le_of_ble_eq_true rfl) rfl (fun ls hl => ?_)
  obtain ⟨z3, e4, h⟩ := bd_some h
  refine iter_w (Wh := fun z : Int32 × St => Wat p l e (rmk 0 0) s m args below meth c Q G 2 2 [] [(1, .int z.1), (0, .ref (ga G 300))] χ z.2) (K := fun z : St => Wat p l e (rmk 0 0) s m args below meth c Q G 2 26 [] [] χ z) (fun z o h1 h2 => b2 z.2 z.1 o h1 h2) FU _ _ e4 ?_ _ _ _ hw (lv_sub hl [0, 1] rfl)
  intro H locs ls hw hl
  obtain rfl := Option.some.inj h
  subst hQ
  exact r_vret X hr hlk hw d_X12_copies_26
abbrev yX12_sign : MethodName := ⟨"OysterBedsModel", "sign", "(I)I"⟩
theorem mwX12_sign : MW yX12_sign prog_14_method_18_code 3 (some .int) 1 := ⟨wd_1087, wd_10, by decide +kernel⟩
theorem d_X12_sign_0 : decode prog_14_method_18_code 0 = .ok (.aload_n 0, 1) := by decide +kernel
theorem d_X12_sign_1 : decode prog_14_method_18_code 1 = .ok (.iconst 0, 1) := by decide +kernel
theorem d_X12_sign_2 : decode prog_14_method_18_code 2 = .ok (.putfield 87, 3) := by decide +kernel
theorem d_X12_sign_5 : decode prog_14_method_18_code 5 = .ok (.aload_n 0, 1) := by decide +kernel
theorem d_X12_sign_6 : decode prog_14_method_18_code 6 = .ok (.getfield 117, 3) := by decide +kernel
theorem d_X12_sign_9 : decode prog_14_method_18_code 9 = .ok (.bipush 76, 2) := by decide +kernel
theorem d_X12_sign_11 : decode prog_14_method_18_code 11 = .ok (.if_icmp .le 5, 3) := by decide +kernel
theorem d_X12_sign_14 : decode prog_14_method_18_code 14 = .ok (.iconst (-1), 1) := by decide +kernel
theorem d_X12_sign_15 : decode prog_14_method_18_code 15 = .ok (.ireturn, 1) := by decide +kernel
theorem d_X12_sign_16 : decode prog_14_method_18_code 16 = .ok (.iconst 0, 1) := by decide +kernel
theorem d_X12_sign_17 : decode prog_14_method_18_code 17 = .ok (.istore_n 2, 1) := by decide +kernel
theorem d_X12_sign_18 : decode prog_14_method_18_code 18 = .ok (.iload_n 2, 1) := by decide +kernel
theorem d_X12_sign_19 : decode prog_14_method_18_code 19 = .ok (.iconst 4, 1) := by decide +kernel
theorem d_X12_sign_20 : decode prog_14_method_18_code 20 = .ok (.if_icmp .ge 33, 3) := by decide +kernel
theorem d_X12_sign_23 : decode prog_14_method_18_code 23 = .ok (.aload_n 0, 1) := by decide +kernel
theorem d_X12_sign_24 : decode prog_14_method_18_code 24 = .ok (.getfield 23, 3) := by decide +kernel
theorem d_X12_sign_27 : decode prog_14_method_18_code 27 = .ok (.aload_n 0, 1) := by decide +kernel
theorem d_X12_sign_28 : decode prog_14_method_18_code 28 = .ok (.getfield 117, 3) := by decide +kernel
theorem d_X12_sign_31 : decode prog_14_method_18_code 31 = .ok (.iload_n 2, 1) := by decide +kernel
theorem d_X12_sign_32 : decode prog_14_method_18_code 32 = .ok (.iadd, 1) := by decide +kernel
theorem d_X12_sign_33 : decode prog_14_method_18_code 33 = .ok (.iload_n 1, 1) := by decide +kernel
theorem d_X12_sign_34 : decode prog_14_method_18_code 34 = .ok (.bipush 24, 2) := by decide +kernel
theorem d_X12_sign_36 : decode prog_14_method_18_code 36 = .ok (.bipush 8, 2) := by decide +kernel
theorem d_X12_sign_38 : decode prog_14_method_18_code 38 = .ok (.iload_n 2, 1) := by decide +kernel
theorem d_X12_sign_39 : decode prog_14_method_18_code 39 = .ok (.imul, 1) := by decide +kernel
theorem d_X12_sign_40 : decode prog_14_method_18_code 40 = .ok (.isub, 1) := by decide +kernel
theorem d_X12_sign_41 : decode prog_14_method_18_code 41 = .ok (.ishr, 1) := by decide +kernel
theorem d_X12_sign_42 : decode prog_14_method_18_code 42 = .ok (.sipush 255, 3) := by decide +kernel
theorem d_X12_sign_45 : decode prog_14_method_18_code 45 = .ok (.iand, 1) := by decide +kernel
theorem d_X12_sign_46 : decode prog_14_method_18_code 46 = .ok (.iastore, 1) := by decide +kernel
theorem d_X12_sign_47 : decode prog_14_method_18_code 47 = .ok (.iinc 2 1, 3) := by decide +kernel
theorem d_X12_sign_50 : decode prog_14_method_18_code 50 = .ok (.goto (-32), 3) := by decide +kernel
theorem d_X12_sign_53 : decode prog_14_method_18_code 53 = .ok (.aload_n 0, 1) := by decide +kernel
theorem d_X12_sign_54 : decode prog_14_method_18_code 54 = .ok (.dup, 1) := by decide +kernel
theorem d_X12_sign_55 : decode prog_14_method_18_code 55 = .ok (.getfield 117, 3) := by decide +kernel
theorem d_X12_sign_58 : decode prog_14_method_18_code 58 = .ok (.iconst 4, 1) := by decide +kernel
theorem d_X12_sign_59 : decode prog_14_method_18_code 59 = .ok (.iadd, 1) := by decide +kernel
theorem d_X12_sign_60 : decode prog_14_method_18_code 60 = .ok (.putfield 117, 3) := by decide +kernel
theorem d_X12_sign_63 : decode prog_14_method_18_code 63 = .ok (.aload_n 0, 1) := by decide +kernel
theorem d_X12_sign_64 : decode prog_14_method_18_code 64 = .ok (.getfield 117, 3) := by decide +kernel
theorem d_X12_sign_67 : decode prog_14_method_18_code 67 = .ok (.ireturn, 1) := by decide +kernel
def f_X12_sign_s18 (τ : St) (y1 : Int32) (x2 : Int32) : Option ((Int32 × St) ⊕ (St)) := (if (4 : Int32) ≤ x2 then some (.inr τ) else gd (inb ((cF τ 300 9) + x2) 80) (some (.inl ((x2 + (1 : Int32)), (sA τ 308 ((cF τ 300 9) + x2).toNatClampNeg ((y1 >>> (((24 : Int32) - ((8 : Int32) * x2)) &&& 31)) &&& (255 : Int32)))))))
def f_X12_sign (σ : St) (a1 : Int32) : Option (Int32 × St) := (if (cF (sF σ 300 0 (0 : Int32)) 300 9) ≤ (76 : Int32) then (iter (fun z => f_X12_sign_s18 z.2 a1 z.1) FU ((0 : Int32), (sF σ 300 0 (0 : Int32)))).bind (fun z2 => some ((cF (sF z2 300 9 ((cF z2 300 9) + (4 : Int32))) 300 9), (sF z2 300 9 ((cF z2 300 9) + (4 : Int32))))) else some ((-1 : Int32), (sF σ 300 0 (0 : Int32))))
theorem c_X12_sign {l : Launch} {G : gT} {χ σ : St} {a1 : Int32} (hf : FW G) {q : Int32 × St} (h : f_X12_sign σ a1 = some q) : Ct l G yX12_sign prog_14_method_18_code 3 (some .int) 0 0 [.ref (ga G 300), .int a1] χ σ (some (.int q.1)) χ q.2 := by
  refine Ct.of (by decide) (Nat.le_of_ble_eq_true rfl) ?_
  intro p e s m args below meth c Q X hr hlk hQ
  have hx := X.1
  have hb := X.2.1
  have b18 : ∀ (τ : St) (y1 : Int32) (x2 : Int32) (o : (Int32 × St) ⊕ (St)), f_X12_sign_s18 τ y1 x2 = some o → Sum.elim (fun z : Int32 × St => Wat p l e (rmk 0 0) s m args below meth c Q G 3 18 [] [(2, .int z.1), (0, .ref (ga G 300)), (1, .int y1)] χ z.2) (fun z : St => Wat p l e (rmk 0 0) s m args below meth c Q G 3 53 [] [(0, .ref (ga G 300))] χ z) o → Wat p l e (rmk 0 0) s m args below meth c Q G 3 18 [] [(2, .int x2), (0, .ref (ga G 300)), (1, .int y1)] χ τ := by
    intro τ y1 x2 o h hk H locs ls hw hl
    unfold f_X12_sign_s18 at h
    refine lv_iload_n hx hb d_X12_sign_18 rfl (lv_at hl 0 rfl) ?_
    refine lv_iconst (v := (4 : Int32)) hx hb d_X12_sign_19 (by decide) ?_
    refine lv_icmp_ge (tgt := 53) hx hb d_X12_sign_20 (by decide) (fun hc => ?_) (fun hc => ?_)
    · have h := ite_t h hc
      obtain rfl := Option.some.inj h
      dsimp only [Sum.elim_inr] at hk
      exact hk _ _ _ hw (lv_sub hl [1] rfl)
    · have h := ite_f h hc
      refine lv_aload_n hx hb d_X12_sign_23 rfl (lv_at hl 1 rfl) ?_
      refine r_getr (j := 8) X hw ct8 (o_300 hf) rfl (Nat.le_of_ble_eq_true rfl) (q := 308) rfl wd_964 d_X12_sign_24 ?_
      refine lv_aload_n hx hb d_X12_sign_27 rfl (lv_at hl 1 rfl) ?_
      refine m_geti (j := 9) X hw ct8 (o_300 hf) (Nat.le_of_ble_eq_true rfl) rfl (Nat.le_of_ble_eq_true rfl) wd_965 d_X12_sign_28 ?_
      refine lv_iload_n hx hb d_X12_sign_31 rfl (lv_at hl 0 rfl) ?_
      refine lv_iadd hx hb d_X12_sign_32 ?_
      refine lv_iload_n hx hb d_X12_sign_33 rfl (lv_at hl 2 rfl) ?_
      refine lv_bipush (v := (24 : Int32)) hx hb d_X12_sign_34 (by decide) ?_
      refine lv_bipush (v := (8 : Int32)) hx hb d_X12_sign_36 (by decide) ?_
      refine lv_iload_n hx hb d_X12_sign_38 rfl (lv_at hl 0 rfl) ?_
      refine lv_imul hx hb d_X12_sign_39 ?_
      refine lv_isub hx hb d_X12_sign_40 ?_
      refine lv_ishr hx hb d_X12_sign_41 ?_
      refine lv_sipush (v := (255 : Int32)) hx hb d_X12_sign_42 (by decide) ?_
      refine lv_iand hx hb d_X12_sign_45 ?_
      obtain ⟨hi1, h⟩ := gd_some h
      refine m_iast X hw (o_308 hf) (Nat.le_of_ble_eq_true rfl) hi1 d_X12_sign_46 (fun H locs hw => ?_)
      refine lv_iinc (v := (x2 + (1 : Int32))) (k := 0) (lv' := [(2, .int (x2 + (1 : Int32))), (0, .ref (ga G 300)), (1, .int y1)]) hx hb d_X12_sign_47 hl rfl (by rfl) (Nat.le_of_ble_eq_true rfl) rfl (fun ls hl => ?_)
      refine lv_goto (tgt := 18) hx hb d_X12_sign_50 (by decide) ?_
      obtain rfl := Option.some.inj h
      dsimp only [Sum.elim_inl] at hk
      exact hk _ _ _ hw (lv_sub hl [0, 1, 2] rfl)
  intro H locs ls hw hl
  have hl : lv_has ls 3 [(0, .ref (ga G 300)), (1, .int a1)] := hl
  unfold f_X12_sign at h
  refine lv_aload_n hx hb d_X12_sign_0 rfl (lv_at hl 0 rfl) ?_
  refine lv_iconst (v := (0 : Int32)) hx hb d_X12_sign_1 (by decide) ?_
  refine m_puti (j := 0) X hw ct8 (o_300 hf) (Nat.le_of_ble_eq_true rfl) rfl (Nat.le_of_ble_eq_true rfl) rfl rfl rfl wd_956 d_X12_sign_2 (fun H locs hw => ?_)
  refine lv_aload_n hx hb d_X12_sign_5 rfl (lv_at hl 0 rfl) ?_
  refine m_geti (j := 9) X hw ct8 (o_300 hf) (Nat.le_of_ble_eq_true rfl) rfl (Nat.le_of_ble_eq_true rfl) wd_965 d_X12_sign_6 ?_
  refine lv_bipush (v := (76 : Int32)) hx hb d_X12_sign_9 (by decide) ?_
  refine lv_icmp_le (tgt := 16) hx hb d_X12_sign_11 (by decide) (fun hc => ?_) (fun hc => ?_)
  · have h := ite_t h hc
    refine lv_iconst (v := (0 : Int32)) hx hb d_X12_sign_16 (by decide) ?_
    refine lv_istore_n (lv' := [(2, .int (0 : Int32)), (0, .ref (ga G 300)), (1, .int a1)]) hx hb d_X12_sign_17 rfl hl (Nat.le_of_ble_eq_true rfl) rfl (fun ls hl => ?_)
    obtain ⟨z2, e3, h⟩ := bd_some h
    refine iter_w (Wh := fun z : Int32 × St => Wat p l e (rmk 0 0) s m args below meth c Q G 3 18 [] [(2, .int z.1), (0, .ref (ga G 300)), (1, .int a1)] χ z.2) (K := fun z : St => Wat p l e (rmk 0 0) s m args below meth c Q G 3 53 [] [(0, .ref (ga G 300))] χ z) (fun z o h1 h2 => b18 z.2 a1 z.1 o h1 h2) FU _ _ e3 ?_ _ _ _ hw (lv_sub hl [0, 1, 2] rfl)
    intro H locs ls hw hl
    refine lv_aload_n hx hb d_X12_sign_53 rfl (lv_at hl 0 rfl) ?_
    refine lv_dup hx hb d_X12_sign_54 rfl ?_
    refine m_geti (j := 9) X hw ct8 (o_300 hf) (Nat.le_of_ble_eq_true rfl) rfl (Nat.le_of_ble_eq_true rfl) wd_965 d_X12_sign_55 ?_
    refine lv_iconst (v := (4 : Int32)) hx hb d_X12_sign_58 (by decide) ?_
    refine lv_iadd hx hb d_X12_sign_59 ?_
    refine m_puti (j := 9) X hw ct8 (o_300 hf) (Nat.le_of_ble_eq_true rfl) rfl (Nat.le_of_ble_eq_true rfl) rfl rfl rfl wd_965 d_X12_sign_60 (fun H locs hw => ?_)
    refine lv_aload_n hx hb d_X12_sign_63 rfl (lv_at hl 0 rfl) ?_
    refine m_geti (j := 9) X hw ct8 (o_300 hf) (Nat.le_of_ble_eq_true rfl) rfl (Nat.le_of_ble_eq_true rfl) wd_965 d_X12_sign_64 ?_
    obtain rfl := Option.some.inj h
    subst hQ
    exact r_iret X hr hlk hw d_X12_sign_67
  · have h := ite_f h hc
    refine lv_iconst (v := (-1 : Int32)) hx hb d_X12_sign_14 (by decide) ?_
    obtain rfl := Option.some.inj h
    subst hQ
    exact r_iret X hr hlk hw d_X12_sign_15
abbrev yX12_end : MethodName := ⟨"OysterBedsModel", "end", "(I)Z"⟩
theorem mwX12_end : MW yX12_end prog_14_method_19_code 2 (some .boolean) 1 := ⟨wd_1091, wd_10, by decide +kernel⟩
theorem d_X12_end_0 : decode prog_14_method_19_code 0 = .ok (.aload_n 0, 1) := by decide +kernel
theorem d_X12_end_1 : decode prog_14_method_19_code 1 = .ok (.iconst 0, 1) := by decide +kernel
theorem d_X12_end_2 : decode prog_14_method_19_code 2 = .ok (.putfield 87, 3) := by decide +kernel
theorem d_X12_end_5 : decode prog_14_method_19_code 5 = .ok (.iload_n 1, 1) := by decide +kernel
theorem d_X12_end_6 : decode prog_14_method_19_code 6 = .ok (.i2l, 1) := by decide +kernel
theorem d_X12_end_7 : decode prog_14_method_19_code 7 = .ok (.lconst 0, 1) := by decide +kernel
theorem d_X12_end_8 : decode prog_14_method_19_code 8 = .ok (.aload_n 0, 1) := by decide +kernel
theorem d_X12_end_9 : decode prog_14_method_19_code 9 = .ok (.getfield 117, 3) := by decide +kernel
theorem d_X12_end_12 : decode prog_14_method_19_code 12 = .ok (.i2l, 1) := by decide +kernel
theorem d_X12_end_13 : decode prog_14_method_19_code 13 = .ok (.invokestatic 105, 3) := by decide +kernel
theorem d_X12_end_16 : decode prog_14_method_19_code 16 = .ok (.ifCond .ne 5, 3) := by decide +kernel
theorem d_X12_end_19 : decode prog_14_method_19_code 19 = .ok (.iconst 0, 1) := by decide +kernel
theorem d_X12_end_20 : decode prog_14_method_19_code 20 = .ok (.ireturn, 1) := by decide +kernel
theorem d_X12_end_21 : decode prog_14_method_19_code 21 = .ok (.aload_n 0, 1) := by decide +kernel
theorem d_X12_end_22 : decode prog_14_method_19_code 22 = .ok (.iload_n 1, 1) := by decide +kernel
theorem d_X12_end_23 : decode prog_14_method_19_code 23 = .ok (.putfield 117, 3) := by decide +kernel
theorem d_X12_end_26 : decode prog_14_method_19_code 26 = .ok (.iconst 1, 1) := by decide +kernel
theorem d_X12_end_27 : decode prog_14_method_19_code 27 = .ok (.ireturn, 1) := by decide +kernel
def f_X12_end (σ : St) (a1 : Int32) : Option (Int32 × St) := (f_X12_in a1.toInt64 (0 : Int64) (cF (sF σ 300 0 (0 : Int32)) 300 9).toInt64).bind (fun q1 => (if q1 = 0 then some ((0 : Int32), (sF σ 300 0 (0 : Int32))) else some ((1 : Int32), (sF (sF σ 300 0 (0 : Int32)) 300 9 a1))))
theorem c_X12_end {l : Launch} {G : gT} {χ σ : St} {a1 : Int32} (hf : FW G) {q : Int32 × St} (h : f_X12_end σ a1 = some q) : Ct l G yX12_end prog_14_method_19_code 2 (some .boolean) 1 25 [.ref (ga G 300), .int a1] χ σ (some (.int q.1)) χ q.2 := by
  refine Ct.of (by decide) (Nat.le_of_ble_eq_true rfl) ?_
  intro p e s m args below meth c Q X hr hlk hQ
  have hx := X.1
  have hb := X.2.1
  intro H locs ls hw hl
  have hl : lv_has ls 2 [(0, .ref (ga G 300)), (1, .int a1)] := hl
  unfold f_X12_end at h
  refine lv_aload_n hx hb d_X12_end_0 rfl (lv_at hl 0 rfl) ?_
  refine lv_iconst (v := (0 : Int32)) hx hb d_X12_end_1 (by decide) ?_
  refine m_puti (j := 0) X hw ct8 (o_300 hf) (Nat.le_of_ble_eq_true rfl) rfl (Nat.le_of_ble_eq_true rfl) rfl rfl rfl wd_956 d_X12_end_2 (fun H locs hw => ?_)
  refine lv_iload_n hx hb d_X12_end_5 rfl (lv_at hl 1 rfl) ?_
  refine lv_i2l hx hb d_X12_end_6 rfl ?_
  refine lv_lconst (v := (0 : Int64)) hx hb d_X12_end_7 (by decide) ?_
  refine lv_aload_n hx hb d_X12_end_8 rfl (lv_at hl 0 rfl) ?_
  refine m_geti (j := 9) X hw ct8 (o_300 hf) (Nat.le_of_ble_eq_true rfl) rfl (Nat.le_of_ble_eq_true rfl) wd_965 d_X12_end_9 ?_
  refine lv_i2l hx hb d_X12_end_12 rfl ?_
  obtain ⟨q1, e2, h⟩ := bd_some h
  refine r_callS (As := [.long a1.toInt64, .long (0 : Int64), .long (cF (sF σ 300 0 (0 : Int32)) 300 9).toInt64]) (rest := []) (st' := [.int q1]) X hw hl mwX12_in wd_1093 wd_1092 (c_X12_in hf e2) rfl ⟨Nat.le_of_ble_eq_true rfl, Nat.le_of_ble_eq_true rfl⟩ ⟨Nat.le_refl _, Nat.le_refl _⟩ rfl rfl (Nat.le_of_ble_eq_true rfl) d_X12_end_13 (fun H locs hw => ?_)
  refine lv_if_ne (tgt := 21) hx hb d_X12_end_16 (by decide) (fun hc => ?_) (fun hc => ?_)
  · have h := ite_f h hc
    refine lv_aload_n hx hb d_X12_end_21 rfl (lv_at hl 0 rfl) ?_
    refine lv_iload_n hx hb d_X12_end_22 rfl (lv_at hl 1 rfl) ?_
    refine m_puti (j := 9) X hw ct8 (o_300 hf) (Nat.le_of_ble_eq_true rfl) rfl (Nat.le_of_ble_eq_true rfl) rfl rfl rfl wd_965 d_X12_end_23 (fun H locs hw => ?_)
    refine lv_iconst (v := (1 : Int32)) hx hb d_X12_end_26 (by decide) ?_
    obtain rfl := Option.some.inj h
    subst hQ
    exact r_zret X hr nbz1 hlk hw d_X12_end_27
  · have h := ite_t h hc
    refine lv_iconst (v := (0 : Int32)) hx hb d_X12_end_19 (by decide) ?_
    obtain rfl := Option.some.inj h
    subst hQ
    exact r_zret X hr nbz0 hlk hw d_X12_end_20
abbrev yX12_begins : MethodName := ⟨"OysterBedsModel", "begins", "(I)I"⟩
theorem mwX12_begins : MW yX12_begins prog_14_method_20_code 3 (some .int) 1 := ⟨wd_1102, wd_10, by decide +kernel⟩
theorem d_X12_begins_0 : decode prog_14_method_20_code 0 = .ok (.aload_n 0, 1) := by decide +kernel
theorem d_X12_begins_1 : decode prog_14_method_20_code 1 = .ok (.getfield 117, 3) := by decide +kernel
theorem d_X12_begins_4 : decode prog_14_method_20_code 4 = .ok (.istore_n 2, 1) := by decide +kernel
theorem d_X12_begins_5 : decode prog_14_method_20_code 5 = .ok (.aload_n 0, 1) := by decide +kernel
theorem d_X12_begins_6 : decode prog_14_method_20_code 6 = .ok (.iconst 0, 1) := by decide +kernel
theorem d_X12_begins_7 : decode prog_14_method_20_code 7 = .ok (.putfield 117, 3) := by decide +kernel
theorem d_X12_begins_10 : decode prog_14_method_20_code 10 = .ok (.aload_n 0, 1) := by decide +kernel
theorem d_X12_begins_11 : decode prog_14_method_20_code 11 = .ok (.iconst 0, 1) := by decide +kernel
theorem d_X12_begins_12 : decode prog_14_method_20_code 12 = .ok (.putfield 120, 3) := by decide +kernel
theorem d_X12_begins_15 : decode prog_14_method_20_code 15 = .ok (.aload_n 0, 1) := by decide +kernel
theorem d_X12_begins_16 : decode prog_14_method_20_code 16 = .ok (.iconst 0, 1) := by decide +kernel
theorem d_X12_begins_17 : decode prog_14_method_20_code 17 = .ok (.putfield 123, 3) := by decide +kernel
theorem d_X12_begins_20 : decode prog_14_method_20_code 20 = .ok (.aload_n 0, 1) := by decide +kernel
theorem d_X12_begins_21 : decode prog_14_method_20_code 21 = .ok (.iload_n 2, 1) := by decide +kernel
theorem d_X12_begins_22 : decode prog_14_method_20_code 22 = .ok (.iload_n 1, 1) := by decide +kernel
theorem d_X12_begins_23 : decode prog_14_method_20_code 23 = .ok (.invokestatic 126, 3) := by decide +kernel
theorem d_X12_begins_26 : decode prog_14_method_20_code 26 = .ok (.putfield 132, 3) := by decide +kernel
theorem d_X12_begins_29 : decode prog_14_method_20_code 29 = .ok (.iload_n 2, 1) := by decide +kernel
theorem d_X12_begins_30 : decode prog_14_method_20_code 30 = .ok (.ireturn, 1) := by decide +kernel
def f_X12_begins (σ : St) (a1 : Int32) : Option (Int32 × St) := some ((cF σ 300 9), (sF (sF (sF (sF σ 300 9 (0 : Int32)) 300 10 (0 : Int32)) 300 12 (0 : Int32)) 300 11 (if a1 < (cF σ 300 9) then a1 else (cF σ 300 9))))
theorem c_X12_begins {l : Launch} {G : gT} {χ σ : St} {a1 : Int32} (hf : FW G) {q : Int32 × St} (h : f_X12_begins σ a1 = some q) : Ct l G yX12_begins prog_14_method_20_code 3 (some .int) 1 21 [.ref (ga G 300), .int a1] χ σ (some (.int q.1)) χ q.2 := by
  refine Ct.of (by decide) (Nat.le_of_ble_eq_true rfl) ?_
  intro p e s m args below meth c Q X hr hlk hQ
  have hx := X.1
  have hb := X.2.1
  intro H locs ls hw hl
  have hl : lv_has ls 3 [(0, .ref (ga G 300)), (1, .int a1)] := hl
  unfold f_X12_begins at h
  refine lv_aload_n hx hb d_X12_begins_0 rfl (lv_at hl 0 rfl) ?_
  refine m_geti (j := 9) X hw ct8 (o_300 hf) (Nat.le_of_ble_eq_true rfl) rfl (Nat.le_of_ble_eq_true rfl) wd_965 d_X12_begins_1 ?_
  refine lv_istore_n (lv' := [(2, .int (cF σ 300 9)), (0, .ref (ga G 300)), (1, .int a1)]) hx hb d_X12_begins_4 rfl hl (Nat.le_of_ble_eq_true rfl) rfl (fun ls hl => ?_)
  refine lv_aload_n hx hb d_X12_begins_5 rfl (lv_at hl 1 rfl) ?_
  refine lv_iconst (v := (0 : Int32)) hx hb d_X12_begins_6 (by decide) ?_
  refine m_puti (j := 9) X hw ct8 (o_300 hf) (Nat.le_of_ble_eq_true rfl) rfl (Nat.le_of_ble_eq_true rfl) rfl rfl rfl wd_965 d_X12_begins_7 (fun H locs hw => ?_)
  refine lv_aload_n hx hb d_X12_begins_10 rfl (lv_at hl 1 rfl) ?_
  refine lv_iconst (v := (0 : Int32)) hx hb d_X12_begins_11 (by decide) ?_
  refine m_puti (j := 10) X hw ct8 (o_300 hf) (Nat.le_of_ble_eq_true rfl) rfl (Nat.le_of_ble_eq_true rfl) rfl rfl rfl wd_966 d_X12_begins_12 (fun H locs hw => ?_)
  refine lv_aload_n hx hb d_X12_begins_15 rfl (lv_at hl 1 rfl) ?_
  refine lv_iconst (v := (0 : Int32)) hx hb d_X12_begins_16 (by decide) ?_
  refine m_puti (j := 12) X hw ct8 (o_300 hf) (Nat.le_of_ble_eq_true rfl) rfl (Nat.le_of_ble_eq_true rfl) rfl rfl rfl wd_968 d_X12_begins_17 (fun H locs hw => ?_)
  refine lv_aload_n hx hb d_X12_begins_20 rfl (lv_at hl 1 rfl) ?_
  refine lv_iload_n hx hb d_X12_begins_21 rfl (lv_at hl 0 rfl) ?_
  refine lv_iload_n hx hb d_X12_begins_22 rfl (lv_at hl 2 rfl) ?_
  refine r_min X hl wd_1103 ⟨Nat.le_of_ble_eq_true rfl, Nat.le_of_ble_eq_true rfl⟩ ⟨Nat.le_refl _, Nat.le_refl _⟩ d_X12_begins_23 ?_
  refine m_puti (j := 11) X hw ct8 (o_300 hf) (Nat.le_of_ble_eq_true rfl) rfl (Nat.le_of_ble_eq_true rfl) rfl rfl rfl wd_967 d_X12_begins_26 (fun H locs hw => ?_)
  refine lv_iload_n hx hb d_X12_begins_29 rfl (lv_at hl 0 rfl) ?_
  obtain rfl := Option.some.inj h
  subst hQ
  exact r_iret X hr hlk hw d_X12_begins_30
abbrev yX12_takes : MethodName := ⟨"OysterBedsModel", "takes", "(I)Z"⟩
theorem mwX12_takes : MW yX12_takes prog_14_method_21_code 3 (some .boolean) 1 := ⟨wd_1178, wd_10, by decide +kernel⟩
theorem d_X12_takes_0 : decode prog_14_method_21_code 0 = .ok (.aload_n 0, 1) := by decide +kernel
theorem d_X12_takes_1 : decode prog_14_method_21_code 1 = .ok (.getfield 120, 3) := by decide +kernel
theorem d_X12_takes_4 : decode prog_14_method_21_code 4 = .ok (.aload_n 0, 1) := by decide +kernel
theorem d_X12_takes_5 : decode prog_14_method_21_code 5 = .ok (.getfield 132, 3) := by decide +kernel
theorem d_X12_takes_8 : decode prog_14_method_21_code 8 = .ok (.if_icmp .ge 20, 3) := by decide +kernel
theorem d_X12_takes_11 : decode prog_14_method_21_code 11 = .ok (.aload_n 0, 1) := by decide +kernel
theorem d_X12_takes_12 : decode prog_14_method_21_code 12 = .ok (.getfield 23, 3) := by decide +kernel
theorem d_X12_takes_15 : decode prog_14_method_21_code 15 = .ok (.aload_n 0, 1) := by decide +kernel
theorem d_X12_takes_16 : decode prog_14_method_21_code 16 = .ok (.getfield 120, 3) := by decide +kernel
theorem d_X12_takes_19 : decode prog_14_method_21_code 19 = .ok (.iaload, 1) := by decide +kernel
theorem d_X12_takes_20 : decode prog_14_method_21_code 20 = .ok (.iload_n 1, 1) := by decide +kernel
theorem d_X12_takes_21 : decode prog_14_method_21_code 21 = .ok (.if_icmp .ne 7, 3) := by decide +kernel
theorem d_X12_takes_24 : decode prog_14_method_21_code 24 = .ok (.iconst 1, 1) := by decide +kernel
theorem d_X12_takes_25 : decode prog_14_method_21_code 25 = .ok (.goto 4, 3) := by decide +kernel
theorem d_X12_takes_28 : decode prog_14_method_21_code 28 = .ok (.iconst 0, 1) := by decide +kernel
theorem d_X12_takes_29 : decode prog_14_method_21_code 29 = .ok (.istore_n 2, 1) := by decide +kernel
theorem d_X12_takes_30 : decode prog_14_method_21_code 30 = .ok (.aload_n 0, 1) := by decide +kernel
theorem d_X12_takes_31 : decode prog_14_method_21_code 31 = .ok (.dup, 1) := by decide +kernel
theorem d_X12_takes_32 : decode prog_14_method_21_code 32 = .ok (.getfield 120, 3) := by decide +kernel
theorem d_X12_takes_35 : decode prog_14_method_21_code 35 = .ok (.iload_n 2, 1) := by decide +kernel
theorem d_X12_takes_36 : decode prog_14_method_21_code 36 = .ok (.invokestatic 135, 3) := by decide +kernel
theorem d_X12_takes_39 : decode prog_14_method_21_code 39 = .ok (.iadd, 1) := by decide +kernel
theorem d_X12_takes_40 : decode prog_14_method_21_code 40 = .ok (.putfield 120, 3) := by decide +kernel
theorem d_X12_takes_43 : decode prog_14_method_21_code 43 = .ok (.iload_n 2, 1) := by decide +kernel
theorem d_X12_takes_44 : decode prog_14_method_21_code 44 = .ok (.ireturn, 1) := by decide +kernel
def f_X12_takes_j29 (τ : St) (s0 : Int32) : Option (Int32 × St) := (f_X12_flag s0).bind (fun q1 => gd (nb s0) (some (s0, (sF τ 300 10 ((cF τ 300 10) + q1)))))
def f_X12_takes (σ : St) (a1 : Int32) : Option (Int32 × St) := (if (cF σ 300 11) ≤ (cF σ 300 10) then f_X12_takes_j29 σ (0 : Int32) else gd (inb (cF σ 300 10) 80) (f_X12_takes_j29 σ (if (cA σ 308 (cF σ 300 10).toNatClampNeg) = a1 then (1 : Int32) else (0 : Int32))))
theorem c_X12_takes {l : Launch} {G : gT} {χ σ : St} {a1 : Int32} (hf : FW G) {q : Int32 × St} (h : f_X12_takes σ a1 = some q) : Ct l G yX12_takes prog_14_method_21_code 3 (some .boolean) 1 20 [.ref (ga G 300), .int a1] χ σ (some (.int q.1)) χ q.2 := by
  refine Ct.of (by decide) (Nat.le_of_ble_eq_true rfl) ?_
  intro p e s m args below meth c Q X hr hlk hQ
  have hx := X.1
  have hb := X.2.1
  have j29 : ∀ (τ : St) (s0 : Int32), f_X12_takes_j29 τ s0 = some q → Wat p l e (rmk 1 20) s m args below meth c Q G 3 29 [.int s0] [(0, .ref (ga G 300))] χ τ := by
    intro τ s0 h H locs ls hw hl
    unfold f_X12_takes_j29 at h
    refine lv_istore_n (lv' := [(2, .int s0), (0, .ref (ga G 300))]) hx hb d_X12_takes_29 rfl hl (Nat.le_of_ble_eq_true rfl) rfl (fun ls hl => ?_)
    refine lv_aload_n hx hb d_X12_takes_30 rfl (lv_at hl 1 rfl) ?_
    refine lv_dup hx hb d_X12_takes_31 rfl ?_
    refine m_geti (j := 10) X hw ct8 (o_300 hf) (Nat.le_of_ble_eq_true rfl) rfl (Nat.le_of_ble_eq_true rfl) wd_966 d_X12_takes_32 ?_
    refine lv_iload_n hx hb d_X12_takes_35 rfl (lv_at hl 0 rfl) ?_
    obtain ⟨q1, e2, h⟩ := bd_some h
    refine r_callS (As := [.int s0]) (rest := [.int (cF τ 300 10), .ref (ga G 300)]) (st' := [.int q1, .int (cF τ 300 10), .ref (ga G 300)]) X hw hl mwX12_flag wd_1180 wd_1179 (c_X12_flag hf e2) rfl ⟨Nat.le_of_ble_eq_true rfl, Nat.le_of_ble_eq_true rfl⟩ ⟨Nat.le_refl _, Nat.le_refl _⟩ rfl rfl (Nat.le_of_ble_eq_true rfl) d_X12_takes_36 (fun H locs hw => ?_)
    refine lv_iadd hx hb d_X12_takes_39 ?_
    refine m_puti (j := 10) X hw ct8 (o_300 hf) (Nat.le_of_ble_eq_true rfl) rfl (Nat.le_of_ble_eq_true rfl) rfl rfl rfl wd_966 d_X12_takes_40 (fun H locs hw => ?_)
    refine lv_iload_n hx hb d_X12_takes_43 rfl (lv_at hl 0 rfl) ?_
    obtain ⟨hv3, h⟩ := gd_some h
    obtain rfl := Option.some.inj h
    subst hQ
    exact r_zret X hr (nb_of hv3) hlk hw d_X12_takes_44
  intro H locs ls hw hl
  have hl : lv_has ls 3 [(0, .ref (ga G 300)), (1, .int a1)] := hl
  unfold f_X12_takes at h
  refine lv_aload_n hx hb d_X12_takes_0 rfl (lv_at hl 0 rfl) ?_
  refine m_geti (j := 10) X hw ct8 (o_300 hf) (Nat.le_of_ble_eq_true rfl) rfl (Nat.le_of_ble_eq_true rfl) wd_966 d_X12_takes_1 ?_
  refine lv_aload_n hx hb d_X12_takes_4 rfl (lv_at hl 0 rfl) ?_
  refine m_geti (j := 11) X hw ct8 (o_300 hf) (Nat.le_of_ble_eq_true rfl) rfl (Nat.le_of_ble_eq_true rfl) wd_967 d_X12_takes_5 ?_
  refine lv_icmp_ge (tgt := 28) hx hb d_X12_takes_8 (by decide) (fun hc => ?_) (fun hc => ?_)
  · have h := ite_t h hc
    refine lv_iconst (v := (0 : Int32)) hx hb d_X12_takes_28 (by decide) ?_
    exact j29 σ (0 : Int32) h _ _ _ hw (lv_sub hl [0] rfl)
  · have h := ite_f h hc
    refine lv_aload_n hx hb d_X12_takes_11 rfl (lv_at hl 0 rfl) ?_
    refine r_getr (j := 8) X hw ct8 (o_300 hf) rfl (Nat.le_of_ble_eq_true rfl) (q := 308) rfl wd_964 d_X12_takes_12 ?_
    refine lv_aload_n hx hb d_X12_takes_15 rfl (lv_at hl 0 rfl) ?_
    refine m_geti (j := 10) X hw ct8 (o_300 hf) (Nat.le_of_ble_eq_true rfl) rfl (Nat.le_of_ble_eq_true rfl) wd_966 d_X12_takes_16 ?_
    obtain ⟨hi4, h⟩ := gd_some h
    refine m_iald X hw (o_308 hf) (Nat.le_of_ble_eq_true rfl) hi4 d_X12_takes_19 ?_
    refine lv_iload_n hx hb d_X12_takes_20 rfl (lv_at hl 1 rfl) ?_
    refine lv_icmp_ne (tgt := 28) hx hb d_X12_takes_21 (by decide) (fun hc => ?_) (fun hc => ?_)
    · simp only [if_neg hc] at h
      refine lv_iconst (v := (0 : Int32)) hx hb d_X12_takes_28 (by decide) ?_
      exact j29 σ (0 : Int32) h _ _ _ hw (lv_sub hl [0] rfl)
    · simp only [if_pos hc] at h
      refine lv_iconst (v := (1 : Int32)) hx hb d_X12_takes_24 (by decide) ?_
      refine lv_goto (tgt := 29) hx hb d_X12_takes_25 (by decide) ?_
      exact j29 σ (1 : Int32) h _ _ _ hw (lv_sub hl [0] rfl)
abbrev yX12_isDigit : MethodName := ⟨"OysterBedsModel", "isDigit", "()Z"⟩
theorem mwX12_isDigit : MW yX12_isDigit prog_14_method_22_code 1 (some .boolean) 0 := ⟨wd_1168, wd_10, by decide +kernel⟩
theorem d_X12_isDigit_0 : decode prog_14_method_22_code 0 = .ok (.aload_n 0, 1) := by decide +kernel
theorem d_X12_isDigit_1 : decode prog_14_method_22_code 1 = .ok (.getfield 120, 3) := by decide +kernel
theorem d_X12_isDigit_4 : decode prog_14_method_22_code 4 = .ok (.aload_n 0, 1) := by decide +kernel
theorem d_X12_isDigit_5 : decode prog_14_method_22_code 5 = .ok (.getfield 132, 3) := by decide +kernel
theorem d_X12_isDigit_8 : decode prog_14_method_22_code 8 = .ok (.if_icmp .ge 29, 3) := by decide +kernel
theorem d_X12_isDigit_11 : decode prog_14_method_22_code 11 = .ok (.aload_n 0, 1) := by decide +kernel
theorem d_X12_isDigit_12 : decode prog_14_method_22_code 12 = .ok (.getfield 23, 3) := by decide +kernel
theorem d_X12_isDigit_15 : decode prog_14_method_22_code 15 = .ok (.aload_n 0, 1) := by decide +kernel
theorem d_X12_isDigit_16 : decode prog_14_method_22_code 16 = .ok (.getfield 120, 3) := by decide +kernel
theorem d_X12_isDigit_19 : decode prog_14_method_22_code 19 = .ok (.iaload, 1) := by decide +kernel
theorem d_X12_isDigit_20 : decode prog_14_method_22_code 20 = .ok (.i2l, 1) := by decide +kernel
theorem d_X12_isDigit_21 : decode prog_14_method_22_code 21 = .ok (.ldc2_w 139, 3) := by decide +kernel
theorem d_X12_isDigit_24 : decode prog_14_method_22_code 24 = .ok (.ldc2_w 141, 3) := by decide +kernel
theorem d_X12_isDigit_27 : decode prog_14_method_22_code 27 = .ok (.invokestatic 105, 3) := by decide +kernel
theorem d_X12_isDigit_30 : decode prog_14_method_22_code 30 = .ok (.ifCond .eq 7, 3) := by decide +kernel
theorem d_X12_isDigit_33 : decode prog_14_method_22_code 33 = .ok (.iconst 1, 1) := by decide +kernel
theorem d_X12_isDigit_34 : decode prog_14_method_22_code 34 = .ok (.goto 4, 3) := by decide +kernel
theorem d_X12_isDigit_37 : decode prog_14_method_22_code 37 = .ok (.iconst 0, 1) := by decide +kernel
theorem d_X12_isDigit_38 : decode prog_14_method_22_code 38 = .ok (.ireturn, 1) := by decide +kernel
def f_X12_isDigit (σ : St) : Option (Int32) := (if (cF σ 300 11) ≤ (cF σ 300 10) then some (0 : Int32) else gd (inb (cF σ 300 10) 80) ((f_X12_in (cA σ 308 (cF σ 300 10).toNatClampNeg).toInt64 (48 : Int64) (57 : Int64)).bind (fun q2 => some (if q2 = 0 then (0 : Int32) else (1 : Int32)))))
theorem c_X12_isDigit {l : Launch} {G : gT} {χ σ : St} (hf : FW G) {q : Int32} (h : f_X12_isDigit σ = some q) : Ct l G yX12_isDigit prog_14_method_22_code 1 (some .boolean) 1 25 [.ref (ga G 300)] χ σ (some (.int q)) χ σ := by
  refine Ct.of (by decide) (Nat.le_of_ble_eq_true rfl) ?_
  intro p e s m args below meth c Q X hr hlk hQ
  have hx := X.1
  have hb := X.2.1
  intro H locs ls hw hl
  have hl : lv_has ls 1 [(0, .ref (ga G 300))] := hl
  unfold f_X12_isDigit at h
  refine lv_aload_n hx hb d_X12_isDigit_0 rfl (lv_at hl 0 rfl) ?_
  refine m_geti (j := 10) X hw ct8 (o_300 hf) (Nat.le_of_ble_eq_true rfl) rfl (Nat.le_of_ble_eq_true rfl) wd_966 d_X12_isDigit_1 ?_
  refine lv_aload_n hx hb d_X12_isDigit_4 rfl (lv_at hl 0 rfl) ?_
  refine m_geti (j := 11) X hw ct8 (o_300 hf) (Nat.le_of_ble_eq_true rfl) rfl (Nat.le_of_ble_eq_true rfl) wd_967 d_X12_isDigit_5 ?_
  refine lv_icmp_ge (tgt := 37) hx hb d_X12_isDigit_8 (by decide) (fun hc => ?_) (fun hc => ?_)
  · have h := ite_t h hc
    refine lv_iconst (v := (0 : Int32)) hx hb d_X12_isDigit_37 (by decide) ?_
    obtain rfl := Option.some.inj h
    subst hQ
    exact r_zret X hr nbz0 hlk hw d_X12_isDigit_38
  · have h := ite_f h hc
    refine lv_aload_n hx hb d_X12_isDigit_11 rfl (lv_at hl 0 rfl) ?_
    refine r_getr (j := 8) X hw ct8 (o_300 hf) rfl (Nat.le_of_ble_eq_true rfl) (q := 308) rfl wd_964 d_X12_isDigit_12 ?_
    refine lv_aload_n hx hb d_X12_isDigit_15 rfl (lv_at hl 0 rfl) ?_
    refine m_geti (j := 10) X hw ct8 (o_300 hf) (Nat.le_of_ble_eq_true rfl) rfl (Nat.le_of_ble_eq_true rfl) wd_966 d_X12_isDigit_16 ?_
    obtain ⟨hi1, h⟩ := gd_some h
    refine m_iald X hw (o_308 hf) (Nat.le_of_ble_eq_true rfl) hi1 d_X12_isDigit_19 ?_
    refine lv_i2l hx hb d_X12_isDigit_20 rfl ?_
    refine r_ldc2 X wd_1169 d_X12_isDigit_21 ?_
    refine r_ldc2 X wd_1170 d_X12_isDigit_24 ?_
    obtain ⟨q2, e3, h⟩ := bd_some h
    refine r_callS (As := [.long (cA σ 308 (cF σ 300 10).toNatClampNeg).toInt64, .long (48 : Int64), .long (57 : Int64)]) (rest := []) (st' := [.int q2]) X hw hl mwX12_in wd_1093 wd_1092 (c_X12_in hf e3) rfl ⟨Nat.le_of_ble_eq_true rfl, Nat.le_of_ble_eq_true rfl⟩ ⟨Nat.le_refl _, Nat.le_refl _⟩ rfl rfl (Nat.le_of_ble_eq_true rfl) d_X12_isDigit_27 (fun H locs hw => ?_)
    refine lv_if_eq (tgt := 37) hx hb d_X12_isDigit_30 (by decide) (fun hc => ?_) (fun hc => ?_)
    · simp only [if_pos hc] at h
      refine lv_iconst (v := (0 : Int32)) hx hb d_X12_isDigit_37 (by decide) ?_
      obtain rfl := Option.some.inj h
      subst hQ
      exact r_zret X hr nbz0 hlk hw d_X12_isDigit_38
    · simp only [if_neg hc] at h
      refine lv_iconst (v := (1 : Int32)) hx hb d_X12_isDigit_33 (by decide) ?_
      refine lv_goto (tgt := 38) hx hb d_X12_isDigit_34 (by decide) ?_
      obtain rfl := Option.some.inj h
      subst hQ
      exact r_zret X hr nbz1 hlk hw d_X12_isDigit_38
abbrev yX12_number : MethodName := ⟨"OysterBedsModel", "number", "(I)I"⟩
theorem mwX12_number : MW yX12_number prog_14_method_24_code 4 (some .int) 1 := ⟨wd_1164, wd_10, by decide +kernel⟩
theorem d_X12_number_0 : decode prog_14_method_24_code 0 = .ok (.aload_n 0, 1) := by decide +kernel
theorem d_X12_number_1 : decode prog_14_method_24_code 1 = .ok (.invokevirtual 153, 3) := by decide +kernel
theorem d_X12_number_4 : decode prog_14_method_24_code 4 = .ok (.ifCond .ne 5, 3) := by decide +kernel
theorem d_X12_number_7 : decode prog_14_method_24_code 7 = .ok (.iconst (-1), 1) := by decide +kernel
theorem d_X12_number_8 : decode prog_14_method_24_code 8 = .ok (.ireturn, 1) := by decide +kernel
theorem d_X12_number_9 : decode prog_14_method_24_code 9 = .ok (.iconst 0, 1) := by decide +kernel
theorem d_X12_number_10 : decode prog_14_method_24_code 10 = .ok (.istore_n 2, 1) := by decide +kernel
theorem d_X12_number_11 : decode prog_14_method_24_code 11 = .ok (.iconst 0, 1) := by decide +kernel
theorem d_X12_number_12 : decode prog_14_method_24_code 12 = .ok (.istore_n 3, 1) := by decide +kernel
theorem d_X12_number_13 : decode prog_14_method_24_code 13 = .ok (.iload_n 3, 1) := by decide +kernel
theorem d_X12_number_14 : decode prog_14_method_24_code 14 = .ok (.iload_n 1, 1) := by decide +kernel
theorem d_X12_number_15 : decode prog_14_method_24_code 15 = .ok (.if_icmp .ge 44, 3) := by decide +kernel
theorem d_X12_number_18 : decode prog_14_method_24_code 18 = .ok (.aload_n 0, 1) := by decide +kernel
theorem d_X12_number_19 : decode prog_14_method_24_code 19 = .ok (.invokevirtual 153, 3) := by decide +kernel
theorem d_X12_number_22 : decode prog_14_method_24_code 22 = .ok (.ifCond .eq 37, 3) := by decide +kernel
theorem d_X12_number_25 : decode prog_14_method_24_code 25 = .ok (.bipush 10, 2) := by decide +kernel
theorem d_X12_number_27 : decode prog_14_method_24_code 27 = .ok (.iload_n 2, 1) := by decide +kernel
theorem d_X12_number_28 : decode prog_14_method_24_code 28 = .ok (.imul, 1) := by decide +kernel
theorem d_X12_number_29 : decode prog_14_method_24_code 29 = .ok (.aload_n 0, 1) := by decide +kernel
theorem d_X12_number_30 : decode prog_14_method_24_code 30 = .ok (.getfield 23, 3) := by decide +kernel
theorem d_X12_number_33 : decode prog_14_method_24_code 33 = .ok (.aload_n 0, 1) := by decide +kernel
theorem d_X12_number_34 : decode prog_14_method_24_code 34 = .ok (.getfield 120, 3) := by decide +kernel
theorem d_X12_number_37 : decode prog_14_method_24_code 37 = .ok (.iaload, 1) := by decide +kernel
theorem d_X12_number_38 : decode prog_14_method_24_code 38 = .ok (.iadd, 1) := by decide +kernel
theorem d_X12_number_39 : decode prog_14_method_24_code 39 = .ok (.bipush 48, 2) := by decide +kernel
theorem d_X12_number_41 : decode prog_14_method_24_code 41 = .ok (.isub, 1) := by decide +kernel
theorem d_X12_number_42 : decode prog_14_method_24_code 42 = .ok (.istore_n 2, 1) := by decide +kernel
theorem d_X12_number_43 : decode prog_14_method_24_code 43 = .ok (.aload_n 0, 1) := by decide +kernel
theorem d_X12_number_44 : decode prog_14_method_24_code 44 = .ok (.dup, 1) := by decide +kernel
theorem d_X12_number_45 : decode prog_14_method_24_code 45 = .ok (.getfield 120, 3) := by decide +kernel
theorem d_X12_number_48 : decode prog_14_method_24_code 48 = .ok (.iconst 1, 1) := by decide +kernel
theorem d_X12_number_49 : decode prog_14_method_24_code 49 = .ok (.iadd, 1) := by decide +kernel
theorem d_X12_number_50 : decode prog_14_method_24_code 50 = .ok (.putfield 120, 3) := by decide +kernel
theorem d_X12_number_53 : decode prog_14_method_24_code 53 = .ok (.iinc 3 1, 3) := by decide +kernel
theorem d_X12_number_56 : decode prog_14_method_24_code 56 = .ok (.goto (-43), 3) := by decide +kernel
theorem d_X12_number_59 : decode prog_14_method_24_code 59 = .ok (.iload_n 2, 1) := by decide +kernel
theorem d_X12_number_60 : decode prog_14_method_24_code 60 = .ok (.ireturn, 1) := by decide +kernel
def f_X12_number_s13 (τ : St) (y1 : Int32) (x2 : Int32) (x3 : Int32) : Option ((Int32 × Int32 × St) ⊕ (Int32 × St)) := (if y1 ≤ x3 then some (.inr (x2, τ)) else (f_X12_isDigit τ).bind (fun q3 => (if q3 = 0 then some (.inr (x2, τ)) else gd (inb (cF τ 300 10) 80) (some (.inl (((((10 : Int32) * x2) + (cA τ 308 (cF τ 300 10).toNatClampNeg)) - (48 : Int32)), (x3 + (1 : Int32)), (sF τ 300 10 ((cF τ 300 10) + (1 : Int32)))))))))
def f_X12_number (σ : St) (a1 : Int32) : Option (Int32 × St) := (f_X12_isDigit σ).bind (fun q1 => (if q1 = 0 then some ((-1 : Int32), σ) else (iter (fun z => f_X12_number_s13 z.2.2 a1 z.1 z.2.1) FU ((0 : Int32), (0 : Int32), σ)).bind (fun z6 => some (z6.1, z6.2))))
theorem c_X12_number {l : Launch} {G : gT} {χ σ : St} {a1 : Int32} (hf : FW G) {q : Int32 × St} (h : f_X12_number σ a1 = some q) : Ct l G yX12_number prog_14_method_24_code 4 (some .int) 2 45 [.ref (ga G 300), .int a1] χ σ (some (.int q.1)) χ q.2 := by
  refine Ct.of (by decide) (Nat.le_of_ble_eq_true rfl) ?_
  intro p e s m args below meth c Q X hr hlk hQ
  have hx := X.1
  have hb := X.2.1
  have b13 : ∀ (τ : St) (y1 : Int32) (x2 : Int32) (x3 : Int32) (o : (Int32 × Int32 × St) ⊕ (Int32 × St)), f_X12_number_s13 τ y1 x2 x3 = some o → Sum.elim (fun z : Int32 × Int32 × St => Wat p l e (rmk 2 45) s m args below meth c Q G 4 13 [] [(2, .int z.1), (3, .int z.2.1), (0, .ref (ga G 300)), (1, .int y1)] χ z.2.2) (fun z : Int32 × St => Wat p l e (rmk 2 45) s m args below meth c Q G 4 59 [] [(2, .int z.1)] χ z.2) o → Wat p l e (rmk 2 45) s m args below meth c Q G 4 13 [] [(2, .int x2), (3, .int x3), (0, .ref (ga G 300)), (1, .int y1)] χ τ := by
    intro τ y1 x2 x3 o h hk H locs ls hw hl
    unfold f_X12_number_s13 at h
    refine lv_iload_n hx hb d_X12_number_13 rfl (lv_at hl 1 rfl) ?_
    refine lv_iload_n hx hb d_X12_number_14 rfl (lv_at hl 3 rfl) ?_
    refine lv_icmp_ge (tgt := 59) hx hb d_X12_number_15 (by decide) (fun hc => ?_) (fun hc => ?_)
    · have h := ite_t h hc
      obtain rfl := Option.some.inj h
      dsimp only [Sum.elim_inr] at hk
      exact hk _ _ _ hw (lv_sub hl [0] rfl)
    · have h := ite_f h hc
      refine lv_aload_n hx hb d_X12_number_18 rfl (lv_at hl 2 rfl) ?_
      obtain ⟨q3, e4, h⟩ := bd_some h
      refine r_callV (As := []) (rest := []) (st' := [.int q3]) X hw hl mwX12_isDigit wd_1167 wp_20 wd_1165 (c_X12_isDigit hf e4) (r_recv X hw ct8 (o_300 hf)) rfl ⟨Nat.le_of_ble_eq_true rfl, Nat.le_of_ble_eq_true rfl⟩ ⟨Nat.le_refl _, Nat.le_refl _⟩ rfl rfl (Nat.le_of_ble_eq_true rfl) d_X12_number_19 (fun H locs hw => ?_)
      refine lv_if_eq (tgt := 59) hx hb d_X12_number_22 (by decide) (fun hc => ?_) (fun hc => ?_)
      · have h := ite_t h hc
        obtain rfl := Option.some.inj h
        dsimp only [Sum.elim_inr] at hk
        exact hk _ _ _ hw (lv_sub hl [0] rfl)
      · have h := ite_f h hc
        refine lv_bipush (v := (10 : Int32)) hx hb d_X12_number_25 (by decide) ?_
        refine lv_iload_n hx hb d_X12_number_27 rfl (lv_at hl 0 rfl) ?_
        refine lv_imul hx hb d_X12_number_28 ?_
        refine lv_aload_n hx hb d_X12_number_29 rfl (lv_at hl 2 rfl) ?_
        refine r_getr (j := 8) X hw ct8 (o_300 hf) rfl (Nat.le_of_ble_eq_true rfl) (q := 308) rfl wd_964 d_X12_number_30 ?_
        refine lv_aload_n hx hb d_X12_number_33 rfl (lv_at hl 2 rfl) ?_
        refine m_geti (j := 10) X hw ct8 (o_300 hf) (Nat.le_of_ble_eq_true rfl) rfl (Nat.le_of_ble_eq_true rfl) wd_966 d_X12_number_34 ?_
        obtain ⟨hi5, h⟩ := gd_some h
        refine m_iald X hw (o_308 hf) (Nat.le_of_ble_eq_true rfl) hi5 d_X12_number_37 ?_
        refine lv_iadd hx hb d_X12_number_38 ?_
        refine lv_bipush (v := (48 : Int32)) hx hb d_X12_number_39 (by decide) ?_
        refine lv_isub hx hb d_X12_number_41 ?_
        refine lv_istore_n (lv' := [(2, .int ((((10 : Int32) * x2) + (cA τ 308 (cF τ 300 10).toNatClampNeg)) - (48 : Int32))), (3, .int x3), (0, .ref (ga G 300)), (1, .int y1)]) hx hb d_X12_number_42 rfl hl (Nat.le_of_ble_eq_true rfl) rfl (fun ls hl => ?_)
        refine lv_aload_n hx hb d_X12_number_43 rfl (lv_at hl 2 rfl) ?_
        refine lv_dup hx hb d_X12_number_44 rfl ?_
        refine m_geti (j := 10) X hw ct8 (o_300 hf) (Nat.le_of_ble_eq_true rfl) rfl (Nat.le_of_ble_eq_true rfl) wd_966 d_X12_number_45 ?_
        refine lv_iconst (v := (1 : Int32)) hx hb d_X12_number_48 (by decide) ?_
        refine lv_iadd hx hb d_X12_number_49 ?_
        refine m_puti (j := 10) X hw ct8 (o_300 hf) (Nat.le_of_ble_eq_true rfl) rfl (Nat.le_of_ble_eq_true rfl) rfl rfl rfl wd_966 d_X12_number_50 (fun H locs hw => ?_)
        refine lv_iinc (v := (x3 + (1 : Int32))) (k := 1) (lv' := [(3, .int (x3 + (1 : Int32))), (2, .int ((((10 : Int32) * x2) + (cA τ 308 (cF τ 300 10).toNatClampNeg)) - (48 : Int32))), (0, .ref (ga G 300)), (1, .int y1)]) hx hb d_X12_number_53 hl rfl (by rfl) (Nat.le_of_ble_eq_true rfl) rfl (fun ls hl => ?_)
        refine lv_goto (tgt := 13) hx hb d_X12_number_56 (by decide) ?_
        obtain rfl := Option.some.inj h
        dsimp only [Sum.elim_inl] at hk
        exact hk _ _ _ hw (lv_sub hl [1, 0, 2, 3] rfl)
  intro H locs ls hw hl
  have hl : lv_has ls 4 [(0, .ref (ga G 300)), (1, .int a1)] := hl
  unfold f_X12_number at h
  refine lv_aload_n hx hb d_X12_number_0 rfl (lv_at hl 0 rfl) ?_
  obtain ⟨q1, e2, h⟩ := bd_some h
  refine r_callV (As := []) (rest := []) (st' := [.int q1]) X hw hl mwX12_isDigit wd_1167 wp_20 wd_1165 (c_X12_isDigit hf e2) (r_recv X hw ct8 (o_300 hf)) rfl ⟨Nat.le_of_ble_eq_true rfl, Nat.le_of_ble_eq_true rfl⟩ ⟨Nat.le_refl _, Nat.le_refl _⟩ rfl rfl (Nat.le_of_ble_eq_true rfl) d_X12_number_1 (fun H locs hw => ?_)
  refine lv_if_ne (tgt := 9) hx hb d_X12_number_4 (by decide) (fun hc => ?_) (fun hc => ?_)
  · have h := ite_f h hc
    refine lv_iconst (v := (0 : Int32)) hx hb d_X12_number_9 (by decide) ?_
    refine lv_istore_n (lv' := [(2, .int (0 : Int32)), (0, .ref (ga G 300)), (1, .int a1)]) hx hb d_X12_number_10 rfl hl (Nat.le_of_ble_eq_true rfl) rfl (fun ls hl => ?_)
    refine lv_iconst (v := (0 : Int32)) hx hb d_X12_number_11 (by decide) ?_
    refine lv_istore_n (lv' := [(3, .int (0 : Int32)), (2, .int (0 : Int32)), (0, .ref (ga G 300)), (1, .int a1)]) hx hb d_X12_number_12 rfl hl (Nat.le_of_ble_eq_true rfl) rfl (fun ls hl => ?_)
    obtain ⟨z6, e7, h⟩ := bd_some h
    refine iter_w (Wh := fun z : Int32 × Int32 × St => Wat p l e (rmk 2 45) s m args below meth c Q G 4 13 [] [(2, .int z.1), (3, .int z.2.1), (0, .ref (ga G 300)), (1, .int a1)] χ z.2.2) (K := fun z : Int32 × St => Wat p l e (rmk 2 45) s m args below meth c Q G 4 59 [] [(2, .int z.1)] χ z.2) (fun z o h1 h2 => b13 z.2.2 a1 z.1 z.2.1 o h1 h2) FU _ _ e7 ?_ _ _ _ hw (lv_sub hl [1, 0, 2, 3] rfl)
    intro H locs ls hw hl
    refine lv_iload_n hx hb d_X12_number_59 rfl (lv_at hl 0 rfl) ?_
    obtain rfl := Option.some.inj h
    subst hQ
    exact r_iret X hr hlk hw d_X12_number_60
  · have h := ite_t h hc
    refine lv_iconst (v := (-1 : Int32)) hx hb d_X12_number_7 (by decide) ?_
    obtain rfl := Option.some.inj h
    subst hQ
    exact r_iret X hr hlk hw d_X12_number_8
abbrev yX12_digitIn : MethodName := ⟨"OysterBedsModel", "digitIn", "(II)I"⟩
theorem mwX12_digitIn : MW yX12_digitIn prog_14_method_25_code 3 (some .int) 2 := ⟨wd_1342, wd_10, by decide +kernel⟩
theorem d_X12_digitIn_0 : decode prog_14_method_25_code 0 = .ok (.aload_n 0, 1) := by decide +kernel
theorem d_X12_digitIn_1 : decode prog_14_method_25_code 1 = .ok (.getfield 120, 3) := by decide +kernel
theorem d_X12_digitIn_4 : decode prog_14_method_25_code 4 = .ok (.aload_n 0, 1) := by decide +kernel
theorem d_X12_digitIn_5 : decode prog_14_method_25_code 5 = .ok (.getfield 132, 3) := by decide +kernel
theorem d_X12_digitIn_8 : decode prog_14_method_25_code 8 = .ok (.if_icmp .ge 26, 3) := by decide +kernel
theorem d_X12_digitIn_11 : decode prog_14_method_25_code 11 = .ok (.aload_n 0, 1) := by decide +kernel
theorem d_X12_digitIn_12 : decode prog_14_method_25_code 12 = .ok (.getfield 23, 3) := by decide +kernel
theorem d_X12_digitIn_15 : decode prog_14_method_25_code 15 = .ok (.aload_n 0, 1) := by decide +kernel
theorem d_X12_digitIn_16 : decode prog_14_method_25_code 16 = .ok (.getfield 120, 3) := by decide +kernel
theorem d_X12_digitIn_19 : decode prog_14_method_25_code 19 = .ok (.iaload, 1) := by decide +kernel
theorem d_X12_digitIn_20 : decode prog_14_method_25_code 20 = .ok (.bipush 48, 2) := by decide +kernel
theorem d_X12_digitIn_22 : decode prog_14_method_25_code 22 = .ok (.isub, 1) := by decide +kernel
theorem d_X12_digitIn_23 : decode prog_14_method_25_code 23 = .ok (.i2l, 1) := by decide +kernel
theorem d_X12_digitIn_24 : decode prog_14_method_25_code 24 = .ok (.iload_n 1, 1) := by decide +kernel
theorem d_X12_digitIn_25 : decode prog_14_method_25_code 25 = .ok (.i2l, 1) := by decide +kernel
theorem d_X12_digitIn_26 : decode prog_14_method_25_code 26 = .ok (.iload_n 2, 1) := by decide +kernel
theorem d_X12_digitIn_27 : decode prog_14_method_25_code 27 = .ok (.i2l, 1) := by decide +kernel
theorem d_X12_digitIn_28 : decode prog_14_method_25_code 28 = .ok (.invokestatic 105, 3) := by decide +kernel
theorem d_X12_digitIn_31 : decode prog_14_method_25_code 31 = .ok (.ifCond .ne 5, 3) := by decide +kernel
theorem d_X12_digitIn_34 : decode prog_14_method_25_code 34 = .ok (.iconst (-1), 1) := by decide +kernel
theorem d_X12_digitIn_35 : decode prog_14_method_25_code 35 = .ok (.ireturn, 1) := by decide +kernel
theorem d_X12_digitIn_36 : decode prog_14_method_25_code 36 = .ok (.aload_n 0, 1) := by decide +kernel
theorem d_X12_digitIn_37 : decode prog_14_method_25_code 37 = .ok (.dup, 1) := by decide +kernel
theorem d_X12_digitIn_38 : decode prog_14_method_25_code 38 = .ok (.getfield 120, 3) := by decide +kernel
theorem d_X12_digitIn_41 : decode prog_14_method_25_code 41 = .ok (.iconst 1, 1) := by decide +kernel
theorem d_X12_digitIn_42 : decode prog_14_method_25_code 42 = .ok (.iadd, 1) := by decide +kernel
theorem d_X12_digitIn_43 : decode prog_14_method_25_code 43 = .ok (.putfield 120, 3) := by decide +kernel
theorem d_X12_digitIn_46 : decode prog_14_method_25_code 46 = .ok (.aload_n 0, 1) := by decide +kernel
theorem d_X12_digitIn_47 : decode prog_14_method_25_code 47 = .ok (.getfield 23, 3) := by decide +kernel
theorem d_X12_digitIn_50 : decode prog_14_method_25_code 50 = .ok (.aload_n 0, 1) := by decide +kernel
theorem d_X12_digitIn_51 : decode prog_14_method_25_code 51 = .ok (.getfield 120, 3) := by decide +kernel
theorem d_X12_digitIn_54 : decode prog_14_method_25_code 54 = .ok (.iconst 1, 1) := by decide +kernel
theorem d_X12_digitIn_55 : decode prog_14_method_25_code 55 = .ok (.isub, 1) := by decide +kernel
theorem d_X12_digitIn_56 : decode prog_14_method_25_code 56 = .ok (.iaload, 1) := by decide +kernel
theorem d_X12_digitIn_57 : decode prog_14_method_25_code 57 = .ok (.bipush 48, 2) := by decide +kernel
theorem d_X12_digitIn_59 : decode prog_14_method_25_code 59 = .ok (.isub, 1) := by decide +kernel
theorem d_X12_digitIn_60 : decode prog_14_method_25_code 60 = .ok (.ireturn, 1) := by decide +kernel
def f_X12_digitIn (σ : St) (a1 : Int32) (a2 : Int32) : Option (Int32 × St) := (if (cF σ 300 11) ≤ (cF σ 300 10) then some ((-1 : Int32), σ) else gd (inb (cF σ 300 10) 80) ((f_X12_in ((cA σ 308 (cF σ 300 10).toNatClampNeg) - (48 : Int32)).toInt64 a1.toInt64 a2.toInt64).bind (fun q2 => (if q2 = 0 then some ((-1 : Int32), σ) else gd (inb ((cF (sF σ 300 10 ((cF σ 300 10) + (1 : Int32))) 300 10) - (1 : Int32)) 80) (some (((cA (sF σ 300 10 ((cF σ 300 10) + (1 : Int32))) 308 ((cF (sF σ 300 10 ((cF σ 300 10) + (1 : Int32))) 300 10) - (1 : Int32)).toNatClampNeg) - (48 : Int32)), (sF σ 300 10 ((cF σ 300 10) + (1 : Int32)))))))))
theorem c_X12_digitIn {l : Launch} {G : gT} {χ σ : St} {a1 : Int32} {a2 : Int32} (hf : FW G) {q : Int32 × St} (h : f_X12_digitIn σ a1 a2 = some q) : Ct l G yX12_digitIn prog_14_method_25_code 3 (some .int) 1 25 [.ref (ga G 300), .int a1, .int a2] χ σ (some (.int q.1)) χ q.2 := by
  refine Ct.of (by decide) (Nat.le_of_ble_eq_true rfl) ?_
  intro p e s m args below meth c Q X hr hlk hQ
  have hx := X.1
  have hb := X.2.1
  intro H locs ls hw hl
  have hl : lv_has ls 3 [(0, .ref (ga G 300)), (1, .int a1), (2, .int a2)] := hl
  unfold f_X12_digitIn at h
  refine lv_aload_n hx hb d_X12_digitIn_0 rfl (lv_at hl 0 rfl) ?_
  refine m_geti (j := 10) X hw ct8 (o_300 hf) (Nat.le_of_ble_eq_true rfl) rfl (Nat.le_of_ble_eq_true rfl) wd_966 d_X12_digitIn_1 ?_
  refine lv_aload_n hx hb d_X12_digitIn_4 rfl (lv_at hl 0 rfl) ?_
  refine m_geti (j := 11) X hw ct8 (o_300 hf) (Nat.le_of_ble_eq_true rfl) rfl (Nat.le_of_ble_eq_true rfl) wd_967 d_X12_digitIn_5 ?_
  refine lv_icmp_ge (tgt := 34) hx hb d_X12_digitIn_8 (by decide) (fun hc => ?_) (fun hc => ?_)
  · have h := ite_t h hc
    refine lv_iconst (v := (-1 : Int32)) hx hb d_X12_digitIn_34 (by decide) ?_
    obtain rfl := Option.some.inj h
    subst hQ
    exact r_iret X hr hlk hw d_X12_digitIn_35
  · have h := ite_f h hc
    refine lv_aload_n hx hb d_X12_digitIn_11 rfl (lv_at hl 0 rfl) ?_
    refine r_getr (j := 8) X hw ct8 (o_300 hf) rfl (Nat.le_of_ble_eq_true rfl) (q := 308) rfl wd_964 d_X12_digitIn_12 ?_
    refine lv_aload_n hx hb d_X12_digitIn_15 rfl (lv_at hl 0 rfl) ?_
    refine m_geti (j := 10) X hw ct8 (o_300 hf) (Nat.le_of_ble_eq_true rfl) rfl (Nat.le_of_ble_eq_true rfl) wd_966 d_X12_digitIn_16 ?_
    obtain ⟨hi1, h⟩ := gd_some h
    refine m_iald X hw (o_308 hf) (Nat.le_of_ble_eq_true rfl) hi1 d_X12_digitIn_19 ?_
    refine lv_bipush (v := (48 : Int32)) hx hb d_X12_digitIn_20 (by decide) ?_
    refine lv_isub hx hb d_X12_digitIn_22 ?_
    refine lv_i2l hx hb d_X12_digitIn_23 rfl ?_
    refine lv_iload_n hx hb d_X12_digitIn_24 rfl (lv_at hl 1 rfl) ?_
    refine lv_i2l hx hb d_X12_digitIn_25 rfl ?_
    refine lv_iload_n hx hb d_X12_digitIn_26 rfl (lv_at hl 2 rfl) ?_
    refine lv_i2l hx hb d_X12_digitIn_27 rfl ?_
    obtain ⟨q2, e3, h⟩ := bd_some h
    refine r_callS (As := [.long ((cA σ 308 (cF σ 300 10).toNatClampNeg) - (48 : Int32)).toInt64, .long a1.toInt64, .long a2.toInt64]) (rest := []) (st' := [.int q2]) X hw hl mwX12_in wd_1093 wd_1092 (c_X12_in hf e3) rfl ⟨Nat.le_of_ble_eq_true rfl, Nat.le_of_ble_eq_true rfl⟩ ⟨Nat.le_refl _, Nat.le_refl _⟩ rfl rfl (Nat.le_of_ble_eq_true rfl) d_X12_digitIn_28 (fun H locs hw => ?_)
    refine lv_if_ne (tgt := 36) hx hb d_X12_digitIn_31 (by decide) (fun hc => ?_) (fun hc => ?_)
    · have h := ite_f h hc
      refine lv_aload_n hx hb d_X12_digitIn_36 rfl (lv_at hl 0 rfl) ?_
      refine lv_dup hx hb d_X12_digitIn_37 rfl ?_
      refine m_geti (j := 10) X hw ct8 (o_300 hf) (Nat.le_of_ble_eq_true rfl) rfl (Nat.le_of_ble_eq_true rfl) wd_966 d_X12_digitIn_38 ?_
      refine lv_iconst (v := (1 : Int32)) hx hb d_X12_digitIn_41 (by decide) ?_
      refine lv_iadd hx hb d_X12_digitIn_42 ?_
      refine m_puti (j := 10) X hw ct8 (o_300 hf) (Nat.le_of_ble_eq_true rfl) rfl (Nat.le_of_ble_eq_true rfl) rfl rfl rfl wd_966 d_X12_digitIn_43 (fun H locs hw => ?_)
      refine lv_aload_n hx hb d_X12_digitIn_46 rfl (lv_at hl 0 rfl) ?_
      refine r_getr (j := 8) X hw ct8 (o_300 hf) rfl (Nat.le_of_ble_eq_true rfl) (q := 308) rfl wd_964 d_X12_digitIn_47 ?_
      refine lv_aload_n hx hb d_X12_digitIn_50 rfl (lv_at hl 0 rfl) ?_
      refine m_geti (j := 10) X hw ct8 (o_300 hf) (Nat.le_of_ble_eq_true rfl) rfl (Nat.le_of_ble_eq_true rfl) wd_966 d_X12_digitIn_51 ?_
      refine lv_iconst (v := (1 : Int32)) hx hb d_X12_digitIn_54 (by decide) ?_
      refine lv_isub hx hb d_X12_digitIn_55 ?_
      obtain ⟨hi4, h⟩ := gd_some h
      refine m_iald X hw (o_308 hf) (Nat.le_of_ble_eq_true rfl) hi4 d_X12_digitIn_56 ?_
      refine lv_bipush (v := (48 : Int32)) hx hb d_X12_digitIn_57 (by decide) ?_
      refine lv_isub hx hb d_X12_digitIn_59 ?_
      obtain rfl := Option.some.inj h
      subst hQ
      exact r_iret X hr hlk hw d_X12_digitIn_60
    · have h := ite_t h hc
      refine lv_iconst (v := (-1 : Int32)) hx hb d_X12_digitIn_34 (by decide) ?_
      obtain rfl := Option.some.inj h
      subst hQ
      exact r_iret X hr hlk hw d_X12_digitIn_35
abbrev yX12_faultOf : MethodName := ⟨"OysterBedsModel", "faultOf", "(IIZ)I"⟩
theorem mwX12_faultOf : MW yX12_faultOf prog_14_method_26_code 5 (some .int) 3 := ⟨wd_1185, wd_10, by decide +kernel⟩
theorem d_X12_faultOf_0 : decode prog_14_method_26_code 0 = .ok (.iload_n 3, 1) := by decide +kernel
theorem d_X12_faultOf_1 : decode prog_14_method_26_code 1 = .ok (.ifCond .eq 18, 3) := by decide +kernel
theorem d_X12_faultOf_4 : decode prog_14_method_26_code 4 = .ok (.aload_n 0, 1) := by decide +kernel
theorem d_X12_faultOf_5 : decode prog_14_method_26_code 5 = .ok (.getfield 120, 3) := by decide +kernel
theorem d_X12_faultOf_8 : decode prog_14_method_26_code 8 = .ok (.aload_n 0, 1) := by decide +kernel
theorem d_X12_faultOf_9 : decode prog_14_method_26_code 9 = .ok (.getfield 132, 3) := by decide +kernel
theorem d_X12_faultOf_12 : decode prog_14_method_26_code 12 = .ok (.if_icmp .ne 7, 3) := by decide +kernel
theorem d_X12_faultOf_15 : decode prog_14_method_26_code 15 = .ok (.iconst 1, 1) := by decide +kernel
theorem d_X12_faultOf_16 : decode prog_14_method_26_code 16 = .ok (.goto 4, 3) := by decide +kernel
theorem d_X12_faultOf_19 : decode prog_14_method_26_code 19 = .ok (.iconst 0, 1) := by decide +kernel
theorem d_X12_faultOf_20 : decode prog_14_method_26_code 20 = .ok (.istore 4, 2) := by decide +kernel
theorem d_X12_faultOf_22 : decode prog_14_method_26_code 22 = .ok (.iload_n 1, 1) := by decide +kernel
theorem d_X12_faultOf_23 : decode prog_14_method_26_code 23 = .ok (.iload_n 2, 1) := by decide +kernel
theorem d_X12_faultOf_24 : decode prog_14_method_26_code 24 = .ok (.if_icmp .le 20, 3) := by decide +kernel
theorem d_X12_faultOf_27 : decode prog_14_method_26_code 27 = .ok (.iload 4, 2) := by decide +kernel
theorem d_X12_faultOf_29 : decode prog_14_method_26_code 29 = .ok (.ifCond .ne 11, 3) := by decide +kernel
theorem d_X12_faultOf_32 : decode prog_14_method_26_code 32 = .ok (.aload_n 0, 1) := by decide +kernel
theorem d_X12_faultOf_33 : decode prog_14_method_26_code 33 = .ok (.getfield 120, 3) := by decide +kernel
theorem d_X12_faultOf_36 : decode prog_14_method_26_code 36 = .ok (.iload_n 2, 1) := by decide +kernel
theorem d_X12_faultOf_37 : decode prog_14_method_26_code 37 = .ok (.if_icmp .lt 7, 3) := by decide +kernel
theorem d_X12_faultOf_40 : decode prog_14_method_26_code 40 = .ok (.iconst (-1), 1) := by decide +kernel
theorem d_X12_faultOf_41 : decode prog_14_method_26_code 41 = .ok (.iload_n 2, 1) := by decide +kernel
theorem d_X12_faultOf_42 : decode prog_14_method_26_code 42 = .ok (.isub, 1) := by decide +kernel
theorem d_X12_faultOf_43 : decode prog_14_method_26_code 43 = .ok (.ireturn, 1) := by decide +kernel
theorem d_X12_faultOf_44 : decode prog_14_method_26_code 44 = .ok (.iload 4, 2) := by decide +kernel
theorem d_X12_faultOf_46 : decode prog_14_method_26_code 46 = .ok (.ifCond .eq 7, 3) := by decide +kernel
theorem d_X12_faultOf_49 : decode prog_14_method_26_code 49 = .ok (.iconst 0, 1) := by decide +kernel
theorem d_X12_faultOf_50 : decode prog_14_method_26_code 50 = .ok (.goto 9, 3) := by decide +kernel
theorem d_X12_faultOf_53 : decode prog_14_method_26_code 53 = .ok (.iconst (-1), 1) := by decide +kernel
theorem d_X12_faultOf_54 : decode prog_14_method_26_code 54 = .ok (.aload_n 0, 1) := by decide +kernel
theorem d_X12_faultOf_55 : decode prog_14_method_26_code 55 = .ok (.getfield 120, 3) := by decide +kernel
theorem d_X12_faultOf_58 : decode prog_14_method_26_code 58 = .ok (.isub, 1) := by decide +kernel
theorem d_X12_faultOf_59 : decode prog_14_method_26_code 59 = .ok (.ireturn, 1) := by decide +kernel
def f_X12_faultOf_j44 (σ : St) (x4 : Int32) : Option (Int32) := some (if x4 = 0 then ((-1 : Int32) - (cF σ 300 10)) else (0 : Int32))
def f_X12_faultOf_j40 (σ : St) (x2 : Int32) : Option (Int32) := some ((-1 : Int32) - x2)
def f_X12_faultOf_j20 (σ : St) (x1 : Int32) (x2 : Int32) (s0 : Int32) : Option (Int32) := (if x1 ≤ x2 then f_X12_faultOf_j44 σ s0 else (if s0 = 0 then (if (cF σ 300 10) < x2 then f_X12_faultOf_j44 σ s0 else f_X12_faultOf_j40 σ x2) else f_X12_faultOf_j40 σ x2))
def f_X12_faultOf (σ : St) (a1 : Int32) (a2 : Int32) (a3 : Int32) : Option (Int32) := f_X12_faultOf_j20 σ a1 a2 (if a3 = 0 then (0 : Int32) else (if (cF σ 300 10) = (cF σ 300 11) then (1 : Int32) else (0 : Int32)))
theorem c_X12_faultOf {l : Launch} {G : gT} {χ σ : St} {a1 : Int32} {a2 : Int32} {a3 : Int32} (hf : FW G) {q : Int32} (h : f_X12_faultOf σ a1 a2 a3 = some q) : Ct l G yX12_faultOf prog_14_method_26_code 5 (some .int) 0 0 [.ref (ga G 300), .int a1, .int a2, .int a3] χ σ (some (.int q)) χ σ := by
  refine Ct.of (by decide) (Nat.le_of_ble_eq_true rfl) ?_
  intro p e s m args below meth c Q X hr hlk hQ
  have hx := X.1
  have hb := X.2.1
  have j44 : ∀ (x4 : Int32), f_X12_faultOf_j44 σ x4 = some q → Wat p l e (rmk 0 0) s m args below meth c Q G 5 44 [] [(0, .ref (ga G 300)), (4, .int x4)] χ σ := by
    intro x4 h H locs ls hw hl
    unfold f_X12_faultOf_j44 at h
    refine lv_iload hx hb d_X12_faultOf_44 (lv_at hl 1 rfl) ?_
    refine lv_if_eq (tgt := 53) hx hb d_X12_faultOf_46 (by decide) (fun hc => ?_) (fun hc => ?_)
    · simp only [if_pos hc] at h
      refine lv_iconst (v := (-1 : Int32)) hx hb d_X12_faultOf_53 (by decide) ?_
      refine lv_aload_n hx hb d_X12_faultOf_54 rfl (lv_at hl 0 rfl) ?_
      refine m_geti (j := 10) X hw ct8 (o_300 hf) (Nat.le_of_ble_eq_true rfl) rfl (Nat.le_of_ble_eq_true rfl) wd_966 d_X12_faultOf_55 ?_
      refine lv_isub hx hb d_X12_faultOf_58 ?_
      obtain rfl := Option.some.inj h
      subst hQ
      exact r_iret X hr hlk hw d_X12_faultOf_59
    · simp only [if_neg hc] at h
      refine lv_iconst (v := (0 : Int32)) hx hb d_X12_faultOf_49 (by decide) ?_
      refine lv_goto (tgt := 59) hx hb d_X12_faultOf_50 (by decide) ?_
      obtain rfl := Option.some.inj h
      subst hQ
      exact r_iret X hr hlk hw d_X12_faultOf_59
  have j40 : ∀ (x2 : Int32), f_X12_faultOf_j40 σ x2 = some q → Wat p l e (rmk 0 0) s m args below meth c Q G 5 40 [] [(2, .int x2)] χ σ := by
    intro x2 h H locs ls hw hl
    unfold f_X12_faultOf_j40 at h
    refine lv_iconst (v := (-1 : Int32)) hx hb d_X12_faultOf_40 (by decide) ?_
    refine lv_iload_n hx hb d_X12_faultOf_41 rfl (lv_at hl 0 rfl) ?_
    refine lv_isub hx hb d_X12_faultOf_42 ?_
    obtain rfl := Option.some.inj h
    subst hQ
    exact r_iret X hr hlk hw d_X12_faultOf_43
  have j20 : ∀ (x1 : Int32) (x2 : Int32) (s0 : Int32), f_X12_faultOf_j20 σ x1 x2 s0 = some q → Wat p l e (rmk 0 0) s m args below meth c Q G 5 20 [.int s0] [(0, .ref (ga G 300)), (1, .int x1), (2, .int x2)] χ σ := by
    intro x1 x2 s0 h H locs ls hw hl
    unfold f_X12_faultOf_j20 at h
    refine lv_istore (lv' := [(4, .int s0), (0, .ref (ga G 300)), (1, .int x1), (2, .int x2)]) hx hb d_X12_faultOf_20 hl (Nat.le_of_ble_eq_true rfl) rfl (fun ls hl => ?_)
    refine lv_iload_n hx hb d_X12_faultOf_22 rfl (lv_at hl 2 rfl) ?_
    refine lv_iload_n hx hb d_X12_faultOf_23 rfl (lv_at hl 3 rfl) ?_
    refine lv_icmp_le (tgt := 44) hx hb d_X12_faultOf_24 (by decide) (fun hc => ?_) (fun hc => ?_)
    · have h := ite_t h hc
      exact j44 s0 h _ _ _ hw (lv_sub hl [1, 0] rfl)
    · have h := ite_f h hc
      refine lv_iload hx hb d_X12_faultOf_27 (lv_at hl 0 rfl) ?_
      refine lv_if_ne (tgt := 40) hx hb d_X12_faultOf_29 (by decide) (fun hc => ?_) (fun hc => ?_)
      · have h := ite_f h hc
        exact j40 x2 h _ _ _ hw (lv_sub hl [3] rfl)
      · have h := ite_t h hc
        refine lv_aload_n hx hb d_X12_faultOf_32 rfl (lv_at hl 1 rfl) ?_
        refine m_geti (j := 10) X hw ct8 (o_300 hf) (Nat.le_of_ble_eq_true rfl) rfl (Nat.le_of_ble_eq_true rfl) wd_966 d_X12_faultOf_33 ?_
        refine lv_iload_n hx hb d_X12_faultOf_36 rfl (lv_at hl 3 rfl) ?_
        refine lv_icmp_lt (tgt := 44) hx hb d_X12_faultOf_37 (by decide) (fun hc => ?_) (fun hc => ?_)
        · have h := ite_t h hc
          exact j44 s0 h _ _ _ hw (lv_sub hl [1, 0] rfl)
        · have h := ite_f h hc
          exact j40 x2 h _ _ _ hw (lv_sub hl [3] rfl)
  intro H locs ls hw hl
  have hl : lv_has ls 5 [(0, .ref (ga G 300)), (1, .int a1), (2, .int a2), (3, .int a3)] := hl
  unfold f_X12_faultOf at h
  refine lv_iload_n hx hb d_X12_faultOf_0 rfl (lv_at hl 3 rfl) ?_
  refine lv_if_eq (tgt := 19) hx hb d_X12_faultOf_1 (by decide) (fun hc => ?_) (fun hc => ?_)
  · simp only [if_pos hc] at h
    refine lv_iconst (v := (0 : Int32)) hx hb d_X12_faultOf_19 (by decide) ?_
    exact j20 a1 a2 (0 : Int32) h _ _ _ hw (lv_sub hl [0, 1, 2] rfl)
  · simp only [if_neg hc] at h
    refine lv_aload_n hx hb d_X12_faultOf_4 rfl (lv_at hl 0 rfl) ?_
    refine m_geti (j := 10) X hw ct8 (o_300 hf) (Nat.le_of_ble_eq_true rfl) rfl (Nat.le_of_ble_eq_true rfl) wd_966 d_X12_faultOf_5 ?_
    refine lv_aload_n hx hb d_X12_faultOf_8 rfl (lv_at hl 0 rfl) ?_
    refine m_geti (j := 11) X hw ct8 (o_300 hf) (Nat.le_of_ble_eq_true rfl) rfl (Nat.le_of_ble_eq_true rfl) wd_967 d_X12_faultOf_9 ?_
    refine lv_icmp_ne (tgt := 19) hx hb d_X12_faultOf_12 (by decide) (fun hc => ?_) (fun hc => ?_)
    · simp only [if_neg hc] at h
      refine lv_iconst (v := (0 : Int32)) hx hb d_X12_faultOf_19 (by decide) ?_
      exact j20 a1 a2 (0 : Int32) h _ _ _ hw (lv_sub hl [0, 1, 2] rfl)
    · simp only [if_pos hc] at h
      refine lv_iconst (v := (1 : Int32)) hx hb d_X12_faultOf_15 (by decide) ?_
      refine lv_goto (tgt := 20) hx hb d_X12_faultOf_16 (by decide) ?_
      exact j20 a1 a2 (1 : Int32) h _ _ _ hw (lv_sub hl [0, 1, 2] rfl)
abbrev yX12_twoDigits : MethodName := ⟨"OysterBedsModel", "twoDigits", "()I"⟩
theorem mwX12_twoDigits : MW yX12_twoDigits prog_14_method_27_code 3 (some .int) 0 := ⟨wd_1174, wd_10, by decide +kernel⟩
theorem d_X12_twoDigits_0 : decode prog_14_method_27_code 0 = .ok (.aload_n 0, 1) := by decide +kernel
theorem d_X12_twoDigits_1 : decode prog_14_method_27_code 1 = .ok (.iconst 1, 1) := by decide +kernel
theorem d_X12_twoDigits_2 : decode prog_14_method_27_code 2 = .ok (.invokevirtual 157, 3) := by decide +kernel
theorem d_X12_twoDigits_5 : decode prog_14_method_27_code 5 = .ok (.istore_n 1, 1) := by decide +kernel
theorem d_X12_twoDigits_6 : decode prog_14_method_27_code 6 = .ok (.iload_n 1, 1) := by decide +kernel
theorem d_X12_twoDigits_7 : decode prog_14_method_27_code 7 = .ok (.ifCond .ge 7, 3) := by decide +kernel
theorem d_X12_twoDigits_10 : decode prog_14_method_27_code 10 = .ok (.iconst (-1), 1) := by decide +kernel
theorem d_X12_twoDigits_11 : decode prog_14_method_27_code 11 = .ok (.goto 8, 3) := by decide +kernel
theorem d_X12_twoDigits_14 : decode prog_14_method_27_code 14 = .ok (.aload_n 0, 1) := by decide +kernel
theorem d_X12_twoDigits_15 : decode prog_14_method_27_code 15 = .ok (.iconst 1, 1) := by decide +kernel
theorem d_X12_twoDigits_16 : decode prog_14_method_27_code 16 = .ok (.invokevirtual 157, 3) := by decide +kernel
theorem d_X12_twoDigits_19 : decode prog_14_method_27_code 19 = .ok (.istore_n 2, 1) := by decide +kernel
theorem d_X12_twoDigits_20 : decode prog_14_method_27_code 20 = .ok (.iload_n 2, 1) := by decide +kernel
theorem d_X12_twoDigits_21 : decode prog_14_method_27_code 21 = .ok (.ifCond .ge 7, 3) := by decide +kernel
theorem d_X12_twoDigits_24 : decode prog_14_method_27_code 24 = .ok (.iconst (-1), 1) := by decide +kernel
theorem d_X12_twoDigits_25 : decode prog_14_method_27_code 25 = .ok (.goto 9, 3) := by decide +kernel
theorem d_X12_twoDigits_28 : decode prog_14_method_27_code 28 = .ok (.bipush 10, 2) := by decide +kernel
theorem d_X12_twoDigits_30 : decode prog_14_method_27_code 30 = .ok (.iload_n 1, 1) := by decide +kernel
theorem d_X12_twoDigits_31 : decode prog_14_method_27_code 31 = .ok (.imul, 1) := by decide +kernel
theorem d_X12_twoDigits_32 : decode prog_14_method_27_code 32 = .ok (.iload_n 2, 1) := by decide +kernel
theorem d_X12_twoDigits_33 : decode prog_14_method_27_code 33 = .ok (.iadd, 1) := by decide +kernel
theorem d_X12_twoDigits_34 : decode prog_14_method_27_code 34 = .ok (.ireturn, 1) := by decide +kernel
def f_X12_twoDigits_j19 (τ : St) (x1 : Int32) (s0 : Int32) : Option (Int32 × St) := some ((if 0 ≤ s0 then (((10 : Int32) * x1) + s0) else (-1 : Int32)), τ)
def f_X12_twoDigits (σ : St) : Option (Int32 × St) := (f_X12_number σ (1 : Int32)).bind (fun q1 => (if 0 ≤ q1.1 then (f_X12_number q1.2 (1 : Int32)).bind (fun q3 => f_X12_twoDigits_j19 q3.2 q1.1 q3.1) else f_X12_twoDigits_j19 q1.2 q1.1 (-1 : Int32)))
theorem c_X12_twoDigits {l : Launch} {G : gT} {χ σ : St} (hf : FW G) {q : Int32 × St} (h : f_X12_twoDigits σ = some q) : Ct l G yX12_twoDigits prog_14_method_27_code 3 (some .int) 3 68 [.ref (ga G 300)] χ σ (some (.int q.1)) χ q.2 := by
  refine Ct.of (by decide) (Nat.le_of_ble_eq_true rfl) ?_
  intro p e s m args below meth c Q X hr hlk hQ
  have hx := X.1
  have hb := X.2.1
  have j19 : ∀ (τ : St) (x1 : Int32) (s0 : Int32), f_X12_twoDigits_j19 τ x1 s0 = some q → Wat p l e (rmk 3 68) s m args below meth c Q G 3 19 [.int s0] [(1, .int x1)] χ τ := by
    intro τ x1 s0 h H locs ls hw hl
    unfold f_X12_twoDigits_j19 at h
    refine lv_istore_n (lv' := [(2, .int s0), (1, .int x1)]) hx hb d_X12_twoDigits_19 rfl hl (Nat.le_of_ble_eq_true rfl) rfl (fun ls hl => ?_)
    refine lv_iload_n hx hb d_X12_twoDigits_20 rfl (lv_at hl 0 rfl) ?_
    refine lv_if_ge (tgt := 28) hx hb d_X12_twoDigits_21 (by decide) (fun hc => ?_) (fun hc => ?_)
    · simp only [if_pos hc] at h
      refine lv_bipush (v := (10 : Int32)) hx hb d_X12_twoDigits_28 (by decide) ?_
      refine lv_iload_n hx hb d_X12_twoDigits_30 rfl (lv_at hl 1 rfl) ?_
      refine lv_imul hx hb d_X12_twoDigits_31 ?_
      refine lv_iload_n hx hb d_X12_twoDigits_32 rfl (lv_at hl 0 rfl) ?_
      refine lv_iadd hx hb d_X12_twoDigits_33 ?_
      obtain rfl := Option.some.inj h
      subst hQ
      exact r_iret X hr hlk hw d_X12_twoDigits_34
    · simp only [if_neg hc] at h
      refine lv_iconst (v := (-1 : Int32)) hx hb d_X12_twoDigits_24 (by decide) ?_
      refine lv_goto (tgt := 34) hx hb d_X12_twoDigits_25 (by decide) ?_
      obtain rfl := Option.some.inj h
      subst hQ
      exact r_iret X hr hlk hw d_X12_twoDigits_34
  intro H locs ls hw hl
  have hl : lv_has ls 3 [(0, .ref (ga G 300))] := hl
  unfold f_X12_twoDigits at h
  refine lv_aload_n hx hb d_X12_twoDigits_0 rfl (lv_at hl 0 rfl) ?_
  refine lv_iconst (v := (1 : Int32)) hx hb d_X12_twoDigits_1 (by decide) ?_
  obtain ⟨q1, e2, h⟩ := bd_some h
  refine r_callV (As := [.int (1 : Int32)]) (rest := []) (st' := [.int q1.1]) X hw hl mwX12_number wd_1163 wp_19 wd_1161 (c_X12_number hf e2) (r_recv X hw ct8 (o_300 hf)) rfl ⟨Nat.le_of_ble_eq_true rfl, Nat.le_of_ble_eq_true rfl⟩ ⟨Nat.le_refl _, Nat.le_refl _⟩ rfl rfl (Nat.le_of_ble_eq_true rfl) d_X12_twoDigits_2 (fun H locs hw => ?_)
  refine lv_istore_n (lv' := [(1, .int q1.1), (0, .ref (ga G 300))]) hx hb d_X12_twoDigits_5 rfl hl (Nat.le_of_ble_eq_true rfl) rfl (fun ls hl => ?_)
  refine lv_iload_n hx hb d_X12_twoDigits_6 rfl (lv_at hl 0 rfl) ?_
  refine lv_if_ge (tgt := 14) hx hb d_X12_twoDigits_7 (by decide) (fun hc => ?_) (fun hc => ?_)
  · have h := ite_t h hc
    refine lv_aload_n hx hb d_X12_twoDigits_14 rfl (lv_at hl 1 rfl) ?_
    refine lv_iconst (v := (1 : Int32)) hx hb d_X12_twoDigits_15 (by decide) ?_
    obtain ⟨q3, e4, h⟩ := bd_some h
    refine r_callV (As := [.int (1 : Int32)]) (rest := []) (st' := [.int q3.1]) X hw hl mwX12_number wd_1163 wp_19 wd_1161 (c_X12_number hf e4) (r_recv X hw ct8 (o_300 hf)) rfl ⟨Nat.le_of_ble_eq_true rfl, Nat.le_of_ble_eq_true rfl⟩ ⟨Nat.le_refl _, Nat.le_refl _⟩ rfl rfl (Nat.le_of_ble_eq_true rfl) d_X12_twoDigits_16 (fun H locs hw => ?_)
    exact j19 q3.2 q1.1 q3.1 h _ _ _ hw (lv_sub hl [0] rfl)
  · have h := ite_f h hc
    refine lv_iconst (v := (-1 : Int32)) hx hb d_X12_twoDigits_10 (by decide) ?_
    refine lv_goto (tgt := 19) hx hb d_X12_twoDigits_11 (by decide) ?_
    exact j19 q1.2 q1.1 (-1 : Int32) h _ _ _ hw (lv_sub hl [0] rfl)
abbrev yX12_codes : MethodName := ⟨"OysterBedsModel", "codes", "(I)V"⟩
theorem mwX12_codes : MW yX12_codes prog_14_method_30_code 2 none 1 := ⟨wd_1205, wd_10, by decide +kernel⟩
theorem d_X12_codes_0 : decode prog_14_method_30_code 0 = .ok (.aload_n 0, 1) := by decide +kernel
theorem d_X12_codes_1 : decode prog_14_method_30_code 1 = .ok (.getfield 32, 3) := by decide +kernel
theorem d_X12_codes_4 : decode prog_14_method_30_code 4 = .ok (.aload_n 0, 1) := by decide +kernel
theorem d_X12_codes_5 : decode prog_14_method_30_code 5 = .ok (.getfield 193, 3) := by decide +kernel
theorem d_X12_codes_8 : decode prog_14_method_30_code 8 = .ok (.iload_n 1, 1) := by decide +kernel
theorem d_X12_codes_9 : decode prog_14_method_30_code 9 = .ok (.iastore, 1) := by decide +kernel
theorem d_X12_codes_10 : decode prog_14_method_30_code 10 = .ok (.aload_n 0, 1) := by decide +kernel
theorem d_X12_codes_11 : decode prog_14_method_30_code 11 = .ok (.dup, 1) := by decide +kernel
theorem d_X12_codes_12 : decode prog_14_method_30_code 12 = .ok (.getfield 193, 3) := by decide +kernel
theorem d_X12_codes_15 : decode prog_14_method_30_code 15 = .ok (.iconst 1, 1) := by decide +kernel
theorem d_X12_codes_16 : decode prog_14_method_30_code 16 = .ok (.iadd, 1) := by decide +kernel
theorem d_X12_codes_17 : decode prog_14_method_30_code 17 = .ok (.putfield 193, 3) := by decide +kernel
theorem d_X12_codes_20 : decode prog_14_method_30_code 20 = .ok (.return_, 1) := by decide +kernel
def f_X12_codes (σ : St) (a1 : Int32) : Option (St) := gd (inb (cF σ 300 18) 80) (some (sF (sA σ 316 (cF σ 300 18).toNatClampNeg a1) 300 18 ((cF (sA σ 316 (cF σ 300 18).toNatClampNeg a1) 300 18) + (1 : Int32))))
theorem c_X12_codes {l : Launch} {G : gT} {χ σ : St} {a1 : Int32} (hf : FW G) {q : St} (h : f_X12_codes σ a1 = some q) : Ct l G yX12_codes prog_14_method_30_code 2 none 0 0 [.ref (ga G 300), .int a1] χ σ (none) χ q := by
  refine Ct.of (by decide) (Nat.le_of_ble_eq_true rfl) ?_
  intro p e s m args below meth c Q X hr hlk hQ
  have hx := X.1
  have hb := X.2.1
  intro H locs ls hw hl
  have hl : lv_has ls 2 [(0, .ref (ga G 300)), (1, .int a1)] := hl
  unfold f_X12_codes at h
  refine lv_aload_n hx hb d_X12_codes_0 rfl (lv_at hl 0 rfl) ?_
  refine r_getr (j := 16) X hw ct8 (o_300 hf) rfl (Nat.le_of_ble_eq_true rfl) (q := 316) rfl wd_972 d_X12_codes_1 ?_
  refine lv_aload_n hx hb d_X12_codes_4 rfl (lv_at hl 0 rfl) ?_
  refine m_geti (j := 18) X hw ct8 (o_300 hf) (Nat.le_of_ble_eq_true rfl) rfl (Nat.le_of_ble_eq_true rfl) wd_974 d_X12_codes_5 ?_
  refine lv_iload_n hx hb d_X12_codes_8 rfl (lv_at hl 1 rfl) ?_
  obtain ⟨hi1, h⟩ := gd_some h
  refine m_iast X hw (o_316 hf) (Nat.le_of_ble_eq_true rfl) hi1 d_X12_codes_9 (fun H locs hw => ?_)
  refine lv_aload_n hx hb d_X12_codes_10 rfl (lv_at hl 0 rfl) ?_
  refine lv_dup hx hb d_X12_codes_11 rfl ?_
  refine m_geti (j := 18) X hw ct8 (o_300 hf) (Nat.le_of_ble_eq_true rfl) rfl (Nat.le_of_ble_eq_true rfl) wd_974 d_X12_codes_12 ?_
  refine lv_iconst (v := (1 : Int32)) hx hb d_X12_codes_15 (by decide) ?_
  refine lv_iadd hx hb d_X12_codes_16 ?_
  refine m_puti (j := 18) X hw ct8 (o_300 hf) (Nat.le_of_ble_eq_true rfl) rfl (Nat.le_of_ble_eq_true rfl) rfl rfl rfl wd_974 d_X12_codes_17 (fun H locs hw => ?_)
  obtain rfl := Option.some.inj h
  subst hQ
  exact r_vret X hr hlk hw d_X12_codes_20
abbrev yX12_laysCode : MethodName := ⟨"OysterBedsModel", "laysCode", "([II)V"⟩
theorem mwX12_laysCode : MW yX12_laysCode prog_14_method_34_code 4 none 2 := ⟨wd_1213, wd_10, by decide +kernel⟩
theorem d_X12_laysCode_0 : decode prog_14_method_34_code 0 = .ok (.aload_n 0, 1) := by decide +kernel
theorem d_X12_laysCode_1 : decode prog_14_method_34_code 1 = .ok (.iload_n 2, 1) := by decide +kernel
theorem d_X12_laysCode_2 : decode prog_14_method_34_code 2 = .ok (.putfield 214, 3) := by decide +kernel
theorem d_X12_laysCode_5 : decode prog_14_method_34_code 5 = .ok (.iconst 0, 1) := by decide +kernel
theorem d_X12_laysCode_6 : decode prog_14_method_34_code 6 = .ok (.istore_n 3, 1) := by decide +kernel
theorem d_X12_laysCode_7 : decode prog_14_method_34_code 7 = .ok (.iload_n 3, 1) := by decide +kernel
theorem d_X12_laysCode_8 : decode prog_14_method_34_code 8 = .ok (.iload_n 2, 1) := by decide +kernel
theorem d_X12_laysCode_9 : decode prog_14_method_34_code 9 = .ok (.if_icmp .ge 18, 3) := by decide +kernel
theorem d_X12_laysCode_12 : decode prog_14_method_34_code 12 = .ok (.aload_n 0, 1) := by decide +kernel
theorem d_X12_laysCode_13 : decode prog_14_method_34_code 13 = .ok (.getfield 29, 3) := by decide +kernel
theorem d_X12_laysCode_16 : decode prog_14_method_34_code 16 = .ok (.iload_n 3, 1) := by decide +kernel
theorem d_X12_laysCode_17 : decode prog_14_method_34_code 17 = .ok (.aload_n 1, 1) := by decide +kernel
theorem d_X12_laysCode_18 : decode prog_14_method_34_code 18 = .ok (.iload_n 3, 1) := by decide +kernel
theorem d_X12_laysCode_19 : decode prog_14_method_34_code 19 = .ok (.iaload, 1) := by decide +kernel
theorem d_X12_laysCode_20 : decode prog_14_method_34_code 20 = .ok (.iastore, 1) := by decide +kernel
theorem d_X12_laysCode_21 : decode prog_14_method_34_code 21 = .ok (.iinc 3 1, 3) := by decide +kernel
theorem d_X12_laysCode_24 : decode prog_14_method_34_code 24 = .ok (.goto (-17), 3) := by decide +kernel
theorem d_X12_laysCode_27 : decode prog_14_method_34_code 27 = .ok (.return_, 1) := by decide +kernel
def f_X12_laysCode_s7 (r : Nat) (τ : St) (y2 : Int32) (x3 : Int32) : Option ((Int32 × St) ⊕ (St)) := (if y2 ≤ x3 then some (.inr τ) else gd (inb x3 80) (gd (inb x3 80) (some (.inl ((x3 + (1 : Int32)), (sA τ 315 x3.toNatClampNeg (cA τ r x3.toNatClampNeg)))))))
def f_X12_laysCode (σ : St) (r : Nat) (a2 : Int32) : Option (St) := (iter (fun z => f_X12_laysCode_s7 r z.2 a2 z.1) FU ((0 : Int32), (sF σ 300 17 a2))).bind (fun z3 => some z3)
theorem c_X12_laysCode {l : Launch} {G : gT} {χ σ : St} {r : Nat} {a2 : Int32} (hf : FW G) (hr : OP G r 11 80) (hr3 : 300 ≤ r) {q : St} (h : f_X12_laysCode σ r a2 = some q) : Ct l G yX12_laysCode prog_14_method_34_code 4 none 0 0 [.ref (ga G 300), .ref (ga G r), .int a2] χ σ (none) χ q := by
  refine Ct.of (by decide) (Nat.le_of_ble_eq_true rfl) ?_
  intro p e s m args below meth c Q X hret hlk hQ
  have hx := X.1
  have hb := X.2.1
  have b7 : ∀ (τ : St) (y2 : Int32) (x3 : Int32) (o : (Int32 × St) ⊕ (St)), f_X12_laysCode_s7 r τ y2 x3 = some o → Sum.elim (fun z : Int32 × St => Wat p l e (rmk 0 0) s m args below meth c Q G 4 7 [] [(3, .int z.1), (0, .ref (ga G 300)), (1, .ref (ga G r)), (2, .int y2)] χ z.2) (fun z : St => Wat p l e (rmk 0 0) s m args below meth c Q G 4 27 [] [] χ z) o → Wat p l e (rmk 0 0) s m args below meth c Q G 4 7 [] [(3, .int x3), (0, .ref (ga G 300)), (1, .ref (ga G r)), (2, .int y2)] χ τ := by
    intro τ y2 x3 o h hk H locs ls hw hl
    unfold f_X12_laysCode_s7 at h
    refine lv_iload_n hx hb d_X12_laysCode_7 rfl (lv_at hl 0 rfl) ?_
    refine lv_iload_n hx hb d_X12_laysCode_8 rfl (lv_at hl 3 rfl) ?_
    refine lv_icmp_ge (tgt := 27) hx hb d_X12_laysCode_9 (by decide) (fun hc => ?_) (fun hc => ?_)
    · have h := ite_t h hc
      obtain rfl := Option.some.inj h
      dsimp only [Sum.elim_inr] at hk
      exact hk _ _ _ hw (lv_sub hl [] rfl)
    · have h := ite_f h hc
      refine lv_aload_n hx hb d_X12_laysCode_12 rfl (lv_at hl 1 rfl) ?_
      refine r_getr (j := 15) X hw ct8 (o_300 hf) rfl (Nat.le_of_ble_eq_true rfl) (q := 315) rfl wd_971 d_X12_laysCode_13 ?_
      refine lv_iload_n hx hb d_X12_laysCode_16 rfl (lv_at hl 0 rfl) ?_
      refine lv_aload_n hx hb d_X12_laysCode_17 rfl (lv_at hl 2 rfl) ?_
      refine lv_iload_n hx hb d_X12_laysCode_18 rfl (lv_at hl 0 rfl) ?_
      obtain ⟨hi1, h⟩ := gd_some h
      refine m_iald X hw hr hr3 hi1 d_X12_laysCode_19 ?_
      obtain ⟨hi2, h⟩ := gd_some h
      refine m_iast X hw (o_315 hf) (Nat.le_of_ble_eq_true rfl) hi2 d_X12_laysCode_20 (fun H locs hw => ?_)
      refine lv_iinc (v := (x3 + (1 : Int32))) (k := 0) (lv' := [(3, .int (x3 + (1 : Int32))), (0, .ref (ga G 300)), (1, .ref (ga G r)), (2, .int y2)]) hx hb d_X12_laysCode_21 hl rfl (by rfl) (Nat.le_of_ble_eq_true rfl) rfl (fun ls hl => ?_)
      refine lv_goto (tgt := 7) hx hb d_X12_laysCode_24 (by decide) ?_
      obtain rfl := Option.some.inj h
      dsimp only [Sum.elim_inl] at hk
      exact hk _ _ _ hw (lv_sub hl [0, 1, 2, 3] rfl)
  intro H locs ls hw hl
  have hl : lv_has ls 4 [(0, .ref (ga G 300)), (1, .ref (ga G r)), (2, .int a2)] := hl
  unfold f_X12_laysCode at h
  refine lv_aload_n hx hb d_X12_laysCode_0 rfl (lv_at hl 0 rfl) ?_
  refine lv_iload_n hx hb d_X12_laysCode_1 rfl (lv_at hl 2 rfl) ?_
  refine m_puti (j := 17) X hw ct8 (o_300 hf) (Nat.le_of_ble_eq_true rfl) rfl (Nat.le_of_ble_eq_true rfl) rfl rfl rfl wd_973 d_X12_laysCode_2 (fun H locs hw => ?_)
  refine lv_iconst (v := (0 : Int32)) hx hb d_X12_laysCode_5 (by decide) ?_
  refine lv_istore_n (lv' := [(3, .int (0 : Int32)), (0, .ref (ga G 300)), (1, .ref (ga G r)), (2, .int a2)]) hx hb d_X12_laysCode_6 rfl hl (Nat.le_of_ble_eq_true rfl) rfl (fun ls hl => ?_)
  obtain ⟨z3, e4, h⟩ := bd_some h
  refine iter_w (Wh := fun z : Int32 × St => Wat p l e (rmk 0 0) s m args below meth c Q G 4 7 [] [(3, .int z.1), (0, .ref (ga G 300)), (1, .ref (ga G r)), (2, .int a2)] χ z.2) (K := fun z : St => Wat p l e (rmk 0 0) s m args below meth c Q G 4 27 [] [] χ z) (fun z o h1 h2 => b7 z.2 a2 z.1 o h1 h2) FU _ _ e4 ?_ _ _ _ hw (lv_sub hl [0, 1, 2, 3] rfl)
  intro H locs ls hw hl
  obtain rfl := Option.some.inj h
  subst hQ
  exact r_vret X hret hlk hw d_X12_laysCode_27
abbrev yX12_worked : MethodName := ⟨"OysterBedsModel", "worked", "(III)I"⟩
theorem mwX12_worked : MW yX12_worked prog_14_method_36_code 3 (some .int) 3 := ⟨wd_1279, wd_10, by decide +kernel⟩
theorem d_X12_worked_0 : decode prog_14_method_36_code 0 = .ok (.iload_n 0, 1) := by decide +kernel
theorem d_X12_worked_1 : decode prog_14_method_36_code 1 = .ok (.tableswitch 93 0 5 #[39, 53, 67, 81, 85, 89], 39) := by decide +kernel
theorem d_X12_worked_40 : decode prog_14_method_36_code 40 = .ok (.iload_n 1, 1) := by decide +kernel
theorem d_X12_worked_41 : decode prog_14_method_36_code 41 = .ok (.iload_n 2, 1) := by decide +kernel
theorem d_X12_worked_42 : decode prog_14_method_36_code 42 = .ok (.if_icmp .ge 7, 3) := by decide +kernel
theorem d_X12_worked_45 : decode prog_14_method_36_code 45 = .ok (.iconst 1, 1) := by decide +kernel
theorem d_X12_worked_46 : decode prog_14_method_36_code 46 = .ok (.goto 4, 3) := by decide +kernel
theorem d_X12_worked_49 : decode prog_14_method_36_code 49 = .ok (.iconst 0, 1) := by decide +kernel
theorem d_X12_worked_50 : decode prog_14_method_36_code 50 = .ok (.invokestatic 135, 3) := by decide +kernel
theorem d_X12_worked_53 : decode prog_14_method_36_code 53 = .ok (.ireturn, 1) := by decide +kernel
theorem d_X12_worked_54 : decode prog_14_method_36_code 54 = .ok (.iload_n 1, 1) := by decide +kernel
theorem d_X12_worked_55 : decode prog_14_method_36_code 55 = .ok (.iload_n 2, 1) := by decide +kernel
theorem d_X12_worked_56 : decode prog_14_method_36_code 56 = .ok (.if_icmp .le 7, 3) := by decide +kernel
theorem d_X12_worked_59 : decode prog_14_method_36_code 59 = .ok (.iconst 1, 1) := by decide +kernel
theorem d_X12_worked_60 : decode prog_14_method_36_code 60 = .ok (.goto 4, 3) := by decide +kernel
theorem d_X12_worked_63 : decode prog_14_method_36_code 63 = .ok (.iconst 0, 1) := by decide +kernel
theorem d_X12_worked_64 : decode prog_14_method_36_code 64 = .ok (.invokestatic 135, 3) := by decide +kernel
theorem d_X12_worked_67 : decode prog_14_method_36_code 67 = .ok (.ireturn, 1) := by decide +kernel
theorem d_X12_worked_68 : decode prog_14_method_36_code 68 = .ok (.iload_n 1, 1) := by decide +kernel
theorem d_X12_worked_69 : decode prog_14_method_36_code 69 = .ok (.iload_n 2, 1) := by decide +kernel
theorem d_X12_worked_70 : decode prog_14_method_36_code 70 = .ok (.if_icmp .ne 7, 3) := by decide +kernel
theorem d_X12_worked_73 : decode prog_14_method_36_code 73 = .ok (.iconst 1, 1) := by decide +kernel
theorem d_X12_worked_74 : decode prog_14_method_36_code 74 = .ok (.goto 4, 3) := by decide +kernel
theorem d_X12_worked_77 : decode prog_14_method_36_code 77 = .ok (.iconst 0, 1) := by decide +kernel
theorem d_X12_worked_78 : decode prog_14_method_36_code 78 = .ok (.invokestatic 135, 3) := by decide +kernel
theorem d_X12_worked_81 : decode prog_14_method_36_code 81 = .ok (.ireturn, 1) := by decide +kernel
theorem d_X12_worked_82 : decode prog_14_method_36_code 82 = .ok (.iload_n 1, 1) := by decide +kernel
theorem d_X12_worked_83 : decode prog_14_method_36_code 83 = .ok (.iload_n 2, 1) := by decide +kernel
theorem d_X12_worked_84 : decode prog_14_method_36_code 84 = .ok (.iadd, 1) := by decide +kernel
theorem d_X12_worked_85 : decode prog_14_method_36_code 85 = .ok (.ireturn, 1) := by decide +kernel
theorem d_X12_worked_86 : decode prog_14_method_36_code 86 = .ok (.iload_n 1, 1) := by decide +kernel
theorem d_X12_worked_87 : decode prog_14_method_36_code 87 = .ok (.iload_n 2, 1) := by decide +kernel
theorem d_X12_worked_88 : decode prog_14_method_36_code 88 = .ok (.isub, 1) := by decide +kernel
theorem d_X12_worked_89 : decode prog_14_method_36_code 89 = .ok (.ireturn, 1) := by decide +kernel
theorem d_X12_worked_90 : decode prog_14_method_36_code 90 = .ok (.iload_n 1, 1) := by decide +kernel
theorem d_X12_worked_91 : decode prog_14_method_36_code 91 = .ok (.iload_n 2, 1) := by decide +kernel
theorem d_X12_worked_92 : decode prog_14_method_36_code 92 = .ok (.imul, 1) := by decide +kernel
theorem d_X12_worked_93 : decode prog_14_method_36_code 93 = .ok (.ireturn, 1) := by decide +kernel
theorem d_X12_worked_94 : decode prog_14_method_36_code 94 = .ok (.iload_n 2, 1) := by decide +kernel
theorem d_X12_worked_95 : decode prog_14_method_36_code 95 = .ok (.ifCond .ne 7, 3) := by decide +kernel
theorem d_X12_worked_98 : decode prog_14_method_36_code 98 = .ok (.iconst 0, 1) := by decide +kernel
theorem d_X12_worked_99 : decode prog_14_method_36_code 99 = .ok (.goto 6, 3) := by decide +kernel
theorem d_X12_worked_102 : decode prog_14_method_36_code 102 = .ok (.iload_n 1, 1) := by decide +kernel
theorem d_X12_worked_103 : decode prog_14_method_36_code 103 = .ok (.iload_n 2, 1) := by decide +kernel
theorem d_X12_worked_104 : decode prog_14_method_36_code 104 = .ok (.idiv, 1) := by decide +kernel
theorem d_X12_worked_105 : decode prog_14_method_36_code 105 = .ok (.ireturn, 1) := by decide +kernel
def f_X12_worked_j50 (s0 : Int32) : Option (Int32) := (f_X12_flag s0).bind (fun q1 => some q1)
def f_X12_worked_j64 (s0 : Int32) : Option (Int32) := (f_X12_flag s0).bind (fun q3 => some q3)
def f_X12_worked_j78 (s0 : Int32) : Option (Int32) := (f_X12_flag s0).bind (fun q5 => some q5)
def f_X12_worked (a0 : Int32) (a1 : Int32) (a2 : Int32) : Option (Int32) := (if a0 = (0 : Int32) then f_X12_worked_j50 (if a2 ≤ a1 then (0 : Int32) else (1 : Int32)) else if a0 = (1 : Int32) then f_X12_worked_j64 (if a1 ≤ a2 then (0 : Int32) else (1 : Int32)) else if a0 = (2 : Int32) then f_X12_worked_j78 (if a1 = a2 then (1 : Int32) else (0 : Int32)) else if a0 = (3 : Int32) then some (a1 + a2) else if a0 = (4 : Int32) then some (a1 - a2) else if a0 = (5 : Int32) then some (a1 * a2) else (if a2 = 0 then some (0 : Int32) else gd (nz a2) (some (a1 / a2))))
theorem c_X12_worked {l : Launch} {G : gT} {χ σ : St} {a0 : Int32} {a1 : Int32} {a2 : Int32} (hf : FW G) {q : Int32} (h : f_X12_worked a0 a1 a2 = some q) : Ct l G yX12_worked prog_14_method_36_code 3 (some .int) 1 20 [.int a0, .int a1, .int a2] χ σ (some (.int q)) χ σ := by
  refine Ct.of (by decide) (Nat.le_of_ble_eq_true rfl) ?_
  intro p e s m args below meth c Q X hr hlk hQ
  have hx := X.1
  have hb := X.2.1
  have j50 : ∀ (s0 : Int32), f_X12_worked_j50 s0 = some q → Wat p l e (rmk 1 20) s m args below meth c Q G 3 50 [.int s0] [] χ σ := by
    intro s0 h H locs ls hw hl
    unfold f_X12_worked_j50 at h
    obtain ⟨q1, e2, h⟩ := bd_some h
    refine r_callS (As := [.int s0]) (rest := []) (st' := [.int q1]) X hw hl mwX12_flag wd_1180 wd_1179 (c_X12_flag hf e2) rfl ⟨Nat.le_of_ble_eq_true rfl, Nat.le_of_ble_eq_true rfl⟩ ⟨Nat.le_refl _, Nat.le_refl _⟩ rfl rfl (Nat.le_of_ble_eq_true rfl) d_X12_worked_50 (fun H locs hw => ?_)
    obtain rfl := Option.some.inj h
    subst hQ
    exact r_iret X hr hlk hw d_X12_worked_53
  have j64 : ∀ (s0 : Int32), f_X12_worked_j64 s0 = some q → Wat p l e (rmk 1 20) s m args below meth c Q G 3 64 [.int s0] [] χ σ := by
    intro s0 h H locs ls hw hl
    unfold f_X12_worked_j64 at h
    obtain ⟨q3, e4, h⟩ := bd_some h
    refine r_callS (As := [.int s0]) (rest := []) (st' := [.int q3]) X hw hl mwX12_flag wd_1180 wd_1179 (c_X12_flag hf e4) rfl ⟨Nat.le_of_ble_eq_true rfl, Nat.le_of_ble_eq_true rfl⟩ ⟨Nat.le_refl _, Nat.le_refl _⟩ rfl rfl (Nat.le_of_ble_eq_true rfl) d_X12_worked_64 (fun H locs hw => ?_)
    obtain rfl := Option.some.inj h
    subst hQ
    exact r_iret X hr hlk hw d_X12_worked_67
  have j78 : ∀ (s0 : Int32), f_X12_worked_j78 s0 = some q → Wat p l e (rmk 1 20) s m args below meth c Q G 3 78 [.int s0] [] χ σ := by
    intro s0 h H locs ls hw hl
    unfold f_X12_worked_j78 at h
    obtain ⟨q5, e6, h⟩ := bd_some h
    refine r_callS (As := [.int s0]) (rest := []) (st' := [.int q5]) X hw hl mwX12_flag wd_1180 wd_1179 (c_X12_flag hf e6) rfl ⟨Nat.le_of_ble_eq_true rfl, Nat.le_of_ble_eq_true rfl⟩ ⟨Nat.le_refl _, Nat.le_refl _⟩ rfl rfl (Nat.le_of_ble_eq_true rfl) d_X12_worked_78 (fun H locs hw => ?_)
    obtain rfl := Option.some.inj h
    subst hQ
    exact r_iret X hr hlk hw d_X12_worked_81
  intro H locs ls hw hl
  have hl : lv_has ls 3 [(0, .int a0), (1, .int a1), (2, .int a2)] := hl
  unfold f_X12_worked at h
  refine lv_iload_n hx hb d_X12_worked_0 rfl (lv_at hl 0 rfl) ?_
  by_cases hc0 : a0 = (0 : Int32)
  · have h := ite_t h hc0
    refine lv_tableIn (tgt := 40) hx hb d_X12_worked_1 (by rw [hc0]; decide) (by rw [hc0]; decide) (by rw [hc0]; rfl) (by decide) ?_
    refine lv_iload_n hx hb d_X12_worked_40 rfl (lv_at hl 1 rfl) ?_
    refine lv_iload_n hx hb d_X12_worked_41 rfl (lv_at hl 2 rfl) ?_
    refine lv_icmp_ge (tgt := 49) hx hb d_X12_worked_42 (by decide) (fun hc => ?_) (fun hc => ?_)
    · simp only [if_pos hc] at h
      refine lv_iconst (v := (0 : Int32)) hx hb d_X12_worked_49 (by decide) ?_
      exact j50 (0 : Int32) h _ _ _ hw (lv_sub hl [] rfl)
    · simp only [if_neg hc] at h
      refine lv_iconst (v := (1 : Int32)) hx hb d_X12_worked_45 (by decide) ?_
      refine lv_goto (tgt := 50) hx hb d_X12_worked_46 (by decide) ?_
      exact j50 (1 : Int32) h _ _ _ hw (lv_sub hl [] rfl)
  have h := ite_f h hc0
  by_cases hc1 : a0 = (1 : Int32)
  · have h := ite_t h hc1
    refine lv_tableIn (tgt := 54) hx hb d_X12_worked_1 (by rw [hc1]; decide) (by rw [hc1]; decide) (by rw [hc1]; rfl) (by decide) ?_
    refine lv_iload_n hx hb d_X12_worked_54 rfl (lv_at hl 1 rfl) ?_
    refine lv_iload_n hx hb d_X12_worked_55 rfl (lv_at hl 2 rfl) ?_
    refine lv_icmp_le (tgt := 63) hx hb d_X12_worked_56 (by decide) (fun hc => ?_) (fun hc => ?_)
    · simp only [if_pos hc] at h
      refine lv_iconst (v := (0 : Int32)) hx hb d_X12_worked_63 (by decide) ?_
      exact j64 (0 : Int32) h _ _ _ hw (lv_sub hl [] rfl)
    · simp only [if_neg hc] at h
      refine lv_iconst (v := (1 : Int32)) hx hb d_X12_worked_59 (by decide) ?_
      refine lv_goto (tgt := 64) hx hb d_X12_worked_60 (by decide) ?_
      exact j64 (1 : Int32) h _ _ _ hw (lv_sub hl [] rfl)
  have h := ite_f h hc1
  by_cases hc2 : a0 = (2 : Int32)
  · have h := ite_t h hc2
    refine lv_tableIn (tgt := 68) hx hb d_X12_worked_1 (by rw [hc2]; decide) (by rw [hc2]; decide) (by rw [hc2]; rfl) (by decide) ?_
    refine lv_iload_n hx hb d_X12_worked_68 rfl (lv_at hl 1 rfl) ?_
    refine lv_iload_n hx hb d_X12_worked_69 rfl (lv_at hl 2 rfl) ?_
    refine lv_icmp_ne (tgt := 77) hx hb d_X12_worked_70 (by decide) (fun hc => ?_) (fun hc => ?_)
    · simp only [if_neg hc] at h
      refine lv_iconst (v := (0 : Int32)) hx hb d_X12_worked_77 (by decide) ?_
      exact j78 (0 : Int32) h _ _ _ hw (lv_sub hl [] rfl)
    · simp only [if_pos hc] at h
      refine lv_iconst (v := (1 : Int32)) hx hb d_X12_worked_73 (by decide) ?_
      refine lv_goto (tgt := 78) hx hb d_X12_worked_74 (by decide) ?_
      exact j78 (1 : Int32) h _ _ _ hw (lv_sub hl [] rfl)
  have h := ite_f h hc2
  by_cases hc3 : a0 = (3 : Int32)
  · have h := ite_t h hc3
    refine lv_tableIn (tgt := 82) hx hb d_X12_worked_1 (by rw [hc3]; decide) (by rw [hc3]; decide) (by rw [hc3]; rfl) (by decide) ?_
    refine lv_iload_n hx hb d_X12_worked_82 rfl (lv_at hl 1 rfl) ?_
    refine lv_iload_n hx hb d_X12_worked_83 rfl (lv_at hl 2 rfl) ?_
    refine lv_iadd hx hb d_X12_worked_84 ?_
    obtain rfl := Option.some.inj h
    subst hQ
    exact r_iret X hr hlk hw d_X12_worked_85
  have h := ite_f h hc3
  by_cases hc4 : a0 = (4 : Int32)
  · have h := ite_t h hc4
    refine lv_tableIn (tgt := 86) hx hb d_X12_worked_1 (by rw [hc4]; decide) (by rw [hc4]; decide) (by rw [hc4]; rfl) (by decide) ?_
    refine lv_iload_n hx hb d_X12_worked_86 rfl (lv_at hl 1 rfl) ?_
    refine lv_iload_n hx hb d_X12_worked_87 rfl (lv_at hl 2 rfl) ?_
    refine lv_isub hx hb d_X12_worked_88 ?_
    obtain rfl := Option.some.inj h
    subst hQ
    exact r_iret X hr hlk hw d_X12_worked_89
  have h := ite_f h hc4
  by_cases hc5 : a0 = (5 : Int32)
  · have h := ite_t h hc5
    refine lv_tableIn (tgt := 90) hx hb d_X12_worked_1 (by rw [hc5]; decide) (by rw [hc5]; decide) (by rw [hc5]; rfl) (by decide) ?_
    refine lv_iload_n hx hb d_X12_worked_90 rfl (lv_at hl 1 rfl) ?_
    refine lv_iload_n hx hb d_X12_worked_91 rfl (lv_at hl 2 rfl) ?_
    refine lv_imul hx hb d_X12_worked_92 ?_
    obtain rfl := Option.some.inj h
    subst hQ
    exact r_iret X hr hlk hw d_X12_worked_93
  have h := ite_f h hc5
  have hn0 := lv_neT hc0 (a := 0) (by decide)
  have hn1 := lv_neT hc1 (a := 1) (by decide)
  have hn2 := lv_neT hc2 (a := 2) (by decide)
  have hn3 := lv_neT hc3 (a := 3) (by decide)
  have hn4 := lv_neT hc4 (a := 4) (by decide)
  have hn5 := lv_neT hc5 (a := 5) (by decide)
  refine lv_tableOut (tgt := 94) hx hb d_X12_worked_1 (by omega) (by decide) ?_
  refine lv_iload_n hx hb d_X12_worked_94 rfl (lv_at hl 2 rfl) ?_
  refine lv_if_ne (tgt := 102) hx hb d_X12_worked_95 (by decide) (fun hc => ?_) (fun hc => ?_)
  · have h := ite_f h hc
    refine lv_iload_n hx hb d_X12_worked_102 rfl (lv_at hl 1 rfl) ?_
    refine lv_iload_n hx hb d_X12_worked_103 rfl (lv_at hl 2 rfl) ?_
    obtain ⟨hz7, h⟩ := gd_some h
    refine lv_idiv hx hb d_X12_worked_104 (nz_ne hz7) ?_
    obtain rfl := Option.some.inj h
    subst hQ
    exact r_iret X hr hlk hw d_X12_worked_105
  · have h := ite_t h hc
    refine lv_iconst (v := (0 : Int32)) hx hb d_X12_worked_98 (by decide) ?_
    refine lv_goto (tgt := 105) hx hb d_X12_worked_99 (by decide) ?_
    obtain rfl := Option.some.inj h
    subst hQ
    exact r_iret X hr hlk hw d_X12_worked_105
abbrev yX12_ruled : MethodName := ⟨"OysterBedsModel", "ruled", "()I"⟩
theorem mwX12_ruled : MW yX12_ruled prog_14_method_37_code 4 (some .int) 0 := ⟨wd_1276, wd_10, by decide +kernel⟩
theorem d_X12_ruled_0 : decode prog_14_method_37_code 0 = .ok (.iconst 0, 1) := by decide +kernel
theorem d_X12_ruled_1 : decode prog_14_method_37_code 1 = .ok (.istore_n 1, 1) := by decide +kernel
theorem d_X12_ruled_2 : decode prog_14_method_37_code 2 = .ok (.iconst 0, 1) := by decide +kernel
theorem d_X12_ruled_3 : decode prog_14_method_37_code 3 = .ok (.istore_n 2, 1) := by decide +kernel
theorem d_X12_ruled_4 : decode prog_14_method_37_code 4 = .ok (.iload_n 2, 1) := by decide +kernel
theorem d_X12_ruled_5 : decode prog_14_method_37_code 5 = .ok (.aload_n 0, 1) := by decide +kernel
theorem d_X12_ruled_6 : decode prog_14_method_37_code 6 = .ok (.getfield 214, 3) := by decide +kernel
theorem d_X12_ruled_9 : decode prog_14_method_37_code 9 = .ok (.if_icmp .ge 116, 3) := by decide +kernel
theorem d_X12_ruled_12 : decode prog_14_method_37_code 12 = .ok (.aload_n 0, 1) := by decide +kernel
theorem d_X12_ruled_13 : decode prog_14_method_37_code 13 = .ok (.getfield 29, 3) := by decide +kernel
theorem d_X12_ruled_16 : decode prog_14_method_37_code 16 = .ok (.iload_n 2, 1) := by decide +kernel
theorem d_X12_ruled_17 : decode prog_14_method_37_code 17 = .ok (.iaload, 1) := by decide +kernel
theorem d_X12_ruled_18 : decode prog_14_method_37_code 18 = .ok (.istore_n 3, 1) := by decide +kernel
theorem d_X12_ruled_19 : decode prog_14_method_37_code 19 = .ok (.iload_n 3, 1) := by decide +kernel
theorem d_X12_ruled_20 : decode prog_14_method_37_code 20 = .ok (.sipush 3000, 3) := by decide +kernel
theorem d_X12_ruled_23 : decode prog_14_method_37_code 23 = .ok (.if_icmp .ne 23, 3) := by decide +kernel
theorem d_X12_ruled_26 : decode prog_14_method_37_code 26 = .ok (.aload_n 0, 1) := by decide +kernel
theorem d_X12_ruled_27 : decode prog_14_method_37_code 27 = .ok (.getfield 35, 3) := by decide +kernel
theorem d_X12_ruled_30 : decode prog_14_method_37_code 30 = .ok (.iload_n 1, 1) := by decide +kernel
theorem d_X12_ruled_31 : decode prog_14_method_37_code 31 = .ok (.iconst 1, 1) := by decide +kernel
theorem d_X12_ruled_32 : decode prog_14_method_37_code 32 = .ok (.isub, 1) := by decide +kernel
theorem d_X12_ruled_33 : decode prog_14_method_37_code 33 = .ok (.aload_n 0, 1) := by decide +kernel
theorem d_X12_ruled_34 : decode prog_14_method_37_code 34 = .ok (.getfield 35, 3) := by decide +kernel
theorem d_X12_ruled_37 : decode prog_14_method_37_code 37 = .ok (.iload_n 1, 1) := by decide +kernel
theorem d_X12_ruled_38 : decode prog_14_method_37_code 38 = .ok (.iconst 1, 1) := by decide +kernel
theorem d_X12_ruled_39 : decode prog_14_method_37_code 39 = .ok (.isub, 1) := by decide +kernel
theorem d_X12_ruled_40 : decode prog_14_method_37_code 40 = .ok (.iaload, 1) := by decide +kernel
theorem d_X12_ruled_41 : decode prog_14_method_37_code 41 = .ok (.ineg, 1) := by decide +kernel
theorem d_X12_ruled_42 : decode prog_14_method_37_code 42 = .ok (.iastore, 1) := by decide +kernel
theorem d_X12_ruled_43 : decode prog_14_method_37_code 43 = .ok (.goto 76, 3) := by decide +kernel
theorem d_X12_ruled_46 : decode prog_14_method_37_code 46 = .ok (.iload_n 3, 1) := by decide +kernel
theorem d_X12_ruled_47 : decode prog_14_method_37_code 47 = .ok (.sipush 2000, 3) := by decide +kernel
theorem d_X12_ruled_50 : decode prog_14_method_37_code 50 = .ok (.if_icmp .lt 39, 3) := by decide +kernel
theorem d_X12_ruled_53 : decode prog_14_method_37_code 53 = .ok (.iinc 1 (-1), 3) := by decide +kernel
theorem d_X12_ruled_56 : decode prog_14_method_37_code 56 = .ok (.aload_n 0, 1) := by decide +kernel
theorem d_X12_ruled_57 : decode prog_14_method_37_code 57 = .ok (.getfield 35, 3) := by decide +kernel
theorem d_X12_ruled_60 : decode prog_14_method_37_code 60 = .ok (.iload_n 1, 1) := by decide +kernel
theorem d_X12_ruled_61 : decode prog_14_method_37_code 61 = .ok (.iconst 1, 1) := by decide +kernel
theorem d_X12_ruled_62 : decode prog_14_method_37_code 62 = .ok (.isub, 1) := by decide +kernel
theorem d_X12_ruled_63 : decode prog_14_method_37_code 63 = .ok (.iload_n 3, 1) := by decide +kernel
theorem d_X12_ruled_64 : decode prog_14_method_37_code 64 = .ok (.sipush 2000, 3) := by decide +kernel
theorem d_X12_ruled_67 : decode prog_14_method_37_code 67 = .ok (.isub, 1) := by decide +kernel
theorem d_X12_ruled_68 : decode prog_14_method_37_code 68 = .ok (.aload_n 0, 1) := by decide +kernel
theorem d_X12_ruled_69 : decode prog_14_method_37_code 69 = .ok (.getfield 35, 3) := by decide +kernel
theorem d_X12_ruled_72 : decode prog_14_method_37_code 72 = .ok (.iload_n 1, 1) := by decide +kernel
theorem d_X12_ruled_73 : decode prog_14_method_37_code 73 = .ok (.iconst 1, 1) := by decide +kernel
theorem d_X12_ruled_74 : decode prog_14_method_37_code 74 = .ok (.isub, 1) := by decide +kernel
theorem d_X12_ruled_75 : decode prog_14_method_37_code 75 = .ok (.iaload, 1) := by decide +kernel
theorem d_X12_ruled_76 : decode prog_14_method_37_code 76 = .ok (.aload_n 0, 1) := by decide +kernel
theorem d_X12_ruled_77 : decode prog_14_method_37_code 77 = .ok (.getfield 35, 3) := by decide +kernel
theorem d_X12_ruled_80 : decode prog_14_method_37_code 80 = .ok (.iload_n 1, 1) := by decide +kernel
theorem d_X12_ruled_81 : decode prog_14_method_37_code 81 = .ok (.iaload, 1) := by decide +kernel
theorem d_X12_ruled_82 : decode prog_14_method_37_code 82 = .ok (.invokestatic 224, 3) := by decide +kernel
theorem d_X12_ruled_85 : decode prog_14_method_37_code 85 = .ok (.iastore, 1) := by decide +kernel
theorem d_X12_ruled_86 : decode prog_14_method_37_code 86 = .ok (.goto 33, 3) := by decide +kernel
theorem d_X12_ruled_89 : decode prog_14_method_37_code 89 = .ok (.aload_n 0, 1) := by decide +kernel
theorem d_X12_ruled_90 : decode prog_14_method_37_code 90 = .ok (.getfield 35, 3) := by decide +kernel
theorem d_X12_ruled_93 : decode prog_14_method_37_code 93 = .ok (.iload_n 1, 1) := by decide +kernel
theorem d_X12_ruled_94 : decode prog_14_method_37_code 94 = .ok (.iload_n 3, 1) := by decide +kernel
theorem d_X12_ruled_95 : decode prog_14_method_37_code 95 = .ok (.sipush 1000, 3) := by decide +kernel
theorem d_X12_ruled_98 : decode prog_14_method_37_code 98 = .ok (.if_icmp .lt 16, 3) := by decide +kernel
theorem d_X12_ruled_101 : decode prog_14_method_37_code 101 = .ok (.aload_n 0, 1) := by decide +kernel
theorem d_X12_ruled_102 : decode prog_14_method_37_code 102 = .ok (.getfield 38, 3) := by decide +kernel
theorem d_X12_ruled_105 : decode prog_14_method_37_code 105 = .ok (.iload_n 3, 1) := by decide +kernel
theorem d_X12_ruled_106 : decode prog_14_method_37_code 106 = .ok (.sipush 1000, 3) := by decide +kernel
theorem d_X12_ruled_109 : decode prog_14_method_37_code 109 = .ok (.isub, 1) := by decide +kernel
theorem d_X12_ruled_110 : decode prog_14_method_37_code 110 = .ok (.iaload, 1) := by decide +kernel
theorem d_X12_ruled_111 : decode prog_14_method_37_code 111 = .ok (.goto 4, 3) := by decide +kernel
theorem d_X12_ruled_114 : decode prog_14_method_37_code 114 = .ok (.iload_n 3, 1) := by decide +kernel
theorem d_X12_ruled_115 : decode prog_14_method_37_code 115 = .ok (.iastore, 1) := by decide +kernel
theorem d_X12_ruled_116 : decode prog_14_method_37_code 116 = .ok (.iinc 1 1, 3) := by decide +kernel
theorem d_X12_ruled_119 : decode prog_14_method_37_code 119 = .ok (.iinc 2 1, 3) := by decide +kernel
theorem d_X12_ruled_122 : decode prog_14_method_37_code 122 = .ok (.goto (-118), 3) := by decide +kernel
theorem d_X12_ruled_125 : decode prog_14_method_37_code 125 = .ok (.aload_n 0, 1) := by decide +kernel
theorem d_X12_ruled_126 : decode prog_14_method_37_code 126 = .ok (.getfield 214, 3) := by decide +kernel
theorem d_X12_ruled_129 : decode prog_14_method_37_code 129 = .ok (.ifCond .ne 29, 3) := by decide +kernel
theorem d_X12_ruled_132 : decode prog_14_method_37_code 132 = .ok (.aload_n 0, 1) := by decide +kernel
theorem d_X12_ruled_133 : decode prog_14_method_37_code 133 = .ok (.getfield 38, 3) := by decide +kernel
theorem d_X12_ruled_136 : decode prog_14_method_37_code 136 = .ok (.iconst 1, 1) := by decide +kernel
theorem d_X12_ruled_137 : decode prog_14_method_37_code 137 = .ok (.iaload, 1) := by decide +kernel
theorem d_X12_ruled_138 : decode prog_14_method_37_code 138 = .ok (.bipush 9, 2) := by decide +kernel
theorem d_X12_ruled_140 : decode prog_14_method_37_code 140 = .ok (.imul, 1) := by decide +kernel
theorem d_X12_ruled_141 : decode prog_14_method_37_code 141 = .ok (.aload_n 0, 1) := by decide +kernel
theorem d_X12_ruled_142 : decode prog_14_method_37_code 142 = .ok (.getfield 38, 3) := by decide +kernel
theorem d_X12_ruled_145 : decode prog_14_method_37_code 145 = .ok (.iconst 0, 1) := by decide +kernel
theorem d_X12_ruled_146 : decode prog_14_method_37_code 146 = .ok (.iaload, 1) := by decide +kernel
theorem d_X12_ruled_147 : decode prog_14_method_37_code 147 = .ok (.isub, 1) := by decide +kernel
theorem d_X12_ruled_148 : decode prog_14_method_37_code 148 = .ok (.aload_n 0, 1) := by decide +kernel
theorem d_X12_ruled_149 : decode prog_14_method_37_code 149 = .ok (.getfield 38, 3) := by decide +kernel
theorem d_X12_ruled_152 : decode prog_14_method_37_code 152 = .ok (.iconst 3, 1) := by decide +kernel
theorem d_X12_ruled_153 : decode prog_14_method_37_code 153 = .ok (.iaload, 1) := by decide +kernel
theorem d_X12_ruled_154 : decode prog_14_method_37_code 154 = .ok (.iadd, 1) := by decide +kernel
theorem d_X12_ruled_155 : decode prog_14_method_37_code 155 = .ok (.goto 9, 3) := by decide +kernel
theorem d_X12_ruled_158 : decode prog_14_method_37_code 158 = .ok (.aload_n 0, 1) := by decide +kernel
theorem d_X12_ruled_159 : decode prog_14_method_37_code 159 = .ok (.getfield 35, 3) := by decide +kernel
theorem d_X12_ruled_162 : decode prog_14_method_37_code 162 = .ok (.iconst 0, 1) := by decide +kernel
theorem d_X12_ruled_163 : decode prog_14_method_37_code 163 = .ok (.iaload, 1) := by decide +kernel
theorem d_X12_ruled_164 : decode prog_14_method_37_code 164 = .ok (.ireturn, 1) := by decide +kernel
def f_X12_ruled_j119_4 (τ : St) (x1 : Int32) (x2 : Int32) : Option ((Int32 × Int32 × St) ⊕ (St)) := some (.inl (x1, (x2 + (1 : Int32)), τ))
def f_X12_ruled_j115_4 (τ : St) (x1 : Int32) (x2 : Int32) (s1 : Int32) (s2 : Int32) : Option ((Int32 × Int32 × St) ⊕ (St)) := gd (inb s1 80) (f_X12_ruled_j119_4 (sA τ 319 s1.toNatClampNeg s2) (x1 + (1 : Int32)) x2)
def f_X12_ruled_s4 (τ : St) (x1 : Int32) (x2 : Int32) : Option ((Int32 × Int32 × St) ⊕ (St)) := (if (cF τ 300 17) ≤ x2 then some (.inr τ) else gd (inb x2 80) ((if (cA τ 315 x2.toNatClampNeg) = (3000 : Int32) then gd (inb (x1 - (1 : Int32)) 80) (gd (inb (x1 - (1 : Int32)) 80) (f_X12_ruled_j119_4 (sA τ 319 (x1 - (1 : Int32)).toNatClampNeg (-(cA τ 319 (x1 - (1 : Int32)).toNatClampNeg))) x1 x2)) else (if (cA τ 315 x2.toNatClampNeg) < (2000 : Int32) then (if (cA τ 315 x2.toNatClampNeg) < (1000 : Int32) then f_X12_ruled_j115_4 τ x1 x2 x1 (cA τ 315 x2.toNatClampNeg) else gd (inb ((cA τ 315 x2.toNatClampNeg) - (1000 : Int32)) 7) (f_X12_ruled_j115_4 τ x1 x2 x1 (cA τ 320 ((cA τ 315 x2.toNatClampNeg) - (1000 : Int32)).toNatClampNeg))) else gd (inb ((x1 + (-1 : Int32)) - (1 : Int32)) 80) (gd (inb (x1 + (-1 : Int32)) 80) ((f_X12_worked ((cA τ 315 x2.toNatClampNeg) - (2000 : Int32)) (cA τ 319 ((x1 + (-1 : Int32)) - (1 : Int32)).toNatClampNeg) (cA τ 319 (x1 + (-1 : Int32)).toNatClampNeg)).bind (fun q6 => gd (inb ((x1 + (-1 : Int32)) - (1 : Int32)) 80) (f_X12_ruled_j119_4 (sA τ 319 ((x1 + (-1 : Int32)) - (1 : Int32)).toNatClampNeg q6) (x1 + (-1 : Int32)) x2))))))))
def f_X12_ruled (σ : St) : Option (Int32 × St) := (iter (fun z => f_X12_ruled_s4 z.2.2 z.1 z.2.1) FU ((0 : Int32), (0 : Int32), σ)).bind (fun z11 => (if (cF z11 300 17) = 0 then gd (inb (1 : Int32) 7) (gd (inb (0 : Int32) 7) (gd (inb (3 : Int32) 7) (some (((((cA z11 320 (1 : Int32).toNatClampNeg) * (9 : Int32)) - (cA z11 320 (0 : Int32).toNatClampNeg)) + (cA z11 320 (3 : Int32).toNatClampNeg)), z11)))) else gd (inb (0 : Int32) 80) (some ((cA z11 319 (0 : Int32).toNatClampNeg), z11))))
theorem c_X12_ruled {l : Launch} {G : gT} {χ σ : St} (hf : FW G) {q : Int32 × St} (h : f_X12_ruled σ = some q) : Ct l G yX12_ruled prog_14_method_37_code 4 (some .int) 2 42 [.ref (ga G 300)] χ σ (some (.int q.1)) χ q.2 := by
  refine Ct.of (by decide) (Nat.le_of_ble_eq_true rfl) ?_
  intro p e s m args below meth c Q X hr hlk hQ
  have hx := X.1
  have hb := X.2.1
  have j119_4 : ∀ (τ : St) (x1 : Int32) (x2 : Int32) (o : (Int32 × Int32 × St) ⊕ (St)), f_X12_ruled_j119_4 τ x1 x2 = some o → Sum.elim (fun z : Int32 × Int32 × St => Wat p l e (rmk 2 42) s m args below meth c Q G 4 4 [] [(1, .int z.1), (2, .int z.2.1), (0, .ref (ga G 300))] χ z.2.2) (fun z : St => Wat p l e (rmk 2 42) s m args below meth c Q G 4 125 [] [(0, .ref (ga G 300))] χ z) o → Wat p l e (rmk 2 42) s m args below meth c Q G 4 119 [] [(0, .ref (ga G 300)), (1, .int x1), (2, .int x2)] χ τ := by
    intro τ x1 x2 o h hk H locs ls hw hl
    unfold f_X12_ruled_j119_4 at h
    refine lv_iinc (v := (x2 + (1 : Int32))) (k := 2) (lv' := [(2, .int (x2 + (1 : Int32))), (0, .ref (ga G 300)), (1, .int x1)]) hx hb d_X12_ruled_119 hl rfl (by rfl) (Nat.le_of_ble_eq_true rfl) rfl (fun ls hl => ?_)
    refine lv_goto (tgt := 4) hx hb d_X12_ruled_122 (by decide) ?_
    obtain rfl := Option.some.inj h
    dsimp only [Sum.elim_inl] at hk
    exact hk _ _ _ hw (lv_sub hl [2, 0, 1] rfl)
  have j115_4 : ∀ (τ : St) (x1 : Int32) (x2 : Int32) (s1 : Int32) (s2 : Int32) (o : (Int32 × Int32 × St) ⊕ (St)), f_X12_ruled_j115_4 τ x1 x2 s1 s2 = some o → Sum.elim (fun z : Int32 × Int32 × St => Wat p l e (rmk 2 42) s m args below meth c Q G 4 4 [] [(1, .int z.1), (2, .int z.2.1), (0, .ref (ga G 300))] χ z.2.2) (fun z : St => Wat p l e (rmk 2 42) s m args below meth c Q G 4 125 [] [(0, .ref (ga G 300))] χ z) o → Wat p l e (rmk 2 42) s m args below meth c Q G 4 115 [.int s2, .int s1, .ref (ga G 319)] [(0, .ref (ga G 300)), (1, .int x1), (2, .int x2)] χ τ := by
    intro τ x1 x2 s1 s2 o h hk H locs ls hw hl
    unfold f_X12_ruled_j115_4 at h
    obtain ⟨hi2, h⟩ := gd_some h
    refine m_iast X hw (o_319 hf) (Nat.le_of_ble_eq_true rfl) hi2 d_X12_ruled_115 (fun H locs hw => ?_)
    refine lv_iinc (v := (x1 + (1 : Int32))) (k := 1) (lv' := [(1, .int (x1 + (1 : Int32))), (0, .ref (ga G 300)), (2, .int x2)]) hx hb d_X12_ruled_116 hl rfl (by rfl) (Nat.le_of_ble_eq_true rfl) rfl (fun ls hl => ?_)
    exact j119_4 (sA τ 319 s1.toNatClampNeg s2) (x1 + (1 : Int32)) x2 o h hk _ _ _ hw (lv_sub hl [1, 0, 2] rfl)
  have b4 : ∀ (τ : St) (x1 : Int32) (x2 : Int32) (o : (Int32 × Int32 × St) ⊕ (St)), f_X12_ruled_s4 τ x1 x2 = some o → Sum.elim (fun z : Int32 × Int32 × St => Wat p l e (rmk 2 42) s m args below meth c Q G 4 4 [] [(1, .int z.1), (2, .int z.2.1), (0, .ref (ga G 300))] χ z.2.2) (fun z : St => Wat p l e (rmk 2 42) s m args below meth c Q G 4 125 [] [(0, .ref (ga G 300))] χ z) o → Wat p l e (rmk 2 42) s m args below meth c Q G 4 4 [] [(1, .int x1), (2, .int x2), (0, .ref (ga G 300))] χ τ := by
    intro τ x1 x2 o h hk H locs ls hw hl
    unfold f_X12_ruled_s4 at h
    refine lv_iload_n hx hb d_X12_ruled_4 rfl (lv_at hl 1 rfl) ?_
    refine lv_aload_n hx hb d_X12_ruled_5 rfl (lv_at hl 2 rfl) ?_
    refine m_geti (j := 17) X hw ct8 (o_300 hf) (Nat.le_of_ble_eq_true rfl) rfl (Nat.le_of_ble_eq_true rfl) wd_973 d_X12_ruled_6 ?_
    refine lv_icmp_ge (tgt := 125) hx hb d_X12_ruled_9 (by decide) (fun hc => ?_) (fun hc => ?_)
    · have h := ite_t h hc
      obtain rfl := Option.some.inj h
      dsimp only [Sum.elim_inr] at hk
      exact hk _ _ _ hw (lv_sub hl [2] rfl)
    · have h := ite_f h hc
      refine lv_aload_n hx hb d_X12_ruled_12 rfl (lv_at hl 2 rfl) ?_
      refine r_getr (j := 15) X hw ct8 (o_300 hf) rfl (Nat.le_of_ble_eq_true rfl) (q := 315) rfl wd_971 d_X12_ruled_13 ?_
      refine lv_iload_n hx hb d_X12_ruled_16 rfl (lv_at hl 1 rfl) ?_
      obtain ⟨hi1, h⟩ := gd_some h
      refine m_iald X hw (o_315 hf) (Nat.le_of_ble_eq_true rfl) hi1 d_X12_ruled_17 ?_
      refine lv_istore_n (lv' := [(3, .int (cA τ 315 x2.toNatClampNeg)), (1, .int x1), (2, .int x2), (0, .ref (ga G 300))]) hx hb d_X12_ruled_18 rfl hl (Nat.le_of_ble_eq_true rfl) rfl (fun ls hl => ?_)
      refine lv_iload_n hx hb d_X12_ruled_19 rfl (lv_at hl 0 rfl) ?_
      refine lv_sipush (v := (3000 : Int32)) hx hb d_X12_ruled_20 (by decide) ?_
      refine lv_icmp_ne (tgt := 46) hx hb d_X12_ruled_23 (by decide) (fun hc => ?_) (fun hc => ?_)
      · have h := ite_f h hc
        refine lv_iload_n hx hb d_X12_ruled_46 rfl (lv_at hl 0 rfl) ?_
        refine lv_sipush (v := (2000 : Int32)) hx hb d_X12_ruled_47 (by decide) ?_
        refine lv_icmp_lt (tgt := 89) hx hb d_X12_ruled_50 (by decide) (fun hc => ?_) (fun hc => ?_)
        · have h := ite_t h hc
          refine lv_aload_n hx hb d_X12_ruled_89 rfl (lv_at hl 3 rfl) ?_
          refine r_getr (j := 19) X hw ct8 (o_300 hf) rfl (Nat.le_of_ble_eq_true rfl) (q := 319) rfl wd_975 d_X12_ruled_90 ?_
          refine lv_iload_n hx hb d_X12_ruled_93 rfl (lv_at hl 1 rfl) ?_
          refine lv_iload_n hx hb d_X12_ruled_94 rfl (lv_at hl 0 rfl) ?_
          refine lv_sipush (v := (1000 : Int32)) hx hb d_X12_ruled_95 (by decide) ?_
          refine lv_icmp_lt (tgt := 114) hx hb d_X12_ruled_98 (by decide) (fun hc => ?_) (fun hc => ?_)
          · have h := ite_t h hc
            refine lv_iload_n hx hb d_X12_ruled_114 rfl (lv_at hl 0 rfl) ?_
            exact j115_4 τ x1 x2 x1 (cA τ 315 x2.toNatClampNeg) o h hk _ _ _ hw (lv_sub hl [3, 1, 2] rfl)
          · have h := ite_f h hc
            refine lv_aload_n hx hb d_X12_ruled_101 rfl (lv_at hl 3 rfl) ?_
            refine r_getr (j := 20) X hw ct8 (o_300 hf) rfl (Nat.le_of_ble_eq_true rfl) (q := 320) rfl wd_976 d_X12_ruled_102 ?_
            refine lv_iload_n hx hb d_X12_ruled_105 rfl (lv_at hl 0 rfl) ?_
            refine lv_sipush (v := (1000 : Int32)) hx hb d_X12_ruled_106 (by decide) ?_
            refine lv_isub hx hb d_X12_ruled_109 ?_
            obtain ⟨hi3, h⟩ := gd_some h
            refine m_iald X hw (o_320 hf) (Nat.le_of_ble_eq_true rfl) hi3 d_X12_ruled_110 ?_
            refine lv_goto (tgt := 115) hx hb d_X12_ruled_111 (by decide) ?_
            exact j115_4 τ x1 x2 x1 (cA τ 320 ((cA τ 315 x2.toNatClampNeg) - (1000 : Int32)).toNatClampNeg) o h hk _ _ _ hw (lv_sub hl [3, 1, 2] rfl)
        · have h := ite_f h hc
          refine lv_iinc (v := (x1 + (-1 : Int32))) (k := 1) (lv' := [(1, .int (x1 + (-1 : Int32))), (3, .int (cA τ 315 x2.toNatClampNeg)), (2, .int x2), (0, .ref (ga G 300))]) hx hb d_X12_ruled_53 hl rfl (by rfl) (Nat.le_of_ble_eq_true rfl) rfl (fun ls hl => ?_)
          refine lv_aload_n hx hb d_X12_ruled_56 rfl (lv_at hl 3 rfl) ?_
          refine r_getr (j := 19) X hw ct8 (o_300 hf) rfl (Nat.le_of_ble_eq_true rfl) (q := 319) rfl wd_975 d_X12_ruled_57 ?_
          refine lv_iload_n hx hb d_X12_ruled_60 rfl (lv_at hl 0 rfl) ?_
          refine lv_iconst (v := (1 : Int32)) hx hb d_X12_ruled_61 (by decide) ?_
          refine lv_isub hx hb d_X12_ruled_62 ?_
          refine lv_iload_n hx hb d_X12_ruled_63 rfl (lv_at hl 1 rfl) ?_
          refine lv_sipush (v := (2000 : Int32)) hx hb d_X12_ruled_64 (by decide) ?_
          refine lv_isub hx hb d_X12_ruled_67 ?_
          refine lv_aload_n hx hb d_X12_ruled_68 rfl (lv_at hl 3 rfl) ?_
          refine r_getr (j := 19) X hw ct8 (o_300 hf) rfl (Nat.le_of_ble_eq_true rfl) (q := 319) rfl wd_975 d_X12_ruled_69 ?_
          refine lv_iload_n hx hb d_X12_ruled_72 rfl (lv_at hl 0 rfl) ?_
          refine lv_iconst (v := (1 : Int32)) hx hb d_X12_ruled_73 (by decide) ?_
          refine lv_isub hx hb d_X12_ruled_74 ?_
          obtain ⟨hi4, h⟩ := gd_some h
          refine m_iald X hw (o_319 hf) (Nat.le_of_ble_eq_true rfl) hi4 d_X12_ruled_75 ?_
          refine lv_aload_n hx hb d_X12_ruled_76 rfl (lv_at hl 3 rfl) ?_
          refine r_getr (j := 19) X hw ct8 (o_300 hf) rfl (Nat.le_of_ble_eq_true rfl) (q := 319) rfl wd_975 d_X12_ruled_77 ?_
          refine lv_iload_n hx hb d_X12_ruled_80 rfl (lv_at hl 0 rfl) ?_
          obtain ⟨hi5, h⟩ := gd_some h
          refine m_iald X hw (o_319 hf) (Nat.le_of_ble_eq_true rfl) hi5 d_X12_ruled_81 ?_
          obtain ⟨q6, e7, h⟩ := bd_some h
          refine r_callS (As := [.int ((cA τ 315 x2.toNatClampNeg) - (2000 : Int32)), .int (cA τ 319 ((x1 + (-1 : Int32)) - (1 : Int32)).toNatClampNeg), .int (cA τ 319 (x1 + (-1 : Int32)).toNatClampNeg)]) (rest := [.int ((x1 + (-1 : Int32)) - (1 : Int32)), .ref (ga G 319)]) (st' := [.int q6, .int ((x1 + (-1 : Int32)) - (1 : Int32)), .ref (ga G 319)]) X hw hl mwX12_worked wd_1278 wd_1277 (c_X12_worked hf e7) rfl ⟨Nat.le_of_ble_eq_true rfl, Nat.le_of_ble_eq_true rfl⟩ ⟨Nat.le_refl _, Nat.le_refl _⟩ rfl rfl (Nat.le_of_ble_eq_true rfl) d_X12_ruled_82 (fun H locs hw => ?_)
          obtain ⟨hi8, h⟩ := gd_some h
          refine m_iast X hw (o_319 hf) (Nat.le_of_ble_eq_true rfl) hi8 d_X12_ruled_85 (fun H locs hw => ?_)
          refine lv_goto (tgt := 119) hx hb d_X12_ruled_86 (by decide) ?_
          exact j119_4 (sA τ 319 ((x1 + (-1 : Int32)) - (1 : Int32)).toNatClampNeg q6) (x1 + (-1 : Int32)) x2 o h hk _ _ _ hw (lv_sub hl [3, 0, 2] rfl)
      · have h := ite_t h hc
        refine lv_aload_n hx hb d_X12_ruled_26 rfl (lv_at hl 3 rfl) ?_
        refine r_getr (j := 19) X hw ct8 (o_300 hf) rfl (Nat.le_of_ble_eq_true rfl) (q := 319) rfl wd_975 d_X12_ruled_27 ?_
        refine lv_iload_n hx hb d_X12_ruled_30 rfl (lv_at hl 1 rfl) ?_
        refine lv_iconst (v := (1 : Int32)) hx hb d_X12_ruled_31 (by decide) ?_
        refine lv_isub hx hb d_X12_ruled_32 ?_
        refine lv_aload_n hx hb d_X12_ruled_33 rfl (lv_at hl 3 rfl) ?_
        refine r_getr (j := 19) X hw ct8 (o_300 hf) rfl (Nat.le_of_ble_eq_true rfl) (q := 319) rfl wd_975 d_X12_ruled_34 ?_
        refine lv_iload_n hx hb d_X12_ruled_37 rfl (lv_at hl 1 rfl) ?_
        refine lv_iconst (v := (1 : Int32)) hx hb d_X12_ruled_38 (by decide) ?_
        refine lv_isub hx hb d_X12_ruled_39 ?_
        obtain ⟨hi9, h⟩ := gd_some h
        refine m_iald X hw (o_319 hf) (Nat.le_of_ble_eq_true rfl) hi9 d_X12_ruled_40 ?_
        refine lv_ineg hx hb d_X12_ruled_41 ?_
        obtain ⟨hi10, h⟩ := gd_some h
        refine m_iast X hw (o_319 hf) (Nat.le_of_ble_eq_true rfl) hi10 d_X12_ruled_42 (fun H locs hw => ?_)
        refine lv_goto (tgt := 119) hx hb d_X12_ruled_43 (by decide) ?_
        exact j119_4 (sA τ 319 (x1 - (1 : Int32)).toNatClampNeg (-(cA τ 319 (x1 - (1 : Int32)).toNatClampNeg))) x1 x2 o h hk _ _ _ hw (lv_sub hl [3, 1, 2] rfl)
  intro H locs ls hw hl
  have hl : lv_has ls 4 [(0, .ref (ga G 300))] := hl
  unfold f_X12_ruled at h
  refine lv_iconst (v := (0 : Int32)) hx hb d_X12_ruled_0 (by decide) ?_
  refine lv_istore_n (lv' := [(1, .int (0 : Int32)), (0, .ref (ga G 300))]) hx hb d_X12_ruled_1 rfl hl (Nat.le_of_ble_eq_true rfl) rfl (fun ls hl => ?_)
  refine lv_iconst (v := (0 : Int32)) hx hb d_X12_ruled_2 (by decide) ?_
  refine lv_istore_n (lv' := [(2, .int (0 : Int32)), (1, .int (0 : Int32)), (0, .ref (ga G 300))]) hx hb d_X12_ruled_3 rfl hl (Nat.le_of_ble_eq_true rfl) rfl (fun ls hl => ?_)
  obtain ⟨z11, e12, h⟩ := bd_some h
  refine iter_w (Wh := fun z : Int32 × Int32 × St => Wat p l e (rmk 2 42) s m args below meth c Q G 4 4 [] [(1, .int z.1), (2, .int z.2.1), (0, .ref (ga G 300))] χ z.2.2) (K := fun z : St => Wat p l e (rmk 2 42) s m args below meth c Q G 4 125 [] [(0, .ref (ga G 300))] χ z) (fun z o h1 h2 => b4 z.2.2 z.1 z.2.1 o h1 h2) FU _ _ e12 ?_ _ _ _ hw (lv_sub hl [1, 0, 2] rfl)
  intro H locs ls hw hl
  refine lv_aload_n hx hb d_X12_ruled_125 rfl (lv_at hl 0 rfl) ?_
  refine m_geti (j := 17) X hw ct8 (o_300 hf) (Nat.le_of_ble_eq_true rfl) rfl (Nat.le_of_ble_eq_true rfl) wd_973 d_X12_ruled_126 ?_
  refine lv_if_ne (tgt := 158) hx hb d_X12_ruled_129 (by decide) (fun hc => ?_) (fun hc => ?_)
  · have h := ite_f h hc
    refine lv_aload_n hx hb d_X12_ruled_158 rfl (lv_at hl 0 rfl) ?_
    refine r_getr (j := 19) X hw ct8 (o_300 hf) rfl (Nat.le_of_ble_eq_true rfl) (q := 319) rfl wd_975 d_X12_ruled_159 ?_
    refine lv_iconst (v := (0 : Int32)) hx hb d_X12_ruled_162 (by decide) ?_
    obtain ⟨hi14, h⟩ := gd_some h
    refine m_iald X hw (o_319 hf) (Nat.le_of_ble_eq_true rfl) hi14 d_X12_ruled_163 ?_
    obtain rfl := Option.some.inj h
    subst hQ
    exact r_iret X hr hlk hw d_X12_ruled_164
  · have h := ite_t h hc
    refine lv_aload_n hx hb d_X12_ruled_132 rfl (lv_at hl 0 rfl) ?_
    refine r_getr (j := 20) X hw ct8 (o_300 hf) rfl (Nat.le_of_ble_eq_true rfl) (q := 320) rfl wd_976 d_X12_ruled_133 ?_
    refine lv_iconst (v := (1 : Int32)) hx hb d_X12_ruled_136 (by decide) ?_
    obtain ⟨hi15, h⟩ := gd_some h
    refine m_iald X hw (o_320 hf) (Nat.le_of_ble_eq_true rfl) hi15 d_X12_ruled_137 ?_
    refine lv_bipush (v := (9 : Int32)) hx hb d_X12_ruled_138 (by decide) ?_
    refine lv_imul hx hb d_X12_ruled_140 ?_
    refine lv_aload_n hx hb d_X12_ruled_141 rfl (lv_at hl 0 rfl) ?_
    refine r_getr (j := 20) X hw ct8 (o_300 hf) rfl (Nat.le_of_ble_eq_true rfl) (q := 320) rfl wd_976 d_X12_ruled_142 ?_
    refine lv_iconst (v := (0 : Int32)) hx hb d_X12_ruled_145 (by decide) ?_
    obtain ⟨hi16, h⟩ := gd_some h
    refine m_iald X hw (o_320 hf) (Nat.le_of_ble_eq_true rfl) hi16 d_X12_ruled_146 ?_
    refine lv_isub hx hb d_X12_ruled_147 ?_
    refine lv_aload_n hx hb d_X12_ruled_148 rfl (lv_at hl 0 rfl) ?_
    refine r_getr (j := 20) X hw ct8 (o_300 hf) rfl (Nat.le_of_ble_eq_true rfl) (q := 320) rfl wd_976 d_X12_ruled_149 ?_
    refine lv_iconst (v := (3 : Int32)) hx hb d_X12_ruled_152 (by decide) ?_
    obtain ⟨hi17, h⟩ := gd_some h
    refine m_iald X hw (o_320 hf) (Nat.le_of_ble_eq_true rfl) hi17 d_X12_ruled_153 ?_
    refine lv_iadd hx hb d_X12_ruled_154 ?_
    refine lv_goto (tgt := 164) hx hb d_X12_ruled_155 (by decide) ?_
    obtain rfl := Option.some.inj h
    subst hQ
    exact r_iret X hr hlk hw d_X12_ruled_164
abbrev yX12_closing : MethodName := ⟨"OysterBedsModel", "closing", "([III)I"⟩
theorem mwX12_closing : MW yX12_closing prog_14_method_38_code 7 (some .int) 3 := ⟨wd_1260, wd_10, by decide +kernel⟩
theorem d_X12_closing_0 : decode prog_14_method_38_code 0 = .ok (.aload_n 0, 1) := by decide +kernel
theorem d_X12_closing_1 : decode prog_14_method_38_code 1 = .ok (.aload_n 1, 1) := by decide +kernel
theorem d_X12_closing_2 : decode prog_14_method_38_code 2 = .ok (.invokevirtual 228, 3) := by decide +kernel
theorem d_X12_closing_5 : decode prog_14_method_38_code 5 = .ok (.istore 4, 2) := by decide +kernel
theorem d_X12_closing_7 : decode prog_14_method_38_code 7 = .ok (.iconst 0, 1) := by decide +kernel
theorem d_X12_closing_8 : decode prog_14_method_38_code 8 = .ok (.istore 5, 2) := by decide +kernel
theorem d_X12_closing_10 : decode prog_14_method_38_code 10 = .ok (.iconst 0, 1) := by decide +kernel
theorem d_X12_closing_11 : decode prog_14_method_38_code 11 = .ok (.istore 6, 2) := by decide +kernel
theorem d_X12_closing_13 : decode prog_14_method_38_code 13 = .ok (.iload 6, 2) := by decide +kernel
theorem d_X12_closing_15 : decode prog_14_method_38_code 15 = .ok (.aload_n 0, 1) := by decide +kernel
theorem d_X12_closing_16 : decode prog_14_method_38_code 16 = .ok (.getfield 102, 3) := by decide +kernel
theorem d_X12_closing_19 : decode prog_14_method_38_code 19 = .ok (.if_icmp .ge 146, 3) := by decide +kernel
theorem d_X12_closing_22 : decode prog_14_method_38_code 22 = .ok (.aload_n 0, 1) := by decide +kernel
theorem d_X12_closing_23 : decode prog_14_method_38_code 23 = .ok (.getfield 38, 3) := by decide +kernel
theorem d_X12_closing_26 : decode prog_14_method_38_code 26 = .ok (.iconst 0, 1) := by decide +kernel
theorem d_X12_closing_27 : decode prog_14_method_38_code 27 = .ok (.aload_n 1, 1) := by decide +kernel
theorem d_X12_closing_28 : decode prog_14_method_38_code 28 = .ok (.iload 6, 2) := by decide +kernel
theorem d_X12_closing_30 : decode prog_14_method_38_code 30 = .ok (.iaload, 1) := by decide +kernel
theorem d_X12_closing_31 : decode prog_14_method_38_code 31 = .ok (.iastore, 1) := by decide +kernel
theorem d_X12_closing_32 : decode prog_14_method_38_code 32 = .ok (.aload_n 0, 1) := by decide +kernel
theorem d_X12_closing_33 : decode prog_14_method_38_code 33 = .ok (.getfield 38, 3) := by decide +kernel
theorem d_X12_closing_36 : decode prog_14_method_38_code 36 = .ok (.iconst 1, 1) := by decide +kernel
theorem d_X12_closing_37 : decode prog_14_method_38_code 37 = .ok (.aload_n 1, 1) := by decide +kernel
theorem d_X12_closing_38 : decode prog_14_method_38_code 38 = .ok (.bipush 8, 2) := by decide +kernel
theorem d_X12_closing_40 : decode prog_14_method_38_code 40 = .ok (.iload 6, 2) := by decide +kernel
theorem d_X12_closing_42 : decode prog_14_method_38_code 42 = .ok (.iadd, 1) := by decide +kernel
theorem d_X12_closing_43 : decode prog_14_method_38_code 43 = .ok (.iaload, 1) := by decide +kernel
theorem d_X12_closing_44 : decode prog_14_method_38_code 44 = .ok (.iload_n 2, 1) := by decide +kernel
theorem d_X12_closing_45 : decode prog_14_method_38_code 45 = .ok (.invokestatic 113, 3) := by decide +kernel
theorem d_X12_closing_48 : decode prog_14_method_38_code 48 = .ok (.invokestatic 135, 3) := by decide +kernel
theorem d_X12_closing_51 : decode prog_14_method_38_code 51 = .ok (.iastore, 1) := by decide +kernel
theorem d_X12_closing_52 : decode prog_14_method_38_code 52 = .ok (.aload_n 0, 1) := by decide +kernel
theorem d_X12_closing_53 : decode prog_14_method_38_code 53 = .ok (.getfield 38, 3) := by decide +kernel
theorem d_X12_closing_56 : decode prog_14_method_38_code 56 = .ok (.iconst 2, 1) := by decide +kernel
theorem d_X12_closing_57 : decode prog_14_method_38_code 57 = .ok (.aload_n 0, 1) := by decide +kernel
theorem d_X12_closing_58 : decode prog_14_method_38_code 58 = .ok (.getfield 13, 3) := by decide +kernel
theorem d_X12_closing_61 : decode prog_14_method_38_code 61 = .ok (.iload 6, 2) := by decide +kernel
theorem d_X12_closing_63 : decode prog_14_method_38_code 63 = .ok (.iaload, 1) := by decide +kernel
theorem d_X12_closing_64 : decode prog_14_method_38_code 64 = .ok (.iastore, 1) := by decide +kernel
theorem d_X12_closing_65 : decode prog_14_method_38_code 65 = .ok (.aload_n 0, 1) := by decide +kernel
theorem d_X12_closing_66 : decode prog_14_method_38_code 66 = .ok (.getfield 38, 3) := by decide +kernel
theorem d_X12_closing_69 : decode prog_14_method_38_code 69 = .ok (.iconst 3, 1) := by decide +kernel
theorem d_X12_closing_70 : decode prog_14_method_38_code 70 = .ok (.iload_n 3, 1) := by decide +kernel
theorem d_X12_closing_71 : decode prog_14_method_38_code 71 = .ok (.iastore, 1) := by decide +kernel
theorem d_X12_closing_72 : decode prog_14_method_38_code 72 = .ok (.aload_n 0, 1) := by decide +kernel
theorem d_X12_closing_73 : decode prog_14_method_38_code 73 = .ok (.getfield 38, 3) := by decide +kernel
theorem d_X12_closing_76 : decode prog_14_method_38_code 76 = .ok (.iconst 4, 1) := by decide +kernel
theorem d_X12_closing_77 : decode prog_14_method_38_code 77 = .ok (.iload 4, 2) := by decide +kernel
theorem d_X12_closing_79 : decode prog_14_method_38_code 79 = .ok (.aload_n 0, 1) := by decide +kernel
theorem d_X12_closing_80 : decode prog_14_method_38_code 80 = .ok (.aload_n 0, 1) := by decide +kernel
theorem d_X12_closing_81 : decode prog_14_method_38_code 81 = .ok (.getfield 13, 3) := by decide +kernel
theorem d_X12_closing_84 : decode prog_14_method_38_code 84 = .ok (.iload 6, 2) := by decide +kernel
theorem d_X12_closing_86 : decode prog_14_method_38_code 86 = .ok (.iaload, 1) := by decide +kernel
theorem d_X12_closing_87 : decode prog_14_method_38_code 87 = .ok (.invokevirtual 232, 3) := by decide +kernel
theorem d_X12_closing_90 : decode prog_14_method_38_code 90 = .ok (.iand, 1) := by decide +kernel
theorem d_X12_closing_91 : decode prog_14_method_38_code 91 = .ok (.iconst 1, 1) := by decide +kernel
theorem d_X12_closing_92 : decode prog_14_method_38_code 92 = .ok (.iload 6, 2) := by decide +kernel
theorem d_X12_closing_94 : decode prog_14_method_38_code 94 = .ok (.ishl, 1) := by decide +kernel
theorem d_X12_closing_95 : decode prog_14_method_38_code 95 = .ok (.iconst (-1), 1) := by decide +kernel
theorem d_X12_closing_96 : decode prog_14_method_38_code 96 = .ok (.ixor, 1) := by decide +kernel
theorem d_X12_closing_97 : decode prog_14_method_38_code 97 = .ok (.iand, 1) := by decide +kernel
theorem d_X12_closing_98 : decode prog_14_method_38_code 98 = .ok (.invokestatic 235, 3) := by decide +kernel
theorem d_X12_closing_101 : decode prog_14_method_38_code 101 = .ok (.iastore, 1) := by decide +kernel
theorem d_X12_closing_102 : decode prog_14_method_38_code 102 = .ok (.aload_n 0, 1) := by decide +kernel
theorem d_X12_closing_103 : decode prog_14_method_38_code 103 = .ok (.getfield 38, 3) := by decide +kernel
theorem d_X12_closing_106 : decode prog_14_method_38_code 106 = .ok (.iconst 5, 1) := by decide +kernel
theorem d_X12_closing_107 : decode prog_14_method_38_code 107 = .ok (.aload_n 1, 1) := by decide +kernel
theorem d_X12_closing_108 : decode prog_14_method_38_code 108 = .ok (.bipush 24, 2) := by decide +kernel
theorem d_X12_closing_110 : decode prog_14_method_38_code 110 = .ok (.iload 6, 2) := by decide +kernel
theorem d_X12_closing_112 : decode prog_14_method_38_code 112 = .ok (.iadd, 1) := by decide +kernel
theorem d_X12_closing_113 : decode prog_14_method_38_code 113 = .ok (.iaload, 1) := by decide +kernel
theorem d_X12_closing_114 : decode prog_14_method_38_code 114 = .ok (.iastore, 1) := by decide +kernel
theorem d_X12_closing_115 : decode prog_14_method_38_code 115 = .ok (.aload_n 0, 1) := by decide +kernel
theorem d_X12_closing_116 : decode prog_14_method_38_code 116 = .ok (.getfield 38, 3) := by decide +kernel
theorem d_X12_closing_119 : decode prog_14_method_38_code 119 = .ok (.bipush 6, 2) := by decide +kernel
theorem d_X12_closing_121 : decode prog_14_method_38_code 121 = .ok (.aload_n 1, 1) := by decide +kernel
theorem d_X12_closing_122 : decode prog_14_method_38_code 122 = .ok (.bipush 32, 2) := by decide +kernel
theorem d_X12_closing_124 : decode prog_14_method_38_code 124 = .ok (.iaload, 1) := by decide +kernel
theorem d_X12_closing_125 : decode prog_14_method_38_code 125 = .ok (.bipush 7, 2) := by decide +kernel
theorem d_X12_closing_127 : decode prog_14_method_38_code 127 = .ok (.irem, 1) := by decide +kernel
theorem d_X12_closing_128 : decode prog_14_method_38_code 128 = .ok (.iastore, 1) := by decide +kernel
theorem d_X12_closing_129 : decode prog_14_method_38_code 129 = .ok (.iload 5, 2) := by decide +kernel
theorem d_X12_closing_131 : decode prog_14_method_38_code 131 = .ok (.iload 4, 2) := by decide +kernel
theorem d_X12_closing_133 : decode prog_14_method_38_code 133 = .ok (.iload 6, 2) := by decide +kernel
theorem d_X12_closing_135 : decode prog_14_method_38_code 135 = .ok (.invokestatic 113, 3) := by decide +kernel
theorem d_X12_closing_138 : decode prog_14_method_38_code 138 = .ok (.ifCond .eq 17, 3) := by decide +kernel
theorem d_X12_closing_141 : decode prog_14_method_38_code 141 = .ok (.aload_n 0, 1) := by decide +kernel
theorem d_X12_closing_142 : decode prog_14_method_38_code 142 = .ok (.invokevirtual 240, 3) := by decide +kernel
theorem d_X12_closing_145 : decode prog_14_method_38_code 145 = .ok (.ifCond .le 10, 3) := by decide +kernel
theorem d_X12_closing_148 : decode prog_14_method_38_code 148 = .ok (.iconst 1, 1) := by decide +kernel
theorem d_X12_closing_149 : decode prog_14_method_38_code 149 = .ok (.iload 6, 2) := by decide +kernel
theorem d_X12_closing_151 : decode prog_14_method_38_code 151 = .ok (.ishl, 1) := by decide +kernel
theorem d_X12_closing_152 : decode prog_14_method_38_code 152 = .ok (.goto 4, 3) := by decide +kernel
theorem d_X12_closing_155 : decode prog_14_method_38_code 155 = .ok (.iconst 0, 1) := by decide +kernel
theorem d_X12_closing_156 : decode prog_14_method_38_code 156 = .ok (.ior, 1) := by decide +kernel
theorem d_X12_closing_157 : decode prog_14_method_38_code 157 = .ok (.istore 5, 2) := by decide +kernel
theorem d_X12_closing_159 : decode prog_14_method_38_code 159 = .ok (.iinc 6 1, 3) := by decide +kernel
theorem d_X12_closing_162 : decode prog_14_method_38_code 162 = .ok (.goto (-149), 3) := by decide +kernel
theorem d_X12_closing_165 : decode prog_14_method_38_code 165 = .ok (.iload 5, 2) := by decide +kernel
theorem d_X12_closing_167 : decode prog_14_method_38_code 167 = .ok (.ireturn, 1) := by decide +kernel
def f_X12_closing_j156_13 (r : Nat) (τ : St) (x2 : Int32) (x3 : Int32) (x4 : Int32) (x6 : Int32) (s0 : Int32) (s1 : Int32) : Option ((Int32 × Int32 × St) ⊕ (Int32 × St)) := some (.inl ((s0 ||| s1), (x6 + (1 : Int32)), τ))
def f_X12_closing_s13 (r : Nat) (τ : St) (y2 : Int32) (y3 : Int32) (y4 : Int32) (x5 : Int32) (x6 : Int32) : Option ((Int32 × Int32 × St) ⊕ (Int32 × St)) := (if (cF τ 300 3) ≤ x6 then some (.inr (x5, τ)) else gd (inb x6 34) (gd (inb (0 : Int32) 7) (gd (inb ((8 : Int32) + x6) 34) ((f_X12_has (cA (sA τ 320 (0 : Int32).toNatClampNeg (cA τ r x6.toNatClampNeg)) r ((8 : Int32) + x6).toNatClampNeg) y2).bind (fun q6 => (f_X12_flag q6).bind (fun q8 => gd (inb (1 : Int32) 7) (gd (inb x6 8) (gd (inb (2 : Int32) 7) (gd (inb (3 : Int32) 7) (gd (inb x6 8) ((f_X12_kinOf (sA (sA (sA (sA τ 320 (0 : Int32).toNatClampNeg (cA τ r x6.toNatClampNeg)) 320 (1 : Int32).toNatClampNeg q8) 320 (2 : Int32).toNatClampNeg (cA (sA (sA τ 320 (0 : Int32).toNatClampNeg (cA τ r x6.toNatClampNeg)) 320 (1 : Int32).toNatClampNeg q8) 305 x6.toNatClampNeg)) 320 (3 : Int32).toNatClampNeg y3) (cA (sA (sA (sA (sA τ 320 (0 : Int32).toNatClampNeg (cA τ r x6.toNatClampNeg)) 320 (1 : Int32).toNatClampNeg q8) 320 (2 : Int32).toNatClampNeg (cA (sA (sA τ 320 (0 : Int32).toNatClampNeg (cA τ r x6.toNatClampNeg)) 320 (1 : Int32).toNatClampNeg q8) 305 x6.toNatClampNeg)) 320 (3 : Int32).toNatClampNeg y3) 305 x6.toNatClampNeg)).bind (fun q15 => (f_J6_bitCount_0f7a4 ((y4 &&& q15) &&& (((1 : Int32) <<< (x6 &&& 31)) ^^^ (-1 : Int32)))).bind (fun q17 => gd (inb (4 : Int32) 7) (gd (inb ((24 : Int32) + x6) 34) (gd (inb (5 : Int32) 7) (gd (inb (32 : Int32) 34) (gd (inb (6 : Int32) 7) ((f_X12_has y4 x6).bind (fun q24 => (if q24 = 0 then f_X12_closing_j156_13 r (sA (sA (sA (sA (sA (sA (sA τ 320 (0 : Int32).toNatClampNeg (cA τ r x6.toNatClampNeg)) 320 (1 : Int32).toNatClampNeg q8) 320 (2 : Int32).toNatClampNeg (cA (sA (sA τ 320 (0 : Int32).toNatClampNeg (cA τ r x6.toNatClampNeg)) 320 (1 : Int32).toNatClampNeg q8) 305 x6.toNatClampNeg)) 320 (3 : Int32).toNatClampNeg y3) 320 (4 : Int32).toNatClampNeg q17) 320 (5 : Int32).toNatClampNeg (cA (sA (sA (sA (sA (sA τ 320 (0 : Int32).toNatClampNeg (cA τ r x6.toNatClampNeg)) 320 (1 : Int32).toNatClampNeg q8) 320 (2 : Int32).toNatClampNeg (cA (sA (sA τ 320 (0 : Int32).toNatClampNeg (cA τ r x6.toNatClampNeg)) 320 (1 : Int32).toNatClampNeg q8) 305 x6.toNatClampNeg)) 320 (3 : Int32).toNatClampNeg y3) 320 (4 : Int32).toNatClampNeg q17) r ((24 : Int32) + x6).toNatClampNeg)) 320 (6 : Int32).toNatClampNeg ((cA (sA (sA (sA (sA (sA (sA τ 320 (0 : Int32).toNatClampNeg (cA τ r x6.toNatClampNeg)) 320 (1 : Int32).toNatClampNeg q8) 320 (2 : Int32).toNatClampNeg (cA (sA (sA τ 320 (0 : Int32).toNatClampNeg (cA τ r x6.toNatClampNeg)) 320 (1 : Int32).toNatClampNeg q8) 305 x6.toNatClampNeg)) 320 (3 : Int32).toNatClampNeg y3) 320 (4 : Int32).toNatClampNeg q17) 320 (5 : Int32).toNatClampNeg (cA (sA (sA (sA (sA (sA τ 320 (0 : Int32).toNatClampNeg (cA τ r x6.toNatClampNeg)) 320 (1 : Int32).toNatClampNeg q8) 320 (2 : Int32).toNatClampNeg (cA (sA (sA τ 320 (0 : Int32).toNatClampNeg (cA τ r x6.toNatClampNeg)) 320 (1 : Int32).toNatClampNeg q8) 305 x6.toNatClampNeg)) 320 (3 : Int32).toNatClampNeg y3) 320 (4 : Int32).toNatClampNeg q17) r ((24 : Int32) + x6).toNatClampNeg)) r (32 : Int32).toNatClampNeg) - (cA (sA (sA (sA (sA (sA (sA τ 320 (0 : Int32).toNatClampNeg (cA τ r x6.toNatClampNeg)) 320 (1 : Int32).toNatClampNeg q8) 320 (2 : Int32).toNatClampNeg (cA (sA (sA τ 320 (0 : Int32).toNatClampNeg (cA τ r x6.toNatClampNeg)) 320 (1 : Int32).toNatClampNeg q8) 305 x6.toNatClampNeg)) 320 (3 : Int32).toNatClampNeg y3) 320 (4 : Int32).toNatClampNeg q17) 320 (5 : Int32).toNatClampNeg (cA (sA (sA (sA (sA (sA τ 320 (0 : Int32).toNatClampNeg (cA τ r x6.toNatClampNeg)) 320 (1 : Int32).toNatClampNeg q8) 320 (2 : Int32).toNatClampNeg (cA (sA (sA τ 320 (0 : Int32).toNatClampNeg (cA τ r x6.toNatClampNeg)) 320 (1 : Int32).toNatClampNeg q8) 305 x6.toNatClampNeg)) 320 (3 : Int32).toNatClampNeg y3) 320 (4 : Int32).toNatClampNeg q17) r ((24 : Int32) + x6).toNatClampNeg)) r (32 : Int32).toNatClampNeg) / (7 : Int32) * (7 : Int32))) y2 y3 y4 x6 x5 (0 : Int32) else (f_X12_ruled (sA (sA (sA (sA (sA (sA (sA τ 320 (0 : Int32).toNatClampNeg (cA τ r x6.toNatClampNeg)) 320 (1 : Int32).toNatClampNeg q8) 320 (2 : Int32).toNatClampNeg (cA (sA (sA τ 320 (0 : Int32).toNatClampNeg (cA τ r x6.toNatClampNeg)) 320 (1 : Int32).toNatClampNeg q8) 305 x6.toNatClampNeg)) 320 (3 : Int32).toNatClampNeg y3) 320 (4 : Int32).toNatClampNeg q17) 320 (5 : Int32).toNatClampNeg (cA (sA (sA (sA (sA (sA τ 320 (0 : Int32).toNatClampNeg (cA τ r x6.toNatClampNeg)) 320 (1 : Int32).toNatClampNeg q8) 320 (2 : Int32).toNatClampNeg (cA (sA (sA τ 320 (0 : Int32).toNatClampNeg (cA τ r x6.toNatClampNeg)) 320 (1 : Int32).toNatClampNeg q8) 305 x6.toNatClampNeg)) 320 (3 : Int32).toNatClampNeg y3) 320 (4 : Int32).toNatClampNeg q17) r ((24 : Int32) + x6).toNatClampNeg)) 320 (6 : Int32).toNatClampNeg ((cA (sA (sA (sA (sA (sA (sA τ 320 (0 : Int32).toNatClampNeg (cA τ r x6.toNatClampNeg)) 320 (1 : Int32).toNatClampNeg q8) 320 (2 : Int32).toNatClampNeg (cA (sA (sA τ 320 (0 : Int32).toNatClampNeg (cA τ r x6.toNatClampNeg)) 320 (1 : Int32).toNatClampNeg q8) 305 x6.toNatClampNeg)) 320 (3 : Int32).toNatClampNeg y3) 320 (4 : Int32).toNatClampNeg q17) 320 (5 : Int32).toNatClampNeg (cA (sA (sA (sA (sA (sA τ 320 (0 : Int32).toNatClampNeg (cA τ r x6.toNatClampNeg)) 320 (1 : Int32).toNatClampNeg q8) 320 (2 : Int32).toNatClampNeg (cA (sA (sA τ 320 (0 : Int32).toNatClampNeg (cA τ r x6.toNatClampNeg)) 320 (1 : Int32).toNatClampNeg q8) 305 x6.toNatClampNeg)) 320 (3 : Int32).toNatClampNeg y3) 320 (4 : Int32).toNatClampNeg q17) r ((24 : Int32) + x6).toNatClampNeg)) r (32 : Int32).toNatClampNeg) - (cA (sA (sA (sA (sA (sA (sA τ 320 (0 : Int32).toNatClampNeg (cA τ r x6.toNatClampNeg)) 320 (1 : Int32).toNatClampNeg q8) 320 (2 : Int32).toNatClampNeg (cA (sA (sA τ 320 (0 : Int32).toNatClampNeg (cA τ r x6.toNatClampNeg)) 320 (1 : Int32).toNatClampNeg q8) 305 x6.toNatClampNeg)) 320 (3 : Int32).toNatClampNeg y3) 320 (4 : Int32).toNatClampNeg q17) 320 (5 : Int32).toNatClampNeg (cA (sA (sA (sA (sA (sA τ 320 (0 : Int32).toNatClampNeg (cA τ r x6.toNatClampNeg)) 320 (1 : Int32).toNatClampNeg q8) 320 (2 : Int32).toNatClampNeg (cA (sA (sA τ 320 (0 : Int32).toNatClampNeg (cA τ r x6.toNatClampNeg)) 320 (1 : Int32).toNatClampNeg q8) 305 x6.toNatClampNeg)) 320 (3 : Int32).toNatClampNeg y3) 320 (4 : Int32).toNatClampNeg q17) r ((24 : Int32) + x6).toNatClampNeg)) r (32 : Int32).toNatClampNeg) / (7 : Int32) * (7 : Int32)))).bind (fun q26 => f_X12_closing_j156_13 r q26.2 y2 y3 y4 x6 x5 (if q26.1 ≤ 0 then (0 : Int32) else ((1 : Int32) <<< (x6 &&& 31))))))))))))))))))))))))
def f_X12_closing (σ : St) (r : Nat) (a2 : Int32) (a3 : Int32) : Option (Int32 × St) := (f_X12_openOnes σ r).bind (fun q1 => (iter (fun z => f_X12_closing_s13 r z.2.2 a2 a3 q1 z.1 z.2.1) FU ((0 : Int32), (0 : Int32), σ)).bind (fun z28 => some (z28.1, z28.2)))
theorem c_X12_closing {l : Launch} {G : gT} {χ σ : St} {r : Nat} {a2 : Int32} {a3 : Int32} (hf : FW G) (hr : OP G r 11 34) (hr3 : 300 ≤ r) {q : Int32 × St} (h : f_X12_closing σ r a2 a3 = some q) : Ct l G yX12_closing prog_14_method_38_code 7 (some .int) 3 65 [.ref (ga G 300), .ref (ga G r), .int a2, .int a3] χ σ (some (.int q.1)) χ q.2 := by
  refine Ct.of (by decide) (Nat.le_of_ble_eq_true rfl) ?_
  intro p e s m args below meth c Q X hret hlk hQ
  have hx := X.1
  have hb := X.2.1
  have j156_13 : ∀ (τ : St) (x2 : Int32) (x3 : Int32) (x4 : Int32) (x6 : Int32) (s0 : Int32) (s1 : Int32) (o : (Int32 × Int32 × St) ⊕ (Int32 × St)), f_X12_closing_j156_13 r τ x2 x3 x4 x6 s0 s1 = some o → Sum.elim (fun z : Int32 × Int32 × St => Wat p l e (rmk 3 65) s m args below meth c Q G 7 13 [] [(5, .int z.1), (6, .int z.2.1), (0, .ref (ga G 300)), (1, .ref (ga G r)), (2, .int x2), (3, .int x3), (4, .int x4)] χ z.2.2) (fun z : Int32 × St => Wat p l e (rmk 3 65) s m args below meth c Q G 7 165 [] [(5, .int z.1)] χ z.2) o → Wat p l e (rmk 3 65) s m args below meth c Q G 7 156 [.int s1, .int s0] [(0, .ref (ga G 300)), (1, .ref (ga G r)), (2, .int x2), (3, .int x3), (4, .int x4), (6, .int x6)] χ τ := by
    intro τ x2 x3 x4 x6 s0 s1 o h hk H locs ls hw hl
    unfold f_X12_closing_j156_13 at h
    refine lv_ior hx hb d_X12_closing_156 ?_
    refine lv_istore (lv' := [(5, .int (s0 ||| s1)), (0, .ref (ga G 300)), (1, .ref (ga G r)), (2, .int x2), (3, .int x3), (4, .int x4), (6, .int x6)]) hx hb d_X12_closing_157 hl (Nat.le_of_ble_eq_true rfl) rfl (fun ls hl => ?_)
    refine lv_iinc (v := (x6 + (1 : Int32))) (k := 6) (lv' := [(6, .int (x6 + (1 : Int32))), (5, .int (s0 ||| s1)), (0, .ref (ga G 300)), (1, .ref (ga G r)), (2, .int x2), (3, .int x3), (4, .int x4)]) hx hb d_X12_closing_159 hl rfl (by rfl) (Nat.le_of_ble_eq_true rfl) rfl (fun ls hl => ?_)
    refine lv_goto (tgt := 13) hx hb d_X12_closing_162 (by decide) ?_
    obtain rfl := Option.some.inj h
    dsimp only [Sum.elim_inl] at hk
    exact hk _ _ _ hw (lv_sub hl [1, 0, 2, 3, 4, 5, 6] rfl)
  have b13 : ∀ (τ : St) (y2 : Int32) (y3 : Int32) (y4 : Int32) (x5 : Int32) (x6 : Int32) (o : (Int32 × Int32 × St) ⊕ (Int32 × St)), f_X12_closing_s13 r τ y2 y3 y4 x5 x6 = some o → Sum.elim (fun z : Int32 × Int32 × St => Wat p l e (rmk 3 65) s m args below meth c Q G 7 13 [] [(5, .int z.1), (6, .int z.2.1), (0, .ref (ga G 300)), (1, .ref (ga G r)), (2, .int y2), (3, .int y3), (4, .int y4)] χ z.2.2) (fun z : Int32 × St => Wat p l e (rmk 3 65) s m args below meth c Q G 7 165 [] [(5, .int z.1)] χ z.2) o → Wat p l e (rmk 3 65) s m args below meth c Q G 7 13 [] [(5, .int x5), (6, .int x6), (0, .ref (ga G 300)), (1, .ref (ga G r)), (2, .int y2), (3, .int y3), (4, .int y4)] χ τ := by
    intro τ y2 y3 y4 x5 x6 o h hk H locs ls hw hl
    unfold f_X12_closing_s13 at h
    refine lv_iload hx hb d_X12_closing_13 (lv_at hl 1 rfl) ?_
    refine lv_aload_n hx hb d_X12_closing_15 rfl (lv_at hl 2 rfl) ?_
    refine m_geti (j := 3) X hw ct8 (o_300 hf) (Nat.le_of_ble_eq_true rfl) rfl (Nat.le_of_ble_eq_true rfl) wd_959 d_X12_closing_16 ?_
    refine lv_icmp_ge (tgt := 165) hx hb d_X12_closing_19 (by decide) (fun hc => ?_) (fun hc => ?_)
    · have h := ite_t h hc
      obtain rfl := Option.some.inj h
      dsimp only [Sum.elim_inr] at hk
      exact hk _ _ _ hw (lv_sub hl [0] rfl)
    · have h := ite_f h hc
      refine lv_aload_n hx hb d_X12_closing_22 rfl (lv_at hl 2 rfl) ?_
      refine r_getr (j := 20) X hw ct8 (o_300 hf) rfl (Nat.le_of_ble_eq_true rfl) (q := 320) rfl wd_976 d_X12_closing_23 ?_
      refine lv_iconst (v := (0 : Int32)) hx hb d_X12_closing_26 (by decide) ?_
      refine lv_aload_n hx hb d_X12_closing_27 rfl (lv_at hl 3 rfl) ?_
      refine lv_iload hx hb d_X12_closing_28 (lv_at hl 1 rfl) ?_
      obtain ⟨hi3, h⟩ := gd_some h
      refine m_iald X hw hr hr3 hi3 d_X12_closing_30 ?_
      obtain ⟨hi4, h⟩ := gd_some h
      refine m_iast X hw (o_320 hf) (Nat.le_of_ble_eq_true rfl) hi4 d_X12_closing_31 (fun H locs hw => ?_)
      refine lv_aload_n hx hb d_X12_closing_32 rfl (lv_at hl 2 rfl) ?_
      refine r_getr (j := 20) X hw ct8 (o_300 hf) rfl (Nat.le_of_ble_eq_true rfl) (q := 320) rfl wd_976 d_X12_closing_33 ?_
      refine lv_iconst (v := (1 : Int32)) hx hb d_X12_closing_36 (by decide) ?_
      refine lv_aload_n hx hb d_X12_closing_37 rfl (lv_at hl 3 rfl) ?_
      refine lv_bipush (v := (8 : Int32)) hx hb d_X12_closing_38 (by decide) ?_
      refine lv_iload hx hb d_X12_closing_40 (lv_at hl 1 rfl) ?_
      refine lv_iadd hx hb d_X12_closing_42 ?_
      obtain ⟨hi5, h⟩ := gd_some h
      refine m_iald X hw hr hr3 hi5 d_X12_closing_43 ?_
      refine lv_iload_n hx hb d_X12_closing_44 rfl (lv_at hl 4 rfl) ?_
      obtain ⟨q6, e7, h⟩ := bd_some h
      refine r_callS (As := [.int (cA (sA τ 320 (0 : Int32).toNatClampNeg (cA τ r x6.toNatClampNeg)) r ((8 : Int32) + x6).toNatClampNeg), .int y2]) (rest := [.int (1 : Int32), .ref (ga G 320)]) (st' := [.int q6, .int (1 : Int32), .ref (ga G 320)]) X hw hl mwX12_has wd_1266 wd_1265 (c_X12_has hf e7) rfl ⟨Nat.le_of_ble_eq_true rfl, Nat.le_of_ble_eq_true rfl⟩ ⟨Nat.le_refl _, Nat.le_refl _⟩ rfl rfl (Nat.le_of_ble_eq_true rfl) d_X12_closing_45 (fun H locs hw => ?_)
      obtain ⟨q8, e9, h⟩ := bd_some h
      refine r_callS (As := [.int q6]) (rest := [.int (1 : Int32), .ref (ga G 320)]) (st' := [.int q8, .int (1 : Int32), .ref (ga G 320)]) X hw hl mwX12_flag wd_1180 wd_1179 (c_X12_flag hf e9) rfl ⟨Nat.le_of_ble_eq_true rfl, Nat.le_of_ble_eq_true rfl⟩ ⟨Nat.le_refl _, Nat.le_refl _⟩ rfl rfl (Nat.le_of_ble_eq_true rfl) d_X12_closing_48 (fun H locs hw => ?_)
      obtain ⟨hi10, h⟩ := gd_some h
      refine m_iast X hw (o_320 hf) (Nat.le_of_ble_eq_true rfl) hi10 d_X12_closing_51 (fun H locs hw => ?_)
      refine lv_aload_n hx hb d_X12_closing_52 rfl (lv_at hl 2 rfl) ?_
      refine r_getr (j := 20) X hw ct8 (o_300 hf) rfl (Nat.le_of_ble_eq_true rfl) (q := 320) rfl wd_976 d_X12_closing_53 ?_
      refine lv_iconst (v := (2 : Int32)) hx hb d_X12_closing_56 (by decide) ?_
      refine lv_aload_n hx hb d_X12_closing_57 rfl (lv_at hl 2 rfl) ?_
      refine r_getr (j := 5) X hw ct8 (o_300 hf) rfl (Nat.le_of_ble_eq_true rfl) (q := 305) rfl wd_961 d_X12_closing_58 ?_
      refine lv_iload hx hb d_X12_closing_61 (lv_at hl 1 rfl) ?_
      obtain ⟨hi11, h⟩ := gd_some h
      refine m_iald X hw (o_305 hf) (Nat.le_of_ble_eq_true rfl) hi11 d_X12_closing_63 ?_
      obtain ⟨hi12, h⟩ := gd_some h
      refine m_iast X hw (o_320 hf) (Nat.le_of_ble_eq_true rfl) hi12 d_X12_closing_64 (fun H locs hw => ?_)
      refine lv_aload_n hx hb d_X12_closing_65 rfl (lv_at hl 2 rfl) ?_
      refine r_getr (j := 20) X hw ct8 (o_300 hf) rfl (Nat.le_of_ble_eq_true rfl) (q := 320) rfl wd_976 d_X12_closing_66 ?_
      refine lv_iconst (v := (3 : Int32)) hx hb d_X12_closing_69 (by decide) ?_
      refine lv_iload_n hx hb d_X12_closing_70 rfl (lv_at hl 5 rfl) ?_
      obtain ⟨hi13, h⟩ := gd_some h
      refine m_iast X hw (o_320 hf) (Nat.le_of_ble_eq_true rfl) hi13 d_X12_closing_71 (fun H locs hw => ?_)
      refine lv_aload_n hx hb d_X12_closing_72 rfl (lv_at hl 2 rfl) ?_
      refine r_getr (j := 20) X hw ct8 (o_300 hf) rfl (Nat.le_of_ble_eq_true rfl) (q := 320) rfl wd_976 d_X12_closing_73 ?_
      refine lv_iconst (v := (4 : Int32)) hx hb d_X12_closing_76 (by decide) ?_
      refine lv_iload hx hb d_X12_closing_77 (lv_at hl 6 rfl) ?_
      refine lv_aload_n hx hb d_X12_closing_79 rfl (lv_at hl 2 rfl) ?_
      refine lv_aload_n hx hb d_X12_closing_80 rfl (lv_at hl 2 rfl) ?_
      refine r_getr (j := 5) X hw ct8 (o_300 hf) rfl (Nat.le_of_ble_eq_true rfl) (q := 305) rfl wd_961 d_X12_closing_81 ?_
      refine lv_iload hx hb d_X12_closing_84 (lv_at hl 1 rfl) ?_
      obtain ⟨hi14, h⟩ := gd_some h
      refine m_iald X hw (o_305 hf) (Nat.le_of_ble_eq_true rfl) hi14 d_X12_closing_86 ?_
      obtain ⟨q15, e16, h⟩ := bd_some h
      refine r_callV (As := [.int (cA (sA (sA (sA (sA τ 320 (0 : Int32).toNatClampNeg (cA τ r x6.toNatClampNeg)) 320 (1 : Int32).toNatClampNeg q8) 320 (2 : Int32).toNatClampNeg (cA (sA (sA τ 320 (0 : Int32).toNatClampNeg (cA τ r x6.toNatClampNeg)) 320 (1 : Int32).toNatClampNeg q8) 305 x6.toNatClampNeg)) 320 (3 : Int32).toNatClampNeg y3) 305 x6.toNatClampNeg)]) (rest := [.int y4, .int (4 : Int32), .ref (ga G 320)]) (st' := [.int q15, .int y4, .int (4 : Int32), .ref (ga G 320)]) X hw hl mwX12_kinOf wd_1270 wp_36 wd_1268 (c_X12_kinOf hf e16) (r_recv X hw ct8 (o_300 hf)) rfl ⟨Nat.le_of_ble_eq_true rfl, Nat.le_of_ble_eq_true rfl⟩ ⟨Nat.le_refl _, Nat.le_refl _⟩ rfl rfl (Nat.le_of_ble_eq_true rfl) d_X12_closing_87 (fun H locs hw => ?_)
      refine lv_iand hx hb d_X12_closing_90 ?_
      refine lv_iconst (v := (1 : Int32)) hx hb d_X12_closing_91 (by decide) ?_
      refine lv_iload hx hb d_X12_closing_92 (lv_at hl 1 rfl) ?_
      refine lv_ishl hx hb d_X12_closing_94 ?_
      refine lv_iconst (v := (-1 : Int32)) hx hb d_X12_closing_95 (by decide) ?_
      refine lv_ixor hx hb d_X12_closing_96 ?_
      refine lv_iand hx hb d_X12_closing_97 ?_
      obtain ⟨q17, e18, h⟩ := bd_some h
      refine r_callS (As := [.int ((y4 &&& q15) &&& (((1 : Int32) <<< (x6 &&& 31)) ^^^ (-1 : Int32)))]) (rest := [.int (4 : Int32), .ref (ga G 320)]) (st' := [.int q17, .int (4 : Int32), .ref (ga G 320)]) X hw hl mwJ6_bitCount_0f7a4 wd_436 wd_1272 (c_J6_bitCount_0f7a4 e18) rfl ⟨Nat.le_of_ble_eq_true rfl, Nat.le_of_ble_eq_true rfl⟩ ⟨Nat.le_refl _, Nat.le_refl _⟩ rfl rfl (Nat.le_of_ble_eq_true rfl) d_X12_closing_98 (fun H locs hw => ?_)
      obtain ⟨hi19, h⟩ := gd_some h
      refine m_iast X hw (o_320 hf) (Nat.le_of_ble_eq_true rfl) hi19 d_X12_closing_101 (fun H locs hw => ?_)
      refine lv_aload_n hx hb d_X12_closing_102 rfl (lv_at hl 2 rfl) ?_
      refine r_getr (j := 20) X hw ct8 (o_300 hf) rfl (Nat.le_of_ble_eq_true rfl) (q := 320) rfl wd_976 d_X12_closing_103 ?_
      refine lv_iconst (v := (5 : Int32)) hx hb d_X12_closing_106 (by decide) ?_
      refine lv_aload_n hx hb d_X12_closing_107 rfl (lv_at hl 3 rfl) ?_
      refine lv_bipush (v := (24 : Int32)) hx hb d_X12_closing_108 (by decide) ?_
      refine lv_iload hx hb d_X12_closing_110 (lv_at hl 1 rfl) ?_
      refine lv_iadd hx hb d_X12_closing_112 ?_
      obtain ⟨hi20, h⟩ := gd_some h
      refine m_iald X hw hr hr3 hi20 d_X12_closing_113 ?_
      obtain ⟨hi21, h⟩ := gd_some h
      refine m_iast X hw (o_320 hf) (Nat.le_of_ble_eq_true rfl) hi21 d_X12_closing_114 (fun H locs hw => ?_)
      refine lv_aload_n hx hb d_X12_closing_115 rfl (lv_at hl 2 rfl) ?_
      refine r_getr (j := 20) X hw ct8 (o_300 hf) rfl (Nat.le_of_ble_eq_true rfl) (q := 320) rfl wd_976 d_X12_closing_116 ?_
      refine lv_bipush (v := (6 : Int32)) hx hb d_X12_closing_119 (by decide) ?_
      refine lv_aload_n hx hb d_X12_closing_121 rfl (lv_at hl 3 rfl) ?_
      refine lv_bipush (v := (32 : Int32)) hx hb d_X12_closing_122 (by decide) ?_
      obtain ⟨hi22, h⟩ := gd_some h
      refine m_iald X hw hr hr3 hi22 d_X12_closing_124 ?_
      refine lv_bipush (v := (7 : Int32)) hx hb d_X12_closing_125 (by decide) ?_
      refine lv_irem hx hb d_X12_closing_127 (by decide) ?_
      obtain ⟨hi23, h⟩ := gd_some h
      refine m_iast X hw (o_320 hf) (Nat.le_of_ble_eq_true rfl) hi23 d_X12_closing_128 (fun H locs hw => ?_)
      refine lv_iload hx hb d_X12_closing_129 (lv_at hl 0 rfl) ?_
      refine lv_iload hx hb d_X12_closing_131 (lv_at hl 6 rfl) ?_
      refine lv_iload hx hb d_X12_closing_133 (lv_at hl 1 rfl) ?_
      obtain ⟨q24, e25, h⟩ := bd_some h
      refine r_callS (As := [.int y4, .int x6]) (rest := [.int x5]) (st' := [.int q24, .int x5]) X hw hl mwX12_has wd_1266 wd_1265 (c_X12_has hf e25) rfl ⟨Nat.le_of_ble_eq_true rfl, Nat.le_of_ble_eq_true rfl⟩ ⟨Nat.le_refl _, Nat.le_refl _⟩ rfl rfl (Nat.le_of_ble_eq_true rfl) d_X12_closing_135 (fun H locs hw => ?_)
      refine lv_if_eq (tgt := 155) hx hb d_X12_closing_138 (by decide) (fun hc => ?_) (fun hc => ?_)
      · have h := ite_t h hc
        refine lv_iconst (v := (0 : Int32)) hx hb d_X12_closing_155 (by decide) ?_
        exact j156_13 (sA (sA (sA (sA (sA (sA (sA τ 320 (0 : Int32).toNatClampNeg (cA τ r x6.toNatClampNeg)) 320 (1 : Int32).toNatClampNeg q8) 320 (2 : Int32).toNatClampNeg (cA (sA (sA τ 320 (0 : Int32).toNatClampNeg (cA τ r x6.toNatClampNeg)) 320 (1 : Int32).toNatClampNeg q8) 305 x6.toNatClampNeg)) 320 (3 : Int32).toNatClampNeg y3) 320 (4 : Int32).toNatClampNeg q17) 320 (5 : Int32).toNatClampNeg (cA (sA (sA (sA (sA (sA τ 320 (0 : Int32).toNatClampNeg (cA τ r x6.toNatClampNeg)) 320 (1 : Int32).toNatClampNeg q8) 320 (2 : Int32).toNatClampNeg (cA (sA (sA τ 320 (0 : Int32).toNatClampNeg (cA τ r x6.toNatClampNeg)) 320 (1 : Int32).toNatClampNeg q8) 305 x6.toNatClampNeg)) 320 (3 : Int32).toNatClampNeg y3) 320 (4 : Int32).toNatClampNeg q17) r ((24 : Int32) + x6).toNatClampNeg)) 320 (6 : Int32).toNatClampNeg ((cA (sA (sA (sA (sA (sA (sA τ 320 (0 : Int32).toNatClampNeg (cA τ r x6.toNatClampNeg)) 320 (1 : Int32).toNatClampNeg q8) 320 (2 : Int32).toNatClampNeg (cA (sA (sA τ 320 (0 : Int32).toNatClampNeg (cA τ r x6.toNatClampNeg)) 320 (1 : Int32).toNatClampNeg q8) 305 x6.toNatClampNeg)) 320 (3 : Int32).toNatClampNeg y3) 320 (4 : Int32).toNatClampNeg q17) 320 (5 : Int32).toNatClampNeg (cA (sA (sA (sA (sA (sA τ 320 (0 : Int32).toNatClampNeg (cA τ r x6.toNatClampNeg)) 320 (1 : Int32).toNatClampNeg q8) 320 (2 : Int32).toNatClampNeg (cA (sA (sA τ 320 (0 : Int32).toNatClampNeg (cA τ r x6.toNatClampNeg)) 320 (1 : Int32).toNatClampNeg q8) 305 x6.toNatClampNeg)) 320 (3 : Int32).toNatClampNeg y3) 320 (4 : Int32).toNatClampNeg q17) r ((24 : Int32) + x6).toNatClampNeg)) r (32 : Int32).toNatClampNeg) - (cA (sA (sA (sA (sA (sA (sA τ 320 (0 : Int32).toNatClampNeg (cA τ r x6.toNatClampNeg)) 320 (1 : Int32).toNatClampNeg q8) 320 (2 : Int32).toNatClampNeg (cA (sA (sA τ 320 (0 : Int32).toNatClampNeg (cA τ r x6.toNatClampNeg)) 320 (1 : Int32).toNatClampNeg q8) 305 x6.toNatClampNeg)) 320 (3 : Int32).toNatClampNeg y3) 320 (4 : Int32).toNatClampNeg q17) 320 (5 : Int32).toNatClampNeg (cA (sA (sA (sA (sA (sA τ 320 (0 : Int32).toNatClampNeg (cA τ r x6.toNatClampNeg)) 320 (1 : Int32).toNatClampNeg q8) 320 (2 : Int32).toNatClampNeg (cA (sA (sA τ 320 (0 : Int32).toNatClampNeg (cA τ r x6.toNatClampNeg)) 320 (1 : Int32).toNatClampNeg q8) 305 x6.toNatClampNeg)) 320 (3 : Int32).toNatClampNeg y3) 320 (4 : Int32).toNatClampNeg q17) r ((24 : Int32) + x6).toNatClampNeg)) r (32 : Int32).toNatClampNeg) / (7 : Int32) * (7 : Int32))) y2 y3 y4 x6 x5 (0 : Int32) o h hk _ _ _ hw (lv_sub hl [2, 3, 4, 5, 6, 1] rfl)
      · have h := ite_f h hc
        refine lv_aload_n hx hb d_X12_closing_141 rfl (lv_at hl 2 rfl) ?_
        obtain ⟨q26, e27, h⟩ := bd_some h
        refine r_callV (As := []) (rest := [.int x5]) (st' := [.int q26.1, .int x5]) X hw hl mwX12_ruled wd_1275 wp_37 wd_1273 (c_X12_ruled hf e27) (r_recv X hw ct8 (o_300 hf)) rfl ⟨Nat.le_of_ble_eq_true rfl, Nat.le_of_ble_eq_true rfl⟩ ⟨Nat.le_refl _, Nat.le_refl _⟩ rfl rfl (Nat.le_of_ble_eq_true rfl) d_X12_closing_142 (fun H locs hw => ?_)
        refine lv_if_le (tgt := 155) hx hb d_X12_closing_145 (by decide) (fun hc => ?_) (fun hc => ?_)
        · simp only [if_pos hc] at h
          refine lv_iconst (v := (0 : Int32)) hx hb d_X12_closing_155 (by decide) ?_
          exact j156_13 q26.2 y2 y3 y4 x6 x5 (0 : Int32) o h hk _ _ _ hw (lv_sub hl [2, 3, 4, 5, 6, 1] rfl)
        · simp only [if_neg hc] at h
          refine lv_iconst (v := (1 : Int32)) hx hb d_X12_closing_148 (by decide) ?_
          refine lv_iload hx hb d_X12_closing_149 (lv_at hl 1 rfl) ?_
          refine lv_ishl hx hb d_X12_closing_151 ?_
          refine lv_goto (tgt := 156) hx hb d_X12_closing_152 (by decide) ?_
          exact j156_13 q26.2 y2 y3 y4 x6 x5 ((1 : Int32) <<< (x6 &&& 31)) o h hk _ _ _ hw (lv_sub hl [2, 3, 4, 5, 6, 1] rfl)
  intro H locs ls hw hl
  have hl : lv_has ls 7 [(0, .ref (ga G 300)), (1, .ref (ga G r)), (2, .int a2), (3, .int a3)] := hl
  unfold f_X12_closing at h
  refine lv_aload_n hx hb d_X12_closing_0 rfl (lv_at hl 0 rfl) ?_
  refine lv_aload_n hx hb d_X12_closing_1 rfl (lv_at hl 1 rfl) ?_
  obtain ⟨q1, e2, h⟩ := bd_some h
  refine r_callV (As := [.ref (ga G r)]) (rest := []) (st' := [.int q1]) X hw hl mwX12_openOnes wd_1263 wp_35 wd_1261 (c_X12_openOnes hf hr hr3 e2) (r_recv X hw ct8 (o_300 hf)) rfl ⟨Nat.le_of_ble_eq_true rfl, Nat.le_of_ble_eq_true rfl⟩ ⟨Nat.le_refl _, Nat.le_refl _⟩ rfl rfl (Nat.le_of_ble_eq_true rfl) d_X12_closing_2 (fun H locs hw => ?_)
  refine lv_istore (lv' := [(4, .int q1), (0, .ref (ga G 300)), (1, .ref (ga G r)), (2, .int a2), (3, .int a3)]) hx hb d_X12_closing_5 hl (Nat.le_of_ble_eq_true rfl) rfl (fun ls hl => ?_)
  refine lv_iconst (v := (0 : Int32)) hx hb d_X12_closing_7 (by decide) ?_
  refine lv_istore (lv' := [(5, .int (0 : Int32)), (4, .int q1), (0, .ref (ga G 300)), (1, .ref (ga G r)), (2, .int a2), (3, .int a3)]) hx hb d_X12_closing_8 hl (Nat.le_of_ble_eq_true rfl) rfl (fun ls hl => ?_)
  refine lv_iconst (v := (0 : Int32)) hx hb d_X12_closing_10 (by decide) ?_
  refine lv_istore (lv' := [(6, .int (0 : Int32)), (5, .int (0 : Int32)), (4, .int q1), (0, .ref (ga G 300)), (1, .ref (ga G r)), (2, .int a2), (3, .int a3)]) hx hb d_X12_closing_11 hl (Nat.le_of_ble_eq_true rfl) rfl (fun ls hl => ?_)
  obtain ⟨z28, e29, h⟩ := bd_some h
  refine iter_w (Wh := fun z : Int32 × Int32 × St => Wat p l e (rmk 3 65) s m args below meth c Q G 7 13 [] [(5, .int z.1), (6, .int z.2.1), (0, .ref (ga G 300)), (1, .ref (ga G r)), (2, .int a2), (3, .int a3), (4, .int q1)] χ z.2.2) (K := fun z : Int32 × St => Wat p l e (rmk 3 65) s m args below meth c Q G 7 165 [] [(5, .int z.1)] χ z.2) (fun z o h1 h2 => b13 z.2.2 a2 a3 q1 z.1 z.2.1 o h1 h2) FU _ _ e29 ?_ _ _ _ hw (lv_sub hl [1, 0, 3, 4, 5, 6, 2] rfl)
  intro H locs ls hw hl
  refine lv_iload hx hb d_X12_closing_165 (lv_at hl 0 rfl) ?_
  obtain rfl := Option.some.inj h
  subst hQ
  exact r_iret X hret hlk hw d_X12_closing_167
abbrev yX12_oyster : MethodName := ⟨"OysterBedsModel", "oyster", "(II)I"⟩
theorem mwX12_oyster : MW yX12_oyster prog_14_method_39_code 3 (some .int) 2 := ⟨wd_1217, wd_10, by decide +kernel⟩
theorem d_X12_oyster_0 : decode prog_14_method_39_code 0 = .ok (.aload_n 0, 1) := by decide +kernel
theorem d_X12_oyster_1 : decode prog_14_method_39_code 1 = .ok (.iconst 0, 1) := by decide +kernel
theorem d_X12_oyster_2 : decode prog_14_method_39_code 2 = .ok (.putfield 87, 3) := by decide +kernel
theorem d_X12_oyster_5 : decode prog_14_method_39_code 5 = .ok (.aload_n 0, 1) := by decide +kernel
theorem d_X12_oyster_6 : decode prog_14_method_39_code 6 = .ok (.iload_n 1, 1) := by decide +kernel
theorem d_X12_oyster_7 : decode prog_14_method_39_code 7 = .ok (.invokevirtual 243, 3) := by decide +kernel
theorem d_X12_oyster_10 : decode prog_14_method_39_code 10 = .ok (.ifCond .eq 15, 3) := by decide +kernel
theorem d_X12_oyster_13 : decode prog_14_method_39_code 13 = .ok (.iload_n 2, 1) := by decide +kernel
theorem d_X12_oyster_14 : decode prog_14_method_39_code 14 = .ok (.i2l, 1) := by decide +kernel
theorem d_X12_oyster_15 : decode prog_14_method_39_code 15 = .ok (.lconst 0, 1) := by decide +kernel
theorem d_X12_oyster_16 : decode prog_14_method_39_code 16 = .ok (.ldc2_w 246, 3) := by decide +kernel
theorem d_X12_oyster_19 : decode prog_14_method_39_code 19 = .ok (.invokestatic 105, 3) := by decide +kernel
theorem d_X12_oyster_22 : decode prog_14_method_39_code 22 = .ok (.ifCond .ne 8, 3) := by decide +kernel
theorem d_X12_oyster_25 : decode prog_14_method_39_code 25 = .ok (.aload_n 0, 1) := by decide +kernel
theorem d_X12_oyster_26 : decode prog_14_method_39_code 26 = .ok (.invokevirtual 248, 3) := by decide +kernel
theorem d_X12_oyster_29 : decode prog_14_method_39_code 29 = .ok (.ireturn, 1) := by decide +kernel
theorem d_X12_oyster_30 : decode prog_14_method_39_code 30 = .ok (.iload_n 2, 1) := by decide +kernel
theorem d_X12_oyster_31 : decode prog_14_method_39_code 31 = .ok (.ifCond .ne 12, 3) := by decide +kernel
theorem d_X12_oyster_34 : decode prog_14_method_39_code 34 = .ok (.aload_n 0, 1) := by decide +kernel
theorem d_X12_oyster_35 : decode prog_14_method_39_code 35 = .ok (.getfield 13, 3) := by decide +kernel
theorem d_X12_oyster_38 : decode prog_14_method_39_code 38 = .ok (.iload_n 1, 1) := by decide +kernel
theorem d_X12_oyster_39 : decode prog_14_method_39_code 39 = .ok (.iaload, 1) := by decide +kernel
theorem d_X12_oyster_40 : decode prog_14_method_39_code 40 = .ok (.goto 16, 3) := by decide +kernel
theorem d_X12_oyster_43 : decode prog_14_method_39_code 43 = .ok (.aload_n 0, 1) := by decide +kernel
theorem d_X12_oyster_44 : decode prog_14_method_39_code 44 = .ok (.getfield 17, 3) := by decide +kernel
theorem d_X12_oyster_47 : decode prog_14_method_39_code 47 = .ok (.iload_n 2, 1) := by decide +kernel
theorem d_X12_oyster_48 : decode prog_14_method_39_code 48 = .ok (.iconst 1, 1) := by decide +kernel
theorem d_X12_oyster_49 : decode prog_14_method_39_code 49 = .ok (.isub, 1) := by decide +kernel
theorem d_X12_oyster_50 : decode prog_14_method_39_code 50 = .ok (.bipush 8, 2) := by decide +kernel
theorem d_X12_oyster_52 : decode prog_14_method_39_code 52 = .ok (.imul, 1) := by decide +kernel
theorem d_X12_oyster_53 : decode prog_14_method_39_code 53 = .ok (.iload_n 1, 1) := by decide +kernel
theorem d_X12_oyster_54 : decode prog_14_method_39_code 54 = .ok (.iadd, 1) := by decide +kernel
theorem d_X12_oyster_55 : decode prog_14_method_39_code 55 = .ok (.iaload, 1) := by decide +kernel
theorem d_X12_oyster_56 : decode prog_14_method_39_code 56 = .ok (.ireturn, 1) := by decide +kernel
def f_X12_oyster_j25 (τ : St) : Option (Int32 × St) := (f_X12_refuse τ).bind (fun q3 => some (q3.1, q3.2))
def f_X12_oyster (σ : St) (a1 : Int32) (a2 : Int32) : Option (Int32 × St) := (f_X12_isOyster (sF σ 300 0 (0 : Int32)) a1).bind (fun q1 => (if q1 = 0 then f_X12_oyster_j25 (sF σ 300 0 (0 : Int32)) else (f_X12_in a2.toInt64 (0 : Int64) (4 : Int64)).bind (fun q5 => (if q5 = 0 then f_X12_oyster_j25 (sF σ 300 0 (0 : Int32)) else (if a2 = 0 then gd (inb a1 8) (some ((cA (sF σ 300 0 (0 : Int32)) 305 a1.toNatClampNeg), (sF σ 300 0 (0 : Int32)))) else gd (inb (((a2 - (1 : Int32)) * (8 : Int32)) + a1) 34) (some ((cA (sF σ 300 0 (0 : Int32)) 306 (((a2 - (1 : Int32)) * (8 : Int32)) + a1).toNatClampNeg), (sF σ 300 0 (0 : Int32)))))))))
theorem c_X12_oyster {l : Launch} {G : gT} {χ σ : St} {a1 : Int32} {a2 : Int32} (hf : FW G) {q : Int32 × St} (h : f_X12_oyster σ a1 a2 = some q) : Ct l G yX12_oyster prog_14_method_39_code 3 (some .int) 2 46 [.ref (ga G 300), .int a1, .int a2] χ σ (some (.int q.1)) χ q.2 := by
  refine Ct.of (by decide) (Nat.le_of_ble_eq_true rfl) ?_
  intro p e s m args below meth c Q X hr hlk hQ
  have hx := X.1
  have hb := X.2.1
  have j25 : ∀ (τ : St), f_X12_oyster_j25 τ = some q → Wat p l e (rmk 2 46) s m args below meth c Q G 3 25 [] [(0, .ref (ga G 300))] χ τ := by
    intro τ h H locs ls hw hl
    unfold f_X12_oyster_j25 at h
    refine lv_aload_n hx hb d_X12_oyster_25 rfl (lv_at hl 0 rfl) ?_
    obtain ⟨q3, e4, h⟩ := bd_some h
    refine r_callV (As := []) (rest := []) (st' := [.int q3.1]) X hw hl mwX12_refuse wd_1225 wp_30 wd_1223 (c_X12_refuse hf e4) (r_recv X hw ct8 (o_300 hf)) rfl ⟨Nat.le_of_ble_eq_true rfl, Nat.le_of_ble_eq_true rfl⟩ ⟨Nat.le_refl _, Nat.le_refl _⟩ rfl rfl (Nat.le_of_ble_eq_true rfl) d_X12_oyster_26 (fun H locs hw => ?_)
    obtain rfl := Option.some.inj h
    subst hQ
    exact r_iret X hr hlk hw d_X12_oyster_29
  intro H locs ls hw hl
  have hl : lv_has ls 3 [(0, .ref (ga G 300)), (1, .int a1), (2, .int a2)] := hl
  unfold f_X12_oyster at h
  refine lv_aload_n hx hb d_X12_oyster_0 rfl (lv_at hl 0 rfl) ?_
  refine lv_iconst (v := (0 : Int32)) hx hb d_X12_oyster_1 (by decide) ?_
  refine m_puti (j := 0) X hw ct8 (o_300 hf) (Nat.le_of_ble_eq_true rfl) rfl (Nat.le_of_ble_eq_true rfl) rfl rfl rfl wd_956 d_X12_oyster_2 (fun H locs hw => ?_)
  refine lv_aload_n hx hb d_X12_oyster_5 rfl (lv_at hl 0 rfl) ?_
  refine lv_iload_n hx hb d_X12_oyster_6 rfl (lv_at hl 1 rfl) ?_
  obtain ⟨q1, e2, h⟩ := bd_some h
  refine r_callV (As := [.int a1]) (rest := []) (st' := [.int q1]) X hw hl mwX12_isOyster wd_1220 wp_29 wd_1218 (c_X12_isOyster hf e2) (r_recv X hw ct8 (o_300 hf)) rfl ⟨Nat.le_of_ble_eq_true rfl, Nat.le_of_ble_eq_true rfl⟩ ⟨Nat.le_refl _, Nat.le_refl _⟩ rfl rfl (Nat.le_of_ble_eq_true rfl) d_X12_oyster_7 (fun H locs hw => ?_)
  refine lv_if_eq (tgt := 25) hx hb d_X12_oyster_10 (by decide) (fun hc => ?_) (fun hc => ?_)
  · have h := ite_t h hc
    exact j25 (sF σ 300 0 (0 : Int32)) h _ _ _ hw (lv_sub hl [0] rfl)
  · have h := ite_f h hc
    refine lv_iload_n hx hb d_X12_oyster_13 rfl (lv_at hl 2 rfl) ?_
    refine lv_i2l hx hb d_X12_oyster_14 rfl ?_
    refine lv_lconst (v := (0 : Int64)) hx hb d_X12_oyster_15 (by decide) ?_
    refine r_ldc2 X wd_1222 d_X12_oyster_16 ?_
    obtain ⟨q5, e6, h⟩ := bd_some h
    refine r_callS (As := [.long a2.toInt64, .long (0 : Int64), .long (4 : Int64)]) (rest := []) (st' := [.int q5]) X hw hl mwX12_in wd_1093 wd_1092 (c_X12_in hf e6) rfl ⟨Nat.le_of_ble_eq_true rfl, Nat.le_of_ble_eq_true rfl⟩ ⟨Nat.le_refl _, Nat.le_refl _⟩ rfl rfl (Nat.le_of_ble_eq_true rfl) d_X12_oyster_19 (fun H locs hw => ?_)
    refine lv_if_ne (tgt := 30) hx hb d_X12_oyster_22 (by decide) (fun hc => ?_) (fun hc => ?_)
    · have h := ite_f h hc
      refine lv_iload_n hx hb d_X12_oyster_30 rfl (lv_at hl 2 rfl) ?_
      refine lv_if_ne (tgt := 43) hx hb d_X12_oyster_31 (by decide) (fun hc => ?_) (fun hc => ?_)
      · have h := ite_f h hc
        refine lv_aload_n hx hb d_X12_oyster_43 rfl (lv_at hl 0 rfl) ?_
        refine r_getr (j := 6) X hw ct8 (o_300 hf) rfl (Nat.le_of_ble_eq_true rfl) (q := 306) rfl wd_962 d_X12_oyster_44 ?_
        refine lv_iload_n hx hb d_X12_oyster_47 rfl (lv_at hl 2 rfl) ?_
        refine lv_iconst (v := (1 : Int32)) hx hb d_X12_oyster_48 (by decide) ?_
        refine lv_isub hx hb d_X12_oyster_49 ?_
        refine lv_bipush (v := (8 : Int32)) hx hb d_X12_oyster_50 (by decide) ?_
        refine lv_imul hx hb d_X12_oyster_52 ?_
        refine lv_iload_n hx hb d_X12_oyster_53 rfl (lv_at hl 1 rfl) ?_
        refine lv_iadd hx hb d_X12_oyster_54 ?_
        obtain ⟨hi7, h⟩ := gd_some h
        refine m_iald X hw (o_306 hf) (Nat.le_of_ble_eq_true rfl) hi7 d_X12_oyster_55 ?_
        obtain rfl := Option.some.inj h
        subst hQ
        exact r_iret X hr hlk hw d_X12_oyster_56
      · have h := ite_t h hc
        refine lv_aload_n hx hb d_X12_oyster_34 rfl (lv_at hl 0 rfl) ?_
        refine r_getr (j := 5) X hw ct8 (o_300 hf) rfl (Nat.le_of_ble_eq_true rfl) (q := 305) rfl wd_961 d_X12_oyster_35 ?_
        refine lv_iload_n hx hb d_X12_oyster_38 rfl (lv_at hl 1 rfl) ?_
        obtain ⟨hi8, h⟩ := gd_some h
        refine m_iald X hw (o_305 hf) (Nat.le_of_ble_eq_true rfl) hi8 d_X12_oyster_39 ?_
        refine lv_goto (tgt := 56) hx hb d_X12_oyster_40 (by decide) ?_
        obtain rfl := Option.some.inj h
        subst hQ
        exact r_iret X hr hlk hw d_X12_oyster_56
    · have h := ite_t h hc
      exact j25 (sF σ 300 0 (0 : Int32)) h _ _ _ hw (lv_sub hl [0] rfl)
abbrev yX12_sheet : MethodName := ⟨"OysterBedsModel", "sheet", "(IIII)I"⟩
theorem mwX12_sheet : MW yX12_sheet prog_14_method_40_code 8 (some .int) 4 := ⟨wd_1230, wd_10, by decide +kernel⟩
theorem d_X12_sheet_0 : decode prog_14_method_40_code 0 = .ok (.aload_n 0, 1) := by decide +kernel
theorem d_X12_sheet_1 : decode prog_14_method_40_code 1 = .ok (.iconst 0, 1) := by decide +kernel
theorem d_X12_sheet_2 : decode prog_14_method_40_code 2 = .ok (.putfield 87, 3) := by decide +kernel
theorem d_X12_sheet_5 : decode prog_14_method_40_code 5 = .ok (.iload_n 1, 1) := by decide +kernel
theorem d_X12_sheet_6 : decode prog_14_method_40_code 6 = .ok (.i2l, 1) := by decide +kernel
theorem d_X12_sheet_7 : decode prog_14_method_40_code 7 = .ok (.lconst 0, 1) := by decide +kernel
theorem d_X12_sheet_8 : decode prog_14_method_40_code 8 = .ok (.ldc2_w 109, 3) := by decide +kernel
theorem d_X12_sheet_11 : decode prog_14_method_40_code 11 = .ok (.invokestatic 105, 3) := by decide +kernel
theorem d_X12_sheet_14 : decode prog_14_method_40_code 14 = .ok (.ifCond .eq 9, 3) := by decide +kernel
theorem d_X12_sheet_17 : decode prog_14_method_40_code 17 = .ok (.iload_n 2, 1) := by decide +kernel
theorem d_X12_sheet_18 : decode prog_14_method_40_code 18 = .ok (.bipush 8, 2) := by decide +kernel
theorem d_X12_sheet_20 : decode prog_14_method_40_code 20 = .ok (.if_icmp .le 5, 3) := by decide +kernel
theorem d_X12_sheet_23 : decode prog_14_method_40_code 23 = .ok (.iconst (-1), 1) := by decide +kernel
theorem d_X12_sheet_24 : decode prog_14_method_40_code 24 = .ok (.ireturn, 1) := by decide +kernel
theorem d_X12_sheet_25 : decode prog_14_method_40_code 25 = .ok (.iload_n 1, 1) := by decide +kernel
theorem d_X12_sheet_26 : decode prog_14_method_40_code 26 = .ok (.iconst 3, 1) := by decide +kernel
theorem d_X12_sheet_27 : decode prog_14_method_40_code 27 = .ok (.if_icmp .eq 10, 3) := by decide +kernel
theorem d_X12_sheet_30 : decode prog_14_method_40_code 30 = .ok (.iload_n 2, 1) := by decide +kernel
theorem d_X12_sheet_31 : decode prog_14_method_40_code 31 = .ok (.ifCond .ge 6, 3) := by decide +kernel
theorem d_X12_sheet_34 : decode prog_14_method_40_code 34 = .ok (.bipush (-2), 2) := by decide +kernel
theorem d_X12_sheet_36 : decode prog_14_method_40_code 36 = .ok (.ireturn, 1) := by decide +kernel
theorem d_X12_sheet_37 : decode prog_14_method_40_code 37 = .ok (.iload_n 3, 1) := by decide +kernel
theorem d_X12_sheet_38 : decode prog_14_method_40_code 38 = .ok (.istore 5, 2) := by decide +kernel
theorem d_X12_sheet_40 : decode prog_14_method_40_code 40 = .ok (.iconst 0, 1) := by decide +kernel
theorem d_X12_sheet_41 : decode prog_14_method_40_code 41 = .ok (.istore 6, 2) := by decide +kernel
theorem d_X12_sheet_43 : decode prog_14_method_40_code 43 = .ok (.iload 6, 2) := by decide +kernel
theorem d_X12_sheet_45 : decode prog_14_method_40_code 45 = .ok (.aload_n 0, 1) := by decide +kernel
theorem d_X12_sheet_46 : decode prog_14_method_40_code 46 = .ok (.getfield 102, 3) := by decide +kernel
theorem d_X12_sheet_49 : decode prog_14_method_40_code 49 = .ok (.if_icmp .ge 74, 3) := by decide +kernel
theorem d_X12_sheet_52 : decode prog_14_method_40_code 52 = .ok (.iload_n 1, 1) := by decide +kernel
theorem d_X12_sheet_53 : decode prog_14_method_40_code 53 = .ok (.ifCond .ne 9, 3) := by decide +kernel
theorem d_X12_sheet_56 : decode prog_14_method_40_code 56 = .ok (.iload 5, 2) := by decide +kernel
theorem d_X12_sheet_58 : decode prog_14_method_40_code 58 = .ok (.i2b, 1) := by decide +kernel
theorem d_X12_sheet_59 : decode prog_14_method_40_code 59 = .ok (.goto 16, 3) := by decide +kernel
theorem d_X12_sheet_62 : decode prog_14_method_40_code 62 = .ok (.iload_n 1, 1) := by decide +kernel
theorem d_X12_sheet_63 : decode prog_14_method_40_code 63 = .ok (.iconst 1, 1) := by decide +kernel
theorem d_X12_sheet_64 : decode prog_14_method_40_code 64 = .ok (.if_icmp .ne 9, 3) := by decide +kernel
theorem d_X12_sheet_67 : decode prog_14_method_40_code 67 = .ok (.iload 5, 2) := by decide +kernel
theorem d_X12_sheet_69 : decode prog_14_method_40_code 69 = .ok (.i2s, 1) := by decide +kernel
theorem d_X12_sheet_70 : decode prog_14_method_40_code 70 = .ok (.goto 5, 3) := by decide +kernel
theorem d_X12_sheet_73 : decode prog_14_method_40_code 73 = .ok (.iload 5, 2) := by decide +kernel
theorem d_X12_sheet_75 : decode prog_14_method_40_code 75 = .ok (.istore 7, 2) := by decide +kernel
theorem d_X12_sheet_77 : decode prog_14_method_40_code 77 = .ok (.aload_n 0, 1) := by decide +kernel
theorem d_X12_sheet_78 : decode prog_14_method_40_code 78 = .ok (.getfield 17, 3) := by decide +kernel
theorem d_X12_sheet_81 : decode prog_14_method_40_code 81 = .ok (.iload 6, 2) := by decide +kernel
theorem d_X12_sheet_83 : decode prog_14_method_40_code 83 = .ok (.iload_n 1, 1) := by decide +kernel
theorem d_X12_sheet_84 : decode prog_14_method_40_code 84 = .ok (.iconst 3, 1) := by decide +kernel
theorem d_X12_sheet_85 : decode prog_14_method_40_code 85 = .ok (.if_icmp .eq 9, 3) := by decide +kernel
theorem d_X12_sheet_88 : decode prog_14_method_40_code 88 = .ok (.iload 6, 2) := by decide +kernel
theorem d_X12_sheet_90 : decode prog_14_method_40_code 90 = .ok (.iload_n 2, 1) := by decide +kernel
theorem d_X12_sheet_91 : decode prog_14_method_40_code 91 = .ok (.if_icmp .lt 7, 3) := by decide +kernel
theorem d_X12_sheet_94 : decode prog_14_method_40_code 94 = .ok (.iconst 0, 1) := by decide +kernel
theorem d_X12_sheet_95 : decode prog_14_method_40_code 95 = .ok (.goto 14, 3) := by decide +kernel
theorem d_X12_sheet_98 : decode prog_14_method_40_code 98 = .ok (.iconst 0, 1) := by decide +kernel
theorem d_X12_sheet_99 : decode prog_14_method_40_code 99 = .ok (.bipush 9, 2) := by decide +kernel
theorem d_X12_sheet_101 : decode prog_14_method_40_code 101 = .ok (.iload 7, 2) := by decide +kernel
theorem d_X12_sheet_103 : decode prog_14_method_40_code 103 = .ok (.invokestatic 126, 3) := by decide +kernel
theorem d_X12_sheet_106 : decode prog_14_method_40_code 106 = .ok (.invokestatic 251, 3) := by decide +kernel
theorem d_X12_sheet_109 : decode prog_14_method_40_code 109 = .ok (.iastore, 1) := by decide +kernel
theorem d_X12_sheet_110 : decode prog_14_method_40_code 110 = .ok (.iload 5, 2) := by decide +kernel
theorem d_X12_sheet_112 : decode prog_14_method_40_code 112 = .ok (.iload 4, 2) := by decide +kernel
theorem d_X12_sheet_114 : decode prog_14_method_40_code 114 = .ok (.iadd, 1) := by decide +kernel
theorem d_X12_sheet_115 : decode prog_14_method_40_code 115 = .ok (.istore 5, 2) := by decide +kernel
theorem d_X12_sheet_117 : decode prog_14_method_40_code 117 = .ok (.iinc 6 1, 3) := by decide +kernel
theorem d_X12_sheet_120 : decode prog_14_method_40_code 120 = .ok (.goto (-77), 3) := by decide +kernel
theorem d_X12_sheet_123 : decode prog_14_method_40_code 123 = .ok (.iload_n 1, 1) := by decide +kernel
theorem d_X12_sheet_124 : decode prog_14_method_40_code 124 = .ok (.iconst 3, 1) := by decide +kernel
theorem d_X12_sheet_125 : decode prog_14_method_40_code 125 = .ok (.if_icmp .ne 8, 3) := by decide +kernel
theorem d_X12_sheet_128 : decode prog_14_method_40_code 128 = .ok (.bipush (-3), 2) := by decide +kernel
theorem d_X12_sheet_130 : decode prog_14_method_40_code 130 = .ok (.goto 12, 3) := by decide +kernel
theorem d_X12_sheet_133 : decode prog_14_method_40_code 133 = .ok (.aload_n 0, 1) := by decide +kernel
theorem d_X12_sheet_134 : decode prog_14_method_40_code 134 = .ok (.aload_n 0, 1) := by decide +kernel
theorem d_X12_sheet_135 : decode prog_14_method_40_code 135 = .ok (.getfield 17, 3) := by decide +kernel
theorem d_X12_sheet_138 : decode prog_14_method_40_code 138 = .ok (.iconst 0, 1) := by decide +kernel
theorem d_X12_sheet_139 : decode prog_14_method_40_code 139 = .ok (.invokevirtual 254, 3) := by decide +kernel
theorem d_X12_sheet_142 : decode prog_14_method_40_code 142 = .ok (.ireturn, 1) := by decide +kernel
def f_X12_sheet_j109_43 (τ : St) (x1 : Int32) (x2 : Int32) (x4 : Int32) (x5 : Int32) (x6 : Int32) (s1 : Int32) (s2 : Int32) : Option ((Int32 × Int32 × St) ⊕ (St)) := gd (inb s1 34) (some (.inl ((x5 + x4), (x6 + (1 : Int32)), (sA τ 306 s1.toNatClampNeg s2))))
def f_X12_sheet_j94_43 (τ : St) (x1 : Int32) (x2 : Int32) (x4 : Int32) (x5 : Int32) (x6 : Int32) (s1 : Int32) : Option ((Int32 × Int32 × St) ⊕ (St)) := f_X12_sheet_j109_43 τ x1 x2 x4 x5 x6 s1 (0 : Int32)
def f_X12_sheet_j75_43 (τ : St) (x1 : Int32) (x2 : Int32) (x4 : Int32) (x5 : Int32) (x6 : Int32) (s0 : Int32) : Option ((Int32 × Int32 × St) ⊕ (St)) := (if x1 = (3 : Int32) then f_X12_sheet_j94_43 τ x1 x2 x4 x5 x6 x6 else (if x6 < x2 then f_X12_sheet_j109_43 τ x1 x2 x4 x5 x6 x6 (if (0 : Int32) < (if s0 < (9 : Int32) then s0 else (9 : Int32)) then (if s0 < (9 : Int32) then s0 else (9 : Int32)) else (0 : Int32)) else f_X12_sheet_j94_43 τ x1 x2 x4 x5 x6 x6))
def f_X12_sheet_s43 (τ : St) (y1 : Int32) (y2 : Int32) (y4 : Int32) (x5 : Int32) (x6 : Int32) : Option ((Int32 × Int32 × St) ⊕ (St)) := (if (cF τ 300 3) ≤ x6 then some (.inr τ) else f_X12_sheet_j75_43 τ y1 y2 y4 x5 x6 (if y1 = 0 then x5.toInt8.toInt32 else (if y1 = (1 : Int32) then x5.toInt16.toInt32 else x5)))
def f_X12_sheet_j37 (τ : St) (x1 : Int32) (x2 : Int32) (x3 : Int32) (x4 : Int32) : Option (Int32 × St) := (iter (fun z => f_X12_sheet_s43 z.2.2 x1 x2 x4 z.1 z.2.1) FU (x3, (0 : Int32), τ)).bind (fun z4 => (if x1 = (3 : Int32) then some ((-3 : Int32), z4) else (f_X12_sumOf z4 306 (0 : Int32)).bind (fun q7 => some (q7, z4))))
def f_X12_sheet (σ : St) (a1 : Int32) (a2 : Int32) (a3 : Int32) (a4 : Int32) : Option (Int32 × St) := (f_X12_in a1.toInt64 (0 : Int64) (3 : Int64)).bind (fun q1 => (if q1 = 0 then some ((-1 : Int32), (sF σ 300 0 (0 : Int32))) else (if a2 ≤ (8 : Int32) then (if a1 = (3 : Int32) then f_X12_sheet_j37 (sF σ 300 0 (0 : Int32)) a1 a2 a3 a4 else (if 0 ≤ a2 then f_X12_sheet_j37 (sF σ 300 0 (0 : Int32)) a1 a2 a3 a4 else some ((-2 : Int32), (sF σ 300 0 (0 : Int32))))) else some ((-1 : Int32), (sF σ 300 0 (0 : Int32))))))
theorem c_X12_sheet {l : Launch} {G : gT} {χ σ : St} {a1 : Int32} {a2 : Int32} {a3 : Int32} {a4 : Int32} (hf : FW G) {q : Int32 × St} (h : f_X12_sheet σ a1 a2 a3 a4 = some q) : Ct l G yX12_sheet prog_14_method_40_code 8 (some .int) 1 25 [.ref (ga G 300), .int a1, .int a2, .int a3, .int a4] χ σ (some (.int q.1)) χ q.2 := by
  refine Ct.of (by decide) (Nat.le_of_ble_eq_true rfl) ?_
  intro p e s m args below meth c Q X hr hlk hQ
  have hx := X.1
  have hb := X.2.1
  have j109_43 : ∀ (τ : St) (x1 : Int32) (x2 : Int32) (x4 : Int32) (x5 : Int32) (x6 : Int32) (s1 : Int32) (s2 : Int32) (o : (Int32 × Int32 × St) ⊕ (St)), f_X12_sheet_j109_43 τ x1 x2 x4 x5 x6 s1 s2 = some o → Sum.elim (fun z : Int32 × Int32 × St => Wat p l e (rmk 1 25) s m args below meth c Q G 8 43 [] [(5, .int z.1), (6, .int z.2.1), (0, .ref (ga G 300)), (1, .int x1), (2, .int x2), (4, .int x4)] χ z.2.2) (fun z : St => Wat p l e (rmk 1 25) s m args below meth c Q G 8 123 [] [(0, .ref (ga G 300)), (1, .int x1)] χ z) o → Wat p l e (rmk 1 25) s m args below meth c Q G 8 109 [.int s2, .int s1, .ref (ga G 306)] [(0, .ref (ga G 300)), (1, .int x1), (2, .int x2), (4, .int x4), (5, .int x5), (6, .int x6)] χ τ := by
    intro τ x1 x2 x4 x5 x6 s1 s2 o h hk H locs ls hw hl
    unfold f_X12_sheet_j109_43 at h
    obtain ⟨hi3, h⟩ := gd_some h
    refine m_iast X hw (o_306 hf) (Nat.le_of_ble_eq_true rfl) hi3 d_X12_sheet_109 (fun H locs hw => ?_)
    refine lv_iload hx hb d_X12_sheet_110 (lv_at hl 4 rfl) ?_
    refine lv_iload hx hb d_X12_sheet_112 (lv_at hl 3 rfl) ?_
    refine lv_iadd hx hb d_X12_sheet_114 ?_
    refine lv_istore (lv' := [(5, .int (x5 + x4)), (0, .ref (ga G 300)), (1, .int x1), (2, .int x2), (4, .int x4), (6, .int x6)]) hx hb d_X12_sheet_115 hl (Nat.le_of_ble_eq_true rfl) rfl (fun ls hl => ?_)
    refine lv_iinc (v := (x6 + (1 : Int32))) (k := 5) (lv' := [(6, .int (x6 + (1 : Int32))), (5, .int (x5 + x4)), (0, .ref (ga G 300)), (1, .int x1), (2, .int x2), (4, .int x4)]) hx hb d_X12_sheet_117 hl rfl (by rfl) (Nat.le_of_ble_eq_true rfl) rfl (fun ls hl => ?_)
    refine lv_goto (tgt := 43) hx hb d_X12_sheet_120 (by decide) ?_
    obtain rfl := Option.some.inj h
    dsimp only [Sum.elim_inl] at hk
    exact hk _ _ _ hw (lv_sub hl [1, 0, 2, 3, 4, 5] rfl)
  have j94_43 : ∀ (τ : St) (x1 : Int32) (x2 : Int32) (x4 : Int32) (x5 : Int32) (x6 : Int32) (s1 : Int32) (o : (Int32 × Int32 × St) ⊕ (St)), f_X12_sheet_j94_43 τ x1 x2 x4 x5 x6 s1 = some o → Sum.elim (fun z : Int32 × Int32 × St => Wat p l e (rmk 1 25) s m args below meth c Q G 8 43 [] [(5, .int z.1), (6, .int z.2.1), (0, .ref (ga G 300)), (1, .int x1), (2, .int x2), (4, .int x4)] χ z.2.2) (fun z : St => Wat p l e (rmk 1 25) s m args below meth c Q G 8 123 [] [(0, .ref (ga G 300)), (1, .int x1)] χ z) o → Wat p l e (rmk 1 25) s m args below meth c Q G 8 94 [.int s1, .ref (ga G 306)] [(0, .ref (ga G 300)), (1, .int x1), (2, .int x2), (4, .int x4), (5, .int x5), (6, .int x6)] χ τ := by
    intro τ x1 x2 x4 x5 x6 s1 o h hk H locs ls hw hl
    unfold f_X12_sheet_j94_43 at h
    refine lv_iconst (v := (0 : Int32)) hx hb d_X12_sheet_94 (by decide) ?_
    refine lv_goto (tgt := 109) hx hb d_X12_sheet_95 (by decide) ?_
    exact j109_43 τ x1 x2 x4 x5 x6 s1 (0 : Int32) o h hk _ _ _ hw (lv_sub hl [0, 1, 2, 3, 4, 5] rfl)
  have j75_43 : ∀ (τ : St) (x1 : Int32) (x2 : Int32) (x4 : Int32) (x5 : Int32) (x6 : Int32) (s0 : Int32) (o : (Int32 × Int32 × St) ⊕ (St)), f_X12_sheet_j75_43 τ x1 x2 x4 x5 x6 s0 = some o → Sum.elim (fun z : Int32 × Int32 × St => Wat p l e (rmk 1 25) s m args below meth c Q G 8 43 [] [(5, .int z.1), (6, .int z.2.1), (0, .ref (ga G 300)), (1, .int x1), (2, .int x2), (4, .int x4)] χ z.2.2) (fun z : St => Wat p l e (rmk 1 25) s m args below meth c Q G 8 123 [] [(0, .ref (ga G 300)), (1, .int x1)] χ z) o → Wat p l e (rmk 1 25) s m args below meth c Q G 8 75 [.int s0] [(0, .ref (ga G 300)), (1, .int x1), (2, .int x2), (4, .int x4), (5, .int x5), (6, .int x6)] χ τ := by
    intro τ x1 x2 x4 x5 x6 s0 o h hk H locs ls hw hl
    unfold f_X12_sheet_j75_43 at h
    refine lv_istore (lv' := [(7, .int s0), (0, .ref (ga G 300)), (1, .int x1), (2, .int x2), (4, .int x4), (5, .int x5), (6, .int x6)]) hx hb d_X12_sheet_75 hl (Nat.le_of_ble_eq_true rfl) rfl (fun ls hl => ?_)
    refine lv_aload_n hx hb d_X12_sheet_77 rfl (lv_at hl 1 rfl) ?_
    refine r_getr (j := 6) X hw ct8 (o_300 hf) rfl (Nat.le_of_ble_eq_true rfl) (q := 306) rfl wd_962 d_X12_sheet_78 ?_
    refine lv_iload hx hb d_X12_sheet_81 (lv_at hl 6 rfl) ?_
    refine lv_iload_n hx hb d_X12_sheet_83 rfl (lv_at hl 2 rfl) ?_
    refine lv_iconst (v := (3 : Int32)) hx hb d_X12_sheet_84 (by decide) ?_
    refine lv_icmp_eq (tgt := 94) hx hb d_X12_sheet_85 (by decide) (fun hc => ?_) (fun hc => ?_)
    · have h := ite_t h hc
      exact j94_43 τ x1 x2 x4 x5 x6 x6 o h hk _ _ _ hw (lv_sub hl [1, 2, 3, 4, 5, 6] rfl)
    · have h := ite_f h hc
      refine lv_iload hx hb d_X12_sheet_88 (lv_at hl 6 rfl) ?_
      refine lv_iload_n hx hb d_X12_sheet_90 rfl (lv_at hl 3 rfl) ?_
      refine lv_icmp_lt (tgt := 98) hx hb d_X12_sheet_91 (by decide) (fun hc => ?_) (fun hc => ?_)
      · have h := ite_t h hc
        refine lv_iconst (v := (0 : Int32)) hx hb d_X12_sheet_98 (by decide) ?_
        refine lv_bipush (v := (9 : Int32)) hx hb d_X12_sheet_99 (by decide) ?_
        refine lv_iload hx hb d_X12_sheet_101 (lv_at hl 0 rfl) ?_
        refine r_min X hl wd_1103 ⟨Nat.le_of_ble_eq_true rfl, Nat.le_of_ble_eq_true rfl⟩ ⟨Nat.le_refl _, Nat.le_refl _⟩ d_X12_sheet_103 ?_
        refine r_max X hl wd_1232 ⟨Nat.le_of_ble_eq_true rfl, Nat.le_of_ble_eq_true rfl⟩ ⟨Nat.le_refl _, Nat.le_refl _⟩ d_X12_sheet_106 ?_
        exact j109_43 τ x1 x2 x4 x5 x6 x6 (if (0 : Int32) < (if s0 < (9 : Int32) then s0 else (9 : Int32)) then (if s0 < (9 : Int32) then s0 else (9 : Int32)) else (0 : Int32)) o h hk _ _ _ hw (lv_sub hl [1, 2, 3, 4, 5, 6] rfl)
      · have h := ite_f h hc
        exact j94_43 τ x1 x2 x4 x5 x6 x6 o h hk _ _ _ hw (lv_sub hl [1, 2, 3, 4, 5, 6] rfl)
  have b43 : ∀ (τ : St) (y1 : Int32) (y2 : Int32) (y4 : Int32) (x5 : Int32) (x6 : Int32) (o : (Int32 × Int32 × St) ⊕ (St)), f_X12_sheet_s43 τ y1 y2 y4 x5 x6 = some o → Sum.elim (fun z : Int32 × Int32 × St => Wat p l e (rmk 1 25) s m args below meth c Q G 8 43 [] [(5, .int z.1), (6, .int z.2.1), (0, .ref (ga G 300)), (1, .int y1), (2, .int y2), (4, .int y4)] χ z.2.2) (fun z : St => Wat p l e (rmk 1 25) s m args below meth c Q G 8 123 [] [(0, .ref (ga G 300)), (1, .int y1)] χ z) o → Wat p l e (rmk 1 25) s m args below meth c Q G 8 43 [] [(5, .int x5), (6, .int x6), (0, .ref (ga G 300)), (1, .int y1), (2, .int y2), (4, .int y4)] χ τ := by
    intro τ y1 y2 y4 x5 x6 o h hk H locs ls hw hl
    unfold f_X12_sheet_s43 at h
    refine lv_iload hx hb d_X12_sheet_43 (lv_at hl 1 rfl) ?_
    refine lv_aload_n hx hb d_X12_sheet_45 rfl (lv_at hl 2 rfl) ?_
    refine m_geti (j := 3) X hw ct8 (o_300 hf) (Nat.le_of_ble_eq_true rfl) rfl (Nat.le_of_ble_eq_true rfl) wd_959 d_X12_sheet_46 ?_
    refine lv_icmp_ge (tgt := 123) hx hb d_X12_sheet_49 (by decide) (fun hc => ?_) (fun hc => ?_)
    · have h := ite_t h hc
      obtain rfl := Option.some.inj h
      dsimp only [Sum.elim_inr] at hk
      exact hk _ _ _ hw (lv_sub hl [2, 3] rfl)
    · have h := ite_f h hc
      refine lv_iload_n hx hb d_X12_sheet_52 rfl (lv_at hl 3 rfl) ?_
      refine lv_if_ne (tgt := 62) hx hb d_X12_sheet_53 (by decide) (fun hc => ?_) (fun hc => ?_)
      · simp only [if_neg hc] at h
        refine lv_iload_n hx hb d_X12_sheet_62 rfl (lv_at hl 3 rfl) ?_
        refine lv_iconst (v := (1 : Int32)) hx hb d_X12_sheet_63 (by decide) ?_
        refine lv_icmp_ne (tgt := 73) hx hb d_X12_sheet_64 (by decide) (fun hc => ?_) (fun hc => ?_)
        · simp only [if_neg hc] at h
          refine lv_iload hx hb d_X12_sheet_73 (lv_at hl 0 rfl) ?_
          exact j75_43 τ y1 y2 y4 x5 x6 x5 o h hk _ _ _ hw (lv_sub hl [2, 3, 4, 5, 0, 1] rfl)
        · simp only [if_pos hc] at h
          refine lv_iload hx hb d_X12_sheet_67 (lv_at hl 0 rfl) ?_
          refine lv_i2s hx hb d_X12_sheet_69 rfl ?_
          refine lv_goto (tgt := 75) hx hb d_X12_sheet_70 (by decide) ?_
          exact j75_43 τ y1 y2 y4 x5 x6 x5.toInt16.toInt32 o h hk _ _ _ hw (lv_sub hl [2, 3, 4, 5, 0, 1] rfl)
      · simp only [if_pos hc] at h
        refine lv_iload hx hb d_X12_sheet_56 (lv_at hl 0 rfl) ?_
        refine lv_i2b hx hb d_X12_sheet_58 rfl ?_
        refine lv_goto (tgt := 75) hx hb d_X12_sheet_59 (by decide) ?_
        exact j75_43 τ y1 y2 y4 x5 x6 x5.toInt8.toInt32 o h hk _ _ _ hw (lv_sub hl [2, 3, 4, 5, 0, 1] rfl)
  have j37 : ∀ (τ : St) (x1 : Int32) (x2 : Int32) (x3 : Int32) (x4 : Int32), f_X12_sheet_j37 τ x1 x2 x3 x4 = some q → Wat p l e (rmk 1 25) s m args below meth c Q G 8 37 [] [(0, .ref (ga G 300)), (1, .int x1), (2, .int x2), (3, .int x3), (4, .int x4)] χ τ := by
    intro τ x1 x2 x3 x4 h H locs ls hw hl
    unfold f_X12_sheet_j37 at h
    refine lv_iload_n hx hb d_X12_sheet_37 rfl (lv_at hl 3 rfl) ?_
    refine lv_istore (lv' := [(5, .int x3), (0, .ref (ga G 300)), (1, .int x1), (2, .int x2), (3, .int x3), (4, .int x4)]) hx hb d_X12_sheet_38 hl (Nat.le_of_ble_eq_true rfl) rfl (fun ls hl => ?_)
    refine lv_iconst (v := (0 : Int32)) hx hb d_X12_sheet_40 (by decide) ?_
    refine lv_istore (lv' := [(6, .int (0 : Int32)), (5, .int x3), (0, .ref (ga G 300)), (1, .int x1), (2, .int x2), (3, .int x3), (4, .int x4)]) hx hb d_X12_sheet_41 hl (Nat.le_of_ble_eq_true rfl) rfl (fun ls hl => ?_)
    obtain ⟨z4, e5, h⟩ := bd_some h
    refine iter_w (Wh := fun z : Int32 × Int32 × St => Wat p l e (rmk 1 25) s m args below meth c Q G 8 43 [] [(5, .int z.1), (6, .int z.2.1), (0, .ref (ga G 300)), (1, .int x1), (2, .int x2), (4, .int x4)] χ z.2.2) (K := fun z : St => Wat p l e (rmk 1 25) s m args below meth c Q G 8 123 [] [(0, .ref (ga G 300)), (1, .int x1)] χ z) (fun z o h1 h2 => b43 z.2.2 x1 x2 x4 z.1 z.2.1 o h1 h2) FU _ _ e5 ?_ _ _ _ hw (lv_sub hl [1, 0, 2, 3, 4, 6] rfl)
    intro H locs ls hw hl
    refine lv_iload_n hx hb d_X12_sheet_123 rfl (lv_at hl 1 rfl) ?_
    refine lv_iconst (v := (3 : Int32)) hx hb d_X12_sheet_124 (by decide) ?_
    refine lv_icmp_ne (tgt := 133) hx hb d_X12_sheet_125 (by decide) (fun hc => ?_) (fun hc => ?_)
    · have h := ite_f h hc
      refine lv_aload_n hx hb d_X12_sheet_133 rfl (lv_at hl 0 rfl) ?_
      refine lv_aload_n hx hb d_X12_sheet_134 rfl (lv_at hl 0 rfl) ?_
      refine r_getr (j := 6) X hw ct8 (o_300 hf) rfl (Nat.le_of_ble_eq_true rfl) (q := 306) rfl wd_962 d_X12_sheet_135 ?_
      refine lv_iconst (v := (0 : Int32)) hx hb d_X12_sheet_138 (by decide) ?_
      obtain ⟨q7, e8, h⟩ := bd_some h
      refine r_callV (As := [.ref (ga G 306), .int (0 : Int32)]) (rest := []) (st' := [.int q7]) X hw hl mwX12_sumOf wd_1235 wp_31 wd_1233 (c_X12_sumOf hf (o_306 hf) (Nat.le_of_ble_eq_true rfl) e8) (r_recv X hw ct8 (o_300 hf)) rfl ⟨Nat.le_of_ble_eq_true rfl, Nat.le_of_ble_eq_true rfl⟩ ⟨Nat.le_refl _, Nat.le_refl _⟩ rfl rfl (Nat.le_of_ble_eq_true rfl) d_X12_sheet_139 (fun H locs hw => ?_)
      obtain rfl := Option.some.inj h
      subst hQ
      exact r_iret X hr hlk hw d_X12_sheet_142
    · have h := ite_t h hc
      refine lv_bipush (v := (-3 : Int32)) hx hb d_X12_sheet_128 (by decide) ?_
      refine lv_goto (tgt := 142) hx hb d_X12_sheet_130 (by decide) ?_
      obtain rfl := Option.some.inj h
      subst hQ
      exact r_iret X hr hlk hw d_X12_sheet_142
  intro H locs ls hw hl
  have hl : lv_has ls 8 [(0, .ref (ga G 300)), (1, .int a1), (2, .int a2), (3, .int a3), (4, .int a4)] := hl
  unfold f_X12_sheet at h
  refine lv_aload_n hx hb d_X12_sheet_0 rfl (lv_at hl 0 rfl) ?_
  refine lv_iconst (v := (0 : Int32)) hx hb d_X12_sheet_1 (by decide) ?_
  refine m_puti (j := 0) X hw ct8 (o_300 hf) (Nat.le_of_ble_eq_true rfl) rfl (Nat.le_of_ble_eq_true rfl) rfl rfl rfl wd_956 d_X12_sheet_2 (fun H locs hw => ?_)
  refine lv_iload_n hx hb d_X12_sheet_5 rfl (lv_at hl 1 rfl) ?_
  refine lv_i2l hx hb d_X12_sheet_6 rfl ?_
  refine lv_lconst (v := (0 : Int64)) hx hb d_X12_sheet_7 (by decide) ?_
  refine r_ldc2 X wd_1231 d_X12_sheet_8 ?_
  obtain ⟨q1, e2, h⟩ := bd_some h
  refine r_callS (As := [.long a1.toInt64, .long (0 : Int64), .long (3 : Int64)]) (rest := []) (st' := [.int q1]) X hw hl mwX12_in wd_1093 wd_1092 (c_X12_in hf e2) rfl ⟨Nat.le_of_ble_eq_true rfl, Nat.le_of_ble_eq_true rfl⟩ ⟨Nat.le_refl _, Nat.le_refl _⟩ rfl rfl (Nat.le_of_ble_eq_true rfl) d_X12_sheet_11 (fun H locs hw => ?_)
  refine lv_if_eq (tgt := 23) hx hb d_X12_sheet_14 (by decide) (fun hc => ?_) (fun hc => ?_)
  · have h := ite_t h hc
    refine lv_iconst (v := (-1 : Int32)) hx hb d_X12_sheet_23 (by decide) ?_
    obtain rfl := Option.some.inj h
    subst hQ
    exact r_iret X hr hlk hw d_X12_sheet_24
  · have h := ite_f h hc
    refine lv_iload_n hx hb d_X12_sheet_17 rfl (lv_at hl 2 rfl) ?_
    refine lv_bipush (v := (8 : Int32)) hx hb d_X12_sheet_18 (by decide) ?_
    refine lv_icmp_le (tgt := 25) hx hb d_X12_sheet_20 (by decide) (fun hc => ?_) (fun hc => ?_)
    · have h := ite_t h hc
      refine lv_iload_n hx hb d_X12_sheet_25 rfl (lv_at hl 1 rfl) ?_
      refine lv_iconst (v := (3 : Int32)) hx hb d_X12_sheet_26 (by decide) ?_
      refine lv_icmp_eq (tgt := 37) hx hb d_X12_sheet_27 (by decide) (fun hc => ?_) (fun hc => ?_)
      · have h := ite_t h hc
        exact j37 (sF σ 300 0 (0 : Int32)) a1 a2 a3 a4 h _ _ _ hw (lv_sub hl [0, 1, 2, 3, 4] rfl)
      · have h := ite_f h hc
        refine lv_iload_n hx hb d_X12_sheet_30 rfl (lv_at hl 2 rfl) ?_
        refine lv_if_ge (tgt := 37) hx hb d_X12_sheet_31 (by decide) (fun hc => ?_) (fun hc => ?_)
        · have h := ite_t h hc
          exact j37 (sF σ 300 0 (0 : Int32)) a1 a2 a3 a4 h _ _ _ hw (lv_sub hl [0, 1, 2, 3, 4] rfl)
        · have h := ite_f h hc
          refine lv_bipush (v := (-2 : Int32)) hx hb d_X12_sheet_34 (by decide) ?_
          obtain rfl := Option.some.inj h
          subst hQ
          exact r_iret X hr hlk hw d_X12_sheet_36
    · have h := ite_f h hc
      refine lv_iconst (v := (-1 : Int32)) hx hb d_X12_sheet_23 (by decide) ?_
      obtain rfl := Option.some.inj h
      subst hQ
      exact r_iret X hr hlk hw d_X12_sheet_24
abbrev yX12_putsBy : MethodName := ⟨"OysterBedsModel", "putsBy", "()V"⟩
theorem mwX12_putsBy : MW yX12_putsBy prog_14_method_41_code 2 none 0 := ⟨wd_1252, wd_10, by decide +kernel⟩
theorem d_X12_putsBy_0 : decode prog_14_method_41_code 0 = .ok (.iconst 0, 1) := by decide +kernel
theorem d_X12_putsBy_1 : decode prog_14_method_41_code 1 = .ok (.istore_n 1, 1) := by decide +kernel
theorem d_X12_putsBy_2 : decode prog_14_method_41_code 2 = .ok (.iload_n 1, 1) := by decide +kernel
theorem d_X12_putsBy_3 : decode prog_14_method_41_code 3 = .ok (.bipush 34, 2) := by decide +kernel
theorem d_X12_putsBy_5 : decode prog_14_method_41_code 5 = .ok (.if_icmp .ge 29, 3) := by decide +kernel
theorem d_X12_putsBy_8 : decode prog_14_method_41_code 8 = .ok (.aload_n 0, 1) := by decide +kernel
theorem d_X12_putsBy_9 : decode prog_14_method_41_code 9 = .ok (.getfield 41, 3) := by decide +kernel
theorem d_X12_putsBy_12 : decode prog_14_method_41_code 12 = .ok (.bipush 34, 2) := by decide +kernel
theorem d_X12_putsBy_14 : decode prog_14_method_41_code 14 = .ok (.aload_n 0, 1) := by decide +kernel
theorem d_X12_putsBy_15 : decode prog_14_method_41_code 15 = .ok (.getfield 187, 3) := by decide +kernel
theorem d_X12_putsBy_18 : decode prog_14_method_41_code 18 = .ok (.imul, 1) := by decide +kernel
theorem d_X12_putsBy_19 : decode prog_14_method_41_code 19 = .ok (.iload_n 1, 1) := by decide +kernel
theorem d_X12_putsBy_20 : decode prog_14_method_41_code 20 = .ok (.iadd, 1) := by decide +kernel
theorem d_X12_putsBy_21 : decode prog_14_method_41_code 21 = .ok (.aload_n 0, 1) := by decide +kernel
theorem d_X12_putsBy_22 : decode prog_14_method_41_code 22 = .ok (.getfield 17, 3) := by decide +kernel
theorem d_X12_putsBy_25 : decode prog_14_method_41_code 25 = .ok (.iload_n 1, 1) := by decide +kernel
theorem d_X12_putsBy_26 : decode prog_14_method_41_code 26 = .ok (.iaload, 1) := by decide +kernel
theorem d_X12_putsBy_27 : decode prog_14_method_41_code 27 = .ok (.iastore, 1) := by decide +kernel
theorem d_X12_putsBy_28 : decode prog_14_method_41_code 28 = .ok (.iinc 1 1, 3) := by decide +kernel
theorem d_X12_putsBy_31 : decode prog_14_method_41_code 31 = .ok (.goto (-29), 3) := by decide +kernel
theorem d_X12_putsBy_34 : decode prog_14_method_41_code 34 = .ok (.return_, 1) := by decide +kernel
def f_X12_putsBy_s2 (τ : St) (x1 : Int32) : Option ((Int32 × St) ⊕ (St)) := (if (34 : Int32) ≤ x1 then some (.inr τ) else gd (inb x1 34) (gd (inb (((34 : Int32) * (cF τ 300 21)) + x1) 544) (some (.inl ((x1 + (1 : Int32)), (sA τ 322 (((34 : Int32) * (cF τ 300 21)) + x1).toNatClampNeg (cA τ 306 x1.toNatClampNeg)))))))
def f_X12_putsBy (σ : St) : Option (St) := (iter (fun z => f_X12_putsBy_s2 z.2 z.1) FU ((0 : Int32), σ)).bind (fun z3 => some z3)
theorem c_X12_putsBy {l : Launch} {G : gT} {χ σ : St} (hf : FW G) {q : St} (h : f_X12_putsBy σ = some q) : Ct l G yX12_putsBy prog_14_method_41_code 2 none 0 0 [.ref (ga G 300)] χ σ (none) χ q := by
  refine Ct.of (by decide) (Nat.le_of_ble_eq_true rfl) ?_
  intro p e s m args below meth c Q X hr hlk hQ
  have hx := X.1
  have hb := X.2.1
  have b2 : ∀ (τ : St) (x1 : Int32) (o : (Int32 × St) ⊕ (St)), f_X12_putsBy_s2 τ x1 = some o → Sum.elim (fun z : Int32 × St => Wat p l e (rmk 0 0) s m args below meth c Q G 2 2 [] [(1, .int z.1), (0, .ref (ga G 300))] χ z.2) (fun z : St => Wat p l e (rmk 0 0) s m args below meth c Q G 2 34 [] [] χ z) o → Wat p l e (rmk 0 0) s m args below meth c Q G 2 2 [] [(1, .int x1), (0, .ref (ga G 300))] χ τ := by
    intro τ x1 o h hk H locs ls hw hl
    unfold f_X12_putsBy_s2 at h
    refine lv_iload_n hx hb d_X12_putsBy_2 rfl (lv_at hl 0 rfl) ?_
    refine lv_bipush (v := (34 : Int32)) hx hb d_X12_putsBy_3 (by decide) ?_
    refine lv_icmp_ge (tgt := 34) hx hb d_X12_putsBy_5 (by decide) (fun hc => ?_) (fun hc => ?_)
    · have h := ite_t h hc
      obtain rfl := Option.some.inj h
      dsimp only [Sum.elim_inr] at hk
      exact hk _ _ _ hw (lv_sub hl [] rfl)
    · have h := ite_f h hc
      refine lv_aload_n hx hb d_X12_putsBy_8 rfl (lv_at hl 1 rfl) ?_
      refine r_getr (j := 22) X hw ct8 (o_300 hf) rfl (Nat.le_of_ble_eq_true rfl) (q := 322) rfl wd_978 d_X12_putsBy_9 ?_
      refine lv_bipush (v := (34 : Int32)) hx hb d_X12_putsBy_12 (by decide) ?_
      refine lv_aload_n hx hb d_X12_putsBy_14 rfl (lv_at hl 1 rfl) ?_
      refine m_geti (j := 21) X hw ct8 (o_300 hf) (Nat.le_of_ble_eq_true rfl) rfl (Nat.le_of_ble_eq_true rfl) wd_977 d_X12_putsBy_15 ?_
      refine lv_imul hx hb d_X12_putsBy_18 ?_
      refine lv_iload_n hx hb d_X12_putsBy_19 rfl (lv_at hl 0 rfl) ?_
      refine lv_iadd hx hb d_X12_putsBy_20 ?_
      refine lv_aload_n hx hb d_X12_putsBy_21 rfl (lv_at hl 1 rfl) ?_
      refine r_getr (j := 6) X hw ct8 (o_300 hf) rfl (Nat.le_of_ble_eq_true rfl) (q := 306) rfl wd_962 d_X12_putsBy_22 ?_
      refine lv_iload_n hx hb d_X12_putsBy_25 rfl (lv_at hl 0 rfl) ?_
      obtain ⟨hi1, h⟩ := gd_some h
      refine m_iald X hw (o_306 hf) (Nat.le_of_ble_eq_true rfl) hi1 d_X12_putsBy_26 ?_
      obtain ⟨hi2, h⟩ := gd_some h
      refine m_iast X hw (o_322 hf) (Nat.le_of_ble_eq_true rfl) hi2 d_X12_putsBy_27 (fun H locs hw => ?_)
      refine lv_iinc (v := (x1 + (1 : Int32))) (k := 0) (lv' := [(1, .int (x1 + (1 : Int32))), (0, .ref (ga G 300))]) hx hb d_X12_putsBy_28 hl rfl (by rfl) (Nat.le_of_ble_eq_true rfl) rfl (fun ls hl => ?_)
      refine lv_goto (tgt := 2) hx hb d_X12_putsBy_31 (by decide) ?_
      obtain rfl := Option.some.inj h
      dsimp only [Sum.elim_inl] at hk
      exact hk _ _ _ hw (lv_sub hl [0, 1] rfl)
  intro H locs ls hw hl
  have hl : lv_has ls 2 [(0, .ref (ga G 300))] := hl
  unfold f_X12_putsBy at h
  refine lv_iconst (v := (0 : Int32)) hx hb d_X12_putsBy_0 (by decide) ?_
  refine lv_istore_n (lv' := [(1, .int (0 : Int32)), (0, .ref (ga G 300))]) hx hb d_X12_putsBy_1 rfl hl (Nat.le_of_ble_eq_true rfl) rfl (fun ls hl => ?_)
  obtain ⟨z3, e4, h⟩ := bd_some h
  refine iter_w (Wh := fun z : Int32 × St => Wat p l e (rmk 0 0) s m args below meth c Q G 2 2 [] [(1, .int z.1), (0, .ref (ga G 300))] χ z.2) (K := fun z : St => Wat p l e (rmk 0 0) s m args below meth c Q G 2 34 [] [] χ z) (fun z o h1 h2 => b2 z.2 z.1 o h1 h2) FU _ _ e4 ?_ _ _ _ hw (lv_sub hl [0, 1] rfl)
  intro H locs ls hw hl
  obtain rfl := Option.some.inj h
  subst hQ
  exact r_vret X hr hlk hw d_X12_putsBy_34
abbrev yX12_adds : MethodName := ⟨"OysterBedsModel", "adds", "(I)I"⟩
theorem mwX12_adds : MW yX12_adds prog_14_method_42_code 3 (some .int) 1 := ⟨wd_1287, wd_10, by decide +kernel⟩
theorem d_X12_adds_0 : decode prog_14_method_42_code 0 = .ok (.aload_n 0, 1) := by decide +kernel
theorem d_X12_adds_1 : decode prog_14_method_42_code 1 = .ok (.dup, 1) := by decide +kernel
theorem d_X12_adds_2 : decode prog_14_method_42_code 2 = .ok (.getfield 187, 3) := by decide +kernel
theorem d_X12_adds_5 : decode prog_14_method_42_code 5 = .ok (.iconst 1, 1) := by decide +kernel
theorem d_X12_adds_6 : decode prog_14_method_42_code 6 = .ok (.iadd, 1) := by decide +kernel
theorem d_X12_adds_7 : decode prog_14_method_42_code 7 = .ok (.putfield 187, 3) := by decide +kernel
theorem d_X12_adds_10 : decode prog_14_method_42_code 10 = .ok (.aload_n 0, 1) := by decide +kernel
theorem d_X12_adds_11 : decode prog_14_method_42_code 11 = .ok (.getfield 187, 3) := by decide +kernel
theorem d_X12_adds_14 : decode prog_14_method_42_code 14 = .ok (.bipush 15, 2) := by decide +kernel
theorem d_X12_adds_16 : decode prog_14_method_42_code 16 = .ok (.if_icmp .le 43, 3) := by decide +kernel
theorem d_X12_adds_19 : decode prog_14_method_42_code 19 = .ok (.iconst 0, 1) := by decide +kernel
theorem d_X12_adds_20 : decode prog_14_method_42_code 20 = .ok (.istore_n 2, 1) := by decide +kernel
theorem d_X12_adds_21 : decode prog_14_method_42_code 21 = .ok (.iload_n 2, 1) := by decide +kernel
theorem d_X12_adds_22 : decode prog_14_method_42_code 22 = .ok (.sipush 510, 3) := by decide +kernel
theorem d_X12_adds_25 : decode prog_14_method_42_code 25 = .ok (.if_icmp .ge 24, 3) := by decide +kernel
theorem d_X12_adds_28 : decode prog_14_method_42_code 28 = .ok (.aload_n 0, 1) := by decide +kernel
theorem d_X12_adds_29 : decode prog_14_method_42_code 29 = .ok (.getfield 41, 3) := by decide +kernel
theorem d_X12_adds_32 : decode prog_14_method_42_code 32 = .ok (.iload_n 2, 1) := by decide +kernel
theorem d_X12_adds_33 : decode prog_14_method_42_code 33 = .ok (.aload_n 0, 1) := by decide +kernel
theorem d_X12_adds_34 : decode prog_14_method_42_code 34 = .ok (.getfield 41, 3) := by decide +kernel
theorem d_X12_adds_37 : decode prog_14_method_42_code 37 = .ok (.iload_n 2, 1) := by decide +kernel
theorem d_X12_adds_38 : decode prog_14_method_42_code 38 = .ok (.bipush 34, 2) := by decide +kernel
theorem d_X12_adds_40 : decode prog_14_method_42_code 40 = .ok (.iadd, 1) := by decide +kernel
theorem d_X12_adds_41 : decode prog_14_method_42_code 41 = .ok (.iaload, 1) := by decide +kernel
theorem d_X12_adds_42 : decode prog_14_method_42_code 42 = .ok (.iastore, 1) := by decide +kernel
theorem d_X12_adds_43 : decode prog_14_method_42_code 43 = .ok (.iinc 2 1, 3) := by decide +kernel
theorem d_X12_adds_46 : decode prog_14_method_42_code 46 = .ok (.goto (-25), 3) := by decide +kernel
theorem d_X12_adds_49 : decode prog_14_method_42_code 49 = .ok (.aload_n 0, 1) := by decide +kernel
theorem d_X12_adds_50 : decode prog_14_method_42_code 50 = .ok (.dup, 1) := by decide +kernel
theorem d_X12_adds_51 : decode prog_14_method_42_code 51 = .ok (.getfield 187, 3) := by decide +kernel
theorem d_X12_adds_54 : decode prog_14_method_42_code 54 = .ok (.iconst 1, 1) := by decide +kernel
theorem d_X12_adds_55 : decode prog_14_method_42_code 55 = .ok (.isub, 1) := by decide +kernel
theorem d_X12_adds_56 : decode prog_14_method_42_code 56 = .ok (.putfield 187, 3) := by decide +kernel
theorem d_X12_adds_59 : decode prog_14_method_42_code 59 = .ok (.iload_n 1, 1) := by decide +kernel
theorem d_X12_adds_60 : decode prog_14_method_42_code 60 = .ok (.ireturn, 1) := by decide +kernel
def f_X12_adds_s21 (τ : St) (y1 : Int32) (x2 : Int32) : Option ((Int32 × St) ⊕ (St)) := (if (510 : Int32) ≤ x2 then some (.inr τ) else gd (inb (x2 + (34 : Int32)) 544) (gd (inb x2 544) (some (.inl ((x2 + (1 : Int32)), (sA τ 322 x2.toNatClampNeg (cA τ 322 (x2 + (34 : Int32)).toNatClampNeg)))))))
def f_X12_adds (σ : St) (a1 : Int32) : Option (Int32 × St) := (if (cF (sF σ 300 21 ((cF σ 300 21) + (1 : Int32))) 300 21) ≤ (15 : Int32) then some (a1, (sF σ 300 21 ((cF σ 300 21) + (1 : Int32)))) else (iter (fun z => f_X12_adds_s21 z.2 a1 z.1) FU ((0 : Int32), (sF σ 300 21 ((cF σ 300 21) + (1 : Int32))))).bind (fun z3 => some (a1, (sF z3 300 21 ((cF z3 300 21) - (1 : Int32))))))
theorem c_X12_adds {l : Launch} {G : gT} {χ σ : St} {a1 : Int32} (hf : FW G) {q : Int32 × St} (h : f_X12_adds σ a1 = some q) : Ct l G yX12_adds prog_14_method_42_code 3 (some .int) 0 0 [.ref (ga G 300), .int a1] χ σ (some (.int q.1)) χ q.2 := by
  refine Ct.of (by decide) (Nat.le_of_ble_eq_true rfl) ?_
  intro p e s m args below meth c Q X hr hlk hQ
  have hx := X.1
  have hb := X.2.1
  have b21 : ∀ (τ : St) (y1 : Int32) (x2 : Int32) (o : (Int32 × St) ⊕ (St)), f_X12_adds_s21 τ y1 x2 = some o → Sum.elim (fun z : Int32 × St => Wat p l e (rmk 0 0) s m args below meth c Q G 3 21 [] [(2, .int z.1), (0, .ref (ga G 300)), (1, .int y1)] χ z.2) (fun z : St => Wat p l e (rmk 0 0) s m args below meth c Q G 3 49 [] [(0, .ref (ga G 300)), (1, .int y1)] χ z) o → Wat p l e (rmk 0 0) s m args below meth c Q G 3 21 [] [(2, .int x2), (0, .ref (ga G 300)), (1, .int y1)] χ τ := by
    intro τ y1 x2 o h hk H locs ls hw hl
    unfold f_X12_adds_s21 at h
    refine lv_iload_n hx hb d_X12_adds_21 rfl (lv_at hl 0 rfl) ?_
    refine lv_sipush (v := (510 : Int32)) hx hb d_X12_adds_22 (by decide) ?_
    refine lv_icmp_ge (tgt := 49) hx hb d_X12_adds_25 (by decide) (fun hc => ?_) (fun hc => ?_)
    · have h := ite_t h hc
      obtain rfl := Option.some.inj h
      dsimp only [Sum.elim_inr] at hk
      exact hk _ _ _ hw (lv_sub hl [1, 2] rfl)
    · have h := ite_f h hc
      refine lv_aload_n hx hb d_X12_adds_28 rfl (lv_at hl 1 rfl) ?_
      refine r_getr (j := 22) X hw ct8 (o_300 hf) rfl (Nat.le_of_ble_eq_true rfl) (q := 322) rfl wd_978 d_X12_adds_29 ?_
      refine lv_iload_n hx hb d_X12_adds_32 rfl (lv_at hl 0 rfl) ?_
      refine lv_aload_n hx hb d_X12_adds_33 rfl (lv_at hl 1 rfl) ?_
      refine r_getr (j := 22) X hw ct8 (o_300 hf) rfl (Nat.le_of_ble_eq_true rfl) (q := 322) rfl wd_978 d_X12_adds_34 ?_
      refine lv_iload_n hx hb d_X12_adds_37 rfl (lv_at hl 0 rfl) ?_
      refine lv_bipush (v := (34 : Int32)) hx hb d_X12_adds_38 (by decide) ?_
      refine lv_iadd hx hb d_X12_adds_40 ?_
      obtain ⟨hi1, h⟩ := gd_some h
      refine m_iald X hw (o_322 hf) (Nat.le_of_ble_eq_true rfl) hi1 d_X12_adds_41 ?_
      obtain ⟨hi2, h⟩ := gd_some h
      refine m_iast X hw (o_322 hf) (Nat.le_of_ble_eq_true rfl) hi2 d_X12_adds_42 (fun H locs hw => ?_)
      refine lv_iinc (v := (x2 + (1 : Int32))) (k := 0) (lv' := [(2, .int (x2 + (1 : Int32))), (0, .ref (ga G 300)), (1, .int y1)]) hx hb d_X12_adds_43 hl rfl (by rfl) (Nat.le_of_ble_eq_true rfl) rfl (fun ls hl => ?_)
      refine lv_goto (tgt := 21) hx hb d_X12_adds_46 (by decide) ?_
      obtain rfl := Option.some.inj h
      dsimp only [Sum.elim_inl] at hk
      exact hk _ _ _ hw (lv_sub hl [0, 1, 2] rfl)
  intro H locs ls hw hl
  have hl : lv_has ls 3 [(0, .ref (ga G 300)), (1, .int a1)] := hl
  unfold f_X12_adds at h
  refine lv_aload_n hx hb d_X12_adds_0 rfl (lv_at hl 0 rfl) ?_
  refine lv_dup hx hb d_X12_adds_1 rfl ?_
  refine m_geti (j := 21) X hw ct8 (o_300 hf) (Nat.le_of_ble_eq_true rfl) rfl (Nat.le_of_ble_eq_true rfl) wd_977 d_X12_adds_2 ?_
  refine lv_iconst (v := (1 : Int32)) hx hb d_X12_adds_5 (by decide) ?_
  refine lv_iadd hx hb d_X12_adds_6 ?_
  refine m_puti (j := 21) X hw ct8 (o_300 hf) (Nat.le_of_ble_eq_true rfl) rfl (Nat.le_of_ble_eq_true rfl) rfl rfl rfl wd_977 d_X12_adds_7 (fun H locs hw => ?_)
  refine lv_aload_n hx hb d_X12_adds_10 rfl (lv_at hl 0 rfl) ?_
  refine m_geti (j := 21) X hw ct8 (o_300 hf) (Nat.le_of_ble_eq_true rfl) rfl (Nat.le_of_ble_eq_true rfl) wd_977 d_X12_adds_11 ?_
  refine lv_bipush (v := (15 : Int32)) hx hb d_X12_adds_14 (by decide) ?_
  refine lv_icmp_le (tgt := 59) hx hb d_X12_adds_16 (by decide) (fun hc => ?_) (fun hc => ?_)
  · have h := ite_t h hc
    refine lv_iload_n hx hb d_X12_adds_59 rfl (lv_at hl 1 rfl) ?_
    obtain rfl := Option.some.inj h
    subst hQ
    exact r_iret X hr hlk hw d_X12_adds_60
  · have h := ite_f h hc
    refine lv_iconst (v := (0 : Int32)) hx hb d_X12_adds_19 (by decide) ?_
    refine lv_istore_n (lv' := [(2, .int (0 : Int32)), (0, .ref (ga G 300)), (1, .int a1)]) hx hb d_X12_adds_20 rfl hl (Nat.le_of_ble_eq_true rfl) rfl (fun ls hl => ?_)
    obtain ⟨z3, e4, h⟩ := bd_some h
    refine iter_w (Wh := fun z : Int32 × St => Wat p l e (rmk 0 0) s m args below meth c Q G 3 21 [] [(2, .int z.1), (0, .ref (ga G 300)), (1, .int a1)] χ z.2) (K := fun z : St => Wat p l e (rmk 0 0) s m args below meth c Q G 3 49 [] [(0, .ref (ga G 300)), (1, .int a1)] χ z) (fun z o h1 h2 => b21 z.2 a1 z.1 o h1 h2) FU _ _ e4 ?_ _ _ _ hw (lv_sub hl [0, 1, 2] rfl)
    intro H locs ls hw hl
    refine lv_aload_n hx hb d_X12_adds_49 rfl (lv_at hl 0 rfl) ?_
    refine lv_dup hx hb d_X12_adds_50 rfl ?_
    refine m_geti (j := 21) X hw ct8 (o_300 hf) (Nat.le_of_ble_eq_true rfl) rfl (Nat.le_of_ble_eq_true rfl) wd_977 d_X12_adds_51 ?_
    refine lv_iconst (v := (1 : Int32)) hx hb d_X12_adds_54 (by decide) ?_
    refine lv_isub hx hb d_X12_adds_55 ?_
    refine m_puti (j := 21) X hw ct8 (o_300 hf) (Nat.le_of_ble_eq_true rfl) rfl (Nat.le_of_ble_eq_true rfl) rfl rfl rfl wd_977 d_X12_adds_56 (fun H locs hw => ?_)
    refine lv_iload_n hx hb d_X12_adds_59 rfl (lv_at hl 1 rfl) ?_
    obtain rfl := Option.some.inj h
    subst hQ
    exact r_iret X hr hlk hw d_X12_adds_60
abbrev yX12_counted : MethodName := ⟨"OysterBedsModel", "counted", "(I)I"⟩
theorem mwX12_counted : MW yX12_counted prog_14_method_43_code 2 (some .int) 1 := ⟨wd_1312, wd_10, by decide +kernel⟩
theorem d_X12_counted_0 : decode prog_14_method_43_code 0 = .ok (.iload_n 1, 1) := by decide +kernel
theorem d_X12_counted_1 : decode prog_14_method_43_code 1 = .ok (.ifCond .ge 7, 3) := by decide +kernel
theorem d_X12_counted_4 : decode prog_14_method_43_code 4 = .ok (.iload_n 1, 1) := by decide +kernel
theorem d_X12_counted_5 : decode prog_14_method_43_code 5 = .ok (.goto 8, 3) := by decide +kernel
theorem d_X12_counted_8 : decode prog_14_method_43_code 8 = .ok (.aload_n 0, 1) := by decide +kernel
theorem d_X12_counted_9 : decode prog_14_method_43_code 9 = .ok (.iload_n 1, 1) := by decide +kernel
theorem d_X12_counted_10 : decode prog_14_method_43_code 10 = .ok (.invokevirtual 258, 3) := by decide +kernel
theorem d_X12_counted_13 : decode prog_14_method_43_code 13 = .ok (.ireturn, 1) := by decide +kernel
def f_X12_counted (σ : St) (a1 : Int32) : Option (Int32 × St) := (if 0 ≤ a1 then (f_X12_adds σ a1).bind (fun q1 => some (q1.1, q1.2)) else some (a1, σ))
theorem c_X12_counted {l : Launch} {G : gT} {χ σ : St} {a1 : Int32} (hf : FW G) {q : Int32 × St} (h : f_X12_counted σ a1 = some q) : Ct l G yX12_counted prog_14_method_43_code 2 (some .int) 1 22 [.ref (ga G 300), .int a1] χ σ (some (.int q.1)) χ q.2 := by
  refine Ct.of (by decide) (Nat.le_of_ble_eq_true rfl) ?_
  intro p e s m args below meth c Q X hr hlk hQ
  have hx := X.1
  have hb := X.2.1
  intro H locs ls hw hl
  have hl : lv_has ls 2 [(0, .ref (ga G 300)), (1, .int a1)] := hl
  unfold f_X12_counted at h
  refine lv_iload_n hx hb d_X12_counted_0 rfl (lv_at hl 1 rfl) ?_
  refine lv_if_ge (tgt := 8) hx hb d_X12_counted_1 (by decide) (fun hc => ?_) (fun hc => ?_)
  · have h := ite_t h hc
    refine lv_aload_n hx hb d_X12_counted_8 rfl (lv_at hl 0 rfl) ?_
    refine lv_iload_n hx hb d_X12_counted_9 rfl (lv_at hl 1 rfl) ?_
    obtain ⟨q1, e2, h⟩ := bd_some h
    refine r_callV (As := [.int a1]) (rest := []) (st' := [.int q1.1]) X hw hl mwX12_adds wd_1286 wp_39 wd_1284 (c_X12_adds hf e2) (r_recv X hw ct8 (o_300 hf)) rfl ⟨Nat.le_of_ble_eq_true rfl, Nat.le_of_ble_eq_true rfl⟩ ⟨Nat.le_refl _, Nat.le_refl _⟩ rfl rfl (Nat.le_of_ble_eq_true rfl) d_X12_counted_10 (fun H locs hw => ?_)
    obtain rfl := Option.some.inj h
    subst hQ
    exact r_iret X hr hlk hw d_X12_counted_13
  · have h := ite_f h hc
    refine lv_iload_n hx hb d_X12_counted_4 rfl (lv_at hl 1 rfl) ?_
    refine lv_goto (tgt := 13) hx hb d_X12_counted_5 (by decide) ?_
    obtain rfl := Option.some.inj h
    subst hQ
    exact r_iret X hr hlk hw d_X12_counted_13
abbrev yX12_undo : MethodName := ⟨"OysterBedsModel", "undo", "()I"⟩
theorem mwX12_undo : MW yX12_undo prog_14_method_44_code 2 (some .int) 0 := ⟨wd_1240, wd_10, by decide +kernel⟩
theorem d_X12_undo_0 : decode prog_14_method_44_code 0 = .ok (.aload_n 0, 1) := by decide +kernel
theorem d_X12_undo_1 : decode prog_14_method_44_code 1 = .ok (.iconst 0, 1) := by decide +kernel
theorem d_X12_undo_2 : decode prog_14_method_44_code 2 = .ok (.putfield 87, 3) := by decide +kernel
theorem d_X12_undo_5 : decode prog_14_method_44_code 5 = .ok (.aload_n 0, 1) := by decide +kernel
theorem d_X12_undo_6 : decode prog_14_method_44_code 6 = .ok (.getfield 187, 3) := by decide +kernel
theorem d_X12_undo_9 : decode prog_14_method_44_code 9 = .ok (.ifCond .ne 5, 3) := by decide +kernel
theorem d_X12_undo_12 : decode prog_14_method_44_code 12 = .ok (.iconst (-1), 1) := by decide +kernel
theorem d_X12_undo_13 : decode prog_14_method_44_code 13 = .ok (.ireturn, 1) := by decide +kernel
theorem d_X12_undo_14 : decode prog_14_method_44_code 14 = .ok (.aload_n 0, 1) := by decide +kernel
theorem d_X12_undo_15 : decode prog_14_method_44_code 15 = .ok (.dup, 1) := by decide +kernel
theorem d_X12_undo_16 : decode prog_14_method_44_code 16 = .ok (.getfield 187, 3) := by decide +kernel
theorem d_X12_undo_19 : decode prog_14_method_44_code 19 = .ok (.iconst 1, 1) := by decide +kernel
theorem d_X12_undo_20 : decode prog_14_method_44_code 20 = .ok (.isub, 1) := by decide +kernel
theorem d_X12_undo_21 : decode prog_14_method_44_code 21 = .ok (.putfield 187, 3) := by decide +kernel
theorem d_X12_undo_24 : decode prog_14_method_44_code 24 = .ok (.iconst 0, 1) := by decide +kernel
theorem d_X12_undo_25 : decode prog_14_method_44_code 25 = .ok (.istore_n 1, 1) := by decide +kernel
theorem d_X12_undo_26 : decode prog_14_method_44_code 26 = .ok (.iload_n 1, 1) := by decide +kernel
theorem d_X12_undo_27 : decode prog_14_method_44_code 27 = .ok (.bipush 34, 2) := by decide +kernel
theorem d_X12_undo_29 : decode prog_14_method_44_code 29 = .ok (.if_icmp .ge 29, 3) := by decide +kernel
theorem d_X12_undo_32 : decode prog_14_method_44_code 32 = .ok (.aload_n 0, 1) := by decide +kernel
theorem d_X12_undo_33 : decode prog_14_method_44_code 33 = .ok (.getfield 17, 3) := by decide +kernel
theorem d_X12_undo_36 : decode prog_14_method_44_code 36 = .ok (.iload_n 1, 1) := by decide +kernel
theorem d_X12_undo_37 : decode prog_14_method_44_code 37 = .ok (.aload_n 0, 1) := by decide +kernel
theorem d_X12_undo_38 : decode prog_14_method_44_code 38 = .ok (.getfield 41, 3) := by decide +kernel
theorem d_X12_undo_41 : decode prog_14_method_44_code 41 = .ok (.bipush 34, 2) := by decide +kernel
theorem d_X12_undo_43 : decode prog_14_method_44_code 43 = .ok (.aload_n 0, 1) := by decide +kernel
theorem d_X12_undo_44 : decode prog_14_method_44_code 44 = .ok (.getfield 187, 3) := by decide +kernel
theorem d_X12_undo_47 : decode prog_14_method_44_code 47 = .ok (.imul, 1) := by decide +kernel
theorem d_X12_undo_48 : decode prog_14_method_44_code 48 = .ok (.iload_n 1, 1) := by decide +kernel
theorem d_X12_undo_49 : decode prog_14_method_44_code 49 = .ok (.iadd, 1) := by decide +kernel
theorem d_X12_undo_50 : decode prog_14_method_44_code 50 = .ok (.iaload, 1) := by decide +kernel
theorem d_X12_undo_51 : decode prog_14_method_44_code 51 = .ok (.iastore, 1) := by decide +kernel
theorem d_X12_undo_52 : decode prog_14_method_44_code 52 = .ok (.iinc 1 1, 3) := by decide +kernel
theorem d_X12_undo_55 : decode prog_14_method_44_code 55 = .ok (.goto (-29), 3) := by decide +kernel
theorem d_X12_undo_58 : decode prog_14_method_44_code 58 = .ok (.aload_n 0, 1) := by decide +kernel
theorem d_X12_undo_59 : decode prog_14_method_44_code 59 = .ok (.getfield 187, 3) := by decide +kernel
theorem d_X12_undo_62 : decode prog_14_method_44_code 62 = .ok (.ireturn, 1) := by decide +kernel
def f_X12_undo_s26 (τ : St) (x1 : Int32) : Option ((Int32 × St) ⊕ (St)) := (if (34 : Int32) ≤ x1 then some (.inr τ) else gd (inb (((34 : Int32) * (cF τ 300 21)) + x1) 544) (gd (inb x1 34) (some (.inl ((x1 + (1 : Int32)), (sA τ 306 x1.toNatClampNeg (cA τ 322 (((34 : Int32) * (cF τ 300 21)) + x1).toNatClampNeg)))))))
def f_X12_undo (σ : St) : Option (Int32 × St) := (if (cF (sF σ 300 0 (0 : Int32)) 300 21) = 0 then some ((-1 : Int32), (sF σ 300 0 (0 : Int32))) else (iter (fun z => f_X12_undo_s26 z.2 z.1) FU ((0 : Int32), (sF (sF σ 300 0 (0 : Int32)) 300 21 ((cF (sF σ 300 0 (0 : Int32)) 300 21) - (1 : Int32))))).bind (fun z3 => some ((cF z3 300 21), z3)))
theorem c_X12_undo {l : Launch} {G : gT} {χ σ : St} (hf : FW G) {q : Int32 × St} (h : f_X12_undo σ = some q) : Ct l G yX12_undo prog_14_method_44_code 2 (some .int) 0 0 [.ref (ga G 300)] χ σ (some (.int q.1)) χ q.2 := by
  refine Ct.of (by decide) (Nat.le_of_ble_eq_true rfl) ?_
  intro p e s m args below meth c Q X hr hlk hQ
  have hx := X.1
  have hb := X.2.1
  have b26 : ∀ (τ : St) (x1 : Int32) (o : (Int32 × St) ⊕ (St)), f_X12_undo_s26 τ x1 = some o → Sum.elim (fun z : Int32 × St => Wat p l e (rmk 0 0) s m args below meth c Q G 2 26 [] [(1, .int z.1), (0, .ref (ga G 300))] χ z.2) (fun z : St => Wat p l e (rmk 0 0) s m args below meth c Q G 2 58 [] [(0, .ref (ga G 300))] χ z) o → Wat p l e (rmk 0 0) s m args below meth c Q G 2 26 [] [(1, .int x1), (0, .ref (ga G 300))] χ τ := by
    intro τ x1 o h hk H locs ls hw hl
    unfold f_X12_undo_s26 at h
    refine lv_iload_n hx hb d_X12_undo_26 rfl (lv_at hl 0 rfl) ?_
    refine lv_bipush (v := (34 : Int32)) hx hb d_X12_undo_27 (by decide) ?_
    refine lv_icmp_ge (tgt := 58) hx hb d_X12_undo_29 (by decide) (fun hc => ?_) (fun hc => ?_)
    · have h := ite_t h hc
      obtain rfl := Option.some.inj h
      dsimp only [Sum.elim_inr] at hk
      exact hk _ _ _ hw (lv_sub hl [1] rfl)
    · have h := ite_f h hc
      refine lv_aload_n hx hb d_X12_undo_32 rfl (lv_at hl 1 rfl) ?_
      refine r_getr (j := 6) X hw ct8 (o_300 hf) rfl (Nat.le_of_ble_eq_true rfl) (q := 306) rfl wd_962 d_X12_undo_33 ?_
      refine lv_iload_n hx hb d_X12_undo_36 rfl (lv_at hl 0 rfl) ?_
      refine lv_aload_n hx hb d_X12_undo_37 rfl (lv_at hl 1 rfl) ?_
      refine r_getr (j := 22) X hw ct8 (o_300 hf) rfl (Nat.le_of_ble_eq_true rfl) (q := 322) rfl wd_978 d_X12_undo_38 ?_
      refine lv_bipush (v := (34 : Int32)) hx hb d_X12_undo_41 (by decide) ?_
      refine lv_aload_n hx hb d_X12_undo_43 rfl (lv_at hl 1 rfl) ?_
      refine m_geti (j := 21) X hw ct8 (o_300 hf) (Nat.le_of_ble_eq_true rfl) rfl (Nat.le_of_ble_eq_true rfl) wd_977 d_X12_undo_44 ?_
      refine lv_imul hx hb d_X12_undo_47 ?_
      refine lv_iload_n hx hb d_X12_undo_48 rfl (lv_at hl 0 rfl) ?_
      refine lv_iadd hx hb d_X12_undo_49 ?_
      obtain ⟨hi1, h⟩ := gd_some h
      refine m_iald X hw (o_322 hf) (Nat.le_of_ble_eq_true rfl) hi1 d_X12_undo_50 ?_
      obtain ⟨hi2, h⟩ := gd_some h
      refine m_iast X hw (o_306 hf) (Nat.le_of_ble_eq_true rfl) hi2 d_X12_undo_51 (fun H locs hw => ?_)
      refine lv_iinc (v := (x1 + (1 : Int32))) (k := 0) (lv' := [(1, .int (x1 + (1 : Int32))), (0, .ref (ga G 300))]) hx hb d_X12_undo_52 hl rfl (by rfl) (Nat.le_of_ble_eq_true rfl) rfl (fun ls hl => ?_)
      refine lv_goto (tgt := 26) hx hb d_X12_undo_55 (by decide) ?_
      obtain rfl := Option.some.inj h
      dsimp only [Sum.elim_inl] at hk
      exact hk _ _ _ hw (lv_sub hl [0, 1] rfl)
  intro H locs ls hw hl
  have hl : lv_has ls 2 [(0, .ref (ga G 300))] := hl
  unfold f_X12_undo at h
  refine lv_aload_n hx hb d_X12_undo_0 rfl (lv_at hl 0 rfl) ?_
  refine lv_iconst (v := (0 : Int32)) hx hb d_X12_undo_1 (by decide) ?_
  refine m_puti (j := 0) X hw ct8 (o_300 hf) (Nat.le_of_ble_eq_true rfl) rfl (Nat.le_of_ble_eq_true rfl) rfl rfl rfl wd_956 d_X12_undo_2 (fun H locs hw => ?_)
  refine lv_aload_n hx hb d_X12_undo_5 rfl (lv_at hl 0 rfl) ?_
  refine m_geti (j := 21) X hw ct8 (o_300 hf) (Nat.le_of_ble_eq_true rfl) rfl (Nat.le_of_ble_eq_true rfl) wd_977 d_X12_undo_6 ?_
  refine lv_if_ne (tgt := 14) hx hb d_X12_undo_9 (by decide) (fun hc => ?_) (fun hc => ?_)
  · have h := ite_f h hc
    refine lv_aload_n hx hb d_X12_undo_14 rfl (lv_at hl 0 rfl) ?_
    refine lv_dup hx hb d_X12_undo_15 rfl ?_
    refine m_geti (j := 21) X hw ct8 (o_300 hf) (Nat.le_of_ble_eq_true rfl) rfl (Nat.le_of_ble_eq_true rfl) wd_977 d_X12_undo_16 ?_
    refine lv_iconst (v := (1 : Int32)) hx hb d_X12_undo_19 (by decide) ?_
    refine lv_isub hx hb d_X12_undo_20 ?_
    refine m_puti (j := 21) X hw ct8 (o_300 hf) (Nat.le_of_ble_eq_true rfl) rfl (Nat.le_of_ble_eq_true rfl) rfl rfl rfl wd_977 d_X12_undo_21 (fun H locs hw => ?_)
    refine lv_iconst (v := (0 : Int32)) hx hb d_X12_undo_24 (by decide) ?_
    refine lv_istore_n (lv' := [(1, .int (0 : Int32)), (0, .ref (ga G 300))]) hx hb d_X12_undo_25 rfl hl (Nat.le_of_ble_eq_true rfl) rfl (fun ls hl => ?_)
    obtain ⟨z3, e4, h⟩ := bd_some h
    refine iter_w (Wh := fun z : Int32 × St => Wat p l e (rmk 0 0) s m args below meth c Q G 2 26 [] [(1, .int z.1), (0, .ref (ga G 300))] χ z.2) (K := fun z : St => Wat p l e (rmk 0 0) s m args below meth c Q G 2 58 [] [(0, .ref (ga G 300))] χ z) (fun z o h1 h2 => b26 z.2 z.1 o h1 h2) FU _ _ e4 ?_ _ _ _ hw (lv_sub hl [0, 1] rfl)
    intro H locs ls hw hl
    refine lv_aload_n hx hb d_X12_undo_58 rfl (lv_at hl 0 rfl) ?_
    refine m_geti (j := 21) X hw ct8 (o_300 hf) (Nat.le_of_ble_eq_true rfl) rfl (Nat.le_of_ble_eq_true rfl) wd_977 d_X12_undo_59 ?_
    obtain rfl := Option.some.inj h
    subst hQ
    exact r_iret X hr hlk hw d_X12_undo_62
  · have h := ite_t h hc
    refine lv_iconst (v := (-1 : Int32)) hx hb d_X12_undo_12 (by decide) ?_
    obtain rfl := Option.some.inj h
    subst hQ
    exact r_iret X hr hlk hw d_X12_undo_13
abbrev yX12_asksAll : MethodName := ⟨"OysterBedsModel", "asksAll", "([III)I"⟩
theorem mwX12_asksAll : MW yX12_asksAll prog_14_method_45_code 6 (some .int) 3 := ⟨wd_1256, wd_10, by decide +kernel⟩
theorem d_X12_asksAll_0 : decode prog_14_method_45_code 0 = .ok (.aload_n 0, 1) := by decide +kernel
theorem d_X12_asksAll_1 : decode prog_14_method_45_code 1 = .ok (.aload_n 1, 1) := by decide +kernel
theorem d_X12_asksAll_2 : decode prog_14_method_45_code 2 = .ok (.iload_n 2, 1) := by decide +kernel
theorem d_X12_asksAll_3 : decode prog_14_method_45_code 3 = .ok (.iload_n 3, 1) := by decide +kernel
theorem d_X12_asksAll_4 : decode prog_14_method_45_code 4 = .ok (.invokevirtual 261, 3) := by decide +kernel
theorem d_X12_asksAll_7 : decode prog_14_method_45_code 7 = .ok (.istore 4, 2) := by decide +kernel
theorem d_X12_asksAll_9 : decode prog_14_method_45_code 9 = .ok (.iconst 0, 1) := by decide +kernel
theorem d_X12_asksAll_10 : decode prog_14_method_45_code 10 = .ok (.istore 5, 2) := by decide +kernel
theorem d_X12_asksAll_12 : decode prog_14_method_45_code 12 = .ok (.iload 5, 2) := by decide +kernel
theorem d_X12_asksAll_14 : decode prog_14_method_45_code 14 = .ok (.aload_n 0, 1) := by decide +kernel
theorem d_X12_asksAll_15 : decode prog_14_method_45_code 15 = .ok (.getfield 102, 3) := by decide +kernel
theorem d_X12_asksAll_18 : decode prog_14_method_45_code 18 = .ok (.if_icmp .ge 55, 3) := by decide +kernel
theorem d_X12_asksAll_21 : decode prog_14_method_45_code 21 = .ok (.iload 4, 2) := by decide +kernel
theorem d_X12_asksAll_23 : decode prog_14_method_45_code 23 = .ok (.iload 5, 2) := by decide +kernel
theorem d_X12_asksAll_25 : decode prog_14_method_45_code 25 = .ok (.invokestatic 113, 3) := by decide +kernel
theorem d_X12_asksAll_28 : decode prog_14_method_45_code 28 = .ok (.ifCond .eq 39, 3) := by decide +kernel
theorem d_X12_asksAll_31 : decode prog_14_method_45_code 31 = .ok (.aload_n 1, 1) := by decide +kernel
theorem d_X12_asksAll_32 : decode prog_14_method_45_code 32 = .ok (.bipush 16, 2) := by decide +kernel
theorem d_X12_asksAll_34 : decode prog_14_method_45_code 34 = .ok (.iload 5, 2) := by decide +kernel
theorem d_X12_asksAll_36 : decode prog_14_method_45_code 36 = .ok (.iadd, 1) := by decide +kernel
theorem d_X12_asksAll_37 : decode prog_14_method_45_code 37 = .ok (.iconst 1, 1) := by decide +kernel
theorem d_X12_asksAll_38 : decode prog_14_method_45_code 38 = .ok (.aload_n 1, 1) := by decide +kernel
theorem d_X12_asksAll_39 : decode prog_14_method_45_code 39 = .ok (.iload 5, 2) := by decide +kernel
theorem d_X12_asksAll_41 : decode prog_14_method_45_code 41 = .ok (.iaload, 1) := by decide +kernel
theorem d_X12_asksAll_42 : decode prog_14_method_45_code 42 = .ok (.iconst 2, 1) := by decide +kernel
theorem d_X12_asksAll_43 : decode prog_14_method_45_code 43 = .ok (.idiv, 1) := by decide +kernel
theorem d_X12_asksAll_44 : decode prog_14_method_45_code 44 = .ok (.iadd, 1) := by decide +kernel
theorem d_X12_asksAll_45 : decode prog_14_method_45_code 45 = .ok (.iastore, 1) := by decide +kernel
theorem d_X12_asksAll_46 : decode prog_14_method_45_code 46 = .ok (.aload_n 1, 1) := by decide +kernel
theorem d_X12_asksAll_47 : decode prog_14_method_45_code 47 = .ok (.bipush 24, 2) := by decide +kernel
theorem d_X12_asksAll_49 : decode prog_14_method_45_code 49 = .ok (.iload 5, 2) := by decide +kernel
theorem d_X12_asksAll_51 : decode prog_14_method_45_code 51 = .ok (.iadd, 1) := by decide +kernel
theorem d_X12_asksAll_52 : decode prog_14_method_45_code 52 = .ok (.bipush 99, 2) := by decide +kernel
theorem d_X12_asksAll_54 : decode prog_14_method_45_code 54 = .ok (.aload_n 1, 1) := by decide +kernel
theorem d_X12_asksAll_55 : decode prog_14_method_45_code 55 = .ok (.bipush 24, 2) := by decide +kernel
theorem d_X12_asksAll_57 : decode prog_14_method_45_code 57 = .ok (.iload 5, 2) := by decide +kernel
theorem d_X12_asksAll_59 : decode prog_14_method_45_code 59 = .ok (.iadd, 1) := by decide +kernel
theorem d_X12_asksAll_60 : decode prog_14_method_45_code 60 = .ok (.iaload, 1) := by decide +kernel
theorem d_X12_asksAll_61 : decode prog_14_method_45_code 61 = .ok (.iconst 1, 1) := by decide +kernel
theorem d_X12_asksAll_62 : decode prog_14_method_45_code 62 = .ok (.iadd, 1) := by decide +kernel
theorem d_X12_asksAll_63 : decode prog_14_method_45_code 63 = .ok (.invokestatic 126, 3) := by decide +kernel
theorem d_X12_asksAll_66 : decode prog_14_method_45_code 66 = .ok (.iastore, 1) := by decide +kernel
theorem d_X12_asksAll_67 : decode prog_14_method_45_code 67 = .ok (.iinc 5 1, 3) := by decide +kernel
theorem d_X12_asksAll_70 : decode prog_14_method_45_code 70 = .ok (.goto (-58), 3) := by decide +kernel
theorem d_X12_asksAll_73 : decode prog_14_method_45_code 73 = .ok (.aload_n 1, 1) := by decide +kernel
theorem d_X12_asksAll_74 : decode prog_14_method_45_code 74 = .ok (.bipush 33, 2) := by decide +kernel
theorem d_X12_asksAll_76 : decode prog_14_method_45_code 76 = .ok (.sipush 9999, 3) := by decide +kernel
theorem d_X12_asksAll_79 : decode prog_14_method_45_code 79 = .ok (.aload_n 1, 1) := by decide +kernel
theorem d_X12_asksAll_80 : decode prog_14_method_45_code 80 = .ok (.bipush 33, 2) := by decide +kernel
theorem d_X12_asksAll_82 : decode prog_14_method_45_code 82 = .ok (.iaload, 1) := by decide +kernel
theorem d_X12_asksAll_83 : decode prog_14_method_45_code 83 = .ok (.iconst 1, 1) := by decide +kernel
theorem d_X12_asksAll_84 : decode prog_14_method_45_code 84 = .ok (.iadd, 1) := by decide +kernel
theorem d_X12_asksAll_85 : decode prog_14_method_45_code 85 = .ok (.invokestatic 126, 3) := by decide +kernel
theorem d_X12_asksAll_88 : decode prog_14_method_45_code 88 = .ok (.iastore, 1) := by decide +kernel
theorem d_X12_asksAll_89 : decode prog_14_method_45_code 89 = .ok (.iload 4, 2) := by decide +kernel
theorem d_X12_asksAll_91 : decode prog_14_method_45_code 91 = .ok (.ireturn, 1) := by decide +kernel
def f_X12_asksAll_j67_12 (r : Nat) (τ : St) (x4 : Int32) (x5 : Int32) : Option ((Int32 × St) ⊕ (St)) := some (.inl ((x5 + (1 : Int32)), τ))
def f_X12_asksAll_s12 (r : Nat) (τ : St) (y4 : Int32) (x5 : Int32) : Option ((Int32 × St) ⊕ (St)) := (if (cF τ 300 3) ≤ x5 then some (.inr τ) else (f_X12_has y4 x5).bind (fun q3 => (if q3 = 0 then f_X12_asksAll_j67_12 r τ y4 x5 else gd (inb x5 34) (gd (inb ((16 : Int32) + x5) 34) (gd (inb ((24 : Int32) + x5) 34) (gd (inb ((24 : Int32) + x5) 34) (f_X12_asksAll_j67_12 r (sA (sA τ r ((16 : Int32) + x5).toNatClampNeg ((1 : Int32) + ((cA τ r x5.toNatClampNeg) / (2 : Int32)))) r ((24 : Int32) + x5).toNatClampNeg (if ((cA (sA τ r ((16 : Int32) + x5).toNatClampNeg ((1 : Int32) + ((cA τ r x5.toNatClampNeg) / (2 : Int32)))) r ((24 : Int32) + x5).toNatClampNeg) + (1 : Int32)) < (99 : Int32) then ((cA (sA τ r ((16 : Int32) + x5).toNatClampNeg ((1 : Int32) + ((cA τ r x5.toNatClampNeg) / (2 : Int32)))) r ((24 : Int32) + x5).toNatClampNeg) + (1 : Int32)) else (99 : Int32))) y4 x5)))))))
def f_X12_asksAll (σ : St) (r : Nat) (a2 : Int32) (a3 : Int32) : Option (Int32 × St) := (f_X12_closing σ r a2 a3).bind (fun q1 => (iter (fun z => f_X12_asksAll_s12 r z.2 q1.1 z.1) FU ((0 : Int32), q1.2)).bind (fun z9 => gd (inb (33 : Int32) 34) (gd (inb (33 : Int32) 34) (some (q1.1, (sA z9 r (33 : Int32).toNatClampNeg (if ((cA z9 r (33 : Int32).toNatClampNeg) + (1 : Int32)) < (9999 : Int32) then ((cA z9 r (33 : Int32).toNatClampNeg) + (1 : Int32)) else (9999 : Int32))))))))
theorem c_X12_asksAll {l : Launch} {G : gT} {χ σ : St} {r : Nat} {a2 : Int32} {a3 : Int32} (hf : FW G) (hr : OP G r 11 34) (hr3 : 300 ≤ r) {q : Int32 × St} (h : f_X12_asksAll σ r a2 a3 = some q) : Ct l G yX12_asksAll prog_14_method_45_code 6 (some .int) 4 91 [.ref (ga G 300), .ref (ga G r), .int a2, .int a3] χ σ (some (.int q.1)) χ q.2 := by
  refine Ct.of (by decide) (Nat.le_of_ble_eq_true rfl) ?_
  intro p e s m args below meth c Q X hret hlk hQ
  have hx := X.1
  have hb := X.2.1
  have j67_12 : ∀ (τ : St) (x4 : Int32) (x5 : Int32) (o : (Int32 × St) ⊕ (St)), f_X12_asksAll_j67_12 r τ x4 x5 = some o → Sum.elim (fun z : Int32 × St => Wat p l e (rmk 4 91) s m args below meth c Q G 6 12 [] [(5, .int z.1), (0, .ref (ga G 300)), (1, .ref (ga G r)), (4, .int x4)] χ z.2) (fun z : St => Wat p l e (rmk 4 91) s m args below meth c Q G 6 73 [] [(1, .ref (ga G r)), (4, .int x4)] χ z) o → Wat p l e (rmk 4 91) s m args below meth c Q G 6 67 [] [(0, .ref (ga G 300)), (1, .ref (ga G r)), (4, .int x4), (5, .int x5)] χ τ := by
    intro τ x4 x5 o h hk H locs ls hw hl
    unfold f_X12_asksAll_j67_12 at h
    refine lv_iinc (v := (x5 + (1 : Int32))) (k := 3) (lv' := [(5, .int (x5 + (1 : Int32))), (0, .ref (ga G 300)), (1, .ref (ga G r)), (4, .int x4)]) hx hb d_X12_asksAll_67 hl rfl (by rfl) (Nat.le_of_ble_eq_true rfl) rfl (fun ls hl => ?_)
    refine lv_goto (tgt := 12) hx hb d_X12_asksAll_70 (by decide) ?_
    obtain rfl := Option.some.inj h
    dsimp only [Sum.elim_inl] at hk
    exact hk _ _ _ hw (lv_sub hl [0, 1, 2, 3] rfl)
  have b12 : ∀ (τ : St) (y4 : Int32) (x5 : Int32) (o : (Int32 × St) ⊕ (St)), f_X12_asksAll_s12 r τ y4 x5 = some o → Sum.elim (fun z : Int32 × St => Wat p l e (rmk 4 91) s m args below meth c Q G 6 12 [] [(5, .int z.1), (0, .ref (ga G 300)), (1, .ref (ga G r)), (4, .int y4)] χ z.2) (fun z : St => Wat p l e (rmk 4 91) s m args below meth c Q G 6 73 [] [(1, .ref (ga G r)), (4, .int y4)] χ z) o → Wat p l e (rmk 4 91) s m args below meth c Q G 6 12 [] [(5, .int x5), (0, .ref (ga G 300)), (1, .ref (ga G r)), (4, .int y4)] χ τ := by
    intro τ y4 x5 o h hk H locs ls hw hl
    unfold f_X12_asksAll_s12 at h
    refine lv_iload hx hb d_X12_asksAll_12 (lv_at hl 0 rfl) ?_
    refine lv_aload_n hx hb d_X12_asksAll_14 rfl (lv_at hl 1 rfl) ?_
    refine m_geti (j := 3) X hw ct8 (o_300 hf) (Nat.le_of_ble_eq_true rfl) rfl (Nat.le_of_ble_eq_true rfl) wd_959 d_X12_asksAll_15 ?_
    refine lv_icmp_ge (tgt := 73) hx hb d_X12_asksAll_18 (by decide) (fun hc => ?_) (fun hc => ?_)
    · have h := ite_t h hc
      obtain rfl := Option.some.inj h
      dsimp only [Sum.elim_inr] at hk
      exact hk _ _ _ hw (lv_sub hl [2, 3] rfl)
    · have h := ite_f h hc
      refine lv_iload hx hb d_X12_asksAll_21 (lv_at hl 3 rfl) ?_
      refine lv_iload hx hb d_X12_asksAll_23 (lv_at hl 0 rfl) ?_
      obtain ⟨q3, e4, h⟩ := bd_some h
      refine r_callS (As := [.int y4, .int x5]) (rest := []) (st' := [.int q3]) X hw hl mwX12_has wd_1266 wd_1265 (c_X12_has hf e4) rfl ⟨Nat.le_of_ble_eq_true rfl, Nat.le_of_ble_eq_true rfl⟩ ⟨Nat.le_refl _, Nat.le_refl _⟩ rfl rfl (Nat.le_of_ble_eq_true rfl) d_X12_asksAll_25 (fun H locs hw => ?_)
      refine lv_if_eq (tgt := 67) hx hb d_X12_asksAll_28 (by decide) (fun hc => ?_) (fun hc => ?_)
      · have h := ite_t h hc
        exact j67_12 τ y4 x5 o h hk _ _ _ hw (lv_sub hl [1, 2, 3, 0] rfl)
      · have h := ite_f h hc
        refine lv_aload_n hx hb d_X12_asksAll_31 rfl (lv_at hl 2 rfl) ?_
        refine lv_bipush (v := (16 : Int32)) hx hb d_X12_asksAll_32 (by decide) ?_
        refine lv_iload hx hb d_X12_asksAll_34 (lv_at hl 0 rfl) ?_
        refine lv_iadd hx hb d_X12_asksAll_36 ?_
        refine lv_iconst (v := (1 : Int32)) hx hb d_X12_asksAll_37 (by decide) ?_
        refine lv_aload_n hx hb d_X12_asksAll_38 rfl (lv_at hl 2 rfl) ?_
        refine lv_iload hx hb d_X12_asksAll_39 (lv_at hl 0 rfl) ?_
        obtain ⟨hi5, h⟩ := gd_some h
        refine m_iald X hw hr hr3 hi5 d_X12_asksAll_41 ?_
        refine lv_iconst (v := (2 : Int32)) hx hb d_X12_asksAll_42 (by decide) ?_
        refine lv_idiv hx hb d_X12_asksAll_43 (by decide) ?_
        refine lv_iadd hx hb d_X12_asksAll_44 ?_
        obtain ⟨hi6, h⟩ := gd_some h
        refine m_iast X hw hr hr3 hi6 d_X12_asksAll_45 (fun H locs hw => ?_)
        refine lv_aload_n hx hb d_X12_asksAll_46 rfl (lv_at hl 2 rfl) ?_
        refine lv_bipush (v := (24 : Int32)) hx hb d_X12_asksAll_47 (by decide) ?_
        refine lv_iload hx hb d_X12_asksAll_49 (lv_at hl 0 rfl) ?_
        refine lv_iadd hx hb d_X12_asksAll_51 ?_
        refine lv_bipush (v := (99 : Int32)) hx hb d_X12_asksAll_52 (by decide) ?_
        refine lv_aload_n hx hb d_X12_asksAll_54 rfl (lv_at hl 2 rfl) ?_
        refine lv_bipush (v := (24 : Int32)) hx hb d_X12_asksAll_55 (by decide) ?_
        refine lv_iload hx hb d_X12_asksAll_57 (lv_at hl 0 rfl) ?_
        refine lv_iadd hx hb d_X12_asksAll_59 ?_
        obtain ⟨hi7, h⟩ := gd_some h
        refine m_iald X hw hr hr3 hi7 d_X12_asksAll_60 ?_
        refine lv_iconst (v := (1 : Int32)) hx hb d_X12_asksAll_61 (by decide) ?_
        refine lv_iadd hx hb d_X12_asksAll_62 ?_
        refine r_min X hl wd_1103 ⟨Nat.le_of_ble_eq_true rfl, Nat.le_of_ble_eq_true rfl⟩ ⟨Nat.le_refl _, Nat.le_refl _⟩ d_X12_asksAll_63 ?_
        obtain ⟨hi8, h⟩ := gd_some h
        refine m_iast X hw hr hr3 hi8 d_X12_asksAll_66 (fun H locs hw => ?_)
        exact j67_12 (sA (sA τ r ((16 : Int32) + x5).toNatClampNeg ((1 : Int32) + ((cA τ r x5.toNatClampNeg) / (2 : Int32)))) r ((24 : Int32) + x5).toNatClampNeg (if ((cA (sA τ r ((16 : Int32) + x5).toNatClampNeg ((1 : Int32) + ((cA τ r x5.toNatClampNeg) / (2 : Int32)))) r ((24 : Int32) + x5).toNatClampNeg) + (1 : Int32)) < (99 : Int32) then ((cA (sA τ r ((16 : Int32) + x5).toNatClampNeg ((1 : Int32) + ((cA τ r x5.toNatClampNeg) / (2 : Int32)))) r ((24 : Int32) + x5).toNatClampNeg) + (1 : Int32)) else (99 : Int32))) y4 x5 o h hk _ _ _ hw (lv_sub hl [1, 2, 3, 0] rfl)
  intro H locs ls hw hl
  have hl : lv_has ls 6 [(0, .ref (ga G 300)), (1, .ref (ga G r)), (2, .int a2), (3, .int a3)] := hl
  unfold f_X12_asksAll at h
  refine lv_aload_n hx hb d_X12_asksAll_0 rfl (lv_at hl 0 rfl) ?_
  refine lv_aload_n hx hb d_X12_asksAll_1 rfl (lv_at hl 1 rfl) ?_
  refine lv_iload_n hx hb d_X12_asksAll_2 rfl (lv_at hl 2 rfl) ?_
  refine lv_iload_n hx hb d_X12_asksAll_3 rfl (lv_at hl 3 rfl) ?_
  obtain ⟨q1, e2, h⟩ := bd_some h
  refine r_callV (As := [.ref (ga G r), .int a2, .int a3]) (rest := []) (st' := [.int q1.1]) X hw hl mwX12_closing wd_1259 wp_34 wd_1257 (c_X12_closing hf hr hr3 e2) (r_recv X hw ct8 (o_300 hf)) rfl ⟨Nat.le_of_ble_eq_true rfl, Nat.le_of_ble_eq_true rfl⟩ ⟨Nat.le_refl _, Nat.le_refl _⟩ rfl rfl (Nat.le_of_ble_eq_true rfl) d_X12_asksAll_4 (fun H locs hw => ?_)
  refine lv_istore (lv' := [(4, .int q1.1), (0, .ref (ga G 300)), (1, .ref (ga G r)), (2, .int a2), (3, .int a3)]) hx hb d_X12_asksAll_7 hl (Nat.le_of_ble_eq_true rfl) rfl (fun ls hl => ?_)
  refine lv_iconst (v := (0 : Int32)) hx hb d_X12_asksAll_9 (by decide) ?_
  refine lv_istore (lv' := [(5, .int (0 : Int32)), (4, .int q1.1), (0, .ref (ga G 300)), (1, .ref (ga G r)), (2, .int a2), (3, .int a3)]) hx hb d_X12_asksAll_10 hl (Nat.le_of_ble_eq_true rfl) rfl (fun ls hl => ?_)
  obtain ⟨z9, e10, h⟩ := bd_some h
  refine iter_w (Wh := fun z : Int32 × St => Wat p l e (rmk 4 91) s m args below meth c Q G 6 12 [] [(5, .int z.1), (0, .ref (ga G 300)), (1, .ref (ga G r)), (4, .int q1.1)] χ z.2) (K := fun z : St => Wat p l e (rmk 4 91) s m args below meth c Q G 6 73 [] [(1, .ref (ga G r)), (4, .int q1.1)] χ z) (fun z o h1 h2 => b12 z.2 q1.1 z.1 o h1 h2) FU _ _ e10 ?_ _ _ _ hw (lv_sub hl [0, 2, 3, 1] rfl)
  intro H locs ls hw hl
  refine lv_aload_n hx hb d_X12_asksAll_73 rfl (lv_at hl 0 rfl) ?_
  refine lv_bipush (v := (33 : Int32)) hx hb d_X12_asksAll_74 (by decide) ?_
  refine lv_sipush (v := (9999 : Int32)) hx hb d_X12_asksAll_76 (by decide) ?_
  refine lv_aload_n hx hb d_X12_asksAll_79 rfl (lv_at hl 0 rfl) ?_
  refine lv_bipush (v := (33 : Int32)) hx hb d_X12_asksAll_80 (by decide) ?_
  obtain ⟨hi12, h⟩ := gd_some h
  refine m_iald X hw hr hr3 hi12 d_X12_asksAll_82 ?_
  refine lv_iconst (v := (1 : Int32)) hx hb d_X12_asksAll_83 (by decide) ?_
  refine lv_iadd hx hb d_X12_asksAll_84 ?_
  refine r_min X hl wd_1103 ⟨Nat.le_of_ble_eq_true rfl, Nat.le_of_ble_eq_true rfl⟩ ⟨Nat.le_refl _, Nat.le_refl _⟩ d_X12_asksAll_85 ?_
  obtain ⟨hi13, h⟩ := gd_some h
  refine m_iast X hw hr hr3 hi13 d_X12_asksAll_88 (fun H locs hw => ?_)
  refine lv_iload hx hb d_X12_asksAll_89 (lv_at hl 1 rfl) ?_
  obtain rfl := Option.some.inj h
  subst hQ
  exact r_iret X hret hlk hw d_X12_asksAll_91
abbrev yX12_goesOn : MethodName := ⟨"OysterBedsModel", "goesOn", "([II)V"⟩
theorem mwX12_goesOn : MW yX12_goesOn prog_14_method_46_code 4 none 2 := ⟨wd_1296, wd_10, by decide +kernel⟩
theorem d_X12_goesOn_0 : decode prog_14_method_46_code 0 = .ok (.iconst 0, 1) := by decide +kernel
theorem d_X12_goesOn_1 : decode prog_14_method_46_code 1 = .ok (.istore_n 3, 1) := by decide +kernel
theorem d_X12_goesOn_2 : decode prog_14_method_46_code 2 = .ok (.iload_n 3, 1) := by decide +kernel
theorem d_X12_goesOn_3 : decode prog_14_method_46_code 3 = .ok (.aload_n 0, 1) := by decide +kernel
theorem d_X12_goesOn_4 : decode prog_14_method_46_code 4 = .ok (.getfield 102, 3) := by decide +kernel
theorem d_X12_goesOn_7 : decode prog_14_method_46_code 7 = .ok (.if_icmp .ge 27, 3) := by decide +kernel
theorem d_X12_goesOn_10 : decode prog_14_method_46_code 10 = .ok (.aload_n 1, 1) := by decide +kernel
theorem d_X12_goesOn_11 : decode prog_14_method_46_code 11 = .ok (.bipush 16, 2) := by decide +kernel
theorem d_X12_goesOn_13 : decode prog_14_method_46_code 13 = .ok (.iload_n 3, 1) := by decide +kernel
theorem d_X12_goesOn_14 : decode prog_14_method_46_code 14 = .ok (.iadd, 1) := by decide +kernel
theorem d_X12_goesOn_15 : decode prog_14_method_46_code 15 = .ok (.iconst 0, 1) := by decide +kernel
theorem d_X12_goesOn_16 : decode prog_14_method_46_code 16 = .ok (.aload_n 1, 1) := by decide +kernel
theorem d_X12_goesOn_17 : decode prog_14_method_46_code 17 = .ok (.bipush 16, 2) := by decide +kernel
theorem d_X12_goesOn_19 : decode prog_14_method_46_code 19 = .ok (.iload_n 3, 1) := by decide +kernel
theorem d_X12_goesOn_20 : decode prog_14_method_46_code 20 = .ok (.iadd, 1) := by decide +kernel
theorem d_X12_goesOn_21 : decode prog_14_method_46_code 21 = .ok (.iaload, 1) := by decide +kernel
theorem d_X12_goesOn_22 : decode prog_14_method_46_code 22 = .ok (.iload_n 2, 1) := by decide +kernel
theorem d_X12_goesOn_23 : decode prog_14_method_46_code 23 = .ok (.isub, 1) := by decide +kernel
theorem d_X12_goesOn_24 : decode prog_14_method_46_code 24 = .ok (.invokestatic 251, 3) := by decide +kernel
theorem d_X12_goesOn_27 : decode prog_14_method_46_code 27 = .ok (.iastore, 1) := by decide +kernel
theorem d_X12_goesOn_28 : decode prog_14_method_46_code 28 = .ok (.iinc 3 1, 3) := by decide +kernel
theorem d_X12_goesOn_31 : decode prog_14_method_46_code 31 = .ok (.goto (-29), 3) := by decide +kernel
theorem d_X12_goesOn_34 : decode prog_14_method_46_code 34 = .ok (.aload_n 1, 1) := by decide +kernel
theorem d_X12_goesOn_35 : decode prog_14_method_46_code 35 = .ok (.bipush 32, 2) := by decide +kernel
theorem d_X12_goesOn_37 : decode prog_14_method_46_code 37 = .ok (.dup2, 1) := by decide +kernel
theorem d_X12_goesOn_38 : decode prog_14_method_46_code 38 = .ok (.iaload, 1) := by decide +kernel
theorem d_X12_goesOn_39 : decode prog_14_method_46_code 39 = .ok (.iload_n 2, 1) := by decide +kernel
theorem d_X12_goesOn_40 : decode prog_14_method_46_code 40 = .ok (.iadd, 1) := by decide +kernel
theorem d_X12_goesOn_41 : decode prog_14_method_46_code 41 = .ok (.iastore, 1) := by decide +kernel
theorem d_X12_goesOn_42 : decode prog_14_method_46_code 42 = .ok (.return_, 1) := by decide +kernel
def f_X12_goesOn_s2 (r : Nat) (τ : St) (y2 : Int32) (x3 : Int32) : Option ((Int32 × St) ⊕ (St)) := (if (cF τ 300 3) ≤ x3 then some (.inr τ) else gd (inb ((16 : Int32) + x3) 34) (gd (inb ((16 : Int32) + x3) 34) (some (.inl ((x3 + (1 : Int32)), (sA τ r ((16 : Int32) + x3).toNatClampNeg (if (0 : Int32) < ((cA τ r ((16 : Int32) + x3).toNatClampNeg) - y2) then ((cA τ r ((16 : Int32) + x3).toNatClampNeg) - y2) else (0 : Int32))))))))
def f_X12_goesOn (σ : St) (r : Nat) (a2 : Int32) : Option (St) := (iter (fun z => f_X12_goesOn_s2 r z.2 a2 z.1) FU ((0 : Int32), σ)).bind (fun z3 => gd (inb (32 : Int32) 34) (gd (inb (32 : Int32) 34) (some (sA z3 r (32 : Int32).toNatClampNeg ((cA z3 r (32 : Int32).toNatClampNeg) + a2)))))
theorem c_X12_goesOn {l : Launch} {G : gT} {χ σ : St} {r : Nat} {a2 : Int32} (hf : FW G) (hr : OP G r 11 34) (hr3 : 300 ≤ r) {q : St} (h : f_X12_goesOn σ r a2 = some q) : Ct l G yX12_goesOn prog_14_method_46_code 4 none 1 21 [.ref (ga G 300), .ref (ga G r), .int a2] χ σ (none) χ q := by
  refine Ct.of (by decide) (Nat.le_of_ble_eq_true rfl) ?_
  intro p e s m args below meth c Q X hret hlk hQ
  have hx := X.1
  have hb := X.2.1
  have b2 : ∀ (τ : St) (y2 : Int32) (x3 : Int32) (o : (Int32 × St) ⊕ (St)), f_X12_goesOn_s2 r τ y2 x3 = some o → Sum.elim (fun z : Int32 × St => Wat p l e (rmk 1 21) s m args below meth c Q G 4 2 [] [(3, .int z.1), (0, .ref (ga G 300)), (1, .ref (ga G r)), (2, .int y2)] χ z.2) (fun z : St => Wat p l e (rmk 1 21) s m args below meth c Q G 4 34 [] [(1, .ref (ga G r)), (2, .int y2)] χ z) o → Wat p l e (rmk 1 21) s m args below meth c Q G 4 2 [] [(3, .int x3), (0, .ref (ga G 300)), (1, .ref (ga G r)), (2, .int y2)] χ τ := by
    intro τ y2 x3 o h hk H locs ls hw hl
    unfold f_X12_goesOn_s2 at h
    refine lv_iload_n hx hb d_X12_goesOn_2 rfl (lv_at hl 0 rfl) ?_
    refine lv_aload_n hx hb d_X12_goesOn_3 rfl (lv_at hl 1 rfl) ?_
    refine m_geti (j := 3) X hw ct8 (o_300 hf) (Nat.le_of_ble_eq_true rfl) rfl (Nat.le_of_ble_eq_true rfl) wd_959 d_X12_goesOn_4 ?_
    refine lv_icmp_ge (tgt := 34) hx hb d_X12_goesOn_7 (by decide) (fun hc => ?_) (fun hc => ?_)
    · have h := ite_t h hc
      obtain rfl := Option.some.inj h
      dsimp only [Sum.elim_inr] at hk
      exact hk _ _ _ hw (lv_sub hl [2, 3] rfl)
    · have h := ite_f h hc
      refine lv_aload_n hx hb d_X12_goesOn_10 rfl (lv_at hl 2 rfl) ?_
      refine lv_bipush (v := (16 : Int32)) hx hb d_X12_goesOn_11 (by decide) ?_
      refine lv_iload_n hx hb d_X12_goesOn_13 rfl (lv_at hl 0 rfl) ?_
      refine lv_iadd hx hb d_X12_goesOn_14 ?_
      refine lv_iconst (v := (0 : Int32)) hx hb d_X12_goesOn_15 (by decide) ?_
      refine lv_aload_n hx hb d_X12_goesOn_16 rfl (lv_at hl 2 rfl) ?_
      refine lv_bipush (v := (16 : Int32)) hx hb d_X12_goesOn_17 (by decide) ?_
      refine lv_iload_n hx hb d_X12_goesOn_19 rfl (lv_at hl 0 rfl) ?_
      refine lv_iadd hx hb d_X12_goesOn_20 ?_
      obtain ⟨hi1, h⟩ := gd_some h
      refine m_iald X hw hr hr3 hi1 d_X12_goesOn_21 ?_
      refine lv_iload_n hx hb d_X12_goesOn_22 rfl (lv_at hl 3 rfl) ?_
      refine lv_isub hx hb d_X12_goesOn_23 ?_
      refine r_max X hl wd_1232 ⟨Nat.le_of_ble_eq_true rfl, Nat.le_of_ble_eq_true rfl⟩ ⟨Nat.le_refl _, Nat.le_refl _⟩ d_X12_goesOn_24 ?_
      obtain ⟨hi2, h⟩ := gd_some h
      refine m_iast X hw hr hr3 hi2 d_X12_goesOn_27 (fun H locs hw => ?_)
      refine lv_iinc (v := (x3 + (1 : Int32))) (k := 0) (lv' := [(3, .int (x3 + (1 : Int32))), (0, .ref (ga G 300)), (1, .ref (ga G r)), (2, .int y2)]) hx hb d_X12_goesOn_28 hl rfl (by rfl) (Nat.le_of_ble_eq_true rfl) rfl (fun ls hl => ?_)
      refine lv_goto (tgt := 2) hx hb d_X12_goesOn_31 (by decide) ?_
      obtain rfl := Option.some.inj h
      dsimp only [Sum.elim_inl] at hk
      exact hk _ _ _ hw (lv_sub hl [0, 1, 2, 3] rfl)
  intro H locs ls hw hl
  have hl : lv_has ls 4 [(0, .ref (ga G 300)), (1, .ref (ga G r)), (2, .int a2)] := hl
  unfold f_X12_goesOn at h
  refine lv_iconst (v := (0 : Int32)) hx hb d_X12_goesOn_0 (by decide) ?_
  refine lv_istore_n (lv' := [(3, .int (0 : Int32)), (0, .ref (ga G 300)), (1, .ref (ga G r)), (2, .int a2)]) hx hb d_X12_goesOn_1 rfl hl (Nat.le_of_ble_eq_true rfl) rfl (fun ls hl => ?_)
  obtain ⟨z3, e4, h⟩ := bd_some h
  refine iter_w (Wh := fun z : Int32 × St => Wat p l e (rmk 1 21) s m args below meth c Q G 4 2 [] [(3, .int z.1), (0, .ref (ga G 300)), (1, .ref (ga G r)), (2, .int a2)] χ z.2) (K := fun z : St => Wat p l e (rmk 1 21) s m args below meth c Q G 4 34 [] [(1, .ref (ga G r)), (2, .int a2)] χ z) (fun z o h1 h2 => b2 z.2 a2 z.1 o h1 h2) FU _ _ e4 ?_ _ _ _ hw (lv_sub hl [0, 1, 2, 3] rfl)
  intro H locs ls hw hl
  refine lv_aload_n hx hb d_X12_goesOn_34 rfl (lv_at hl 0 rfl) ?_
  refine lv_bipush (v := (32 : Int32)) hx hb d_X12_goesOn_35 (by decide) ?_
  refine lv_dup2_11 hx hb d_X12_goesOn_37 rfl rfl ?_
  obtain ⟨hi6, h⟩ := gd_some h
  refine m_iald X hw hr hr3 hi6 d_X12_goesOn_38 ?_
  refine lv_iload_n hx hb d_X12_goesOn_39 rfl (lv_at hl 1 rfl) ?_
  refine lv_iadd hx hb d_X12_goesOn_40 ?_
  obtain ⟨hi7, h⟩ := gd_some h
  refine m_iast X hw hr hr3 hi7 d_X12_goesOn_41 (fun H locs hw => ?_)
  obtain rfl := Option.some.inj h
  subst hQ
  exact r_vret X hret hlk hw d_X12_goesOn_42
abbrev yX12_becomes : MethodName := ⟨"OysterBedsModel", "becomes", "(III)I"⟩
theorem mwX12_becomes : MW yX12_becomes prog_14_method_47_code 5 (some .int) 3 := ⟨wd_1308, wd_10, by decide +kernel⟩
theorem d_X12_becomes_0 : decode prog_14_method_47_code 0 = .ok (.aload_n 0, 1) := by decide +kernel
theorem d_X12_becomes_1 : decode prog_14_method_47_code 1 = .ok (.getfield 17, 3) := by decide +kernel
theorem d_X12_becomes_4 : decode prog_14_method_47_code 4 = .ok (.iload_n 1, 1) := by decide +kernel
theorem d_X12_becomes_5 : decode prog_14_method_47_code 5 = .ok (.iaload, 1) := by decide +kernel
theorem d_X12_becomes_6 : decode prog_14_method_47_code 6 = .ok (.istore 4, 2) := by decide +kernel
theorem d_X12_becomes_8 : decode prog_14_method_47_code 8 = .ok (.aload_n 0, 1) := by decide +kernel
theorem d_X12_becomes_9 : decode prog_14_method_47_code 9 = .ok (.getfield 17, 3) := by decide +kernel
theorem d_X12_becomes_12 : decode prog_14_method_47_code 12 = .ok (.iload_n 1, 1) := by decide +kernel
theorem d_X12_becomes_13 : decode prog_14_method_47_code 13 = .ok (.iload_n 2, 1) := by decide +kernel
theorem d_X12_becomes_14 : decode prog_14_method_47_code 14 = .ok (.iastore, 1) := by decide +kernel
theorem d_X12_becomes_15 : decode prog_14_method_47_code 15 = .ok (.iload 4, 2) := by decide +kernel
theorem d_X12_becomes_17 : decode prog_14_method_47_code 17 = .ok (.iload_n 2, 1) := by decide +kernel
theorem d_X12_becomes_18 : decode prog_14_method_47_code 18 = .ok (.if_icmp .ne 8, 3) := by decide +kernel
theorem d_X12_becomes_21 : decode prog_14_method_47_code 21 = .ok (.bipush (-2), 2) := by decide +kernel
theorem d_X12_becomes_23 : decode prog_14_method_47_code 23 = .ok (.goto 7, 3) := by decide +kernel
theorem d_X12_becomes_26 : decode prog_14_method_47_code 26 = .ok (.iload 4, 2) := by decide +kernel
theorem d_X12_becomes_28 : decode prog_14_method_47_code 28 = .ok (.iload_n 3, 1) := by decide +kernel
theorem d_X12_becomes_29 : decode prog_14_method_47_code 29 = .ok (.iadd, 1) := by decide +kernel
theorem d_X12_becomes_30 : decode prog_14_method_47_code 30 = .ok (.ireturn, 1) := by decide +kernel
def f_X12_becomes (σ : St) (a1 : Int32) (a2 : Int32) (a3 : Int32) : Option (Int32 × St) := gd (inb a1 34) (gd (inb a1 34) (some ((if (cA σ 306 a1.toNatClampNeg) = a2 then (-2 : Int32) else ((cA σ 306 a1.toNatClampNeg) + a3)), (sA σ 306 a1.toNatClampNeg a2))))
theorem c_X12_becomes {l : Launch} {G : gT} {χ σ : St} {a1 : Int32} {a2 : Int32} {a3 : Int32} (hf : FW G) {q : Int32 × St} (h : f_X12_becomes σ a1 a2 a3 = some q) : Ct l G yX12_becomes prog_14_method_47_code 5 (some .int) 0 0 [.ref (ga G 300), .int a1, .int a2, .int a3] χ σ (some (.int q.1)) χ q.2 := by
  refine Ct.of (by decide) (Nat.le_of_ble_eq_true rfl) ?_
  intro p e s m args below meth c Q X hr hlk hQ
  have hx := X.1
  have hb := X.2.1
  intro H locs ls hw hl
  have hl : lv_has ls 5 [(0, .ref (ga G 300)), (1, .int a1), (2, .int a2), (3, .int a3)] := hl
  unfold f_X12_becomes at h
  refine lv_aload_n hx hb d_X12_becomes_0 rfl (lv_at hl 0 rfl) ?_
  refine r_getr (j := 6) X hw ct8 (o_300 hf) rfl (Nat.le_of_ble_eq_true rfl) (q := 306) rfl wd_962 d_X12_becomes_1 ?_
  refine lv_iload_n hx hb d_X12_becomes_4 rfl (lv_at hl 1 rfl) ?_
  obtain ⟨hi1, h⟩ := gd_some h
  refine m_iald X hw (o_306 hf) (Nat.le_of_ble_eq_true rfl) hi1 d_X12_becomes_5 ?_
  refine lv_istore (lv' := [(4, .int (cA σ 306 a1.toNatClampNeg)), (0, .ref (ga G 300)), (1, .int a1), (2, .int a2), (3, .int a3)]) hx hb d_X12_becomes_6 hl (Nat.le_of_ble_eq_true rfl) rfl (fun ls hl => ?_)
  refine lv_aload_n hx hb d_X12_becomes_8 rfl (lv_at hl 1 rfl) ?_
  refine r_getr (j := 6) X hw ct8 (o_300 hf) rfl (Nat.le_of_ble_eq_true rfl) (q := 306) rfl wd_962 d_X12_becomes_9 ?_
  refine lv_iload_n hx hb d_X12_becomes_12 rfl (lv_at hl 2 rfl) ?_
  refine lv_iload_n hx hb d_X12_becomes_13 rfl (lv_at hl 3 rfl) ?_
  obtain ⟨hi2, h⟩ := gd_some h
  refine m_iast X hw (o_306 hf) (Nat.le_of_ble_eq_true rfl) hi2 d_X12_becomes_14 (fun H locs hw => ?_)
  refine lv_iload hx hb d_X12_becomes_15 (lv_at hl 0 rfl) ?_
  refine lv_iload_n hx hb d_X12_becomes_17 rfl (lv_at hl 3 rfl) ?_
  refine lv_icmp_ne (tgt := 26) hx hb d_X12_becomes_18 (by decide) (fun hc => ?_) (fun hc => ?_)
  · simp only [if_neg hc] at h
    refine lv_iload hx hb d_X12_becomes_26 (lv_at hl 0 rfl) ?_
    refine lv_iload_n hx hb d_X12_becomes_28 rfl (lv_at hl 4 rfl) ?_
    refine lv_iadd hx hb d_X12_becomes_29 ?_
    obtain rfl := Option.some.inj h
    subst hQ
    exact r_iret X hr hlk hw d_X12_becomes_30
  · simp only [if_pos hc] at h
    refine lv_bipush (v := (-2 : Int32)) hx hb d_X12_becomes_21 (by decide) ?_
    refine lv_goto (tgt := 30) hx hb d_X12_becomes_23 (by decide) ?_
    obtain rfl := Option.some.inj h
    subst hQ
    exact r_iret X hr hlk hw d_X12_becomes_30
abbrev yX12_stillsTo : MethodName := ⟨"OysterBedsModel", "stillsTo", "(II)I"⟩
theorem mwX12_stillsTo : MW yX12_stillsTo prog_14_method_48_code 3 (some .int) 2 := ⟨wd_1304, wd_10, by decide +kernel⟩
theorem d_X12_stillsTo_0 : decode prog_14_method_48_code 0 = .ok (.aload_n 0, 1) := by decide +kernel
theorem d_X12_stillsTo_1 : decode prog_14_method_48_code 1 = .ok (.iload_n 1, 1) := by decide +kernel
theorem d_X12_stillsTo_2 : decode prog_14_method_48_code 2 = .ok (.invokevirtual 243, 3) := by decide +kernel
theorem d_X12_stillsTo_5 : decode prog_14_method_48_code 5 = .ok (.ifCond .eq 26, 3) := by decide +kernel
theorem d_X12_stillsTo_8 : decode prog_14_method_48_code 8 = .ok (.iload_n 2, 1) := by decide +kernel
theorem d_X12_stillsTo_9 : decode prog_14_method_48_code 9 = .ok (.i2l, 1) := by decide +kernel
theorem d_X12_stillsTo_10 : decode prog_14_method_48_code 10 = .ok (.lconst 0, 1) := by decide +kernel
theorem d_X12_stillsTo_11 : decode prog_14_method_48_code 11 = .ok (.ldc2_w 111, 3) := by decide +kernel
theorem d_X12_stillsTo_14 : decode prog_14_method_48_code 14 = .ok (.invokestatic 105, 3) := by decide +kernel
theorem d_X12_stillsTo_17 : decode prog_14_method_48_code 17 = .ok (.ifCond .eq 14, 3) := by decide +kernel
theorem d_X12_stillsTo_20 : decode prog_14_method_48_code 20 = .ok (.aload_n 0, 1) := by decide +kernel
theorem d_X12_stillsTo_21 : decode prog_14_method_48_code 21 = .ok (.iload_n 1, 1) := by decide +kernel
theorem d_X12_stillsTo_22 : decode prog_14_method_48_code 22 = .ok (.iload_n 2, 1) := by decide +kernel
theorem d_X12_stillsTo_23 : decode prog_14_method_48_code 23 = .ok (.bipush 10, 2) := by decide +kernel
theorem d_X12_stillsTo_25 : decode prog_14_method_48_code 25 = .ok (.invokevirtual 265, 3) := by decide +kernel
theorem d_X12_stillsTo_28 : decode prog_14_method_48_code 28 = .ok (.goto 4, 3) := by decide +kernel
theorem d_X12_stillsTo_31 : decode prog_14_method_48_code 31 = .ok (.iconst (-1), 1) := by decide +kernel
theorem d_X12_stillsTo_32 : decode prog_14_method_48_code 32 = .ok (.ireturn, 1) := by decide +kernel
def f_X12_stillsTo (σ : St) (a1 : Int32) (a2 : Int32) : Option (Int32 × St) := (f_X12_isOyster σ a1).bind (fun q1 => (if q1 = 0 then some ((-1 : Int32), σ) else (f_X12_in a2.toInt64 (0 : Int64) (9 : Int64)).bind (fun q3 => (if q3 = 0 then some ((-1 : Int32), σ) else (f_X12_becomes σ a1 a2 (10 : Int32)).bind (fun q5 => some (q5.1, q5.2))))))
theorem c_X12_stillsTo {l : Launch} {G : gT} {χ σ : St} {a1 : Int32} {a2 : Int32} (hf : FW G) {q : Int32 × St} (h : f_X12_stillsTo σ a1 a2 = some q) : Ct l G yX12_stillsTo prog_14_method_48_code 3 (some .int) 2 46 [.ref (ga G 300), .int a1, .int a2] χ σ (some (.int q.1)) χ q.2 := by
  refine Ct.of (by decide) (Nat.le_of_ble_eq_true rfl) ?_
  intro p e s m args below meth c Q X hr hlk hQ
  have hx := X.1
  have hb := X.2.1
  intro H locs ls hw hl
  have hl : lv_has ls 3 [(0, .ref (ga G 300)), (1, .int a1), (2, .int a2)] := hl
  unfold f_X12_stillsTo at h
  refine lv_aload_n hx hb d_X12_stillsTo_0 rfl (lv_at hl 0 rfl) ?_
  refine lv_iload_n hx hb d_X12_stillsTo_1 rfl (lv_at hl 1 rfl) ?_
  obtain ⟨q1, e2, h⟩ := bd_some h
  refine r_callV (As := [.int a1]) (rest := []) (st' := [.int q1]) X hw hl mwX12_isOyster wd_1220 wp_29 wd_1218 (c_X12_isOyster hf e2) (r_recv X hw ct8 (o_300 hf)) rfl ⟨Nat.le_of_ble_eq_true rfl, Nat.le_of_ble_eq_true rfl⟩ ⟨Nat.le_refl _, Nat.le_refl _⟩ rfl rfl (Nat.le_of_ble_eq_true rfl) d_X12_stillsTo_2 (fun H locs hw => ?_)
  refine lv_if_eq (tgt := 31) hx hb d_X12_stillsTo_5 (by decide) (fun hc => ?_) (fun hc => ?_)
  · have h := ite_t h hc
    refine lv_iconst (v := (-1 : Int32)) hx hb d_X12_stillsTo_31 (by decide) ?_
    obtain rfl := Option.some.inj h
    subst hQ
    exact r_iret X hr hlk hw d_X12_stillsTo_32
  · have h := ite_f h hc
    refine lv_iload_n hx hb d_X12_stillsTo_8 rfl (lv_at hl 2 rfl) ?_
    refine lv_i2l hx hb d_X12_stillsTo_9 rfl ?_
    refine lv_lconst (v := (0 : Int64)) hx hb d_X12_stillsTo_10 (by decide) ?_
    refine r_ldc2 X wd_1248 d_X12_stillsTo_11 ?_
    obtain ⟨q3, e4, h⟩ := bd_some h
    refine r_callS (As := [.long a2.toInt64, .long (0 : Int64), .long (9 : Int64)]) (rest := []) (st' := [.int q3]) X hw hl mwX12_in wd_1093 wd_1092 (c_X12_in hf e4) rfl ⟨Nat.le_of_ble_eq_true rfl, Nat.le_of_ble_eq_true rfl⟩ ⟨Nat.le_refl _, Nat.le_refl _⟩ rfl rfl (Nat.le_of_ble_eq_true rfl) d_X12_stillsTo_14 (fun H locs hw => ?_)
    refine lv_if_eq (tgt := 31) hx hb d_X12_stillsTo_17 (by decide) (fun hc => ?_) (fun hc => ?_)
    · have h := ite_t h hc
      refine lv_iconst (v := (-1 : Int32)) hx hb d_X12_stillsTo_31 (by decide) ?_
      obtain rfl := Option.some.inj h
      subst hQ
      exact r_iret X hr hlk hw d_X12_stillsTo_32
    · have h := ite_f h hc
      refine lv_aload_n hx hb d_X12_stillsTo_20 rfl (lv_at hl 0 rfl) ?_
      refine lv_iload_n hx hb d_X12_stillsTo_21 rfl (lv_at hl 1 rfl) ?_
      refine lv_iload_n hx hb d_X12_stillsTo_22 rfl (lv_at hl 2 rfl) ?_
      refine lv_bipush (v := (10 : Int32)) hx hb d_X12_stillsTo_23 (by decide) ?_
      obtain ⟨q5, e6, h⟩ := bd_some h
      refine r_callV (As := [.int a1, .int a2, .int (10 : Int32)]) (rest := []) (st' := [.int q5.1]) X hw hl mwX12_becomes wd_1307 wp_42 wd_1305 (c_X12_becomes hf e6) (r_recv X hw ct8 (o_300 hf)) rfl ⟨Nat.le_of_ble_eq_true rfl, Nat.le_of_ble_eq_true rfl⟩ ⟨Nat.le_refl _, Nat.le_refl _⟩ rfl rfl (Nat.le_of_ble_eq_true rfl) d_X12_stillsTo_25 (fun H locs hw => ?_)
      refine lv_goto (tgt := 32) hx hb d_X12_stillsTo_28 (by decide) ?_
      obtain rfl := Option.some.inj h
      subst hQ
      exact r_iret X hr hlk hw d_X12_stillsTo_32
abbrev yX12_viewsTo : MethodName := ⟨"OysterBedsModel", "viewsTo", "(II)I"⟩
theorem mwX12_viewsTo : MW yX12_viewsTo prog_14_method_49_code 3 (some .int) 2 := ⟨wd_1320, wd_10, by decide +kernel⟩
theorem d_X12_viewsTo_0 : decode prog_14_method_49_code 0 = .ok (.aload_n 0, 1) := by decide +kernel
theorem d_X12_viewsTo_1 : decode prog_14_method_49_code 1 = .ok (.iload_n 1, 1) := by decide +kernel
theorem d_X12_viewsTo_2 : decode prog_14_method_49_code 2 = .ok (.invokevirtual 243, 3) := by decide +kernel
theorem d_X12_viewsTo_5 : decode prog_14_method_49_code 5 = .ok (.ifCond .eq 29, 3) := by decide +kernel
theorem d_X12_viewsTo_8 : decode prog_14_method_49_code 8 = .ok (.iload_n 2, 1) := by decide +kernel
theorem d_X12_viewsTo_9 : decode prog_14_method_49_code 9 = .ok (.i2l, 1) := by decide +kernel
theorem d_X12_viewsTo_10 : decode prog_14_method_49_code 10 = .ok (.lconst 0, 1) := by decide +kernel
theorem d_X12_viewsTo_11 : decode prog_14_method_49_code 11 = .ok (.ldc2_w 268, 3) := by decide +kernel
theorem d_X12_viewsTo_14 : decode prog_14_method_49_code 14 = .ok (.invokestatic 105, 3) := by decide +kernel
theorem d_X12_viewsTo_17 : decode prog_14_method_49_code 17 = .ok (.ifCond .eq 17, 3) := by decide +kernel
theorem d_X12_viewsTo_20 : decode prog_14_method_49_code 20 = .ok (.aload_n 0, 1) := by decide +kernel
theorem d_X12_viewsTo_21 : decode prog_14_method_49_code 21 = .ok (.bipush 8, 2) := by decide +kernel
theorem d_X12_viewsTo_23 : decode prog_14_method_49_code 23 = .ok (.iload_n 1, 1) := by decide +kernel
theorem d_X12_viewsTo_24 : decode prog_14_method_49_code 24 = .ok (.iadd, 1) := by decide +kernel
theorem d_X12_viewsTo_25 : decode prog_14_method_49_code 25 = .ok (.iload_n 2, 1) := by decide +kernel
theorem d_X12_viewsTo_26 : decode prog_14_method_49_code 26 = .ok (.bipush 20, 2) := by decide +kernel
theorem d_X12_viewsTo_28 : decode prog_14_method_49_code 28 = .ok (.invokevirtual 265, 3) := by decide +kernel
theorem d_X12_viewsTo_31 : decode prog_14_method_49_code 31 = .ok (.goto 4, 3) := by decide +kernel
theorem d_X12_viewsTo_34 : decode prog_14_method_49_code 34 = .ok (.iconst (-1), 1) := by decide +kernel
theorem d_X12_viewsTo_35 : decode prog_14_method_49_code 35 = .ok (.ireturn, 1) := by decide +kernel
def f_X12_viewsTo (σ : St) (a1 : Int32) (a2 : Int32) : Option (Int32 × St) := (f_X12_isOyster σ a1).bind (fun q1 => (if q1 = 0 then some ((-1 : Int32), σ) else (f_X12_in a2.toInt64 (0 : Int64) (15 : Int64)).bind (fun q3 => (if q3 = 0 then some ((-1 : Int32), σ) else (f_X12_becomes σ ((8 : Int32) + a1) a2 (20 : Int32)).bind (fun q5 => some (q5.1, q5.2))))))
theorem c_X12_viewsTo {l : Launch} {G : gT} {χ σ : St} {a1 : Int32} {a2 : Int32} (hf : FW G) {q : Int32 × St} (h : f_X12_viewsTo σ a1 a2 = some q) : Ct l G yX12_viewsTo prog_14_method_49_code 3 (some .int) 2 46 [.ref (ga G 300), .int a1, .int a2] χ σ (some (.int q.1)) χ q.2 := by
  refine Ct.of (by decide) (Nat.le_of_ble_eq_true rfl) ?_
  intro p e s m args below meth c Q X hr hlk hQ
  have hx := X.1
  have hb := X.2.1
  intro H locs ls hw hl
  have hl : lv_has ls 3 [(0, .ref (ga G 300)), (1, .int a1), (2, .int a2)] := hl
  unfold f_X12_viewsTo at h
  refine lv_aload_n hx hb d_X12_viewsTo_0 rfl (lv_at hl 0 rfl) ?_
  refine lv_iload_n hx hb d_X12_viewsTo_1 rfl (lv_at hl 1 rfl) ?_
  obtain ⟨q1, e2, h⟩ := bd_some h
  refine r_callV (As := [.int a1]) (rest := []) (st' := [.int q1]) X hw hl mwX12_isOyster wd_1220 wp_29 wd_1218 (c_X12_isOyster hf e2) (r_recv X hw ct8 (o_300 hf)) rfl ⟨Nat.le_of_ble_eq_true rfl, Nat.le_of_ble_eq_true rfl⟩ ⟨Nat.le_refl _, Nat.le_refl _⟩ rfl rfl (Nat.le_of_ble_eq_true rfl) d_X12_viewsTo_2 (fun H locs hw => ?_)
  refine lv_if_eq (tgt := 34) hx hb d_X12_viewsTo_5 (by decide) (fun hc => ?_) (fun hc => ?_)
  · have h := ite_t h hc
    refine lv_iconst (v := (-1 : Int32)) hx hb d_X12_viewsTo_34 (by decide) ?_
    obtain rfl := Option.some.inj h
    subst hQ
    exact r_iret X hr hlk hw d_X12_viewsTo_35
  · have h := ite_f h hc
    refine lv_iload_n hx hb d_X12_viewsTo_8 rfl (lv_at hl 2 rfl) ?_
    refine lv_i2l hx hb d_X12_viewsTo_9 rfl ?_
    refine lv_lconst (v := (0 : Int64)) hx hb d_X12_viewsTo_10 (by decide) ?_
    refine r_ldc2 X wd_1321 d_X12_viewsTo_11 ?_
    obtain ⟨q3, e4, h⟩ := bd_some h
    refine r_callS (As := [.long a2.toInt64, .long (0 : Int64), .long (15 : Int64)]) (rest := []) (st' := [.int q3]) X hw hl mwX12_in wd_1093 wd_1092 (c_X12_in hf e4) rfl ⟨Nat.le_of_ble_eq_true rfl, Nat.le_of_ble_eq_true rfl⟩ ⟨Nat.le_refl _, Nat.le_refl _⟩ rfl rfl (Nat.le_of_ble_eq_true rfl) d_X12_viewsTo_14 (fun H locs hw => ?_)
    refine lv_if_eq (tgt := 34) hx hb d_X12_viewsTo_17 (by decide) (fun hc => ?_) (fun hc => ?_)
    · have h := ite_t h hc
      refine lv_iconst (v := (-1 : Int32)) hx hb d_X12_viewsTo_34 (by decide) ?_
      obtain rfl := Option.some.inj h
      subst hQ
      exact r_iret X hr hlk hw d_X12_viewsTo_35
    · have h := ite_f h hc
      refine lv_aload_n hx hb d_X12_viewsTo_20 rfl (lv_at hl 0 rfl) ?_
      refine lv_bipush (v := (8 : Int32)) hx hb d_X12_viewsTo_21 (by decide) ?_
      refine lv_iload_n hx hb d_X12_viewsTo_23 rfl (lv_at hl 1 rfl) ?_
      refine lv_iadd hx hb d_X12_viewsTo_24 ?_
      refine lv_iload_n hx hb d_X12_viewsTo_25 rfl (lv_at hl 2 rfl) ?_
      refine lv_bipush (v := (20 : Int32)) hx hb d_X12_viewsTo_26 (by decide) ?_
      obtain ⟨q5, e6, h⟩ := bd_some h
      refine r_callV (As := [.int ((8 : Int32) + a1), .int a2, .int (20 : Int32)]) (rest := []) (st' := [.int q5.1]) X hw hl mwX12_becomes wd_1307 wp_42 wd_1305 (c_X12_becomes hf e6) (r_recv X hw ct8 (o_300 hf)) rfl ⟨Nat.le_of_ble_eq_true rfl, Nat.le_of_ble_eq_true rfl⟩ ⟨Nat.le_refl _, Nat.le_refl _⟩ rfl rfl (Nat.le_of_ble_eq_true rfl) d_X12_viewsTo_28 (fun H locs hw => ?_)
      refine lv_goto (tgt := 35) hx hb d_X12_viewsTo_31 (by decide) ?_
      obtain rfl := Option.some.inj h
      subst hQ
      exact r_iret X hr hlk hw d_X12_viewsTo_35
abbrev yX12_cutsOpen : MethodName := ⟨"OysterBedsModel", "cutsOpen", "(I)I"⟩
theorem mwX12_cutsOpen : MW yX12_cutsOpen prog_14_method_50_code 3 (some .int) 1 := ⟨wd_1329, wd_10, by decide +kernel⟩
theorem d_X12_cutsOpen_0 : decode prog_14_method_50_code 0 = .ok (.aload_n 0, 1) := by decide +kernel
theorem d_X12_cutsOpen_1 : decode prog_14_method_50_code 1 = .ok (.iload_n 1, 1) := by decide +kernel
theorem d_X12_cutsOpen_2 : decode prog_14_method_50_code 2 = .ok (.invokevirtual 243, 3) := by decide +kernel
theorem d_X12_cutsOpen_5 : decode prog_14_method_50_code 5 = .ok (.ifCond .ne 5, 3) := by decide +kernel
theorem d_X12_cutsOpen_8 : decode prog_14_method_50_code 8 = .ok (.iconst (-1), 1) := by decide +kernel
theorem d_X12_cutsOpen_9 : decode prog_14_method_50_code 9 = .ok (.ireturn, 1) := by decide +kernel
theorem d_X12_cutsOpen_10 : decode prog_14_method_50_code 10 = .ok (.aload_n 0, 1) := by decide +kernel
theorem d_X12_cutsOpen_11 : decode prog_14_method_50_code 11 = .ok (.getfield 17, 3) := by decide +kernel
theorem d_X12_cutsOpen_14 : decode prog_14_method_50_code 14 = .ok (.bipush 16, 2) := by decide +kernel
theorem d_X12_cutsOpen_16 : decode prog_14_method_50_code 16 = .ok (.iload_n 1, 1) := by decide +kernel
theorem d_X12_cutsOpen_17 : decode prog_14_method_50_code 17 = .ok (.iadd, 1) := by decide +kernel
theorem d_X12_cutsOpen_18 : decode prog_14_method_50_code 18 = .ok (.iaload, 1) := by decide +kernel
theorem d_X12_cutsOpen_19 : decode prog_14_method_50_code 19 = .ok (.ifCond .ne 6, 3) := by decide +kernel
theorem d_X12_cutsOpen_22 : decode prog_14_method_50_code 22 = .ok (.bipush (-2), 2) := by decide +kernel
theorem d_X12_cutsOpen_24 : decode prog_14_method_50_code 24 = .ok (.ireturn, 1) := by decide +kernel
theorem d_X12_cutsOpen_25 : decode prog_14_method_50_code 25 = .ok (.aload_n 0, 1) := by decide +kernel
theorem d_X12_cutsOpen_26 : decode prog_14_method_50_code 26 = .ok (.getfield 17, 3) := by decide +kernel
theorem d_X12_cutsOpen_29 : decode prog_14_method_50_code 29 = .ok (.bipush 16, 2) := by decide +kernel
theorem d_X12_cutsOpen_31 : decode prog_14_method_50_code 31 = .ok (.iload_n 1, 1) := by decide +kernel
theorem d_X12_cutsOpen_32 : decode prog_14_method_50_code 32 = .ok (.iadd, 1) := by decide +kernel
theorem d_X12_cutsOpen_33 : decode prog_14_method_50_code 33 = .ok (.iconst 0, 1) := by decide +kernel
theorem d_X12_cutsOpen_34 : decode prog_14_method_50_code 34 = .ok (.iastore, 1) := by decide +kernel
theorem d_X12_cutsOpen_35 : decode prog_14_method_50_code 35 = .ok (.aload_n 0, 1) := by decide +kernel
theorem d_X12_cutsOpen_36 : decode prog_14_method_50_code 36 = .ok (.getfield 17, 3) := by decide +kernel
theorem d_X12_cutsOpen_39 : decode prog_14_method_50_code 39 = .ok (.bipush 24, 2) := by decide +kernel
theorem d_X12_cutsOpen_41 : decode prog_14_method_50_code 41 = .ok (.iload_n 1, 1) := by decide +kernel
theorem d_X12_cutsOpen_42 : decode prog_14_method_50_code 42 = .ok (.iadd, 1) := by decide +kernel
theorem d_X12_cutsOpen_43 : decode prog_14_method_50_code 43 = .ok (.iaload, 1) := by decide +kernel
theorem d_X12_cutsOpen_44 : decode prog_14_method_50_code 44 = .ok (.istore_n 2, 1) := by decide +kernel
theorem d_X12_cutsOpen_45 : decode prog_14_method_50_code 45 = .ok (.aload_n 0, 1) := by decide +kernel
theorem d_X12_cutsOpen_46 : decode prog_14_method_50_code 46 = .ok (.getfield 17, 3) := by decide +kernel
theorem d_X12_cutsOpen_49 : decode prog_14_method_50_code 49 = .ok (.bipush 24, 2) := by decide +kernel
theorem d_X12_cutsOpen_51 : decode prog_14_method_50_code 51 = .ok (.iload_n 1, 1) := by decide +kernel
theorem d_X12_cutsOpen_52 : decode prog_14_method_50_code 52 = .ok (.iadd, 1) := by decide +kernel
theorem d_X12_cutsOpen_53 : decode prog_14_method_50_code 53 = .ok (.iconst 0, 1) := by decide +kernel
theorem d_X12_cutsOpen_54 : decode prog_14_method_50_code 54 = .ok (.iastore, 1) := by decide +kernel
theorem d_X12_cutsOpen_55 : decode prog_14_method_50_code 55 = .ok (.iload_n 2, 1) := by decide +kernel
theorem d_X12_cutsOpen_56 : decode prog_14_method_50_code 56 = .ok (.ireturn, 1) := by decide +kernel
def f_X12_cutsOpen (σ : St) (a1 : Int32) : Option (Int32 × St) := (f_X12_isOyster σ a1).bind (fun q1 => (if q1 = 0 then some ((-1 : Int32), σ) else gd (inb ((16 : Int32) + a1) 34) ((if (cA σ 306 ((16 : Int32) + a1).toNatClampNeg) = 0 then some ((-2 : Int32), σ) else gd (inb ((16 : Int32) + a1) 34) (gd (inb ((24 : Int32) + a1) 34) (gd (inb ((24 : Int32) + a1) 34) (some ((cA (sA σ 306 ((16 : Int32) + a1).toNatClampNeg (0 : Int32)) 306 ((24 : Int32) + a1).toNatClampNeg), (sA (sA σ 306 ((16 : Int32) + a1).toNatClampNeg (0 : Int32)) 306 ((24 : Int32) + a1).toNatClampNeg (0 : Int32))))))))))
theorem c_X12_cutsOpen {l : Launch} {G : gT} {χ σ : St} {a1 : Int32} (hf : FW G) {q : Int32 × St} (h : f_X12_cutsOpen σ a1 = some q) : Ct l G yX12_cutsOpen prog_14_method_50_code 3 (some .int) 2 46 [.ref (ga G 300), .int a1] χ σ (some (.int q.1)) χ q.2 := by
  refine Ct.of (by decide) (Nat.le_of_ble_eq_true rfl) ?_
  intro p e s m args below meth c Q X hr hlk hQ
  have hx := X.1
  have hb := X.2.1
  intro H locs ls hw hl
  have hl : lv_has ls 3 [(0, .ref (ga G 300)), (1, .int a1)] := hl
  unfold f_X12_cutsOpen at h
  refine lv_aload_n hx hb d_X12_cutsOpen_0 rfl (lv_at hl 0 rfl) ?_
  refine lv_iload_n hx hb d_X12_cutsOpen_1 rfl (lv_at hl 1 rfl) ?_
  obtain ⟨q1, e2, h⟩ := bd_some h
  refine r_callV (As := [.int a1]) (rest := []) (st' := [.int q1]) X hw hl mwX12_isOyster wd_1220 wp_29 wd_1218 (c_X12_isOyster hf e2) (r_recv X hw ct8 (o_300 hf)) rfl ⟨Nat.le_of_ble_eq_true rfl, Nat.le_of_ble_eq_true rfl⟩ ⟨Nat.le_refl _, Nat.le_refl _⟩ rfl rfl (Nat.le_of_ble_eq_true rfl) d_X12_cutsOpen_2 (fun H locs hw => ?_)
  refine lv_if_ne (tgt := 10) hx hb d_X12_cutsOpen_5 (by decide) (fun hc => ?_) (fun hc => ?_)
  · have h := ite_f h hc
    refine lv_aload_n hx hb d_X12_cutsOpen_10 rfl (lv_at hl 0 rfl) ?_
    refine r_getr (j := 6) X hw ct8 (o_300 hf) rfl (Nat.le_of_ble_eq_true rfl) (q := 306) rfl wd_962 d_X12_cutsOpen_11 ?_
    refine lv_bipush (v := (16 : Int32)) hx hb d_X12_cutsOpen_14 (by decide) ?_
    refine lv_iload_n hx hb d_X12_cutsOpen_16 rfl (lv_at hl 1 rfl) ?_
    refine lv_iadd hx hb d_X12_cutsOpen_17 ?_
    obtain ⟨hi3, h⟩ := gd_some h
    refine m_iald X hw (o_306 hf) (Nat.le_of_ble_eq_true rfl) hi3 d_X12_cutsOpen_18 ?_
    refine lv_if_ne (tgt := 25) hx hb d_X12_cutsOpen_19 (by decide) (fun hc => ?_) (fun hc => ?_)
    · have h := ite_f h hc
      refine lv_aload_n hx hb d_X12_cutsOpen_25 rfl (lv_at hl 0 rfl) ?_
      refine r_getr (j := 6) X hw ct8 (o_300 hf) rfl (Nat.le_of_ble_eq_true rfl) (q := 306) rfl wd_962 d_X12_cutsOpen_26 ?_
      refine lv_bipush (v := (16 : Int32)) hx hb d_X12_cutsOpen_29 (by decide) ?_
      refine lv_iload_n hx hb d_X12_cutsOpen_31 rfl (lv_at hl 1 rfl) ?_
      refine lv_iadd hx hb d_X12_cutsOpen_32 ?_
      refine lv_iconst (v := (0 : Int32)) hx hb d_X12_cutsOpen_33 (by decide) ?_
      obtain ⟨hi4, h⟩ := gd_some h
      refine m_iast X hw (o_306 hf) (Nat.le_of_ble_eq_true rfl) hi4 d_X12_cutsOpen_34 (fun H locs hw => ?_)
      refine lv_aload_n hx hb d_X12_cutsOpen_35 rfl (lv_at hl 0 rfl) ?_
      refine r_getr (j := 6) X hw ct8 (o_300 hf) rfl (Nat.le_of_ble_eq_true rfl) (q := 306) rfl wd_962 d_X12_cutsOpen_36 ?_
      refine lv_bipush (v := (24 : Int32)) hx hb d_X12_cutsOpen_39 (by decide) ?_
      refine lv_iload_n hx hb d_X12_cutsOpen_41 rfl (lv_at hl 1 rfl) ?_
      refine lv_iadd hx hb d_X12_cutsOpen_42 ?_
      obtain ⟨hi5, h⟩ := gd_some h
      refine m_iald X hw (o_306 hf) (Nat.le_of_ble_eq_true rfl) hi5 d_X12_cutsOpen_43 ?_
      refine lv_istore_n (lv' := [(2, .int (cA (sA σ 306 ((16 : Int32) + a1).toNatClampNeg (0 : Int32)) 306 ((24 : Int32) + a1).toNatClampNeg)), (0, .ref (ga G 300)), (1, .int a1)]) hx hb d_X12_cutsOpen_44 rfl hl (Nat.le_of_ble_eq_true rfl) rfl (fun ls hl => ?_)
      refine lv_aload_n hx hb d_X12_cutsOpen_45 rfl (lv_at hl 1 rfl) ?_
      refine r_getr (j := 6) X hw ct8 (o_300 hf) rfl (Nat.le_of_ble_eq_true rfl) (q := 306) rfl wd_962 d_X12_cutsOpen_46 ?_
      refine lv_bipush (v := (24 : Int32)) hx hb d_X12_cutsOpen_49 (by decide) ?_
      refine lv_iload_n hx hb d_X12_cutsOpen_51 rfl (lv_at hl 2 rfl) ?_
      refine lv_iadd hx hb d_X12_cutsOpen_52 ?_
      refine lv_iconst (v := (0 : Int32)) hx hb d_X12_cutsOpen_53 (by decide) ?_
      obtain ⟨hi6, h⟩ := gd_some h
      refine m_iast X hw (o_306 hf) (Nat.le_of_ble_eq_true rfl) hi6 d_X12_cutsOpen_54 (fun H locs hw => ?_)
      refine lv_iload_n hx hb d_X12_cutsOpen_55 rfl (lv_at hl 0 rfl) ?_
      obtain rfl := Option.some.inj h
      subst hQ
      exact r_iret X hr hlk hw d_X12_cutsOpen_56
    · have h := ite_t h hc
      refine lv_bipush (v := (-2 : Int32)) hx hb d_X12_cutsOpen_22 (by decide) ?_
      obtain rfl := Option.some.inj h
      subst hQ
      exact r_iret X hr hlk hw d_X12_cutsOpen_24
  · have h := ite_t h hc
    refine lv_iconst (v := (-1 : Int32)) hx hb d_X12_cutsOpen_8 (by decide) ?_
    obtain rfl := Option.some.inj h
    subst hQ
    exact r_iret X hr hlk hw d_X12_cutsOpen_9
abbrev yX12_puts : MethodName := ⟨"OysterBedsModel", "puts", "(II)I"⟩
theorem mwX12_puts : MW yX12_puts prog_14_method_51_code 4 (some .int) 2 := ⟨wd_1244, wd_10, by decide +kernel⟩
theorem d_X12_puts_0 : decode prog_14_method_51_code 0 = .ok (.aload_n 0, 1) := by decide +kernel
theorem d_X12_puts_1 : decode prog_14_method_51_code 1 = .ok (.iconst 0, 1) := by decide +kernel
theorem d_X12_puts_2 : decode prog_14_method_51_code 2 = .ok (.putfield 87, 3) := by decide +kernel
theorem d_X12_puts_5 : decode prog_14_method_51_code 5 = .ok (.iload_n 1, 1) := by decide +kernel
theorem d_X12_puts_6 : decode prog_14_method_51_code 6 = .ok (.iload_n 2, 1) := by decide +kernel
theorem d_X12_puts_7 : decode prog_14_method_51_code 7 = .ok (.invokestatic 270, 3) := by decide +kernel
theorem d_X12_puts_10 : decode prog_14_method_51_code 10 = .ok (.ifCond .ne 5, 3) := by decide +kernel
theorem d_X12_puts_13 : decode prog_14_method_51_code 13 = .ok (.iconst (-1), 1) := by decide +kernel
theorem d_X12_puts_14 : decode prog_14_method_51_code 14 = .ok (.ireturn, 1) := by decide +kernel
theorem d_X12_puts_15 : decode prog_14_method_51_code 15 = .ok (.aload_n 0, 1) := by decide +kernel
theorem d_X12_puts_16 : decode prog_14_method_51_code 16 = .ok (.invokevirtual 273, 3) := by decide +kernel
theorem d_X12_puts_19 : decode prog_14_method_51_code 19 = .ok (.aload_n 0, 1) := by decide +kernel
theorem d_X12_puts_20 : decode prog_14_method_51_code 20 = .ok (.aload_n 0, 1) := by decide +kernel
theorem d_X12_puts_21 : decode prog_14_method_51_code 21 = .ok (.getfield 17, 3) := by decide +kernel
theorem d_X12_puts_24 : decode prog_14_method_51_code 24 = .ok (.iload_n 1, 1) := by decide +kernel
theorem d_X12_puts_25 : decode prog_14_method_51_code 25 = .ok (.iload_n 2, 1) := by decide +kernel
theorem d_X12_puts_26 : decode prog_14_method_51_code 26 = .ok (.invokevirtual 276, 3) := by decide +kernel
theorem d_X12_puts_29 : decode prog_14_method_51_code 29 = .ok (.istore_n 3, 1) := by decide +kernel
theorem d_X12_puts_30 : decode prog_14_method_51_code 30 = .ok (.aload_n 0, 1) := by decide +kernel
theorem d_X12_puts_31 : decode prog_14_method_51_code 31 = .ok (.iconst 0, 1) := by decide +kernel
theorem d_X12_puts_32 : decode prog_14_method_51_code 32 = .ok (.putfield 95, 3) := by decide +kernel
theorem d_X12_puts_35 : decode prog_14_method_51_code 35 = .ok (.aload_n 0, 1) := by decide +kernel
theorem d_X12_puts_36 : decode prog_14_method_51_code 36 = .ok (.iload_n 3, 1) := by decide +kernel
theorem d_X12_puts_37 : decode prog_14_method_51_code 37 = .ok (.i2l, 1) := by decide +kernel
theorem d_X12_puts_38 : decode prog_14_method_51_code 38 = .ok (.invokevirtual 98, 3) := by decide +kernel
theorem d_X12_puts_41 : decode prog_14_method_51_code 41 = .ok (.aload_n 0, 1) := by decide +kernel
theorem d_X12_puts_42 : decode prog_14_method_51_code 42 = .ok (.aload_n 0, 1) := by decide +kernel
theorem d_X12_puts_43 : decode prog_14_method_51_code 43 = .ok (.aload_n 0, 1) := by decide +kernel
theorem d_X12_puts_44 : decode prog_14_method_51_code 44 = .ok (.getfield 17, 3) := by decide +kernel
theorem d_X12_puts_47 : decode prog_14_method_51_code 47 = .ok (.invokevirtual 228, 3) := by decide +kernel
theorem d_X12_puts_50 : decode prog_14_method_51_code 50 = .ok (.i2l, 1) := by decide +kernel
theorem d_X12_puts_51 : decode prog_14_method_51_code 51 = .ok (.invokevirtual 98, 3) := by decide +kernel
theorem d_X12_puts_54 : decode prog_14_method_51_code 54 = .ok (.aload_n 0, 1) := by decide +kernel
theorem d_X12_puts_55 : decode prog_14_method_51_code 55 = .ok (.iload_n 3, 1) := by decide +kernel
theorem d_X12_puts_56 : decode prog_14_method_51_code 56 = .ok (.invokestatic 235, 3) := by decide +kernel
theorem d_X12_puts_59 : decode prog_14_method_51_code 59 = .ok (.invokevirtual 258, 3) := by decide +kernel
theorem d_X12_puts_62 : decode prog_14_method_51_code 62 = .ok (.ireturn, 1) := by decide +kernel
def f_X12_puts (σ : St) (a1 : Int32) (a2 : Int32) : Option (Int32 × St) := (f_X12_isQuestion a1 a2).bind (fun q1 => (if q1 = 0 then some ((-1 : Int32), (sF σ 300 0 (0 : Int32))) else (f_X12_putsBy (sF σ 300 0 (0 : Int32))).bind (fun q3 => (f_X12_asksAll q3 306 a1 a2).bind (fun q5 => (f_X12_enters (sF q5.2 300 1 (0 : Int32)) (q5.1).toInt64).bind (fun q7 => (f_X12_openOnes q7 306).bind (fun q9 => (f_X12_enters q7 q9.toInt64).bind (fun q11 => (f_J6_bitCount_0f7a4 q5.1).bind (fun q13 => (f_X12_adds q11 q13).bind (fun q15 => some (q15.1, q15.2))))))))))
theorem c_X12_puts {l : Launch} {G : gT} {χ σ : St} {a1 : Int32} {a2 : Int32} (hf : FW G) {q : Int32 × St} (h : f_X12_puts σ a1 a2 = some q) : Ct l G yX12_puts prog_14_method_51_code 4 (some .int) 5 116 [.ref (ga G 300), .int a1, .int a2] χ σ (some (.int q.1)) χ q.2 := by
  refine Ct.of (by decide) (Nat.le_of_ble_eq_true rfl) ?_
  intro p e s m args below meth c Q X hr hlk hQ
  have hx := X.1
  have hb := X.2.1
  intro H locs ls hw hl
  have hl : lv_has ls 4 [(0, .ref (ga G 300)), (1, .int a1), (2, .int a2)] := hl
  unfold f_X12_puts at h
  refine lv_aload_n hx hb d_X12_puts_0 rfl (lv_at hl 0 rfl) ?_
  refine lv_iconst (v := (0 : Int32)) hx hb d_X12_puts_1 (by decide) ?_
  refine m_puti (j := 0) X hw ct8 (o_300 hf) (Nat.le_of_ble_eq_true rfl) rfl (Nat.le_of_ble_eq_true rfl) rfl rfl rfl wd_956 d_X12_puts_2 (fun H locs hw => ?_)
  refine lv_iload_n hx hb d_X12_puts_5 rfl (lv_at hl 1 rfl) ?_
  refine lv_iload_n hx hb d_X12_puts_6 rfl (lv_at hl 2 rfl) ?_
  obtain ⟨q1, e2, h⟩ := bd_some h
  refine r_callS (As := [.int a1, .int a2]) (rest := []) (st' := [.int q1]) X hw hl mwX12_isQuestion wd_1246 wd_1245 (c_X12_isQuestion hf e2) rfl ⟨Nat.le_of_ble_eq_true rfl, Nat.le_of_ble_eq_true rfl⟩ ⟨Nat.le_refl _, Nat.le_refl _⟩ rfl rfl (Nat.le_of_ble_eq_true rfl) d_X12_puts_7 (fun H locs hw => ?_)
  refine lv_if_ne (tgt := 15) hx hb d_X12_puts_10 (by decide) (fun hc => ?_) (fun hc => ?_)
  · have h := ite_f h hc
    refine lv_aload_n hx hb d_X12_puts_15 rfl (lv_at hl 0 rfl) ?_
    obtain ⟨q3, e4, h⟩ := bd_some h
    refine r_callV (As := []) (rest := []) (st' := []) X hw hl mwX12_putsBy wd_1251 wp_32 wd_1249 (c_X12_putsBy hf e4) (r_recv X hw ct8 (o_300 hf)) rfl ⟨Nat.le_of_ble_eq_true rfl, Nat.le_of_ble_eq_true rfl⟩ ⟨Nat.le_refl _, Nat.le_refl _⟩ rfl rfl (Nat.le_of_ble_eq_true rfl) d_X12_puts_16 (fun H locs hw => ?_)
    refine lv_aload_n hx hb d_X12_puts_19 rfl (lv_at hl 0 rfl) ?_
    refine lv_aload_n hx hb d_X12_puts_20 rfl (lv_at hl 0 rfl) ?_
    refine r_getr (j := 6) X hw ct8 (o_300 hf) rfl (Nat.le_of_ble_eq_true rfl) (q := 306) rfl wd_962 d_X12_puts_21 ?_
    refine lv_iload_n hx hb d_X12_puts_24 rfl (lv_at hl 1 rfl) ?_
    refine lv_iload_n hx hb d_X12_puts_25 rfl (lv_at hl 2 rfl) ?_
    obtain ⟨q5, e6, h⟩ := bd_some h
    refine r_callV (As := [.ref (ga G 306), .int a1, .int a2]) (rest := []) (st' := [.int q5.1]) X hw hl mwX12_asksAll wd_1255 wp_33 wd_1253 (c_X12_asksAll hf (o_306 hf) (Nat.le_of_ble_eq_true rfl) e6) (r_recv X hw ct8 (o_300 hf)) rfl ⟨Nat.le_of_ble_eq_true rfl, Nat.le_of_ble_eq_true rfl⟩ ⟨Nat.le_refl _, Nat.le_refl _⟩ rfl rfl (Nat.le_of_ble_eq_true rfl) d_X12_puts_26 (fun H locs hw => ?_)
    refine lv_istore_n (lv' := [(3, .int q5.1), (0, .ref (ga G 300)), (1, .int a1), (2, .int a2)]) hx hb d_X12_puts_29 rfl hl (Nat.le_of_ble_eq_true rfl) rfl (fun ls hl => ?_)
    refine lv_aload_n hx hb d_X12_puts_30 rfl (lv_at hl 1 rfl) ?_
    refine lv_iconst (v := (0 : Int32)) hx hb d_X12_puts_31 (by decide) ?_
    refine m_puti (j := 1) X hw ct8 (o_300 hf) (Nat.le_of_ble_eq_true rfl) rfl (Nat.le_of_ble_eq_true rfl) rfl rfl rfl wd_957 d_X12_puts_32 (fun H locs hw => ?_)
    refine lv_aload_n hx hb d_X12_puts_35 rfl (lv_at hl 1 rfl) ?_
    refine lv_iload_n hx hb d_X12_puts_36 rfl (lv_at hl 0 rfl) ?_
    refine lv_i2l hx hb d_X12_puts_37 rfl ?_
    obtain ⟨q7, e8, h⟩ := bd_some h
    refine r_callV (As := [.long (q5.1).toInt64]) (rest := []) (st' := []) X hw hl mwX12_enters wd_1282 wp_38 wd_1280 (c_X12_enters hf e8) (r_recv X hw ct8 (o_300 hf)) rfl ⟨Nat.le_of_ble_eq_true rfl, Nat.le_of_ble_eq_true rfl⟩ ⟨Nat.le_refl _, Nat.le_refl _⟩ rfl rfl (Nat.le_of_ble_eq_true rfl) d_X12_puts_38 (fun H locs hw => ?_)
    refine lv_aload_n hx hb d_X12_puts_41 rfl (lv_at hl 1 rfl) ?_
    refine lv_aload_n hx hb d_X12_puts_42 rfl (lv_at hl 1 rfl) ?_
    refine lv_aload_n hx hb d_X12_puts_43 rfl (lv_at hl 1 rfl) ?_
    refine r_getr (j := 6) X hw ct8 (o_300 hf) rfl (Nat.le_of_ble_eq_true rfl) (q := 306) rfl wd_962 d_X12_puts_44 ?_
    obtain ⟨q9, e10, h⟩ := bd_some h
    refine r_callV (As := [.ref (ga G 306)]) (rest := [.ref (ga G 300)]) (st' := [.int q9, .ref (ga G 300)]) X hw hl mwX12_openOnes wd_1263 wp_35 wd_1261 (c_X12_openOnes hf (o_306 hf) (Nat.le_of_ble_eq_true rfl) e10) (r_recv X hw ct8 (o_300 hf)) rfl ⟨Nat.le_of_ble_eq_true rfl, Nat.le_of_ble_eq_true rfl⟩ ⟨Nat.le_refl _, Nat.le_refl _⟩ rfl rfl (Nat.le_of_ble_eq_true rfl) d_X12_puts_47 (fun H locs hw => ?_)
    refine lv_i2l hx hb d_X12_puts_50 rfl ?_
    obtain ⟨q11, e12, h⟩ := bd_some h
    refine r_callV (As := [.long q9.toInt64]) (rest := []) (st' := []) X hw hl mwX12_enters wd_1282 wp_38 wd_1280 (c_X12_enters hf e12) (r_recv X hw ct8 (o_300 hf)) rfl ⟨Nat.le_of_ble_eq_true rfl, Nat.le_of_ble_eq_true rfl⟩ ⟨Nat.le_refl _, Nat.le_refl _⟩ rfl rfl (Nat.le_of_ble_eq_true rfl) d_X12_puts_51 (fun H locs hw => ?_)
    refine lv_aload_n hx hb d_X12_puts_54 rfl (lv_at hl 1 rfl) ?_
    refine lv_iload_n hx hb d_X12_puts_55 rfl (lv_at hl 0 rfl) ?_
    obtain ⟨q13, e14, h⟩ := bd_some h
    refine r_callS (As := [.int q5.1]) (rest := [.ref (ga G 300)]) (st' := [.int q13, .ref (ga G 300)]) X hw hl mwJ6_bitCount_0f7a4 wd_436 wd_1272 (c_J6_bitCount_0f7a4 e14) rfl ⟨Nat.le_of_ble_eq_true rfl, Nat.le_of_ble_eq_true rfl⟩ ⟨Nat.le_refl _, Nat.le_refl _⟩ rfl rfl (Nat.le_of_ble_eq_true rfl) d_X12_puts_56 (fun H locs hw => ?_)
    obtain ⟨q15, e16, h⟩ := bd_some h
    refine r_callV (As := [.int q13]) (rest := []) (st' := [.int q15.1]) X hw hl mwX12_adds wd_1286 wp_39 wd_1284 (c_X12_adds hf e16) (r_recv X hw ct8 (o_300 hf)) rfl ⟨Nat.le_of_ble_eq_true rfl, Nat.le_of_ble_eq_true rfl⟩ ⟨Nat.le_refl _, Nat.le_refl _⟩ rfl rfl (Nat.le_of_ble_eq_true rfl) d_X12_puts_59 (fun H locs hw => ?_)
    obtain rfl := Option.some.inj h
    subst hQ
    exact r_iret X hr hlk hw d_X12_puts_62
  · have h := ite_t h hc
    refine lv_iconst (v := (-1 : Int32)) hx hb d_X12_puts_13 (by decide) ?_
    obtain rfl := Option.some.inj h
    subst hQ
    exact r_iret X hr hlk hw d_X12_puts_14
abbrev yX12_tides : MethodName := ⟨"OysterBedsModel", "tides", "(I)I"⟩
theorem mwX12_tides : MW yX12_tides prog_14_method_52_code 3 (some .int) 1 := ⟨wd_1291, wd_10, by decide +kernel⟩
theorem d_X12_tides_0 : decode prog_14_method_52_code 0 = .ok (.aload_n 0, 1) := by decide +kernel
theorem d_X12_tides_1 : decode prog_14_method_52_code 1 = .ok (.iconst 0, 1) := by decide +kernel
theorem d_X12_tides_2 : decode prog_14_method_52_code 2 = .ok (.putfield 87, 3) := by decide +kernel
theorem d_X12_tides_5 : decode prog_14_method_52_code 5 = .ok (.iload_n 1, 1) := by decide +kernel
theorem d_X12_tides_6 : decode prog_14_method_52_code 6 = .ok (.i2l, 1) := by decide +kernel
theorem d_X12_tides_7 : decode prog_14_method_52_code 7 = .ok (.lconst 0, 1) := by decide +kernel
theorem d_X12_tides_8 : decode prog_14_method_52_code 8 = .ok (.ldc2_w 279, 3) := by decide +kernel
theorem d_X12_tides_11 : decode prog_14_method_52_code 11 = .ok (.invokestatic 105, 3) := by decide +kernel
theorem d_X12_tides_14 : decode prog_14_method_52_code 14 = .ok (.ifCond .ne 5, 3) := by decide +kernel
theorem d_X12_tides_17 : decode prog_14_method_52_code 17 = .ok (.iconst (-1), 1) := by decide +kernel
theorem d_X12_tides_18 : decode prog_14_method_52_code 18 = .ok (.ireturn, 1) := by decide +kernel
theorem d_X12_tides_19 : decode prog_14_method_52_code 19 = .ok (.aload_n 0, 1) := by decide +kernel
theorem d_X12_tides_20 : decode prog_14_method_52_code 20 = .ok (.invokevirtual 273, 3) := by decide +kernel
theorem d_X12_tides_23 : decode prog_14_method_52_code 23 = .ok (.aload_n 0, 1) := by decide +kernel
theorem d_X12_tides_24 : decode prog_14_method_52_code 24 = .ok (.aload_n 0, 1) := by decide +kernel
theorem d_X12_tides_25 : decode prog_14_method_52_code 25 = .ok (.getfield 17, 3) := by decide +kernel
theorem d_X12_tides_28 : decode prog_14_method_52_code 28 = .ok (.invokevirtual 228, 3) := by decide +kernel
theorem d_X12_tides_31 : decode prog_14_method_52_code 31 = .ok (.istore_n 2, 1) := by decide +kernel
theorem d_X12_tides_32 : decode prog_14_method_52_code 32 = .ok (.aload_n 0, 1) := by decide +kernel
theorem d_X12_tides_33 : decode prog_14_method_52_code 33 = .ok (.aload_n 0, 1) := by decide +kernel
theorem d_X12_tides_34 : decode prog_14_method_52_code 34 = .ok (.getfield 17, 3) := by decide +kernel
theorem d_X12_tides_37 : decode prog_14_method_52_code 37 = .ok (.iload_n 1, 1) := by decide +kernel
theorem d_X12_tides_38 : decode prog_14_method_52_code 38 = .ok (.invokevirtual 281, 3) := by decide +kernel
theorem d_X12_tides_41 : decode prog_14_method_52_code 41 = .ok (.aload_n 0, 1) := by decide +kernel
theorem d_X12_tides_42 : decode prog_14_method_52_code 42 = .ok (.iconst 0, 1) := by decide +kernel
theorem d_X12_tides_43 : decode prog_14_method_52_code 43 = .ok (.putfield 95, 3) := by decide +kernel
theorem d_X12_tides_46 : decode prog_14_method_52_code 46 = .ok (.aload_n 0, 1) := by decide +kernel
theorem d_X12_tides_47 : decode prog_14_method_52_code 47 = .ok (.aload_n 0, 1) := by decide +kernel
theorem d_X12_tides_48 : decode prog_14_method_52_code 48 = .ok (.aload_n 0, 1) := by decide +kernel
theorem d_X12_tides_49 : decode prog_14_method_52_code 49 = .ok (.getfield 17, 3) := by decide +kernel
theorem d_X12_tides_52 : decode prog_14_method_52_code 52 = .ok (.invokevirtual 228, 3) := by decide +kernel
theorem d_X12_tides_55 : decode prog_14_method_52_code 55 = .ok (.iload_n 2, 1) := by decide +kernel
theorem d_X12_tides_56 : decode prog_14_method_52_code 56 = .ok (.iconst (-1), 1) := by decide +kernel
theorem d_X12_tides_57 : decode prog_14_method_52_code 57 = .ok (.ixor, 1) := by decide +kernel
theorem d_X12_tides_58 : decode prog_14_method_52_code 58 = .ok (.iand, 1) := by decide +kernel
theorem d_X12_tides_59 : decode prog_14_method_52_code 59 = .ok (.i2l, 1) := by decide +kernel
theorem d_X12_tides_60 : decode prog_14_method_52_code 60 = .ok (.invokevirtual 98, 3) := by decide +kernel
theorem d_X12_tides_63 : decode prog_14_method_52_code 63 = .ok (.aload_n 0, 1) := by decide +kernel
theorem d_X12_tides_64 : decode prog_14_method_52_code 64 = .ok (.aload_n 0, 1) := by decide +kernel
theorem d_X12_tides_65 : decode prog_14_method_52_code 65 = .ok (.aload_n 0, 1) := by decide +kernel
theorem d_X12_tides_66 : decode prog_14_method_52_code 66 = .ok (.getfield 17, 3) := by decide +kernel
theorem d_X12_tides_69 : decode prog_14_method_52_code 69 = .ok (.invokevirtual 228, 3) := by decide +kernel
theorem d_X12_tides_72 : decode prog_14_method_52_code 72 = .ok (.invokestatic 235, 3) := by decide +kernel
theorem d_X12_tides_75 : decode prog_14_method_52_code 75 = .ok (.invokevirtual 258, 3) := by decide +kernel
theorem d_X12_tides_78 : decode prog_14_method_52_code 78 = .ok (.ireturn, 1) := by decide +kernel
def f_X12_tides (σ : St) (a1 : Int32) : Option (Int32 × St) := (f_X12_in a1.toInt64 (0 : Int64) (60 : Int64)).bind (fun q1 => (if q1 = 0 then some ((-1 : Int32), (sF σ 300 0 (0 : Int32))) else (f_X12_putsBy (sF σ 300 0 (0 : Int32))).bind (fun q3 => (f_X12_openOnes q3 306).bind (fun q5 => (f_X12_goesOn q3 306 a1).bind (fun q7 => (f_X12_openOnes (sF q7 300 1 (0 : Int32)) 306).bind (fun q9 => (f_X12_enters (sF q7 300 1 (0 : Int32)) (q9 &&& (q5 ^^^ (-1 : Int32))).toInt64).bind (fun q11 => (f_X12_openOnes q11 306).bind (fun q13 => (f_J6_bitCount_0f7a4 q13).bind (fun q15 => (f_X12_adds q11 q15).bind (fun q17 => some (q17.1, q17.2)))))))))))
theorem c_X12_tides {l : Launch} {G : gT} {χ σ : St} {a1 : Int32} (hf : FW G) {q : Int32 × St} (h : f_X12_tides σ a1 = some q) : Ct l G yX12_tides prog_14_method_52_code 3 (some .int) 2 44 [.ref (ga G 300), .int a1] χ σ (some (.int q.1)) χ q.2 := by
  refine Ct.of (by decide) (Nat.le_of_ble_eq_true rfl) ?_
  intro p e s m args below meth c Q X hr hlk hQ
  have hx := X.1
  have hb := X.2.1
  intro H locs ls hw hl
  have hl : lv_has ls 3 [(0, .ref (ga G 300)), (1, .int a1)] := hl
  unfold f_X12_tides at h
  refine lv_aload_n hx hb d_X12_tides_0 rfl (lv_at hl 0 rfl) ?_
  refine lv_iconst (v := (0 : Int32)) hx hb d_X12_tides_1 (by decide) ?_
  refine m_puti (j := 0) X hw ct8 (o_300 hf) (Nat.le_of_ble_eq_true rfl) rfl (Nat.le_of_ble_eq_true rfl) rfl rfl rfl wd_956 d_X12_tides_2 (fun H locs hw => ?_)
  refine lv_iload_n hx hb d_X12_tides_5 rfl (lv_at hl 1 rfl) ?_
  refine lv_i2l hx hb d_X12_tides_6 rfl ?_
  refine lv_lconst (v := (0 : Int64)) hx hb d_X12_tides_7 (by decide) ?_
  refine r_ldc2 X wd_1292 d_X12_tides_8 ?_
  obtain ⟨q1, e2, h⟩ := bd_some h
  refine r_callS (As := [.long a1.toInt64, .long (0 : Int64), .long (60 : Int64)]) (rest := []) (st' := [.int q1]) X hw hl mwX12_in wd_1093 wd_1092 (c_X12_in hf e2) rfl ⟨Nat.le_of_ble_eq_true rfl, Nat.le_of_ble_eq_true rfl⟩ ⟨Nat.le_refl _, Nat.le_refl _⟩ rfl rfl (Nat.le_of_ble_eq_true rfl) d_X12_tides_11 (fun H locs hw => ?_)
  refine lv_if_ne (tgt := 19) hx hb d_X12_tides_14 (by decide) (fun hc => ?_) (fun hc => ?_)
  · have h := ite_f h hc
    refine lv_aload_n hx hb d_X12_tides_19 rfl (lv_at hl 0 rfl) ?_
    obtain ⟨q3, e4, h⟩ := bd_some h
    refine r_callV (As := []) (rest := []) (st' := []) X hw hl mwX12_putsBy wd_1251 wp_32 wd_1249 (c_X12_putsBy hf e4) (r_recv X hw ct8 (o_300 hf)) rfl ⟨Nat.le_of_ble_eq_true rfl, Nat.le_of_ble_eq_true rfl⟩ ⟨Nat.le_refl _, Nat.le_refl _⟩ rfl rfl (Nat.le_of_ble_eq_true rfl) d_X12_tides_20 (fun H locs hw => ?_)
    refine lv_aload_n hx hb d_X12_tides_23 rfl (lv_at hl 0 rfl) ?_
    refine lv_aload_n hx hb d_X12_tides_24 rfl (lv_at hl 0 rfl) ?_
    refine r_getr (j := 6) X hw ct8 (o_300 hf) rfl (Nat.le_of_ble_eq_true rfl) (q := 306) rfl wd_962 d_X12_tides_25 ?_
    obtain ⟨q5, e6, h⟩ := bd_some h
    refine r_callV (As := [.ref (ga G 306)]) (rest := []) (st' := [.int q5]) X hw hl mwX12_openOnes wd_1263 wp_35 wd_1261 (c_X12_openOnes hf (o_306 hf) (Nat.le_of_ble_eq_true rfl) e6) (r_recv X hw ct8 (o_300 hf)) rfl ⟨Nat.le_of_ble_eq_true rfl, Nat.le_of_ble_eq_true rfl⟩ ⟨Nat.le_refl _, Nat.le_refl _⟩ rfl rfl (Nat.le_of_ble_eq_true rfl) d_X12_tides_28 (fun H locs hw => ?_)
    refine lv_istore_n (lv' := [(2, .int q5), (0, .ref (ga G 300)), (1, .int a1)]) hx hb d_X12_tides_31 rfl hl (Nat.le_of_ble_eq_true rfl) rfl (fun ls hl => ?_)
    refine lv_aload_n hx hb d_X12_tides_32 rfl (lv_at hl 1 rfl) ?_
    refine lv_aload_n hx hb d_X12_tides_33 rfl (lv_at hl 1 rfl) ?_
    refine r_getr (j := 6) X hw ct8 (o_300 hf) rfl (Nat.le_of_ble_eq_true rfl) (q := 306) rfl wd_962 d_X12_tides_34 ?_
    refine lv_iload_n hx hb d_X12_tides_37 rfl (lv_at hl 2 rfl) ?_
    obtain ⟨q7, e8, h⟩ := bd_some h
    refine r_callV (As := [.ref (ga G 306), .int a1]) (rest := []) (st' := []) X hw hl mwX12_goesOn wd_1295 wp_40 wd_1293 (c_X12_goesOn hf (o_306 hf) (Nat.le_of_ble_eq_true rfl) e8) (r_recv X hw ct8 (o_300 hf)) rfl ⟨Nat.le_of_ble_eq_true rfl, Nat.le_of_ble_eq_true rfl⟩ ⟨Nat.le_refl _, Nat.le_refl _⟩ rfl rfl (Nat.le_of_ble_eq_true rfl) d_X12_tides_38 (fun H locs hw => ?_)
    refine lv_aload_n hx hb d_X12_tides_41 rfl (lv_at hl 1 rfl) ?_
    refine lv_iconst (v := (0 : Int32)) hx hb d_X12_tides_42 (by decide) ?_
    refine m_puti (j := 1) X hw ct8 (o_300 hf) (Nat.le_of_ble_eq_true rfl) rfl (Nat.le_of_ble_eq_true rfl) rfl rfl rfl wd_957 d_X12_tides_43 (fun H locs hw => ?_)
    refine lv_aload_n hx hb d_X12_tides_46 rfl (lv_at hl 1 rfl) ?_
    refine lv_aload_n hx hb d_X12_tides_47 rfl (lv_at hl 1 rfl) ?_
    refine lv_aload_n hx hb d_X12_tides_48 rfl (lv_at hl 1 rfl) ?_
    refine r_getr (j := 6) X hw ct8 (o_300 hf) rfl (Nat.le_of_ble_eq_true rfl) (q := 306) rfl wd_962 d_X12_tides_49 ?_
    obtain ⟨q9, e10, h⟩ := bd_some h
    refine r_callV (As := [.ref (ga G 306)]) (rest := [.ref (ga G 300)]) (st' := [.int q9, .ref (ga G 300)]) X hw hl mwX12_openOnes wd_1263 wp_35 wd_1261 (c_X12_openOnes hf (o_306 hf) (Nat.le_of_ble_eq_true rfl) e10) (r_recv X hw ct8 (o_300 hf)) rfl ⟨Nat.le_of_ble_eq_true rfl, Nat.le_of_ble_eq_true rfl⟩ ⟨Nat.le_refl _, Nat.le_refl _⟩ rfl rfl (Nat.le_of_ble_eq_true rfl) d_X12_tides_52 (fun H locs hw => ?_)
    refine lv_iload_n hx hb d_X12_tides_55 rfl (lv_at hl 0 rfl) ?_
    refine lv_iconst (v := (-1 : Int32)) hx hb d_X12_tides_56 (by decide) ?_
    refine lv_ixor hx hb d_X12_tides_57 ?_
    refine lv_iand hx hb d_X12_tides_58 ?_
    refine lv_i2l hx hb d_X12_tides_59 rfl ?_
    obtain ⟨q11, e12, h⟩ := bd_some h
    refine r_callV (As := [.long (q9 &&& (q5 ^^^ (-1 : Int32))).toInt64]) (rest := []) (st' := []) X hw hl mwX12_enters wd_1282 wp_38 wd_1280 (c_X12_enters hf e12) (r_recv X hw ct8 (o_300 hf)) rfl ⟨Nat.le_of_ble_eq_true rfl, Nat.le_of_ble_eq_true rfl⟩ ⟨Nat.le_refl _, Nat.le_refl _⟩ rfl rfl (Nat.le_of_ble_eq_true rfl) d_X12_tides_60 (fun H locs hw => ?_)
    refine lv_aload_n hx hb d_X12_tides_63 rfl (lv_at hl 1 rfl) ?_
    refine lv_aload_n hx hb d_X12_tides_64 rfl (lv_at hl 1 rfl) ?_
    refine lv_aload_n hx hb d_X12_tides_65 rfl (lv_at hl 1 rfl) ?_
    refine r_getr (j := 6) X hw ct8 (o_300 hf) rfl (Nat.le_of_ble_eq_true rfl) (q := 306) rfl wd_962 d_X12_tides_66 ?_
    obtain ⟨q13, e14, h⟩ := bd_some h
    refine r_callV (As := [.ref (ga G 306)]) (rest := [.ref (ga G 300)]) (st' := [.int q13, .ref (ga G 300)]) X hw hl mwX12_openOnes wd_1263 wp_35 wd_1261 (c_X12_openOnes hf (o_306 hf) (Nat.le_of_ble_eq_true rfl) e14) (r_recv X hw ct8 (o_300 hf)) rfl ⟨Nat.le_of_ble_eq_true rfl, Nat.le_of_ble_eq_true rfl⟩ ⟨Nat.le_refl _, Nat.le_refl _⟩ rfl rfl (Nat.le_of_ble_eq_true rfl) d_X12_tides_69 (fun H locs hw => ?_)
    obtain ⟨q15, e16, h⟩ := bd_some h
    refine r_callS (As := [.int q13]) (rest := [.ref (ga G 300)]) (st' := [.int q15, .ref (ga G 300)]) X hw hl mwJ6_bitCount_0f7a4 wd_436 wd_1272 (c_J6_bitCount_0f7a4 e16) rfl ⟨Nat.le_of_ble_eq_true rfl, Nat.le_of_ble_eq_true rfl⟩ ⟨Nat.le_refl _, Nat.le_refl _⟩ rfl rfl (Nat.le_of_ble_eq_true rfl) d_X12_tides_72 (fun H locs hw => ?_)
    obtain ⟨q17, e18, h⟩ := bd_some h
    refine r_callV (As := [.int q15]) (rest := []) (st' := [.int q17.1]) X hw hl mwX12_adds wd_1286 wp_39 wd_1284 (c_X12_adds hf e18) (r_recv X hw ct8 (o_300 hf)) rfl ⟨Nat.le_of_ble_eq_true rfl, Nat.le_of_ble_eq_true rfl⟩ ⟨Nat.le_refl _, Nat.le_refl _⟩ rfl rfl (Nat.le_of_ble_eq_true rfl) d_X12_tides_75 (fun H locs hw => ?_)
    obtain rfl := Option.some.inj h
    subst hQ
    exact r_iret X hr hlk hw d_X12_tides_78
  · have h := ite_t h hc
    refine lv_iconst (v := (-1 : Int32)) hx hb d_X12_tides_17 (by decide) ?_
    obtain rfl := Option.some.inj h
    subst hQ
    exact r_iret X hr hlk hw d_X12_tides_18
abbrev yX12_stills : MethodName := ⟨"OysterBedsModel", "stills", "(II)I"⟩
theorem mwX12_stills : MW yX12_stills prog_14_method_53_code 3 (some .int) 2 := ⟨wd_1300, wd_10, by decide +kernel⟩
theorem d_X12_stills_0 : decode prog_14_method_53_code 0 = .ok (.aload_n 0, 1) := by decide +kernel
theorem d_X12_stills_1 : decode prog_14_method_53_code 1 = .ok (.iconst 0, 1) := by decide +kernel
theorem d_X12_stills_2 : decode prog_14_method_53_code 2 = .ok (.putfield 87, 3) := by decide +kernel
theorem d_X12_stills_5 : decode prog_14_method_53_code 5 = .ok (.aload_n 0, 1) := by decide +kernel
theorem d_X12_stills_6 : decode prog_14_method_53_code 6 = .ok (.invokevirtual 273, 3) := by decide +kernel
theorem d_X12_stills_9 : decode prog_14_method_53_code 9 = .ok (.aload_n 0, 1) := by decide +kernel
theorem d_X12_stills_10 : decode prog_14_method_53_code 10 = .ok (.aload_n 0, 1) := by decide +kernel
theorem d_X12_stills_11 : decode prog_14_method_53_code 11 = .ok (.iload_n 1, 1) := by decide +kernel
theorem d_X12_stills_12 : decode prog_14_method_53_code 12 = .ok (.iload_n 2, 1) := by decide +kernel
theorem d_X12_stills_13 : decode prog_14_method_53_code 13 = .ok (.invokevirtual 284, 3) := by decide +kernel
theorem d_X12_stills_16 : decode prog_14_method_53_code 16 = .ok (.invokevirtual 287, 3) := by decide +kernel
theorem d_X12_stills_19 : decode prog_14_method_53_code 19 = .ok (.ireturn, 1) := by decide +kernel
def f_X12_stills (σ : St) (a1 : Int32) (a2 : Int32) : Option (Int32 × St) := (f_X12_putsBy (sF σ 300 0 (0 : Int32))).bind (fun q1 => (f_X12_stillsTo q1 a1 a2).bind (fun q3 => (f_X12_counted q3.2 q3.1).bind (fun q5 => some (q5.1, q5.2))))
theorem c_X12_stills {l : Launch} {G : gT} {χ σ : St} {a1 : Int32} {a2 : Int32} (hf : FW G) {q : Int32 × St} (h : f_X12_stills σ a1 a2 = some q) : Ct l G yX12_stills prog_14_method_53_code 3 (some .int) 3 68 [.ref (ga G 300), .int a1, .int a2] χ σ (some (.int q.1)) χ q.2 := by
  refine Ct.of (by decide) (Nat.le_of_ble_eq_true rfl) ?_
  intro p e s m args below meth c Q X hr hlk hQ
  have hx := X.1
  have hb := X.2.1
  intro H locs ls hw hl
  have hl : lv_has ls 3 [(0, .ref (ga G 300)), (1, .int a1), (2, .int a2)] := hl
  unfold f_X12_stills at h
  refine lv_aload_n hx hb d_X12_stills_0 rfl (lv_at hl 0 rfl) ?_
  refine lv_iconst (v := (0 : Int32)) hx hb d_X12_stills_1 (by decide) ?_
  refine m_puti (j := 0) X hw ct8 (o_300 hf) (Nat.le_of_ble_eq_true rfl) rfl (Nat.le_of_ble_eq_true rfl) rfl rfl rfl wd_956 d_X12_stills_2 (fun H locs hw => ?_)
  refine lv_aload_n hx hb d_X12_stills_5 rfl (lv_at hl 0 rfl) ?_
  obtain ⟨q1, e2, h⟩ := bd_some h
  refine r_callV (As := []) (rest := []) (st' := []) X hw hl mwX12_putsBy wd_1251 wp_32 wd_1249 (c_X12_putsBy hf e2) (r_recv X hw ct8 (o_300 hf)) rfl ⟨Nat.le_of_ble_eq_true rfl, Nat.le_of_ble_eq_true rfl⟩ ⟨Nat.le_refl _, Nat.le_refl _⟩ rfl rfl (Nat.le_of_ble_eq_true rfl) d_X12_stills_6 (fun H locs hw => ?_)
  refine lv_aload_n hx hb d_X12_stills_9 rfl (lv_at hl 0 rfl) ?_
  refine lv_aload_n hx hb d_X12_stills_10 rfl (lv_at hl 0 rfl) ?_
  refine lv_iload_n hx hb d_X12_stills_11 rfl (lv_at hl 1 rfl) ?_
  refine lv_iload_n hx hb d_X12_stills_12 rfl (lv_at hl 2 rfl) ?_
  obtain ⟨q3, e4, h⟩ := bd_some h
  refine r_callV (As := [.int a1, .int a2]) (rest := [.ref (ga G 300)]) (st' := [.int q3.1, .ref (ga G 300)]) X hw hl mwX12_stillsTo wd_1303 wp_41 wd_1301 (c_X12_stillsTo hf e4) (r_recv X hw ct8 (o_300 hf)) rfl ⟨Nat.le_of_ble_eq_true rfl, Nat.le_of_ble_eq_true rfl⟩ ⟨Nat.le_refl _, Nat.le_refl _⟩ rfl rfl (Nat.le_of_ble_eq_true rfl) d_X12_stills_13 (fun H locs hw => ?_)
  obtain ⟨q5, e6, h⟩ := bd_some h
  refine r_callV (As := [.int q3.1]) (rest := []) (st' := [.int q5.1]) X hw hl mwX12_counted wd_1311 wp_43 wd_1309 (c_X12_counted hf e6) (r_recv X hw ct8 (o_300 hf)) rfl ⟨Nat.le_of_ble_eq_true rfl, Nat.le_of_ble_eq_true rfl⟩ ⟨Nat.le_refl _, Nat.le_refl _⟩ rfl rfl (Nat.le_of_ble_eq_true rfl) d_X12_stills_16 (fun H locs hw => ?_)
  obtain rfl := Option.some.inj h
  subst hQ
  exact r_iret X hr hlk hw d_X12_stills_19
