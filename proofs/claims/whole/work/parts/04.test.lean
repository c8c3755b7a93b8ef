abbrev yX12_has : MethodName := ⟨"OysterBedsModel", "has", "(II)Z"⟩
theorem mwX12_has : MW yX12_has prog_14_method_5_code 2 (some .boolean) 2 := ⟨wd_1267, wd_10, by decide +kernel⟩
theorem d_X12_has_0 : decode prog_14_method_5_code 0 = .ok (.iload_n 0, 1) := by decide +kernel
theorem d_X12_has_1 : decode prog_14_method_5_code 1 = .ok (.iload_n 1, 1) := by decide +kernel
theorem d_X12_has_2 : decode prog_14_method_5_code 2 = .ok (.ishr, 1) := by decide +kernel
theorem d_X12_has_3 : decode prog_14_method_5_code 3 = .ok (.iconst 1, 1) := by decide +kernel
theorem d_X12_has_4 : decode prog_14_method_5_code 4 = .ok (.iand, 1) := by decide +kernel
theorem d_X12_has_5 : decode prog_14_method_5_code 5 = .ok (.iconst 1, 1) := by decide +kernel
theorem d_X12_has_6 : decode prog_14_method_5_code 6 = .ok (.if_icmp .ne 7, 3) := by decide +kernel
theorem d_X12_has_9 : decode prog_14_method_5_code 9 = .ok (.iconst 1, 1) := by decide +kernel
theorem d_X12_has_10 : decode prog_14_method_5_code 10 = .ok (.goto 4, 3) := by decide +kernel
theorem d_X12_has_13 : decode prog_14_method_5_code 13 = .ok (.iconst 0, 1) := by decide +kernel
theorem d_X12_has_14 : decode prog_14_method_5_code 14 = .ok (.ireturn, 1) := by decide +kernel
def f_X12_has (a0 : Int32) (a1 : Int32) : Option (Int32) := some (if ((a0 >>> (a1 &&& 31)) &&& (1 : Int32)) = (1 : Int32) then (1 : Int32) else (0 : Int32))
theorem c_X12_has {l : Launch} {G : gT} {χ σ : St} {a0 : Int32} {a1 : Int32} {q : Int32} (h : f_X12_has a0 a1 = some q) : Ct l G yX12_has prog_14_method_5_code 2 (some .boolean) 0 0 [.int a0, .int a1] χ σ (some (.int q)) χ σ := by
  refine Ct.of (by decide) (Nat.le_of_ble_eq_true rfl) ?_
  intro p e s m args below meth c Q X hr hlk hQ
  have hx := X.1
  have hb := X.2.1
  intro H locs ls hw hl
  have hl : lv_has ls 2 [(0, .int a0), (1, .int a1)] := hl
  unfold f_X12_has at h
  refine lv_iload_n hx hb d_X12_has_0 rfl (lv_at hl 0 rfl) ?_
  refine lv_iload_n hx hb d_X12_has_1 rfl (lv_at hl 1 rfl) ?_
  refine lv_ishr hx hb d_X12_has_2 ?_
  refine lv_iconst (v := (1 : Int32)) hx hb d_X12_has_3 (by decide) ?_
  refine lv_iand hx hb d_X12_has_4 ?_
  refine lv_iconst (v := (1 : Int32)) hx hb d_X12_has_5 (by decide) ?_
  refine lv_icmp_ne (tgt := 13) hx hb d_X12_has_6 (by decide) (fun hc => ?_) (fun hc => ?_)
  · simp only [if_neg hc] at h
    refine lv_iconst (v := (0 : Int32)) hx hb d_X12_has_13 (by decide) ?_
    obtain rfl := Option.some.inj h
    subst hQ
    exact r_zret X hr (by decide) hlk hw d_X12_has_14
  · simp only [if_pos hc] at h
    refine lv_iconst (v := (1 : Int32)) hx hb d_X12_has_9 (by decide) ?_
    refine lv_goto (tgt := 14) hx hb d_X12_has_10 (by decide) ?_
    obtain rfl := Option.some.inj h
    subst hQ
    exact r_zret X hr (by decide) hlk hw d_X12_has_14
abbrev yX12_in : MethodName := ⟨"OysterBedsModel", "in", "(JJJ)Z"⟩
theorem mwX12_in : MW yX12_in prog_14_method_4_code 6 (some .boolean) 3 := ⟨wd_1094, wd_10, by decide +kernel⟩
theorem d_X12_in_0 : decode prog_14_method_4_code 0 = .ok (.lload_n 0, 1) := by decide +kernel
theorem d_X12_in_1 : decode prog_14_method_4_code 1 = .ok (.lload_n 2, 1) := by decide +kernel
theorem d_X12_in_2 : decode prog_14_method_4_code 2 = .ok (.lcmp, 1) := by decide +kernel
theorem d_X12_in_3 : decode prog_14_method_4_code 3 = .ok (.ifCond .lt 14, 3) := by decide +kernel
theorem d_X12_in_6 : decode prog_14_method_4_code 6 = .ok (.lload_n 0, 1) := by decide +kernel
theorem d_X12_in_7 : decode prog_14_method_4_code 7 = .ok (.lload 4, 2) := by decide +kernel
theorem d_X12_in_9 : decode prog_14_method_4_code 9 = .ok (.lcmp, 1) := by decide +kernel
theorem d_X12_in_10 : decode prog_14_method_4_code 10 = .ok (.ifCond .gt 7, 3) := by decide +kernel
theorem d_X12_in_13 : decode prog_14_method_4_code 13 = .ok (.iconst 1, 1) := by decide +kernel
theorem d_X12_in_14 : decode prog_14_method_4_code 14 = .ok (.goto 4, 3) := by decide +kernel
theorem d_X12_in_17 : decode prog_14_method_4_code 17 = .ok (.iconst 0, 1) := by decide +kernel
theorem d_X12_in_18 : decode prog_14_method_4_code 18 = .ok (.ireturn, 1) := by decide +kernel
def f_X12_in (a0 : Int64) (a2 : Int64) (a4 : Int64) : Option (Int32) := some (if (lg_cmp a0 a2) < 0 then (0 : Int32) else (if 0 < (lg_cmp a0 a4) then (0 : Int32) else (1 : Int32)))
theorem c_X12_in {l : Launch} {G : gT} {χ σ : St} {a0 : Int64} {a2 : Int64} {a4 : Int64} {q : Int32} (h : f_X12_in a0 a2 a4 = some q) : Ct l G yX12_in prog_14_method_4_code 6 (some .boolean) 0 0 [.long a0, .long a2, .long a4] χ σ (some (.int q)) χ σ := by
  refine Ct.of (by decide) (Nat.le_of_ble_eq_true rfl) ?_
  intro p e s m args below meth c Q X hr hlk hQ
  have hx := X.1
  have hb := X.2.1
  intro H locs ls hw hl
  have hl : lv_has ls 6 [(0, .long a0), (2, .long a2), (4, .long a4)] := hl
  unfold f_X12_in at h
  refine lv_lload_n hx hb d_X12_in_0 rfl (lv_at hl 0 rfl) ?_
  refine lv_lload_n hx hb d_X12_in_1 rfl (lv_at hl 1 rfl) ?_
  refine W.lcmp hx hb d_X12_in_2 ?_
  refine lv_if_lt (tgt := 17) hx hb d_X12_in_3 (by decide) (fun hc => ?_) (fun hc => ?_)
  · simp only [if_pos hc] at h
    refine lv_iconst (v := (0 : Int32)) hx hb d_X12_in_17 (by decide) ?_
    obtain rfl := Option.some.inj h
    subst hQ
    exact r_zret X hr (by decide) hlk hw d_X12_in_18
  · simp only [if_neg hc] at h
    refine lv_lload_n hx hb d_X12_in_6 rfl (lv_at hl 0 rfl) ?_
    refine lv_lload hx hb d_X12_in_7 (lv_at hl 2 rfl) ?_
    refine W.lcmp hx hb d_X12_in_9 ?_
    refine lv_if_gt (tgt := 17) hx hb d_X12_in_10 (by decide) (fun hc => ?_) (fun hc => ?_)
    · simp only [if_pos hc] at h
      refine lv_iconst (v := (0 : Int32)) hx hb d_X12_in_17 (by decide) ?_
      obtain rfl := Option.some.inj h
      subst hQ
      exact r_zret X hr (by decide) hlk hw d_X12_in_18
    · simp only [if_neg hc] at h
      refine lv_iconst (v := (1 : Int32)) hx hb d_X12_in_13 (by decide) ?_
      refine lv_goto (tgt := 18) hx hb d_X12_in_14 (by decide) ?_
      obtain rfl := Option.some.inj h
      subst hQ
      exact r_zret X hr (by decide) hlk hw d_X12_in_18
abbrev yX12_flag : MethodName := ⟨"OysterBedsModel", "flag", "(Z)I"⟩
theorem mwX12_flag : MW yX12_flag prog_14_method_6_code 1 (some .int) 1 := ⟨wd_1181, wd_10, by decide +kernel⟩
theorem d_X12_flag_0 : decode prog_14_method_6_code 0 = .ok (.iload_n 0, 1) := by decide +kernel
theorem d_X12_flag_1 : decode prog_14_method_6_code 1 = .ok (.ifCond .eq 7, 3) := by decide +kernel
theorem d_X12_flag_4 : decode prog_14_method_6_code 4 = .ok (.iconst 1, 1) := by decide +kernel
theorem d_X12_flag_5 : decode prog_14_method_6_code 5 = .ok (.goto 4, 3) := by decide +kernel
theorem d_X12_flag_8 : decode prog_14_method_6_code 8 = .ok (.iconst 0, 1) := by decide +kernel
theorem d_X12_flag_9 : decode prog_14_method_6_code 9 = .ok (.ireturn, 1) := by decide +kernel
def f_X12_flag (a0 : Int32) : Option (Int32) := some (if a0 = 0 then (0 : Int32) else (1 : Int32))
theorem c_X12_flag {l : Launch} {G : gT} {χ σ : St} {a0 : Int32} {q : Int32} (h : f_X12_flag a0 = some q) : Ct l G yX12_flag prog_14_method_6_code 1 (some .int) 0 0 [.int a0] χ σ (some (.int q)) χ σ := by
  refine Ct.of (by decide) (Nat.le_of_ble_eq_true rfl) ?_
  intro p e s m args below meth c Q X hr hlk hQ
  have hx := X.1
  have hb := X.2.1
  intro H locs ls hw hl
  have hl : lv_has ls 1 [(0, .int a0)] := hl
  unfold f_X12_flag at h
  refine lv_iload_n hx hb d_X12_flag_0 rfl (lv_at hl 0 rfl) ?_
  refine lv_if_eq (tgt := 8) hx hb d_X12_flag_1 (by decide) (fun hc => ?_) (fun hc => ?_)
  · simp only [if_pos hc] at h
    refine lv_iconst (v := (0 : Int32)) hx hb d_X12_flag_8 (by decide) ?_
    obtain rfl := Option.some.inj h
    subst hQ
    exact r_iret X hr hlk hw d_X12_flag_9
  · simp only [if_neg hc] at h
    refine lv_iconst (v := (1 : Int32)) hx hb d_X12_flag_4 (by decide) ?_
    refine lv_goto (tgt := 9) hx hb d_X12_flag_5 (by decide) ?_
    obtain rfl := Option.some.inj h
    subst hQ
    exact r_iret X hr hlk hw d_X12_flag_9
abbrev yX12_openOnes : MethodName := ⟨"OysterBedsModel", "openOnes", "([I)I"⟩
theorem mwX12_openOnes : MW yX12_openOnes prog_14_method_13_code 4 (some .int) 1 := ⟨wd_1264, wd_10, by decide +kernel⟩
theorem d_X12_openOnes_0 : decode prog_14_method_13_code 0 = .ok (.iconst 0, 1) := by decide +kernel
theorem d_X12_openOnes_1 : decode prog_14_method_13_code 1 = .ok (.istore_n 2, 1) := by decide +kernel
theorem d_X12_openOnes_2 : decode prog_14_method_13_code 2 = .ok (.iconst 0, 1) := by decide +kernel
theorem d_X12_openOnes_3 : decode prog_14_method_13_code 3 = .ok (.istore_n 3, 1) := by decide +kernel
theorem d_X12_openOnes_4 : decode prog_14_method_13_code 4 = .ok (.iload_n 3, 1) := by decide +kernel
theorem d_X12_openOnes_5 : decode prog_14_method_13_code 5 = .ok (.aload_n 0, 1) := by decide +kernel
theorem d_X12_openOnes_6 : decode prog_14_method_13_code 6 = .ok (.getfield 102, 3) := by decide +kernel
theorem d_X12_openOnes_9 : decode prog_14_method_13_code 9 = .ok (.if_icmp .ge 28, 3) := by decide +kernel
theorem d_X12_openOnes_12 : decode prog_14_method_13_code 12 = .ok (.iload_n 2, 1) := by decide +kernel
theorem d_X12_openOnes_13 : decode prog_14_method_13_code 13 = .ok (.aload_n 1, 1) := by decide +kernel
theorem d_X12_openOnes_14 : decode prog_14_method_13_code 14 = .ok (.bipush 16, 2) := by decide +kernel
theorem d_X12_openOnes_16 : decode prog_14_method_13_code 16 = .ok (.iload_n 3, 1) := by decide +kernel
theorem d_X12_openOnes_17 : decode prog_14_method_13_code 17 = .ok (.iadd, 1) := by decide +kernel
theorem d_X12_openOnes_18 : decode prog_14_method_13_code 18 = .ok (.iaload, 1) := by decide +kernel
theorem d_X12_openOnes_19 : decode prog_14_method_13_code 19 = .ok (.ifCond .ne 9, 3) := by decide +kernel
theorem d_X12_openOnes_22 : decode prog_14_method_13_code 22 = .ok (.iconst 1, 1) := by decide +kernel
theorem d_X12_openOnes_23 : decode prog_14_method_13_code 23 = .ok (.iload_n 3, 1) := by decide +kernel
theorem d_X12_openOnes_24 : decode prog_14_method_13_code 24 = .ok (.ishl, 1) := by decide +kernel
theorem d_X12_openOnes_25 : decode prog_14_method_13_code 25 = .ok (.goto 4, 3) := by decide +kernel
theorem d_X12_openOnes_28 : decode prog_14_method_13_code 28 = .ok (.iconst 0, 1) := by decide +kernel
theorem d_X12_openOnes_29 : decode prog_14_method_13_code 29 = .ok (.ior, 1) := by decide +kernel
theorem d_X12_openOnes_30 : decode prog_14_method_13_code 30 = .ok (.istore_n 2, 1) := by decide +kernel
theorem d_X12_openOnes_31 : decode prog_14_method_13_code 31 = .ok (.iinc 3 1, 3) := by decide +kernel
theorem d_X12_openOnes_34 : decode prog_14_method_13_code 34 = .ok (.goto (-30), 3) := by decide +kernel
theorem d_X12_openOnes_37 : decode prog_14_method_13_code 37 = .ok (.iload_n 2, 1) := by decide +kernel
theorem d_X12_openOnes_38 : decode prog_14_method_13_code 38 = .ok (.ireturn, 1) := by decide +kernel
def f_X12_openOnes_j29_4 (r : Nat) (τ : St) (x3 : Int32) (s0 : Int32) (s1 : Int32) : Option ((Int32 × Int32) ⊕ (Int32)) := some (.inl ((s0 ||| s1), (x3 + (1 : Int32))))
def f_X12_openOnes_s4 (r : Nat) (τ : St) (x2 : Int32) (x3 : Int32) : Option ((Int32 × Int32) ⊕ (Int32)) := (if (cF τ 300 3) ≤ x3 then some (.inr x2) else gd (inb ((16 : Int32) + x3) 34) (f_X12_openOnes_j29_4 r τ x3 x2 (if (cA τ r ((16 : Int32) + x3).toNatClampNeg) = 0 then ((1 : Int32) <<< (x3 &&& 31)) else (0 : Int32))))
def f_X12_openOnes (σ : St) (r : Nat) : Option (Int32) := (iter (fun z => f_X12_openOnes_s4 r σ z.1 z.2) FU ((0 : Int32), (0 : Int32))).bind (fun z2 => some z2)
theorem c_X12_openOnes {l : Launch} {G : gT} {χ σ : St} {r : Nat} (hr : OP r 11 34) (hr3 : 300 ≤ r) {q : Int32} (h : f_X12_openOnes σ r = some q) : Ct l G yX12_openOnes prog_14_method_13_code 4 (some .int) 0 0 [.ref (ga G 300), .ref (ga G r)] χ σ (some (.int q)) χ σ := by
  refine Ct.of (by decide) (Nat.le_of_ble_eq_true rfl) ?_
  intro p e s m args below meth c Q X hret hlk hQ
  have hx := X.1
  have hb := X.2.1
  have j29_4 : ∀ (τ : St) (x3 : Int32) (s0 : Int32) (s1 : Int32) (o : (Int32 × Int32) ⊕ (Int32)), f_X12_openOnes_j29_4 r τ x3 s0 s1 = some o → Sum.elim (fun z : Int32 × Int32 => Wat p l e (rmk 0 0) s m args below meth c Q G 4 4 [] [(2, .int z.1), (3, .int z.2), (0, .ref (ga G 300)), (1, .ref (ga G r))] χ τ) (fun z : Int32 => Wat p l e (rmk 0 0) s m args below meth c Q G 4 37 [] [(2, .int z)] χ τ) o → Wat p l e (rmk 0 0) s m args below meth c Q G 4 29 [.int s1, .int s0] [(0, .ref (ga G 300)), (1, .ref (ga G r)), (3, .int x3)] χ τ := by
    intro τ x3 s0 s1 o h hk H locs ls hw hl
    unfold f_X12_openOnes_j29_4 at h
    refine lv_ior hx hb d_X12_openOnes_29 ?_
    refine lv_istore_n (lv' := [(2, .int (s0 ||| s1)), (0, .ref (ga G 300)), (1, .ref (ga G r)), (3, .int x3)]) hx hb d_X12_openOnes_30 rfl hl (Nat.le_of_ble_eq_true rfl) rfl (fun ls hl => ?_)
    refine lv_iinc (v := (x3 + (1 : Int32))) (k := 3) (lv' := [(3, .int (x3 + (1 : Int32))), (2, .int (s0 ||| s1)), (0, .ref (ga G 300)), (1, .ref (ga G r))]) hx hb d_X12_openOnes_31 hl rfl (by rfl) (Nat.le_of_ble_eq_true rfl) rfl (fun ls hl => ?_)
    refine lv_goto (tgt := 4) hx hb d_X12_openOnes_34 (by decide) ?_
    obtain rfl := Option.some.inj h
    dsimp only [Sum.elim_inl] at hk
    exact hk _ _ _ hw (lv_sub hl [1, 0, 2, 3] rfl)
  have b4 : ∀ (τ : St) (x2 : Int32) (x3 : Int32) (o : (Int32 × Int32) ⊕ (Int32)), f_X12_openOnes_s4 r τ x2 x3 = some o → Sum.elim (fun z : Int32 × Int32 => Wat p l e (rmk 0 0) s m args below meth c Q G 4 4 [] [(2, .int z.1), (3, .int z.2), (0, .ref (ga G 300)), (1, .ref (ga G r))] χ τ) (fun z : Int32 => Wat p l e (rmk 0 0) s m args below meth c Q G 4 37 [] [(2, .int z)] χ τ) o → Wat p l e (rmk 0 0) s m args below meth c Q G 4 4 [] [(2, .int x2), (3, .int x3), (0, .ref (ga G 300)), (1, .ref (ga G r))] χ τ := by
    intro τ x2 x3 o h hk H locs ls hw hl
    unfold f_X12_openOnes_s4 at h
    refine lv_iload_n hx hb d_X12_openOnes_4 rfl (lv_at hl 1 rfl) ?_
    refine lv_aload_n hx hb d_X12_openOnes_5 rfl (lv_at hl 2 rfl) ?_
    refine m_geti (j := 3) X hw ct8 o_300 (Nat.le_of_ble_eq_true rfl) rfl (Nat.le_of_ble_eq_true rfl) wd_959 d_X12_openOnes_6 ?_
    refine lv_icmp_ge (tgt := 37) hx hb d_X12_openOnes_9 (by decide) (fun hc => ?_) (fun hc => ?_)
    · have h := ite_t h hc
      obtain rfl := Option.some.inj h
      dsimp only [Sum.elim_inr] at hk
      exact hk _ _ _ hw (lv_sub hl [0] rfl)
    · have h := ite_f h hc
      refine lv_iload_n hx hb d_X12_openOnes_12 rfl (lv_at hl 0 rfl) ?_
      refine lv_aload_n hx hb d_X12_openOnes_13 rfl (lv_at hl 3 rfl) ?_
      refine lv_bipush (v := (16 : Int32)) hx hb d_X12_openOnes_14 (by decide) ?_
      refine lv_iload_n hx hb d_X12_openOnes_16 rfl (lv_at hl 1 rfl) ?_
      refine lv_iadd hx hb d_X12_openOnes_17 ?_
      obtain ⟨hi1, h⟩ := gd_some h
      refine m_iald X hw hr hr3 hi1 d_X12_openOnes_18 ?_
      refine lv_if_ne (tgt := 28) hx hb d_X12_openOnes_19 (by decide) (fun hc => ?_) (fun hc => ?_)
      · simp only [if_neg hc] at h
        refine lv_iconst (v := (0 : Int32)) hx hb d_X12_openOnes_28 (by decide) ?_
        exact j29_4 τ x3 x2 (0 : Int32) o h hk _ _ _ hw (lv_sub hl [2, 3, 1] rfl)
      · simp only [if_pos hc] at h
        refine lv_iconst (v := (1 : Int32)) hx hb d_X12_openOnes_22 (by decide) ?_
        refine lv_iload_n hx hb d_X12_openOnes_23 rfl (lv_at hl 1 rfl) ?_
        refine lv_ishl hx hb d_X12_openOnes_24 ?_
        refine lv_goto (tgt := 29) hx hb d_X12_openOnes_25 (by decide) ?_
        exact j29_4 τ x3 x2 ((1 : Int32) <<< (x3 &&& 31)) o h hk _ _ _ hw (lv_sub hl [2, 3, 1] rfl)
  intro H locs ls hw hl
  have hl : lv_has ls 4 [(0, .ref (ga G 300)), (1, .ref (ga G r))] := hl
  unfold f_X12_openOnes at h
  refine lv_iconst (v := (0 : Int32)) hx hb d_X12_openOnes_0 (by decide) ?_
  refine lv_istore_n (lv' := [(2, .int (0 : Int32)), (0, .ref (ga G 300)), (1, .ref (ga G r))]) hx hb d_X12_openOnes_1 rfl hl (Nat.le_of_ble_eq_true rfl) rfl (fun ls hl => ?_)
  refine lv_iconst (v := (0 : Int32)) hx hb d_X12_openOnes_2 (by decide) ?_
  refine lv_istore_n (lv' := [(3, .int (0 : Int32)), (2, .int (0 : Int32)), (0, .ref (ga G 300)), (1, .ref (ga G r))]) hx hb d_X12_openOnes_3 rfl hl (Nat.le_of_ble_eq_true rfl) rfl (fun ls hl => ?_)
  obtain ⟨z2, e3, h⟩ := bd_some h
  refine iter_w (Wh := fun z : Int32 × Int32 => Wat p l e (rmk 0 0) s m args below meth c Q G 4 4 [] [(2, .int z.1), (3, .int z.2), (0, .ref (ga G 300)), (1, .ref (ga G r))] χ σ) (K := fun z : Int32 => Wat p l e (rmk 0 0) s m args below meth c Q G 4 37 [] [(2, .int z)] χ σ) (fun z o h1 h2 => b4 σ z.1 z.2 o h1 h2) FU _ _ e3 ?_ _ _ _ hw (lv_sub hl [1, 0, 2, 3] rfl)
  intro H locs ls hw hl
  refine lv_iload_n hx hb d_X12_openOnes_37 rfl (lv_at hl 0 rfl) ?_
  obtain rfl := Option.some.inj h
  subst hQ
  exact r_iret X hret hlk hw d_X12_openOnes_38
abbrev yX12_isOyster : MethodName := ⟨"OysterBedsModel", "isOyster", "(I)Z"⟩
theorem mwX12_isOyster : MW yX12_isOyster prog_14_method_10_code 2 (some .boolean) 1 := ⟨wd_1221, wd_10, by decide +kernel⟩
theorem d_X12_isOyster_0 : decode prog_14_method_10_code 0 = .ok (.iload_n 1, 1) := by decide +kernel
theorem d_X12_isOyster_1 : decode prog_14_method_10_code 1 = .ok (.i2l, 1) := by decide +kernel
theorem d_X12_isOyster_2 : decode prog_14_method_10_code 2 = .ok (.lconst 0, 1) := by decide +kernel
theorem d_X12_isOyster_3 : decode prog_14_method_10_code 3 = .ok (.aload_n 0, 1) := by decide +kernel
theorem d_X12_isOyster_4 : decode prog_14_method_10_code 4 = .ok (.getfield 102, 3) := by decide +kernel
theorem d_X12_isOyster_7 : decode prog_14_method_10_code 7 = .ok (.iconst 1, 1) := by decide +kernel
theorem d_X12_isOyster_8 : decode prog_14_method_10_code 8 = .ok (.isub, 1) := by decide +kernel
theorem d_X12_isOyster_9 : decode prog_14_method_10_code 9 = .ok (.i2l, 1) := by decide +kernel
theorem d_X12_isOyster_10 : decode prog_14_method_10_code 10 = .ok (.invokestatic 105, 3) := by decide +kernel
theorem d_X12_isOyster_13 : decode prog_14_method_10_code 13 = .ok (.ireturn, 1) := by decide +kernel
def f_X12_isOyster (σ : St) (a1 : Int32) : Option (Int32) := (f_X12_in a1.toInt64 (0 : Int64) ((cF σ 300 3) - (1 : Int32)).toInt64).bind (fun q1 => gd (nb q1) (some q1))
theorem c_X12_isOyster {l : Launch} {G : gT} {χ σ : St} {a1 : Int32} {q : Int32} (h : f_X12_isOyster σ a1 = some q) : Ct l G yX12_isOyster prog_14_method_10_code 2 (some .boolean) 1 25 [.ref (ga G 300), .int a1] χ σ (some (.int q)) χ σ := by
  refine Ct.of (by decide) (Nat.le_of_ble_eq_true rfl) ?_
  intro p e s m args below meth c Q X hr hlk hQ
  have hx := X.1
  have hb := X.2.1
  intro H locs ls hw hl
  have hl : lv_has ls 2 [(0, .ref (ga G 300)), (1, .int a1)] := hl
  unfold f_X12_isOyster at h
  refine lv_iload_n hx hb d_X12_isOyster_0 rfl (lv_at hl 1 rfl) ?_
  refine lv_i2l hx hb d_X12_isOyster_1 rfl ?_
  refine lv_lconst (v := (0 : Int64)) hx hb d_X12_isOyster_2 (by decide) ?_
  refine lv_aload_n hx hb d_X12_isOyster_3 rfl (lv_at hl 0 rfl) ?_
  refine m_geti (j := 3) X hw ct8 o_300 (Nat.le_of_ble_eq_true rfl) rfl (Nat.le_of_ble_eq_true rfl) wd_959 d_X12_isOyster_4 ?_
  refine lv_iconst (v := (1 : Int32)) hx hb d_X12_isOyster_7 (by decide) ?_
  refine lv_isub hx hb d_X12_isOyster_8 ?_
  refine lv_i2l hx hb d_X12_isOyster_9 rfl ?_
  obtain ⟨q1, e2, h⟩ := bd_some h
  refine r_callS (As := [.long a1.toInt64, .long (0 : Int64), .long ((cF σ 300 3) - (1 : Int32)).toInt64]) (rest := []) (st' := [.int q1]) X hw hl mwX12_in wd_1093 wd_1092 (c_X12_in e2) rfl ⟨Nat.le_of_ble_eq_true rfl, Nat.le_of_ble_eq_true rfl⟩ ⟨Nat.le_refl _, Nat.le_refl _⟩ rfl rfl (Nat.le_of_ble_eq_true rfl) d_X12_isOyster_10 (fun H locs hw => ?_)
  obtain ⟨hv3, h⟩ := gd_some h
  obtain rfl := Option.some.inj h
  subst hQ
  exact r_zret X hr (nb_of hv3) hlk hw d_X12_isOyster_13
abbrev yX12_isQuestion : MethodName := ⟨"OysterBedsModel", "isQuestion", "(II)Z"⟩
theorem mwX12_isQuestion : MW yX12_isQuestion prog_14_method_11_code 2 (some .boolean) 2 := ⟨wd_1247, wd_10, by decide +kernel⟩
theorem d_X12_isQuestion_0 : decode prog_14_method_11_code 0 = .ok (.iload_n 0, 1) := by decide +kernel
theorem d_X12_isQuestion_1 : decode prog_14_method_11_code 1 = .ok (.i2l, 1) := by decide +kernel
theorem d_X12_isQuestion_2 : decode prog_14_method_11_code 2 = .ok (.lconst 0, 1) := by decide +kernel
theorem d_X12_isQuestion_3 : decode prog_14_method_11_code 3 = .ok (.ldc2_w 109, 3) := by decide +kernel
theorem d_X12_isQuestion_6 : decode prog_14_method_11_code 6 = .ok (.invokestatic 105, 3) := by decide +kernel
theorem d_X12_isQuestion_9 : decode prog_14_method_11_code 9 = .ok (.ifCond .eq 19, 3) := by decide +kernel
theorem d_X12_isQuestion_12 : decode prog_14_method_11_code 12 = .ok (.iload_n 1, 1) := by decide +kernel
theorem d_X12_isQuestion_13 : decode prog_14_method_11_code 13 = .ok (.i2l, 1) := by decide +kernel
theorem d_X12_isQuestion_14 : decode prog_14_method_11_code 14 = .ok (.lconst 0, 1) := by decide +kernel
theorem d_X12_isQuestion_15 : decode prog_14_method_11_code 15 = .ok (.ldc2_w 111, 3) := by decide +kernel
theorem d_X12_isQuestion_18 : decode prog_14_method_11_code 18 = .ok (.invokestatic 105, 3) := by decide +kernel
theorem d_X12_isQuestion_21 : decode prog_14_method_11_code 21 = .ok (.ifCond .eq 7, 3) := by decide +kernel
theorem d_X12_isQuestion_24 : decode prog_14_method_11_code 24 = .ok (.iconst 1, 1) := by decide +kernel
theorem d_X12_isQuestion_25 : decode prog_14_method_11_code 25 = .ok (.goto 4, 3) := by decide +kernel
theorem d_X12_isQuestion_28 : decode prog_14_method_11_code 28 = .ok (.iconst 0, 1) := by decide +kernel
theorem d_X12_isQuestion_29 : decode prog_14_method_11_code 29 = .ok (.ireturn, 1) := by decide +kernel
def f_X12_isQuestion (a0 : Int32) (a1 : Int32) : Option (Int32) := (f_X12_in a0.toInt64 (0 : Int64) (3 : Int64)).bind (fun q1 => (if q1 = 0 then some (0 : Int32) else (f_X12_in a1.toInt64 (0 : Int64) (9 : Int64)).bind (fun q3 => some (if q3 = 0 then (0 : Int32) else (1 : Int32)))))
theorem c_X12_isQuestion {l : Launch} {G : gT} {χ σ : St} {a0 : Int32} {a1 : Int32} {q : Int32} (h : f_X12_isQuestion a0 a1 = some q) : Ct l G yX12_isQuestion prog_14_method_11_code 2 (some .boolean) 1 25 [.int a0, .int a1] χ σ (some (.int q)) χ σ := by
  refine Ct.of (by decide) (Nat.le_of_ble_eq_true rfl) ?_
  intro p e s m args below meth c Q X hr hlk hQ
  have hx := X.1
  have hb := X.2.1
  intro H locs ls hw hl
  have hl : lv_has ls 2 [(0, .int a0), (1, .int a1)] := hl
  unfold f_X12_isQuestion at h
  refine lv_iload_n hx hb d_X12_isQuestion_0 rfl (lv_at hl 0 rfl) ?_
  refine lv_i2l hx hb d_X12_isQuestion_1 rfl ?_
  refine lv_lconst (v := (0 : Int64)) hx hb d_X12_isQuestion_2 (by decide) ?_
  refine r_ldc2 X wd_1231 d_X12_isQuestion_3 ?_
  obtain ⟨q1, e2, h⟩ := bd_some h
  refine r_callS (As := [.long a0.toInt64, .long (0 : Int64), .long (3 : Int64)]) (rest := []) (st' := [.int q1]) X hw hl mwX12_in wd_1093 wd_1092 (c_X12_in e2) rfl ⟨Nat.le_of_ble_eq_true rfl, Nat.le_of_ble_eq_true rfl⟩ ⟨Nat.le_refl _, Nat.le_refl _⟩ rfl rfl (Nat.le_of_ble_eq_true rfl) d_X12_isQuestion_6 (fun H locs hw => ?_)
  refine lv_if_eq (tgt := 28) hx hb d_X12_isQuestion_9 (by decide) (fun hc => ?_) (fun hc => ?_)
  · have h := ite_t h hc
    refine lv_iconst (v := (0 : Int32)) hx hb d_X12_isQuestion_28 (by decide) ?_
    obtain rfl := Option.some.inj h
    subst hQ
    exact r_zret X hr (by decide) hlk hw d_X12_isQuestion_29
  · have h := ite_f h hc
    refine lv_iload_n hx hb d_X12_isQuestion_12 rfl (lv_at hl 1 rfl) ?_
    refine lv_i2l hx hb d_X12_isQuestion_13 rfl ?_
    refine lv_lconst (v := (0 : Int64)) hx hb d_X12_isQuestion_14 (by decide) ?_
    refine r_ldc2 X wd_1248 d_X12_isQuestion_15 ?_
    obtain ⟨q3, e4, h⟩ := bd_some h
    refine r_callS (As := [.long a1.toInt64, .long (0 : Int64), .long (9 : Int64)]) (rest := []) (st' := [.int q3]) X hw hl mwX12_in wd_1093 wd_1092 (c_X12_in e4) rfl ⟨Nat.le_of_ble_eq_true rfl, Nat.le_of_ble_eq_true rfl⟩ ⟨Nat.le_refl _, Nat.le_refl _⟩ rfl rfl (Nat.le_of_ble_eq_true rfl) d_X12_isQuestion_18 (fun H locs hw => ?_)
    refine lv_if_eq (tgt := 28) hx hb d_X12_isQuestion_21 (by decide) (fun hc => ?_) (fun hc => ?_)
    · simp only [if_pos hc] at h
      refine lv_iconst (v := (0 : Int32)) hx hb d_X12_isQuestion_28 (by decide) ?_
      obtain rfl := Option.some.inj h
      subst hQ
      exact r_zret X hr (by decide) hlk hw d_X12_isQuestion_29
    · simp only [if_neg hc] at h
      refine lv_iconst (v := (1 : Int32)) hx hb d_X12_isQuestion_24 (by decide) ?_
      refine lv_goto (tgt := 29) hx hb d_X12_isQuestion_25 (by decide) ?_
      obtain rfl := Option.some.inj h
      subst hQ
      exact r_zret X hr (by decide) hlk hw d_X12_isQuestion_29
abbrev yX12_all : MethodName := ⟨"OysterBedsModel", "all", "()I"⟩
theorem mwX12_all : MW yX12_all prog_14_method_12_code 1 (some .int) 0 := ⟨wd_1410, wd_10, by decide +kernel⟩
theorem d_X12_all_0 : decode prog_14_method_12_code 0 = .ok (.iconst 1, 1) := by decide +kernel
theorem d_X12_all_1 : decode prog_14_method_12_code 1 = .ok (.aload_n 0, 1) := by decide +kernel
theorem d_X12_all_2 : decode prog_14_method_12_code 2 = .ok (.getfield 102, 3) := by decide +kernel
theorem d_X12_all_5 : decode prog_14_method_12_code 5 = .ok (.ishl, 1) := by decide +kernel
theorem d_X12_all_6 : decode prog_14_method_12_code 6 = .ok (.iconst 1, 1) := by decide +kernel
theorem d_X12_all_7 : decode prog_14_method_12_code 7 = .ok (.isub, 1) := by decide +kernel
theorem d_X12_all_8 : decode prog_14_method_12_code 8 = .ok (.ireturn, 1) := by decide +kernel
def f_X12_all (σ : St) : Option (Int32) := some (((1 : Int32) <<< ((cF σ 300 3) &&& 31)) - (1 : Int32))
theorem c_X12_all {l : Launch} {G : gT} {χ σ : St} {q : Int32} (h : f_X12_all σ = some q) : Ct l G yX12_all prog_14_method_12_code 1 (some .int) 0 0 [.ref (ga G 300)] χ σ (some (.int q)) χ σ := by
  refine Ct.of (by decide) (Nat.le_of_ble_eq_true rfl) ?_
  intro p e s m args below meth c Q X hr hlk hQ
  have hx := X.1
  have hb := X.2.1
  intro H locs ls hw hl
  have hl : lv_has ls 1 [(0, .ref (ga G 300))] := hl
  unfold f_X12_all at h
  refine lv_iconst (v := (1 : Int32)) hx hb d_X12_all_0 (by decide) ?_
  refine lv_aload_n hx hb d_X12_all_1 rfl (lv_at hl 0 rfl) ?_
  refine m_geti (j := 3) X hw ct8 o_300 (Nat.le_of_ble_eq_true rfl) rfl (Nat.le_of_ble_eq_true rfl) wd_959 d_X12_all_2 ?_
  refine lv_ishl hx hb d_X12_all_5 ?_
  refine lv_iconst (v := (1 : Int32)) hx hb d_X12_all_6 (by decide) ?_
  refine lv_isub hx hb d_X12_all_7 ?_
  obtain rfl := Option.some.inj h
  subst hQ
  exact r_iret X hr hlk hw d_X12_all_8
abbrev yX12_enters : MethodName := ⟨"OysterBedsModel", "enters", "(J)V"⟩
theorem mwX12_enters : MW yX12_enters prog_14_method_8_code 3 none 1 := ⟨wd_1283, wd_10, by decide +kernel⟩
theorem d_X12_enters_0 : decode prog_14_method_8_code 0 = .ok (.aload_n 0, 1) := by decide +kernel
theorem d_X12_enters_1 : decode prog_14_method_8_code 1 = .ok (.getfield 9, 3) := by decide +kernel
theorem d_X12_enters_4 : decode prog_14_method_8_code 4 = .ok (.aload_n 0, 1) := by decide +kernel
theorem d_X12_enters_5 : decode prog_14_method_8_code 5 = .ok (.getfield 95, 3) := by decide +kernel
theorem d_X12_enters_8 : decode prog_14_method_8_code 8 = .ok (.lload_n 1, 1) := by decide +kernel
theorem d_X12_enters_9 : decode prog_14_method_8_code 9 = .ok (.lastore, 1) := by decide +kernel
theorem d_X12_enters_10 : decode prog_14_method_8_code 10 = .ok (.aload_n 0, 1) := by decide +kernel
theorem d_X12_enters_11 : decode prog_14_method_8_code 11 = .ok (.dup, 1) := by decide +kernel
theorem d_X12_enters_12 : decode prog_14_method_8_code 12 = .ok (.getfield 95, 3) := by decide +kernel
theorem d_X12_enters_15 : decode prog_14_method_8_code 15 = .ok (.iconst 1, 1) := by decide +kernel
theorem d_X12_enters_16 : decode prog_14_method_8_code 16 = .ok (.iadd, 1) := by decide +kernel
theorem d_X12_enters_17 : decode prog_14_method_8_code 17 = .ok (.putfield 95, 3) := by decide +kernel
theorem d_X12_enters_20 : decode prog_14_method_8_code 20 = .ok (.return_, 1) := by decide +kernel
def f_X12_enters (σ : St) (a1 : Int64) : Option (St) := gd (inb (cF σ 300 1) 24) (some (sF (sL σ 302 (cF σ 300 1).toNatClampNeg a1) 300 1 ((cF (sL σ 302 (cF σ 300 1).toNatClampNeg a1) 300 1) + (1 : Int32))))
theorem c_X12_enters {l : Launch} {G : gT} {χ σ : St} {a1 : Int64} {q : St} (h : f_X12_enters σ a1 = some q) : Ct l G yX12_enters prog_14_method_8_code 3 none 0 0 [.ref (ga G 300), .long a1] χ σ (none) χ q := by
  refine Ct.of (by decide) (Nat.le_of_ble_eq_true rfl) ?_
  intro p e s m args below meth c Q X hr hlk hQ
  have hx := X.1
  have hb := X.2.1
  intro H locs ls hw hl
  have hl : lv_has ls 3 [(0, .ref (ga G 300)), (1, .long a1)] := hl
  unfold f_X12_enters at h
  refine lv_aload_n hx hb d_X12_enters_0 rfl (lv_at hl 0 rfl) ?_
  refine r_getr (j := 2) X hw ct8 o_300 rfl (Nat.le_of_ble_eq_true rfl) (q := 302) rfl wd_958 d_X12_enters_1 ?_
  refine lv_aload_n hx hb d_X12_enters_4 rfl (lv_at hl 0 rfl) ?_
  refine m_geti (j := 1) X hw ct8 o_300 (Nat.le_of_ble_eq_true rfl) rfl (Nat.le_of_ble_eq_true rfl) wd_957 d_X12_enters_5 ?_
  refine lv_lload_n hx hb d_X12_enters_8 rfl (lv_at hl 1 rfl) ?_
  obtain ⟨hi1, h⟩ := gd_some h
  refine m_last X hw o_302 (Nat.le_of_ble_eq_true rfl) hi1 d_X12_enters_9 (fun H locs hw => ?_)
  refine lv_aload_n hx hb d_X12_enters_10 rfl (lv_at hl 0 rfl) ?_
  refine lv_dup hx hb d_X12_enters_11 rfl ?_
  refine m_geti (j := 1) X hw ct8 o_300 (Nat.le_of_ble_eq_true rfl) rfl (Nat.le_of_ble_eq_true rfl) wd_957 d_X12_enters_12 ?_
  refine lv_iconst (v := (1 : Int32)) hx hb d_X12_enters_15 (by decide) ?_
  refine lv_iadd hx hb d_X12_enters_16 ?_
  refine m_puti (j := 1) X hw ct8 o_300 (Nat.le_of_ble_eq_true rfl) rfl (Nat.le_of_ble_eq_true rfl) rfl rfl rfl wd_957 d_X12_enters_17 (fun H locs hw => ?_)
  obtain rfl := Option.some.inj h
  subst hQ
  exact r_vret X hr hlk hw d_X12_enters_20
abbrev yX12_copies : MethodName := ⟨"OysterBedsModel", "copies", "()V"⟩
theorem mwX12_copies : MW yX12_copies prog_14_method_17_code 2 none 0 := ⟨wd_1381, wd_10, by decide +kernel⟩
theorem d_X12_copies_0 : decode prog_14_method_17_code 0 = .ok (.iconst 0, 1) := by decide +kernel
theorem d_X12_copies_1 : decode prog_14_method_17_code 1 = .ok (.istore_n 1, 1) := by decide +kernel
theorem d_X12_copies_2 : decode prog_14_method_17_code 2 = .ok (.iload_n 1, 1) := by decide +kernel
theorem d_X12_copies_3 : decode prog_14_method_17_code 3 = .ok (.bipush 34, 2) := by decide +kernel
theorem d_X12_copies_5 : decode prog_14_method_17_code 5 = .ok (.if_icmp .ge 21, 3) := by decide +kernel
theorem d_X12_copies_8 : decode prog_14_method_17_code 8 = .ok (.aload_n 0, 1) := by decide +kernel
theorem d_X12_copies_9 : decode prog_14_method_17_code 9 = .ok (.getfield 20, 3) := by decide +kernel
theorem d_X12_copies_12 : decode prog_14_method_17_code 12 = .ok (.iload_n 1, 1) := by decide +kernel
theorem d_X12_copies_13 : decode prog_14_method_17_code 13 = .ok (.aload_n 0, 1) := by decide +kernel
theorem d_X12_copies_14 : decode prog_14_method_17_code 14 = .ok (.getfield 17, 3) := by decide +kernel
theorem d_X12_copies_17 : decode prog_14_method_17_code 17 = .ok (.iload_n 1, 1) := by decide +kernel
theorem d_X12_copies_18 : decode prog_14_method_17_code 18 = .ok (.iaload, 1) := by decide +kernel
theorem d_X12_copies_19 : decode prog_14_method_17_code 19 = .ok (.iastore, 1) := by decide +kernel
theorem d_X12_copies_20 : decode prog_14_method_17_code 20 = .ok (.iinc 1 1, 3) := by decide +kernel
theorem d_X12_copies_23 : decode prog_14_method_17_code 23 = .ok (.goto (-21), 3) := by decide +kernel
theorem d_X12_copies_26 : decode prog_14_method_17_code 26 = .ok (.return_, 1) := by decide +kernel
def f_X12_copies_s2 (τ : St) (x1 : Int32) : Option ((Int32 × St) ⊕ (St)) := (if (34 : Int32) ≤ x1 then some (.inr τ) else gd (inb x1 34) (gd (inb x1 34) (some (.inl ((x1 + (1 : Int32)), (sA τ 307 x1.toNatClampNeg (cA τ 306 x1.toNatClampNeg)))))))
def f_X12_copies (σ : St) : Option (St) := (iter (fun z => f_X12_copies_s2 z.2 z.1) FU ((0 : Int32), σ)).bind (fun z3 => some z3)
theorem c_X12_copies {l : Launch} {G : gT} {χ σ : St} {q : St} (h : f_X12_copies σ = some q) : Ct l G yX12_copies prog_14_method_17_code 2 none 0 0 [.ref (ga G 300)] χ σ (none) χ q := by
  refine Ct.of (by decide) (Nat.le_of_ble_eq_true rfl) ?_
  intro p e s m args below meth c Q X hr hlk hQ
  have hx := X.1
  have hb := X.2.1
  have b2 : ∀ (τ : St) (x1 : Int32) (o : (Int32 × St) ⊕ (St)), f_X12_copies_s2 τ x1 = some o → Sum.elim (fun z : Int32 × St => Wat p l e (rmk 0 0) s m args below meth c Q G 2 2 [] [(1, .int z.1), (0, .ref (ga G 300))] χ z.2) (fun z : St => Wat p l e (rmk 0 0) s m args below meth c Q G 2 26 [] [] χ z) o → Wat p l e (rmk 0 0) s m args below meth c Q G 2 2 [] [(1, .int x1), (0, .ref (ga G 300))] χ τ := by
    intro τ x1 o h hk H locs ls hw hl
    unfold f_X12_copies_s2 at h
    refine lv_iload_n hx hb d_X12_copies_2 rfl (lv_at hl 0 rfl) ?_
    refine lv_bipush (v := (34 : Int32)) hx hb d_X12_copies_3 (by decide) ?_
    refine lv_icmp_ge (tgt := 26) hx hb d_X12_copies_5 (by decide) (fun hc => ?_) (fun hc => ?_)
    · have h := ite_t h hc
      obtain rfl := Option.some.inj h
      dsimp only [Sum.elim_inr] at hk
      exact hk _ _ _ hw (lv_sub hl [] rfl)
    · have h := ite_f h hc
      refine lv_aload_n hx hb d_X12_copies_8 rfl (lv_at hl 1 rfl) ?_
      refine r_getr (j := 7) X hw ct8 o_300 rfl (Nat.le_of_ble_eq_true rfl) (q := 307) rfl wd_963 d_X12_copies_9 ?_
      refine lv_iload_n hx hb d_X12_copies_12 rfl (lv_at hl 0 rfl) ?_
      refine lv_aload_n hx hb d_X12_copies_13 rfl (lv_at hl 1 rfl) ?_
      refine r_getr (j := 6) X hw ct8 o_300 rfl (Nat.le_of_ble_eq_true rfl) (q := 306) rfl wd_962 d_X12_copies_14 ?_
      refine lv_iload_n hx hb d_X12_copies_17 rfl (lv_at hl 0 rfl) ?_
      obtain ⟨hi1, h⟩ := gd_some h
      refine m_iald X hw o_306 (Nat.le_of_ble_eq_true rfl) hi1 d_X12_copies_18 ?_
      obtain ⟨hi2, h⟩ := gd_some h
      refine m_iast X hw o_307 (Nat.le_of_ble_eq_true rfl) hi2 d_X12_copies_19 (fun H locs hw => ?_)
      refine lv_iinc (v := (x1 + (1 : Int32))) (k := 0) (lv' := [(1, .int (x1 + (1 : Int32))), (0, .ref (ga G 300))]) hx hb d_X12_copies_20 hl rfl (by rfl) (Nat.le_of_ble_eq_true rfl) rfl (fun ls hl => ?_)
      refine lv_goto (tgt := 2) hx hb d_X12_copies_23 (by decide) ?_
      obtain rfl := Option.some.inj h
      dsimp only [Sum.elim_inl] at hk
      exact hk _ _ _ hw (lv_sub hl [0, 1] rfl)
  intro H locs ls hw hl
  have hl : lv_has ls 2 [(0, .ref (ga G 300))] := hl
  unfold f_X12_copies at h
  refine lv_iconst (v := (0 : Int32)) hx hb d_X12_copies_0 (by decide) ?_
  refine lv_istore_n (lv' := [(1, .int (0 : Int32)), (0, .ref (ga G 300))]) hx hb d_X12_copies_1 rfl hl (Nat.le_of_ble_eq_true rfl) rfl (fun ls hl => ?_)
  obtain ⟨z3, e4, h⟩ := bd_some h
  refine iter_w (Wh := fun z : Int32 × St => Wat p l e (rmk 0 0) s m args below meth c Q G 2 2 [] [(1, .int z.1), (0, .ref (ga G 300))] χ z.2) (K := fun z : St => Wat p l e (rmk 0 0) s m args below meth c Q G 2 26 [] [] χ z) (fun z o h1 h2 => b2 z.2 z.1 o h1 h2) FU _ _ e4 ?_ _ _ _ hw (lv_sub hl [0, 1] rfl)
  intro H locs ls hw hl
  obtain rfl := Option.some.inj h
  subst hQ
  exact r_vret X hr hlk hw d_X12_copies_26
abbrev yJ6_bitCount_0f7a4 : MethodName := ⟨"java/lang/Integer", "bitCount", "(I)I"⟩
theorem mwJ6_bitCount_0f7a4 : MW yJ6_bitCount_0f7a4 prog_19_method_49_code 1 (some .int) 1 := ⟨wd_437, wd_19, by decide +kernel⟩
theorem d_J6_bitCount_0f7a4_0 : decode prog_19_method_49_code 0 = .ok (.iload_n 0, 1) := by decide +kernel
theorem d_J6_bitCount_0f7a4_1 : decode prog_19_method_49_code 1 = .ok (.iload_n 0, 1) := by decide +kernel
theorem d_J6_bitCount_0f7a4_2 : decode prog_19_method_49_code 2 = .ok (.iconst 1, 1) := by decide +kernel
theorem d_J6_bitCount_0f7a4_3 : decode prog_19_method_49_code 3 = .ok (.iushr, 1) := by decide +kernel
theorem d_J6_bitCount_0f7a4_4 : decode prog_19_method_49_code 4 = .ok (.ldc_w 265, 3) := by decide +kernel
theorem d_J6_bitCount_0f7a4_7 : decode prog_19_method_49_code 7 = .ok (.iand, 1) := by decide +kernel
theorem d_J6_bitCount_0f7a4_8 : decode prog_19_method_49_code 8 = .ok (.isub, 1) := by decide +kernel
theorem d_J6_bitCount_0f7a4_9 : decode prog_19_method_49_code 9 = .ok (.istore_n 0, 1) := by decide +kernel
theorem d_J6_bitCount_0f7a4_10 : decode prog_19_method_49_code 10 = .ok (.iload_n 0, 1) := by decide +kernel
theorem d_J6_bitCount_0f7a4_11 : decode prog_19_method_49_code 11 = .ok (.ldc_w 266, 3) := by decide +kernel
theorem d_J6_bitCount_0f7a4_14 : decode prog_19_method_49_code 14 = .ok (.iand, 1) := by decide +kernel
theorem d_J6_bitCount_0f7a4_15 : decode prog_19_method_49_code 15 = .ok (.iload_n 0, 1) := by decide +kernel
theorem d_J6_bitCount_0f7a4_16 : decode prog_19_method_49_code 16 = .ok (.iconst 2, 1) := by decide +kernel
theorem d_J6_bitCount_0f7a4_17 : decode prog_19_method_49_code 17 = .ok (.iushr, 1) := by decide +kernel
theorem d_J6_bitCount_0f7a4_18 : decode prog_19_method_49_code 18 = .ok (.ldc_w 266, 3) := by decide +kernel
theorem d_J6_bitCount_0f7a4_21 : decode prog_19_method_49_code 21 = .ok (.iand, 1) := by decide +kernel
theorem d_J6_bitCount_0f7a4_22 : decode prog_19_method_49_code 22 = .ok (.iadd, 1) := by decide +kernel
theorem d_J6_bitCount_0f7a4_23 : decode prog_19_method_49_code 23 = .ok (.istore_n 0, 1) := by decide +kernel
theorem d_J6_bitCount_0f7a4_24 : decode prog_19_method_49_code 24 = .ok (.iload_n 0, 1) := by decide +kernel
theorem d_J6_bitCount_0f7a4_25 : decode prog_19_method_49_code 25 = .ok (.iload_n 0, 1) := by decide +kernel
theorem d_J6_bitCount_0f7a4_26 : decode prog_19_method_49_code 26 = .ok (.iconst 4, 1) := by decide +kernel
theorem d_J6_bitCount_0f7a4_27 : decode prog_19_method_49_code 27 = .ok (.iushr, 1) := by decide +kernel
theorem d_J6_bitCount_0f7a4_28 : decode prog_19_method_49_code 28 = .ok (.iadd, 1) := by decide +kernel
theorem d_J6_bitCount_0f7a4_29 : decode prog_19_method_49_code 29 = .ok (.ldc_w 267, 3) := by decide +kernel
theorem d_J6_bitCount_0f7a4_32 : decode prog_19_method_49_code 32 = .ok (.iand, 1) := by decide +kernel
theorem d_J6_bitCount_0f7a4_33 : decode prog_19_method_49_code 33 = .ok (.istore_n 0, 1) := by decide +kernel
theorem d_J6_bitCount_0f7a4_34 : decode prog_19_method_49_code 34 = .ok (.iload_n 0, 1) := by decide +kernel
theorem d_J6_bitCount_0f7a4_35 : decode prog_19_method_49_code 35 = .ok (.iload_n 0, 1) := by decide +kernel
theorem d_J6_bitCount_0f7a4_36 : decode prog_19_method_49_code 36 = .ok (.bipush 8, 2) := by decide +kernel
theorem d_J6_bitCount_0f7a4_38 : decode prog_19_method_49_code 38 = .ok (.iushr, 1) := by decide +kernel
theorem d_J6_bitCount_0f7a4_39 : decode prog_19_method_49_code 39 = .ok (.iadd, 1) := by decide +kernel
theorem d_J6_bitCount_0f7a4_40 : decode prog_19_method_49_code 40 = .ok (.istore_n 0, 1) := by decide +kernel
theorem d_J6_bitCount_0f7a4_41 : decode prog_19_method_49_code 41 = .ok (.iload_n 0, 1) := by decide +kernel
theorem d_J6_bitCount_0f7a4_42 : decode prog_19_method_49_code 42 = .ok (.iload_n 0, 1) := by decide +kernel
theorem d_J6_bitCount_0f7a4_43 : decode prog_19_method_49_code 43 = .ok (.bipush 16, 2) := by decide +kernel
theorem d_J6_bitCount_0f7a4_45 : decode prog_19_method_49_code 45 = .ok (.iushr, 1) := by decide +kernel
theorem d_J6_bitCount_0f7a4_46 : decode prog_19_method_49_code 46 = .ok (.iadd, 1) := by decide +kernel
theorem d_J6_bitCount_0f7a4_47 : decode prog_19_method_49_code 47 = .ok (.istore_n 0, 1) := by decide +kernel
theorem d_J6_bitCount_0f7a4_48 : decode prog_19_method_49_code 48 = .ok (.iload_n 0, 1) := by decide +kernel
theorem d_J6_bitCount_0f7a4_49 : decode prog_19_method_49_code 49 = .ok (.bipush 63, 2) := by decide +kernel
theorem d_J6_bitCount_0f7a4_51 : decode prog_19_method_49_code 51 = .ok (.iand, 1) := by decide +kernel
theorem d_J6_bitCount_0f7a4_52 : decode prog_19_method_49_code 52 = .ok (.ireturn, 1) := by decide +kernel
def f_J6_bitCount_0f7a4 (a0 : Int32) : Option (Int32) := some ((((((((a0 - ((a0.toUInt32 >>> ((1 : Int32).toUInt32 &&& Int32.toUInt32 31)).toInt32 &&& (1431655765 : Int32))) &&& (858993459 : Int32)) + (((a0 - ((a0.toUInt32 >>> ((1 : Int32).toUInt32 &&& Int32.toUInt32 31)).toInt32 &&& (1431655765 : Int32))).toUInt32 >>> ((2 : Int32).toUInt32 &&& Int32.toUInt32 31)).toInt32 &&& (858993459 : Int32))) + ((((a0 - ((a0.toUInt32 >>> ((1 : Int32).toUInt32 &&& Int32.toUInt32 31)).toInt32 &&& (1431655765 : Int32))) &&& (858993459 : Int32)) + (((a0 - ((a0.toUInt32 >>> ((1 : Int32).toUInt32 &&& Int32.toUInt32 31)).toInt32 &&& (1431655765 : Int32))).toUInt32 >>> ((2 : Int32).toUInt32 &&& Int32.toUInt32 31)).toInt32 &&& (858993459 : Int32))).toUInt32 >>> ((4 : Int32).toUInt32 &&& Int32.toUInt32 31)).toInt32) &&& (252645135 : Int32)) + ((((((a0 - ((a0.toUInt32 >>> ((1 : Int32).toUInt32 &&& Int32.toUInt32 31)).toInt32 &&& (1431655765 : Int32))) &&& (858993459 : Int32)) + (((a0 - ((a0.toUInt32 >>> ((1 : Int32).toUInt32 &&& Int32.toUInt32 31)).toInt32 &&& (1431655765 : Int32))).toUInt32 >>> ((2 : Int32).toUInt32 &&& Int32.toUInt32 31)).toInt32 &&& (858993459 : Int32))) + ((((a0 - ((a0.toUInt32 >>> ((1 : Int32).toUInt32 &&& Int32.toUInt32 31)).toInt32 &&& (1431655765 : Int32))) &&& (858993459 : Int32)) + (((a0 - ((a0.toUInt32 >>> ((1 : Int32).toUInt32 &&& Int32.toUInt32 31)).toInt32 &&& (1431655765 : Int32))).toUInt32 >>> ((2 : Int32).toUInt32 &&& Int32.toUInt32 31)).toInt32 &&& (858993459 : Int32))).toUInt32 >>> ((4 : Int32).toUInt32 &&& Int32.toUInt32 31)).toInt32) &&& (252645135 : Int32)).toUInt32 >>> ((8 : Int32).toUInt32 &&& Int32.toUInt32 31)).toInt32) + (((((((a0 - ((a0.toUInt32 >>> ((1 : Int32).toUInt32 &&& Int32.toUInt32 31)).toInt32 &&& (1431655765 : Int32))) &&& (858993459 : Int32)) + (((a0 - ((a0.toUInt32 >>> ((1 : Int32).toUInt32 &&& Int32.toUInt32 31)).toInt32 &&& (1431655765 : Int32))).toUInt32 >>> ((2 : Int32).toUInt32 &&& Int32.toUInt32 31)).toInt32 &&& (858993459 : Int32))) + ((((a0 - ((a0.toUInt32 >>> ((1 : Int32).toUInt32 &&& Int32.toUInt32 31)).toInt32 &&& (1431655765 : Int32))) &&& (858993459 : Int32)) + (((a0 - ((a0.toUInt32 >>> ((1 : Int32).toUInt32 &&& Int32.toUInt32 31)).toInt32 &&& (1431655765 : Int32))).toUInt32 >>> ((2 : Int32).toUInt32 &&& Int32.toUInt32 31)).toInt32 &&& (858993459 : Int32))).toUInt32 >>> ((4 : Int32).toUInt32 &&& Int32.toUInt32 31)).toInt32) &&& (252645135 : Int32)) + ((((((a0 - ((a0.toUInt32 >>> ((1 : Int32).toUInt32 &&& Int32.toUInt32 31)).toInt32 &&& (1431655765 : Int32))) &&& (858993459 : Int32)) + (((a0 - ((a0.toUInt32 >>> ((1 : Int32).toUInt32 &&& Int32.toUInt32 31)).toInt32 &&& (1431655765 : Int32))).toUInt32 >>> ((2 : Int32).toUInt32 &&& Int32.toUInt32 31)).toInt32 &&& (858993459 : Int32))) + ((((a0 - ((a0.toUInt32 >>> ((1 : Int32).toUInt32 &&& Int32.toUInt32 31)).toInt32 &&& (1431655765 : Int32))) &&& (858993459 : Int32)) + (((a0 - ((a0.toUInt32 >>> ((1 : Int32).toUInt32 &&& Int32.toUInt32 31)).toInt32 &&& (1431655765 : Int32))).toUInt32 >>> ((2 : Int32).toUInt32 &&& Int32.toUInt32 31)).toInt32 &&& (858993459 : Int32))).toUInt32 >>> ((4 : Int32).toUInt32 &&& Int32.toUInt32 31)).toInt32) &&& (252645135 : Int32)).toUInt32 >>> ((8 : Int32).toUInt32 &&& Int32.toUInt32 31)).toInt32).toUInt32 >>> ((16 : Int32).toUInt32 &&& Int32.toUInt32 31)).toInt32) &&& (63 : Int32))
theorem c_J6_bitCount_0f7a4 {l : Launch} {G : gT} {χ σ : St} {a0 : Int32} {q : Int32} (h : f_J6_bitCount_0f7a4 a0 = some q) : Ct l G yJ6_bitCount_0f7a4 prog_19_method_49_code 1 (some .int) 0 0 [.int a0] χ σ (some (.int q)) χ σ := by
  refine Ct.of (by decide) (Nat.le_of_ble_eq_true rfl) ?_
  intro p e s m args below meth c Q X hr hlk hQ
  have hx := X.1
  have hb := X.2.1
  intro H locs ls hw hl
  have hl : lv_has ls 1 [(0, .int a0)] := hl
  unfold f_J6_bitCount_0f7a4 at h
  refine lv_iload_n hx hb d_J6_bitCount_0f7a4_0 rfl (lv_at hl 0 rfl) ?_
  refine lv_iload_n hx hb d_J6_bitCount_0f7a4_1 rfl (lv_at hl 0 rfl) ?_
  refine lv_iconst (v := (1 : Int32)) hx hb d_J6_bitCount_0f7a4_2 (by decide) ?_
  refine lv_iushr hx hb d_J6_bitCount_0f7a4_3 rfl ?_
  refine r_ldcw X wd_438 d_J6_bitCount_0f7a4_4 ?_
  refine lv_iand hx hb d_J6_bitCount_0f7a4_7 ?_
  refine lv_isub hx hb d_J6_bitCount_0f7a4_8 ?_
  refine lv_istore_n (lv' := [(0, .int (a0 - ((a0.toUInt32 >>> ((1 : Int32).toUInt32 &&& Int32.toUInt32 31)).toInt32 &&& (1431655765 : Int32))))]) hx hb d_J6_bitCount_0f7a4_9 rfl hl (Nat.le_of_ble_eq_true rfl) rfl (fun ls hl => ?_)
  refine lv_iload_n hx hb d_J6_bitCount_0f7a4_10 rfl (lv_at hl 0 rfl) ?_
  refine r_ldcw X wd_439 d_J6_bitCount_0f7a4_11 ?_
  refine lv_iand hx hb d_J6_bitCount_0f7a4_14 ?_
  refine lv_iload_n hx hb d_J6_bitCount_0f7a4_15 rfl (lv_at hl 0 rfl) ?_
  refine lv_iconst (v := (2 : Int32)) hx hb d_J6_bitCount_0f7a4_16 (by decide) ?_
  refine lv_iushr hx hb d_J6_bitCount_0f7a4_17 rfl ?_
  refine r_ldcw X wd_439 d_J6_bitCount_0f7a4_18 ?_
  refine lv_iand hx hb d_J6_bitCount_0f7a4_21 ?_
  refine lv_iadd hx hb d_J6_bitCount_0f7a4_22 ?_
  refine lv_istore_n (lv' := [(0, .int (((a0 - ((a0.toUInt32 >>> ((1 : Int32).toUInt32 &&& Int32.toUInt32 31)).toInt32 &&& (1431655765 : Int32))) &&& (858993459 : Int32)) + (((a0 - ((a0.toUInt32 >>> ((1 : Int32).toUInt32 &&& Int32.toUInt32 31)).toInt32 &&& (1431655765 : Int32))).toUInt32 >>> ((2 : Int32).toUInt32 &&& Int32.toUInt32 31)).toInt32 &&& (858993459 : Int32))))]) hx hb d_J6_bitCount_0f7a4_23 rfl hl (Nat.le_of_ble_eq_true rfl) rfl (fun ls hl => ?_)
  refine lv_iload_n hx hb d_J6_bitCount_0f7a4_24 rfl (lv_at hl 0 rfl) ?_
  refine lv_iload_n hx hb d_J6_bitCount_0f7a4_25 rfl (lv_at hl 0 rfl) ?_
  refine lv_iconst (v := (4 : Int32)) hx hb d_J6_bitCount_0f7a4_26 (by decide) ?_
  refine lv_iushr hx hb d_J6_bitCount_0f7a4_27 rfl ?_
  refine lv_iadd hx hb d_J6_bitCount_0f7a4_28 ?_
  refine r_ldcw X wd_440 d_J6_bitCount_0f7a4_29 ?_
  refine lv_iand hx hb d_J6_bitCount_0f7a4_32 ?_
  refine lv_istore_n (lv' := [(0, .int (((((a0 - ((a0.toUInt32 >>> ((1 : Int32).toUInt32 &&& Int32.toUInt32 31)).toInt32 &&& (1431655765 : Int32))) &&& (858993459 : Int32)) + (((a0 - ((a0.toUInt32 >>> ((1 : Int32).toUInt32 &&& Int32.toUInt32 31)).toInt32 &&& (1431655765 : Int32))).toUInt32 >>> ((2 : Int32).toUInt32 &&& Int32.toUInt32 31)).toInt32 &&& (858993459 : Int32))) + ((((a0 - ((a0.toUInt32 >>> ((1 : Int32).toUInt32 &&& Int32.toUInt32 31)).toInt32 &&& (1431655765 : Int32))) &&& (858993459 : Int32)) + (((a0 - ((a0.toUInt32 >>> ((1 : Int32).toUInt32 &&& Int32.toUInt32 31)).toInt32 &&& (1431655765 : Int32))).toUInt32 >>> ((2 : Int32).toUInt32 &&& Int32.toUInt32 31)).toInt32 &&& (858993459 : Int32))).toUInt32 >>> ((4 : Int32).toUInt32 &&& Int32.toUInt32 31)).toInt32) &&& (252645135 : Int32)))]) hx hb d_J6_bitCount_0f7a4_33 rfl hl (Nat.le_of_ble_eq_true rfl) rfl (fun ls hl => ?_)
  refine lv_iload_n hx hb d_J6_bitCount_0f7a4_34 rfl (lv_at hl 0 rfl) ?_
  refine lv_iload_n hx hb d_J6_bitCount_0f7a4_35 rfl (lv_at hl 0 rfl) ?_
  refine lv_bipush (v := (8 : Int32)) hx hb d_J6_bitCount_0f7a4_36 (by decide) ?_
  refine lv_iushr hx hb d_J6_bitCount_0f7a4_38 rfl ?_
  refine lv_iadd hx hb d_J6_bitCount_0f7a4_39 ?_
  refine lv_istore_n (lv' := [(0, .int ((((((a0 - ((a0.toUInt32 >>> ((1 : Int32).toUInt32 &&& Int32.toUInt32 31)).toInt32 &&& (1431655765 : Int32))) &&& (858993459 : Int32)) + (((a0 - ((a0.toUInt32 >>> ((1 : Int32).toUInt32 &&& Int32.toUInt32 31)).toInt32 &&& (1431655765 : Int32))).toUInt32 >>> ((2 : Int32).toUInt32 &&& Int32.toUInt32 31)).toInt32 &&& (858993459 : Int32))) + ((((a0 - ((a0.toUInt32 >>> ((1 : Int32).toUInt32 &&& Int32.toUInt32 31)).toInt32 &&& (1431655765 : Int32))) &&& (858993459 : Int32)) + (((a0 - ((a0.toUInt32 >>> ((1 : Int32).toUInt32 &&& Int32.toUInt32 31)).toInt32 &&& (1431655765 : Int32))).toUInt32 >>> ((2 : Int32).toUInt32 &&& Int32.toUInt32 31)).toInt32 &&& (858993459 : Int32))).toUInt32 >>> ((4 : Int32).toUInt32 &&& Int32.toUInt32 31)).toInt32) &&& (252645135 : Int32)) + ((((((a0 - ((a0.toUInt32 >>> ((1 : Int32).toUInt32 &&& Int32.toUInt32 31)).toInt32 &&& (1431655765 : Int32))) &&& (858993459 : Int32)) + (((a0 - ((a0.toUInt32 >>> ((1 : Int32).toUInt32 &&& Int32.toUInt32 31)).toInt32 &&& (1431655765 : Int32))).toUInt32 >>> ((2 : Int32).toUInt32 &&& Int32.toUInt32 31)).toInt32 &&& (858993459 : Int32))) + ((((a0 - ((a0.toUInt32 >>> ((1 : Int32).toUInt32 &&& Int32.toUInt32 31)).toInt32 &&& (1431655765 : Int32))) &&& (858993459 : Int32)) + (((a0 - ((a0.toUInt32 >>> ((1 : Int32).toUInt32 &&& Int32.toUInt32 31)).toInt32 &&& (1431655765 : Int32))).toUInt32 >>> ((2 : Int32).toUInt32 &&& Int32.toUInt32 31)).toInt32 &&& (858993459 : Int32))).toUInt32 >>> ((4 : Int32).toUInt32 &&& Int32.toUInt32 31)).toInt32) &&& (252645135 : Int32)).toUInt32 >>> ((8 : Int32).toUInt32 &&& Int32.toUInt32 31)).toInt32))]) hx hb d_J6_bitCount_0f7a4_40 rfl hl (Nat.le_of_ble_eq_true rfl) rfl (fun ls hl => ?_)
  refine lv_iload_n hx hb d_J6_bitCount_0f7a4_41 rfl (lv_at hl 0 rfl) ?_
  refine lv_iload_n hx hb d_J6_bitCount_0f7a4_42 rfl (lv_at hl 0 rfl) ?_
  refine lv_bipush (v := (16 : Int32)) hx hb d_J6_bitCount_0f7a4_43 (by decide) ?_
  refine lv_iushr hx hb d_J6_bitCount_0f7a4_45 rfl ?_
  refine lv_iadd hx hb d_J6_bitCount_0f7a4_46 ?_
  refine lv_istore_n (lv' := [(0, .int (((((((a0 - ((a0.toUInt32 >>> ((1 : Int32).toUInt32 &&& Int32.toUInt32 31)).toInt32 &&& (1431655765 : Int32))) &&& (858993459 : Int32)) + (((a0 - ((a0.toUInt32 >>> ((1 : Int32).toUInt32 &&& Int32.toUInt32 31)).toInt32 &&& (1431655765 : Int32))).toUInt32 >>> ((2 : Int32).toUInt32 &&& Int32.toUInt32 31)).toInt32 &&& (858993459 : Int32))) + ((((a0 - ((a0.toUInt32 >>> ((1 : Int32).toUInt32 &&& Int32.toUInt32 31)).toInt32 &&& (1431655765 : Int32))) &&& (858993459 : Int32)) + (((a0 - ((a0.toUInt32 >>> ((1 : Int32).toUInt32 &&& Int32.toUInt32 31)).toInt32 &&& (1431655765 : Int32))).toUInt32 >>> ((2 : Int32).toUInt32 &&& Int32.toUInt32 31)).toInt32 &&& (858993459 : Int32))).toUInt32 >>> ((4 : Int32).toUInt32 &&& Int32.toUInt32 31)).toInt32) &&& (252645135 : Int32)) + ((((((a0 - ((a0.toUInt32 >>> ((1 : Int32).toUInt32 &&& Int32.toUInt32 31)).toInt32 &&& (1431655765 : Int32))) &&& (858993459 : Int32)) + (((a0 - ((a0.toUInt32 >>> ((1 : Int32).toUInt32 &&& Int32.toUInt32 31)).toInt32 &&& (1431655765 : Int32))).toUInt32 >>> ((2 : Int32).toUInt32 &&& Int32.toUInt32 31)).toInt32 &&& (858993459 : Int32))) + ((((a0 - ((a0.toUInt32 >>> ((1 : Int32).toUInt32 &&& Int32.toUInt32 31)).toInt32 &&& (1431655765 : Int32))) &&& (858993459 : Int32)) + (((a0 - ((a0.toUInt32 >>> ((1 : Int32).toUInt32 &&& Int32.toUInt32 31)).toInt32 &&& (1431655765 : Int32))).toUInt32 >>> ((2 : Int32).toUInt32 &&& Int32.toUInt32 31)).toInt32 &&& (858993459 : Int32))).toUInt32 >>> ((4 : Int32).toUInt32 &&& Int32.toUInt32 31)).toInt32) &&& (252645135 : Int32)).toUInt32 >>> ((8 : Int32).toUInt32 &&& Int32.toUInt32 31)).toInt32) + (((((((a0 - ((a0.toUInt32 >>> ((1 : Int32).toUInt32 &&& Int32.toUInt32 31)).toInt32 &&& (1431655765 : Int32))) &&& (858993459 : Int32)) + (((a0 - ((a0.toUInt32 >>> ((1 : Int32).toUInt32 &&& Int32.toUInt32 31)).toInt32 &&& (1431655765 : Int32))).toUInt32 >>> ((2 : Int32).toUInt32 &&& Int32.toUInt32 31)).toInt32 &&& (858993459 : Int32))) + ((((a0 - ((a0.toUInt32 >>> ((1 : Int32).toUInt32 &&& Int32.toUInt32 31)).toInt32 &&& (1431655765 : Int32))) &&& (858993459 : Int32)) + (((a0 - ((a0.toUInt32 >>> ((1 : Int32).toUInt32 &&& Int32.toUInt32 31)).toInt32 &&& (1431655765 : Int32))).toUInt32 >>> ((2 : Int32).toUInt32 &&& Int32.toUInt32 31)).toInt32 &&& (858993459 : Int32))).toUInt32 >>> ((4 : Int32).toUInt32 &&& Int32.toUInt32 31)).toInt32) &&& (252645135 : Int32)) + ((((((a0 - ((a0.toUInt32 >>> ((1 : Int32).toUInt32 &&& Int32.toUInt32 31)).toInt32 &&& (1431655765 : Int32))) &&& (858993459 : Int32)) + (((a0 - ((a0.toUInt32 >>> ((1 : Int32).toUInt32 &&& Int32.toUInt32 31)).toInt32 &&& (1431655765 : Int32))).toUInt32 >>> ((2 : Int32).toUInt32 &&& Int32.toUInt32 31)).toInt32 &&& (858993459 : Int32))) + ((((a0 - ((a0.toUInt32 >>> ((1 : Int32).toUInt32 &&& Int32.toUInt32 31)).toInt32 &&& (1431655765 : Int32))) &&& (858993459 : Int32)) + (((a0 - ((a0.toUInt32 >>> ((1 : Int32).toUInt32 &&& Int32.toUInt32 31)).toInt32 &&& (1431655765 : Int32))).toUInt32 >>> ((2 : Int32).toUInt32 &&& Int32.toUInt32 31)).toInt32 &&& (858993459 : Int32))).toUInt32 >>> ((4 : Int32).toUInt32 &&& Int32.toUInt32 31)).toInt32) &&& (252645135 : Int32)).toUInt32 >>> ((8 : Int32).toUInt32 &&& Int32.toUInt32 31)).toInt32).toUInt32 >>> ((16 : Int32).toUInt32 &&& Int32.toUInt32 31)).toInt32))]) hx hb d_J6_bitCount_0f7a4_47 rfl hl (Nat.le_of_ble_eq_true rfl) rfl (fun ls hl => ?_)
  refine lv_iload_n hx hb d_J6_bitCount_0f7a4_48 rfl (lv_at hl 0 rfl) ?_
  refine lv_bipush (v := (63 : Int32)) hx hb d_J6_bitCount_0f7a4_49 (by decide) ?_
  refine lv_iand hx hb d_J6_bitCount_0f7a4_51 ?_
  obtain rfl := Option.some.inj h
  subst hQ
  exact r_iret X hr hlk hw d_J6_bitCount_0f7a4_52
abbrev yX12_kinOf : MethodName := ⟨"OysterBedsModel", "kinOf", "(I)I"⟩
theorem mwX12_kinOf : MW yX12_kinOf prog_14_method_15_code 4 (some .int) 1 := ⟨wd_1271, wd_10, by decide +kernel⟩
theorem d_X12_kinOf_0 : decode prog_14_method_15_code 0 = .ok (.iconst 0, 1) := by decide +kernel
theorem d_X12_kinOf_1 : decode prog_14_method_15_code 1 = .ok (.istore_n 2, 1) := by decide +kernel
theorem d_X12_kinOf_2 : decode prog_14_method_15_code 2 = .ok (.iconst 0, 1) := by decide +kernel
theorem d_X12_kinOf_3 : decode prog_14_method_15_code 3 = .ok (.istore_n 3, 1) := by decide +kernel
theorem d_X12_kinOf_4 : decode prog_14_method_15_code 4 = .ok (.iload_n 3, 1) := by decide +kernel
theorem d_X12_kinOf_5 : decode prog_14_method_15_code 5 = .ok (.aload_n 0, 1) := by decide +kernel
theorem d_X12_kinOf_6 : decode prog_14_method_15_code 6 = .ok (.getfield 102, 3) := by decide +kernel
theorem d_X12_kinOf_9 : decode prog_14_method_15_code 9 = .ok (.if_icmp .ge 29, 3) := by decide +kernel
theorem d_X12_kinOf_12 : decode prog_14_method_15_code 12 = .ok (.iload_n 2, 1) := by decide +kernel
theorem d_X12_kinOf_13 : decode prog_14_method_15_code 13 = .ok (.aload_n 0, 1) := by decide +kernel
theorem d_X12_kinOf_14 : decode prog_14_method_15_code 14 = .ok (.getfield 13, 3) := by decide +kernel
theorem d_X12_kinOf_17 : decode prog_14_method_15_code 17 = .ok (.iload_n 3, 1) := by decide +kernel
theorem d_X12_kinOf_18 : decode prog_14_method_15_code 18 = .ok (.iaload, 1) := by decide +kernel
theorem d_X12_kinOf_19 : decode prog_14_method_15_code 19 = .ok (.iload_n 1, 1) := by decide +kernel
theorem d_X12_kinOf_20 : decode prog_14_method_15_code 20 = .ok (.if_icmp .ne 9, 3) := by decide +kernel
theorem d_X12_kinOf_23 : decode prog_14_method_15_code 23 = .ok (.iconst 1, 1) := by decide +kernel
theorem d_X12_kinOf_24 : decode prog_14_method_15_code 24 = .ok (.iload_n 3, 1) := by decide +kernel
theorem d_X12_kinOf_25 : decode prog_14_method_15_code 25 = .ok (.ishl, 1) := by decide +kernel
theorem d_X12_kinOf_26 : decode prog_14_method_15_code 26 = .ok (.goto 4, 3) := by decide +kernel
theorem d_X12_kinOf_29 : decode prog_14_method_15_code 29 = .ok (.iconst 0, 1) := by decide +kernel
theorem d_X12_kinOf_30 : decode prog_14_method_15_code 30 = .ok (.ior, 1) := by decide +kernel
theorem d_X12_kinOf_31 : decode prog_14_method_15_code 31 = .ok (.istore_n 2, 1) := by decide +kernel
theorem d_X12_kinOf_32 : decode prog_14_method_15_code 32 = .ok (.iinc 3 1, 3) := by decide +kernel
theorem d_X12_kinOf_35 : decode prog_14_method_15_code 35 = .ok (.goto (-31), 3) := by decide +kernel
theorem d_X12_kinOf_38 : decode prog_14_method_15_code 38 = .ok (.iload_n 2, 1) := by decide +kernel
theorem d_X12_kinOf_39 : decode prog_14_method_15_code 39 = .ok (.ireturn, 1) := by decide +kernel
def f_X12_kinOf_j30_4 (τ : St) (x1 : Int32) (x3 : Int32) (s0 : Int32) (s1 : Int32) : Option ((Int32 × Int32) ⊕ (Int32)) := some (.inl ((s0 ||| s1), (x3 + (1 : Int32))))
def f_X12_kinOf_s4 (τ : St) (y1 : Int32) (x2 : Int32) (x3 : Int32) : Option ((Int32 × Int32) ⊕ (Int32)) := (if (cF τ 300 3) ≤ x3 then some (.inr x2) else gd (inb x3 8) (f_X12_kinOf_j30_4 τ y1 x3 x2 (if (cA τ 305 x3.toNatClampNeg) = y1 then ((1 : Int32) <<< (x3 &&& 31)) else (0 : Int32))))
def f_X12_kinOf (σ : St) (a1 : Int32) : Option (Int32) := (iter (fun z => f_X12_kinOf_s4 σ a1 z.1 z.2) FU ((0 : Int32), (0 : Int32))).bind (fun z2 => some z2)
theorem c_X12_kinOf {l : Launch} {G : gT} {χ σ : St} {a1 : Int32} {q : Int32} (h : f_X12_kinOf σ a1 = some q) : Ct l G yX12_kinOf prog_14_method_15_code 4 (some .int) 0 0 [.ref (ga G 300), .int a1] χ σ (some (.int q)) χ σ := by
  refine Ct.of (by decide) (Nat.le_of_ble_eq_true rfl) ?_
  intro p e s m args below meth c Q X hr hlk hQ
  have hx := X.1
  have hb := X.2.1
  have j30_4 : ∀ (τ : St) (x1 : Int32) (x3 : Int32) (s0 : Int32) (s1 : Int32) (o : (Int32 × Int32) ⊕ (Int32)), f_X12_kinOf_j30_4 τ x1 x3 s0 s1 = some o → Sum.elim (fun z : Int32 × Int32 => Wat p l e (rmk 0 0) s m args below meth c Q G 4 4 [] [(2, .int z.1), (3, .int z.2), (0, .ref (ga G 300)), (1, .int x1)] χ τ) (fun z : Int32 => Wat p l e (rmk 0 0) s m args below meth c Q G 4 38 [] [(2, .int z)] χ τ) o → Wat p l e (rmk 0 0) s m args below meth c Q G 4 30 [.int s1, .int s0] [(0, .ref (ga G 300)), (1, .int x1), (3, .int x3)] χ τ := by
    intro τ x1 x3 s0 s1 o h hk H locs ls hw hl
    unfold f_X12_kinOf_j30_4 at h
    refine lv_ior hx hb d_X12_kinOf_30 ?_
    refine lv_istore_n (lv' := [(2, .int (s0 ||| s1)), (0, .ref (ga G 300)), (1, .int x1), (3, .int x3)]) hx hb d_X12_kinOf_31 rfl hl (Nat.le_of_ble_eq_true rfl) rfl (fun ls hl => ?_)
    refine lv_iinc (v := (x3 + (1 : Int32))) (k := 3) (lv' := [(3, .int (x3 + (1 : Int32))), (2, .int (s0 ||| s1)), (0, .ref (ga G 300)), (1, .int x1)]) hx hb d_X12_kinOf_32 hl rfl (by rfl) (Nat.le_of_ble_eq_true rfl) rfl (fun ls hl => ?_)
    refine lv_goto (tgt := 4) hx hb d_X12_kinOf_35 (by decide) ?_
    obtain rfl := Option.some.inj h
    dsimp only [Sum.elim_inl] at hk
    exact hk _ _ _ hw (lv_sub hl [1, 0, 2, 3] rfl)
  have b4 : ∀ (τ : St) (y1 : Int32) (x2 : Int32) (x3 : Int32) (o : (Int32 × Int32) ⊕ (Int32)), f_X12_kinOf_s4 τ y1 x2 x3 = some o → Sum.elim (fun z : Int32 × Int32 => Wat p l e (rmk 0 0) s m args below meth c Q G 4 4 [] [(2, .int z.1), (3, .int z.2), (0, .ref (ga G 300)), (1, .int y1)] χ τ) (fun z : Int32 => Wat p l e (rmk 0 0) s m args below meth c Q G 4 38 [] [(2, .int z)] χ τ) o → Wat p l e (rmk 0 0) s m args below meth c Q G 4 4 [] [(2, .int x2), (3, .int x3), (0, .ref (ga G 300)), (1, .int y1)] χ τ := by
    intro τ y1 x2 x3 o h hk H locs ls hw hl
    unfold f_X12_kinOf_s4 at h
    refine lv_iload_n hx hb d_X12_kinOf_4 rfl (lv_at hl 1 rfl) ?_
    refine lv_aload_n hx hb d_X12_kinOf_5 rfl (lv_at hl 2 rfl) ?_
    refine m_geti (j := 3) X hw ct8 o_300 (Nat.le_of_ble_eq_true rfl) rfl (Nat.le_of_ble_eq_true rfl) wd_959 d_X12_kinOf_6 ?_
    refine lv_icmp_ge (tgt := 38) hx hb d_X12_kinOf_9 (by decide) (fun hc => ?_) (fun hc => ?_)
    · have h := ite_t h hc
      obtain rfl := Option.some.inj h
      dsimp only [Sum.elim_inr] at hk
      exact hk _ _ _ hw (lv_sub hl [0] rfl)
    · have h := ite_f h hc
      refine lv_iload_n hx hb d_X12_kinOf_12 rfl (lv_at hl 0 rfl) ?_
      refine lv_aload_n hx hb d_X12_kinOf_13 rfl (lv_at hl 2 rfl) ?_
      refine r_getr (j := 5) X hw ct8 o_300 rfl (Nat.le_of_ble_eq_true rfl) (q := 305) rfl wd_961 d_X12_kinOf_14 ?_
      refine lv_iload_n hx hb d_X12_kinOf_17 rfl (lv_at hl 1 rfl) ?_
      obtain ⟨hi1, h⟩ := gd_some h
      refine m_iald X hw o_305 (Nat.le_of_ble_eq_true rfl) hi1 d_X12_kinOf_18 ?_
      refine lv_iload_n hx hb d_X12_kinOf_19 rfl (lv_at hl 3 rfl) ?_
      refine lv_icmp_ne (tgt := 29) hx hb d_X12_kinOf_20 (by decide) (fun hc => ?_) (fun hc => ?_)
      · simp only [if_neg hc] at h
        refine lv_iconst (v := (0 : Int32)) hx hb d_X12_kinOf_29 (by decide) ?_
        exact j30_4 τ y1 x3 x2 (0 : Int32) o h hk _ _ _ hw (lv_sub hl [2, 3, 1] rfl)
      · simp only [if_pos hc] at h
        refine lv_iconst (v := (1 : Int32)) hx hb d_X12_kinOf_23 (by decide) ?_
        refine lv_iload_n hx hb d_X12_kinOf_24 rfl (lv_at hl 1 rfl) ?_
        refine lv_ishl hx hb d_X12_kinOf_25 ?_
        refine lv_goto (tgt := 30) hx hb d_X12_kinOf_26 (by decide) ?_
        exact j30_4 τ y1 x3 x2 ((1 : Int32) <<< (x3 &&& 31)) o h hk _ _ _ hw (lv_sub hl [2, 3, 1] rfl)
  intro H locs ls hw hl
  have hl : lv_has ls 4 [(0, .ref (ga G 300)), (1, .int a1)] := hl
  unfold f_X12_kinOf at h
  refine lv_iconst (v := (0 : Int32)) hx hb d_X12_kinOf_0 (by decide) ?_
  refine lv_istore_n (lv' := [(2, .int (0 : Int32)), (0, .ref (ga G 300)), (1, .int a1)]) hx hb d_X12_kinOf_1 rfl hl (Nat.le_of_ble_eq_true rfl) rfl (fun ls hl => ?_)
  refine lv_iconst (v := (0 : Int32)) hx hb d_X12_kinOf_2 (by decide) ?_
  refine lv_istore_n (lv' := [(3, .int (0 : Int32)), (2, .int (0 : Int32)), (0, .ref (ga G 300)), (1, .int a1)]) hx hb d_X12_kinOf_3 rfl hl (Nat.le_of_ble_eq_true rfl) rfl (fun ls hl => ?_)
  obtain ⟨z2, e3, h⟩ := bd_some h
  refine iter_w (Wh := fun z : Int32 × Int32 => Wat p l e (rmk 0 0) s m args below meth c Q G 4 4 [] [(2, .int z.1), (3, .int z.2), (0, .ref (ga G 300)), (1, .int a1)] χ σ) (K := fun z : Int32 => Wat p l e (rmk 0 0) s m args below meth c Q G 4 38 [] [(2, .int z)] χ σ) (fun z o h1 h2 => b4 σ a1 z.1 z.2 o h1 h2) FU _ _ e3 ?_ _ _ _ hw (lv_sub hl [1, 0, 2, 3] rfl)
  intro H locs ls hw hl
  refine lv_iload_n hx hb d_X12_kinOf_38 rfl (lv_at hl 0 rfl) ?_
  obtain rfl := Option.some.inj h
  subst hQ
  exact r_iret X hr hlk hw d_X12_kinOf_39
abbrev yX12_worked : MethodName := ⟨"OysterBedsModel", "worked", "(III)I"⟩
theorem mwX12_worked : MW yX12_worked prog_14_method_36_code 3 (some .int) 3 := ⟨wd_1279, wd_10, by decide +kernel⟩
theorem d_X12_worked_0 : decode prog_14_method_36_code 0 = .ok (.iload_n 0, 1) := by decide +kernel
theorem d_X12_worked_1 : decode prog_14_method_36_code 1 = .ok (.tableswitch 93 0 5 #[39, 53, 67, 81, 85, 89], 39) := by decide +kernel
theorem d_X12_worked_40 : decode prog_14_method_36_code 40 = .ok (.iload_n 1, 1) := by decide +kernel
theorem d_X12_worked_41 : decode prog_14_method_36_code 41 = .ok (.iload_n 2, 1) := by decide +kernel
theorem d_X12_worked_42 : decode prog_14_method_36_code 42 = .ok (.if_icmp .ge 7, 3) := by decide +kernel
theorem d_X12_worked_45 : decode prog_14_method_36_code 45 = .ok (.iconst 1, 1) := by decide +kernel
theorem d_X12_worked_46 : decode prog_14_method_36_code 46 = .ok (.goto 4, 3) := by decide +kernel
theorem d_X12_worked_49 : decode prog_14_method_36_code 49 = .ok (.iconst 0, 1) := by decide +kernel
theorem d_X12_worked_50 : decode prog_14_method_36_code 50 = .ok (.invokestatic 135, 3) := by decide +kernel
theorem d_X12_worked_53 : decode prog_14_method_36_code 53 = .ok (.ireturn, 1) := by decide +kernel
theorem d_X12_worked_54 : decode prog_14_method_36_code 54 = .ok (.iload_n 1, 1) := by decide +kernel
theorem d_X12_worked_55 : decode prog_14_method_36_code 55 = .ok (.iload_n 2, 1) := by decide +kernel
theorem d_X12_worked_56 : decode prog_14_method_36_code 56 = .ok (.if_icmp .le 7, 3) := by decide +kernel
theorem d_X12_worked_59 : decode prog_14_method_36_code 59 = .ok (.iconst 1, 1) := by decide +kernel
theorem d_X12_worked_60 : decode prog_14_method_36_code 60 = .ok (.goto 4, 3) := by decide +kernel
theorem d_X12_worked_63 : decode prog_14_method_36_code 63 = .ok (.iconst 0, 1) := by decide +kernel
theorem d_X12_worked_64 : decode prog_14_method_36_code 64 = .ok (.invokestatic 135, 3) := by decide +kernel
theorem d_X12_worked_67 : decode prog_14_method_36_code 67 = .ok (.ireturn, 1) := by decide +kernel
theorem d_X12_worked_68 : decode prog_14_method_36_code 68 = .ok (.iload_n 1, 1) := by decide +kernel
theorem d_X12_worked_69 : decode prog_14_method_36_code 69 = .ok (.iload_n 2, 1) := by decide +kernel
theorem d_X12_worked_70 : decode prog_14_method_36_code 70 = .ok (.if_icmp .ne 7, 3) := by decide +kernel
theorem d_X12_worked_73 : decode prog_14_method_36_code 73 = .ok (.iconst 1, 1) := by decide +kernel
theorem d_X12_worked_74 : decode prog_14_method_36_code 74 = .ok (.goto 4, 3) := by decide +kernel
theorem d_X12_worked_77 : decode prog_14_method_36_code 77 = .ok (.iconst 0, 1) := by decide +kernel
theorem d_X12_worked_78 : decode prog_14_method_36_code 78 = .ok (.invokestatic 135, 3) := by decide +kernel
theorem d_X12_worked_81 : decode prog_14_method_36_code 81 = .ok (.ireturn, 1) := by decide +kernel
theorem d_X12_worked_82 : decode prog_14_method_36_code 82 = .ok (.iload_n 1, 1) := by decide +kernel
theorem d_X12_worked_83 : decode prog_14_method_36_code 83 = .ok (.iload_n 2, 1) := by decide +kernel
theorem d_X12_worked_84 : decode prog_14_method_36_code 84 = .ok (.iadd, 1) := by decide +kernel
theorem d_X12_worked_85 : decode prog_14_method_36_code 85 = .ok (.ireturn, 1) := by decide +kernel
theorem d_X12_worked_86 : decode prog_14_method_36_code 86 = .ok (.iload_n 1, 1) := by decide +kernel
theorem d_X12_worked_87 : decode prog_14_method_36_code 87 = .ok (.iload_n 2, 1) := by decide +kernel
theorem d_X12_worked_88 : decode prog_14_method_36_code 88 = .ok (.isub, 1) := by decide +kernel
theorem d_X12_worked_89 : decode prog_14_method_36_code 89 = .ok (.ireturn, 1) := by decide +kernel
theorem d_X12_worked_90 : decode prog_14_method_36_code 90 = .ok (.iload_n 1, 1) := by decide +kernel
theorem d_X12_worked_91 : decode prog_14_method_36_code 91 = .ok (.iload_n 2, 1) := by decide +kernel
theorem d_X12_worked_92 : decode prog_14_method_36_code 92 = .ok (.imul, 1) := by decide +kernel
theorem d_X12_worked_93 : decode prog_14_method_36_code 93 = .ok (.ireturn, 1) := by decide +kernel
theorem d_X12_worked_94 : decode prog_14_method_36_code 94 = .ok (.iload_n 2, 1) := by decide +kernel
theorem d_X12_worked_95 : decode prog_14_method_36_code 95 = .ok (.ifCond .ne 7, 3) := by decide +kernel
theorem d_X12_worked_98 : decode prog_14_method_36_code 98 = .ok (.iconst 0, 1) := by decide +kernel
theorem d_X12_worked_99 : decode prog_14_method_36_code 99 = .ok (.goto 6, 3) := by decide +kernel
theorem d_X12_worked_102 : decode prog_14_method_36_code 102 = .ok (.iload_n 1, 1) := by decide +kernel
theorem d_X12_worked_103 : decode prog_14_method_36_code 103 = .ok (.iload_n 2, 1) := by decide +kernel
theorem d_X12_worked_104 : decode prog_14_method_36_code 104 = .ok (.idiv, 1) := by decide +kernel
theorem d_X12_worked_105 : decode prog_14_method_36_code 105 = .ok (.ireturn, 1) := by decide +kernel
def f_X12_worked_j50 (s0 : Int32) : Option (Int32) := (f_X12_flag s0).bind (fun q1 => some q1)
def f_X12_worked_j64 (s0 : Int32) : Option (Int32) := (f_X12_flag s0).bind (fun q3 => some q3)
def f_X12_worked_j78 (s0 : Int32) : Option (Int32) := (f_X12_flag s0).bind (fun q5 => some q5)
def f_X12_worked (a0 : Int32) (a1 : Int32) (a2 : Int32) : Option (Int32) := (if a0 = (0 : Int32) then f_X12_worked_j50 (if a2 ≤ a1 then (0 : Int32) else (1 : Int32)) else if a0 = (1 : Int32) then f_X12_worked_j64 (if a1 ≤ a2 then (0 : Int32) else (1 : Int32)) else if a0 = (2 : Int32) then f_X12_worked_j78 (if a1 = a2 then (1 : Int32) else (0 : Int32)) else if a0 = (3 : Int32) then some (a1 + a2) else if a0 = (4 : Int32) then some (a1 - a2) else if a0 = (5 : Int32) then some (a1 * a2) else (if a2 = 0 then some (0 : Int32) else gd (nz a2) (some (a1 / a2))))
theorem c_X12_worked {l : Launch} {G : gT} {χ σ : St} {a0 : Int32} {a1 : Int32} {a2 : Int32} {q : Int32} (h : f_X12_worked a0 a1 a2 = some q) : Ct l G yX12_worked prog_14_method_36_code 3 (some .int) 1 20 [.int a0, .int a1, .int a2] χ σ (some (.int q)) χ σ := by
  refine Ct.of (by decide) (Nat.le_of_ble_eq_true rfl) ?_
  intro p e s m args below meth c Q X hr hlk hQ
  have hx := X.1
  have hb := X.2.1
  have j50 : ∀ (s0 : Int32), f_X12_worked_j50 s0 = some q → Wat p l e (rmk 1 20) s m args below meth c Q G 3 50 [.int s0] [] χ σ := by
    intro s0 h H locs ls hw hl
    unfold f_X12_worked_j50 at h
    obtain ⟨q1, e2, h⟩ := bd_some h
    refine r_callS (As := [.int s0]) (rest := []) (st' := [.int q1]) X hw hl mwX12_flag wd_1180 wd_1179 (c_X12_flag e2) rfl ⟨Nat.le_of_ble_eq_true rfl, Nat.le_of_ble_eq_true rfl⟩ ⟨Nat.le_refl _, Nat.le_refl _⟩ rfl rfl (Nat.le_of_ble_eq_true rfl) d_X12_worked_50 (fun H locs hw => ?_)
    obtain rfl := Option.some.inj h
    subst hQ
    exact r_iret X hr hlk hw d_X12_worked_53
  have j64 : ∀ (s0 : Int32), f_X12_worked_j64 s0 = some q → Wat p l e (rmk 1 20) s m args below meth c Q G 3 64 [.int s0] [] χ σ := by
    intro s0 h H locs ls hw hl
    unfold f_X12_worked_j64 at h
    obtain ⟨q3, e4, h⟩ := bd_some h
    refine r_callS (As := [.int s0]) (rest := []) (st' := [.int q3]) X hw hl mwX12_flag wd_1180 wd_1179 (c_X12_flag e4) rfl ⟨Nat.le_of_ble_eq_true rfl, Nat.le_of_ble_eq_true rfl⟩ ⟨Nat.le_refl _, Nat.le_refl _⟩ rfl rfl (Nat.le_of_ble_eq_true rfl) d_X12_worked_64 (fun H locs hw => ?_)
    obtain rfl := Option.some.inj h
    subst hQ
    exact r_iret X hr hlk hw d_X12_worked_67
  have j78 : ∀ (s0 : Int32), f_X12_worked_j78 s0 = some q → Wat p l e (rmk 1 20) s m args below meth c Q G 3 78 [.int s0] [] χ σ := by
    intro s0 h H locs ls hw hl
    unfold f_X12_worked_j78 at h
    obtain ⟨q5, e6, h⟩ := bd_some h
    refine r_callS (As := [.int s0]) (rest := []) (st' := [.int q5]) X hw hl mwX12_flag wd_1180 wd_1179 (c_X12_flag e6) rfl ⟨Nat.le_of_ble_eq_true rfl, Nat.le_of_ble_eq_true rfl⟩ ⟨Nat.le_refl _, Nat.le_refl _⟩ rfl rfl (Nat.le_of_ble_eq_true rfl) d_X12_worked_78 (fun H locs hw => ?_)
    obtain rfl := Option.some.inj h
    subst hQ
    exact r_iret X hr hlk hw d_X12_worked_81
  intro H locs ls hw hl
  have hl : lv_has ls 3 [(0, .int a0), (1, .int a1), (2, .int a2)] := hl
  unfold f_X12_worked at h
  refine lv_iload_n hx hb d_X12_worked_0 rfl (lv_at hl 0 rfl) ?_
  by_cases hc0 : a0 = (0 : Int32)
  · have h := ite_t h hc0
    refine lv_tableIn (tgt := 40) hx hb d_X12_worked_1 (by rw [hc0]; decide) (by rw [hc0]; decide) (by rw [hc0]; rfl) (by decide) ?_
    refine lv_iload_n hx hb d_X12_worked_40 rfl (lv_at hl 1 rfl) ?_
    refine lv_iload_n hx hb d_X12_worked_41 rfl (lv_at hl 2 rfl) ?_
    refine lv_icmp_ge (tgt := 49) hx hb d_X12_worked_42 (by decide) (fun hc => ?_) (fun hc => ?_)
    · simp only [if_pos hc] at h
      refine lv_iconst (v := (0 : Int32)) hx hb d_X12_worked_49 (by decide) ?_
      exact j50 (0 : Int32) h _ _ _ hw (lv_sub hl [] rfl)
    · simp only [if_neg hc] at h
      refine lv_iconst (v := (1 : Int32)) hx hb d_X12_worked_45 (by decide) ?_
      refine lv_goto (tgt := 50) hx hb d_X12_worked_46 (by decide) ?_
      exact j50 (1 : Int32) h _ _ _ hw (lv_sub hl [] rfl)
  have h := ite_f h hc0
  by_cases hc1 : a0 = (1 : Int32)
  · have h := ite_t h hc1
    refine lv_tableIn (tgt := 54) hx hb d_X12_worked_1 (by rw [hc1]; decide) (by rw [hc1]; decide) (by rw [hc1]; rfl) (by decide) ?_
    refine lv_iload_n hx hb d_X12_worked_54 rfl (lv_at hl 1 rfl) ?_
    refine lv_iload_n hx hb d_X12_worked_55 rfl (lv_at hl 2 rfl) ?_
    refine lv_icmp_le (tgt := 63) hx hb d_X12_worked_56 (by decide) (fun hc => ?_) (fun hc => ?_)
    · simp only [if_pos hc] at h
      refine lv_iconst (v := (0 : Int32)) hx hb d_X12_worked_63 (by decide) ?_
      exact j64 (0 : Int32) h _ _ _ hw (lv_sub hl [] rfl)
    · simp only [if_neg hc] at h
      refine lv_iconst (v := (1 : Int32)) hx hb d_X12_worked_59 (by decide) ?_
      refine lv_goto (tgt := 64) hx hb d_X12_worked_60 (by decide) ?_
      exact j64 (1 : Int32) h _ _ _ hw (lv_sub hl [] rfl)
  have h := ite_f h hc1
  by_cases hc2 : a0 = (2 : Int32)
  · have h := ite_t h hc2
    refine lv_tableIn (tgt := 68) hx hb d_X12_worked_1 (by rw [hc2]; decide) (by rw [hc2]; decide) (by rw [hc2]; rfl) (by decide) ?_
    refine lv_iload_n hx hb d_X12_worked_68 rfl (lv_at hl 1 rfl) ?_
    refine lv_iload_n hx hb d_X12_worked_69 rfl (lv_at hl 2 rfl) ?_
    refine lv_icmp_ne (tgt := 77) hx hb d_X12_worked_70 (by decide) (fun hc => ?_) (fun hc => ?_)
    · simp only [if_neg hc] at h
      refine lv_iconst (v := (0 : Int32)) hx hb d_X12_worked_77 (by decide) ?_
      exact j78 (0 : Int32) h _ _ _ hw (lv_sub hl [] rfl)
    · simp only [if_pos hc] at h
      refine lv_iconst (v := (1 : Int32)) hx hb d_X12_worked_73 (by decide) ?_
      refine lv_goto (tgt := 78) hx hb d_X12_worked_74 (by decide) ?_
      exact j78 (1 : Int32) h _ _ _ hw (lv_sub hl [] rfl)
  have h := ite_f h hc2
  by_cases hc3 : a0 = (3 : Int32)
  · have h := ite_t h hc3
    refine lv_tableIn (tgt := 82) hx hb d_X12_worked_1 (by rw [hc3]; decide) (by rw [hc3]; decide) (by rw [hc3]; rfl) (by decide) ?_
    refine lv_iload_n hx hb d_X12_worked_82 rfl (lv_at hl 1 rfl) ?_
    refine lv_iload_n hx hb d_X12_worked_83 rfl (lv_at hl 2 rfl) ?_
    refine lv_iadd hx hb d_X12_worked_84 ?_
    obtain rfl := Option.some.inj h
    subst hQ
    exact r_iret X hr hlk hw d_X12_worked_85
  have h := ite_f h hc3
  by_cases hc4 : a0 = (4 : Int32)
  · have h := ite_t h hc4
    refine lv_tableIn (tgt := 86) hx hb d_X12_worked_1 (by rw [hc4]; decide) (by rw [hc4]; decide) (by rw [hc4]; rfl) (by decide) ?_
    refine lv_iload_n hx hb d_X12_worked_86 rfl (lv_at hl 1 rfl) ?_
    refine lv_iload_n hx hb d_X12_worked_87 rfl (lv_at hl 2 rfl) ?_
    refine lv_isub hx hb d_X12_worked_88 ?_
    obtain rfl := Option.some.inj h
    subst hQ
    exact r_iret X hr hlk hw d_X12_worked_89
  have h := ite_f h hc4
  by_cases hc5 : a0 = (5 : Int32)
  · have h := ite_t h hc5
    refine lv_tableIn (tgt := 90) hx hb d_X12_worked_1 (by rw [hc5]; decide) (by rw [hc5]; decide) (by rw [hc5]; rfl) (by decide) ?_
    refine lv_iload_n hx hb d_X12_worked_90 rfl (lv_at hl 1 rfl) ?_
    refine lv_iload_n hx hb d_X12_worked_91 rfl (lv_at hl 2 rfl) ?_
    refine lv_imul hx hb d_X12_worked_92 ?_
    obtain rfl := Option.some.inj h
    subst hQ
    exact r_iret X hr hlk hw d_X12_worked_93
  have h := ite_f h hc5
  have hn0 := lv_neT hc0 (a := 0) (by decide)
  have hn1 := lv_neT hc1 (a := 1) (by decide)
  have hn2 := lv_neT hc2 (a := 2) (by decide)
  have hn3 := lv_neT hc3 (a := 3) (by decide)
  have hn4 := lv_neT hc4 (a := 4) (by decide)
  have hn5 := lv_neT hc5 (a := 5) (by decide)
  refine lv_tableOut (tgt := 94) hx hb d_X12_worked_1 (by omega) (by decide) ?_
  refine lv_iload_n hx hb d_X12_worked_94 rfl (lv_at hl 2 rfl) ?_
  refine lv_if_ne (tgt := 102) hx hb d_X12_worked_95 (by decide) (fun hc => ?_) (fun hc => ?_)
  · have h := ite_f h hc
    refine lv_iload_n hx hb d_X12_worked_102 rfl (lv_at hl 1 rfl) ?_
    refine lv_iload_n hx hb d_X12_worked_103 rfl (lv_at hl 2 rfl) ?_
    obtain ⟨hz7, h⟩ := gd_some h
    refine lv_idiv hx hb d_X12_worked_104 (nz_ne hz7) ?_
    obtain rfl := Option.some.inj h
    subst hQ
    exact r_iret X hr hlk hw d_X12_worked_105
  · have h := ite_t h hc
    refine lv_iconst (v := (0 : Int32)) hx hb d_X12_worked_98 (by decide) ?_
    refine lv_goto (tgt := 105) hx hb d_X12_worked_99 (by decide) ?_
    obtain rfl := Option.some.inj h
    subst hQ
    exact r_iret X hr hlk hw d_X12_worked_105
abbrev yX12_ruled : MethodName := ⟨"OysterBedsModel", "ruled", "()I"⟩
theorem mwX12_ruled : MW yX12_ruled prog_14_method_37_code 4 (some .int) 0 := ⟨wd_1276, wd_10, by decide +kernel⟩
theorem d_X12_ruled_0 : decode prog_14_method_37_code 0 = .ok (.iconst 0, 1) := by decide +kernel
theorem d_X12_ruled_1 : decode prog_14_method_37_code 1 = .ok (.istore_n 1, 1) := by decide +kernel
theorem d_X12_ruled_2 : decode prog_14_method_37_code 2 = .ok (.iconst 0, 1) := by decide +kernel
theorem d_X12_ruled_3 : decode prog_14_method_37_code 3 = .ok (.istore_n 2, 1) := by decide +kernel
theorem d_X12_ruled_4 : decode prog_14_method_37_code 4 = .ok (.iload_n 2, 1) := by decide +kernel
theorem d_X12_ruled_5 : decode prog_14_method_37_code 5 = .ok (.aload_n 0, 1) := by decide +kernel
theorem d_X12_ruled_6 : decode prog_14_method_37_code 6 = .ok (.getfield 214, 3) := by decide +kernel
theorem d_X12_ruled_9 : decode prog_14_method_37_code 9 = .ok (.if_icmp .ge 116, 3) := by decide +kernel
theorem d_X12_ruled_12 : decode prog_14_method_37_code 12 = .ok (.aload_n 0, 1) := by decide +kernel
theorem d_X12_ruled_13 : decode prog_14_method_37_code 13 = .ok (.getfield 29, 3) := by decide +kernel
theorem d_X12_ruled_16 : decode prog_14_method_37_code 16 = .ok (.iload_n 2, 1) := by decide +kernel
theorem d_X12_ruled_17 : decode prog_14_method_37_code 17 = .ok (.iaload, 1) := by decide +kernel
theorem d_X12_ruled_18 : decode prog_14_method_37_code 18 = .ok (.istore_n 3, 1) := by decide +kernel
theorem d_X12_ruled_19 : decode prog_14_method_37_code 19 = .ok (.iload_n 3, 1) := by decide +kernel
theorem d_X12_ruled_20 : decode prog_14_method_37_code 20 = .ok (.sipush 3000, 3) := by decide +kernel
theorem d_X12_ruled_23 : decode prog_14_method_37_code 23 = .ok (.if_icmp .ne 23, 3) := by decide +kernel
theorem d_X12_ruled_26 : decode prog_14_method_37_code 26 = .ok (.aload_n 0, 1) := by decide +kernel
theorem d_X12_ruled_27 : decode prog_14_method_37_code 27 = .ok (.getfield 35, 3) := by decide +kernel
theorem d_X12_ruled_30 : decode prog_14_method_37_code 30 = .ok (.iload_n 1, 1) := by decide +kernel
theorem d_X12_ruled_31 : decode prog_14_method_37_code 31 = .ok (.iconst 1, 1) := by decide +kernel
theorem d_X12_ruled_32 : decode prog_14_method_37_code 32 = .ok (.isub, 1) := by decide +kernel
theorem d_X12_ruled_33 : decode prog_14_method_37_code 33 = .ok (.aload_n 0, 1) := by decide +kernel
theorem d_X12_ruled_34 : decode prog_14_method_37_code 34 = .ok (.getfield 35, 3) := by decide +kernel
theorem d_X12_ruled_37 : decode prog_14_method_37_code 37 = .ok (.iload_n 1, 1) := by decide +kernel
theorem d_X12_ruled_38 : decode prog_14_method_37_code 38 = .ok (.iconst 1, 1) := by decide +kernel
theorem d_X12_ruled_39 : decode prog_14_method_37_code 39 = .ok (.isub, 1) := by decide +kernel
theorem d_X12_ruled_40 : decode prog_14_method_37_code 40 = .ok (.iaload, 1) := by decide +kernel
theorem d_X12_ruled_41 : decode prog_14_method_37_code 41 = .ok (.ineg, 1) := by decide +kernel
theorem d_X12_ruled_42 : decode prog_14_method_37_code 42 = .ok (.iastore, 1) := by decide +kernel
theorem d_X12_ruled_43 : decode prog_14_method_37_code 43 = .ok (.goto 76, 3) := by decide +kernel
theorem d_X12_ruled_46 : decode prog_14_method_37_code 46 = .ok (.iload_n 3, 1) := by decide +kernel
theorem d_X12_ruled_47 : decode prog_14_method_37_code 47 = .ok (.sipush 2000, 3) := by decide +kernel
theorem d_X12_ruled_50 : decode prog_14_method_37_code 50 = .ok (.if_icmp .lt 39, 3) := by decide +kernel
theorem d_X12_ruled_53 : decode prog_14_method_37_code 53 = .ok (.iinc 1 (-1), 3) := by decide +kernel
theorem d_X12_ruled_56 : decode prog_14_method_37_code 56 = .ok (.aload_n 0, 1) := by decide +kernel
theorem d_X12_ruled_57 : decode prog_14_method_37_code 57 = .ok (.getfield 35, 3) := by decide +kernel
theorem d_X12_ruled_60 : decode prog_14_method_37_code 60 = .ok (.iload_n 1, 1) := by decide +kernel
theorem d_X12_ruled_61 : decode prog_14_method_37_code 61 = .ok (.iconst 1, 1) := by decide +kernel
theorem d_X12_ruled_62 : decode prog_14_method_37_code 62 = .ok (.isub, 1) := by decide +kernel
theorem d_X12_ruled_63 : decode prog_14_method_37_code 63 = .ok (.iload_n 3, 1) := by decide +kernel
theorem d_X12_ruled_64 : decode prog_14_method_37_code 64 = .ok (.sipush 2000, 3) := by decide +kernel
theorem d_X12_ruled_67 : decode prog_14_method_37_code 67 = .ok (.isub, 1) := by decide +kernel
theorem d_X12_ruled_68 : decode prog_14_method_37_code 68 = .ok (.aload_n 0, 1) := by decide +kernel
theorem d_X12_ruled_69 : decode prog_14_method_37_code 69 = .ok (.getfield 35, 3) := by decide +kernel
theorem d_X12_ruled_72 : decode prog_14_method_37_code 72 = .ok (.iload_n 1, 1) := by decide +kernel
theorem d_X12_ruled_73 : decode prog_14_method_37_code 73 = .ok (.iconst 1, 1) := by decide +kernel
theorem d_X12_ruled_74 : decode prog_14_method_37_code 74 = .ok (.isub, 1) := by decide +kernel
theorem d_X12_ruled_75 : decode prog_14_method_37_code 75 = .ok (.iaload, 1) := by decide +kernel
theorem d_X12_ruled_76 : decode prog_14_method_37_code 76 = .ok (.aload_n 0, 1) := by decide +kernel
theorem d_X12_ruled_77 : decode prog_14_method_37_code 77 = .ok (.getfield 35, 3) := by decide +kernel
theorem d_X12_ruled_80 : decode prog_14_method_37_code 80 = .ok (.iload_n 1, 1) := by decide +kernel
theorem d_X12_ruled_81 : decode prog_14_method_37_code 81 = .ok (.iaload, 1) := by decide +kernel
theorem d_X12_ruled_82 : decode prog_14_method_37_code 82 = .ok (.invokestatic 224, 3) := by decide +kernel
theorem d_X12_ruled_85 : decode prog_14_method_37_code 85 = .ok (.iastore, 1) := by decide +kernel
theorem d_X12_ruled_86 : decode prog_14_method_37_code 86 = .ok (.goto 33, 3) := by decide +kernel
theorem d_X12_ruled_89 : decode prog_14_method_37_code 89 = .ok (.aload_n 0, 1) := by decide +kernel
theorem d_X12_ruled_90 : decode prog_14_method_37_code 90 = .ok (.getfield 35, 3) := by decide +kernel
theorem d_X12_ruled_93 : decode prog_14_method_37_code 93 = .ok (.iload_n 1, 1) := by decide +kernel
theorem d_X12_ruled_94 : decode prog_14_method_37_code 94 = .ok (.iload_n 3, 1) := by decide +kernel
theorem d_X12_ruled_95 : decode prog_14_method_37_code 95 = .ok (.sipush 1000, 3) := by decide +kernel
theorem d_X12_ruled_98 : decode prog_14_method_37_code 98 = .ok (.if_icmp .lt 16, 3) := by decide +kernel
theorem d_X12_ruled_101 : decode prog_14_method_37_code 101 = .ok (.aload_n 0, 1) := by decide +kernel
theorem d_X12_ruled_102 : decode prog_14_method_37_code 102 = .ok (.getfield 38, 3) := by decide +kernel
theorem d_X12_ruled_105 : decode prog_14_method_37_code 105 = .ok (.iload_n 3, 1) := by decide +kernel
theorem d_X12_ruled_106 : decode prog_14_method_37_code 106 = .ok (.sipush 1000, 3) := by decide +kernel
theorem d_X12_ruled_109 : decode prog_14_method_37_code 109 = .ok (.isub, 1) := by decide +kernel
theorem d_X12_ruled_110 : decode prog_14_method_37_code 110 = .ok (.iaload, 1) := by decide +kernel
theorem d_X12_ruled_111 : decode prog_14_method_37_code 111 = .ok (.goto 4, 3) := by decide +kernel
theorem d_X12_ruled_114 : decode prog_14_method_37_code 114 = .ok (.iload_n 3, 1) := by decide +kernel
theorem d_X12_ruled_115 : decode prog_14_method_37_code 115 = .ok (.iastore, 1) := by decide +kernel
theorem d_X12_ruled_116 : decode prog_14_method_37_code 116 = .ok (.iinc 1 1, 3) := by decide +kernel
theorem d_X12_ruled_119 : decode prog_14_method_37_code 119 = .ok (.iinc 2 1, 3) := by decide +kernel
theorem d_X12_ruled_122 : decode prog_14_method_37_code 122 = .ok (.goto (-118), 3) := by decide +kernel
theorem d_X12_ruled_125 : decode prog_14_method_37_code 125 = .ok (.aload_n 0, 1) := by decide +kernel
theorem d_X12_ruled_126 : decode prog_14_method_37_code 126 = .ok (.getfield 214, 3) := by decide +kernel
theorem d_X12_ruled_129 : decode prog_14_method_37_code 129 = .ok (.ifCond .ne 29, 3) := by decide +kernel
theorem d_X12_ruled_132 : decode prog_14_method_37_code 132 = .ok (.aload_n 0, 1) := by decide +kernel
theorem d_X12_ruled_133 : decode prog_14_method_37_code 133 = .ok (.getfield 38, 3) := by decide +kernel
theorem d_X12_ruled_136 : decode prog_14_method_37_code 136 = .ok (.iconst 1, 1) := by decide +kernel
theorem d_X12_ruled_137 : decode prog_14_method_37_code 137 = .ok (.iaload, 1) := by decide +kernel
theorem d_X12_ruled_138 : decode prog_14_method_37_code 138 = .ok (.bipush 9, 2) := by decide +kernel
theorem d_X12_ruled_140 : decode prog_14_method_37_code 140 = .ok (.imul, 1) := by decide +kernel
theorem d_X12_ruled_141 : decode prog_14_method_37_code 141 = .ok (.aload_n 0, 1) := by decide +kernel
theorem d_X12_ruled_142 : decode prog_14_method_37_code 142 = .ok (.getfield 38, 3) := by decide +kernel
theorem d_X12_ruled_145 : decode prog_14_method_37_code 145 = .ok (.iconst 0, 1) := by decide +kernel
theorem d_X12_ruled_146 : decode prog_14_method_37_code 146 = .ok (.iaload, 1) := by decide +kernel
theorem d_X12_ruled_147 : decode prog_14_method_37_code 147 = .ok (.isub, 1) := by decide +kernel
theorem d_X12_ruled_148 : decode prog_14_method_37_code 148 = .ok (.aload_n 0, 1) := by decide +kernel
theorem d_X12_ruled_149 : decode prog_14_method_37_code 149 = .ok (.getfield 38, 3) := by decide +kernel
theorem d_X12_ruled_152 : decode prog_14_method_37_code 152 = .ok (.iconst 3, 1) := by decide +kernel
theorem d_X12_ruled_153 : decode prog_14_method_37_code 153 = .ok (.iaload, 1) := by decide +kernel
theorem d_X12_ruled_154 : decode prog_14_method_37_code 154 = .ok (.iadd, 1) := by decide +kernel
theorem d_X12_ruled_155 : decode prog_14_method_37_code 155 = .ok (.goto 9, 3) := by decide +kernel
theorem d_X12_ruled_158 : decode prog_14_method_37_code 158 = .ok (.aload_n 0, 1) := by decide +kernel
theorem d_X12_ruled_159 : decode prog_14_method_37_code 159 = .ok (.getfield 35, 3) := by decide +kernel
theorem d_X12_ruled_162 : decode prog_14_method_37_code 162 = .ok (.iconst 0, 1) := by decide +kernel
theorem d_X12_ruled_163 : decode prog_14_method_37_code 163 = .ok (.iaload, 1) := by decide +kernel
theorem d_X12_ruled_164 : decode prog_14_method_37_code 164 = .ok (.ireturn, 1) := by decide +kernel
def f_X12_ruled_j119_4 (τ : St) (x1 : Int32) (x2 : Int32) : Option ((Int32 × Int32 × St) ⊕ (St)) := some (.inl (x1, (x2 + (1 : Int32)), τ))
def f_X12_ruled_j115_4 (τ : St) (x1 : Int32) (x2 : Int32) (s1 : Int32) (s2 : Int32) : Option ((Int32 × Int32 × St) ⊕ (St)) := gd (inb s1 80) (f_X12_ruled_j119_4 (sA τ 319 s1.toNatClampNeg s2) (x1 + (1 : Int32)) x2)
def f_X12_ruled_s4 (τ : St) (x1 : Int32) (x2 : Int32) : Option ((Int32 × Int32 × St) ⊕ (St)) := (if (cF τ 300 17) ≤ x2 then some (.inr τ) else gd (inb x2 80) ((if (cA τ 315 x2.toNatClampNeg) = (3000 : Int32) then gd (inb (x1 - (1 : Int32)) 80) (gd (inb (x1 - (1 : Int32)) 80) (f_X12_ruled_j119_4 (sA τ 319 (x1 - (1 : Int32)).toNatClampNeg (-(cA τ 319 (x1 - (1 : Int32)).toNatClampNeg))) x1 x2)) else (if (cA τ 315 x2.toNatClampNeg) < (2000 : Int32) then (if (cA τ 315 x2.toNatClampNeg) < (1000 : Int32) then f_X12_ruled_j115_4 τ x1 x2 x1 (cA τ 315 x2.toNatClampNeg) else gd (inb ((cA τ 315 x2.toNatClampNeg) - (1000 : Int32)) 7) (f_X12_ruled_j115_4 τ x1 x2 x1 (cA τ 320 ((cA τ 315 x2.toNatClampNeg) - (1000 : Int32)).toNatClampNeg))) else gd (inb ((x1 + (-1 : Int32)) - (1 : Int32)) 80) (gd (inb (x1 + (-1 : Int32)) 80) ((f_X12_worked ((cA τ 315 x2.toNatClampNeg) - (2000 : Int32)) (cA τ 319 ((x1 + (-1 : Int32)) - (1 : Int32)).toNatClampNeg) (cA τ 319 (x1 + (-1 : Int32)).toNatClampNeg)).bind (fun q6 => gd (inb ((x1 + (-1 : Int32)) - (1 : Int32)) 80) (f_X12_ruled_j119_4 (sA τ 319 ((x1 + (-1 : Int32)) - (1 : Int32)).toNatClampNeg q6) (x1 + (-1 : Int32)) x2))))))))
def f_X12_ruled (σ : St) : Option (Int32 × St) := (iter (fun z => f_X12_ruled_s4 z.2.2 z.1 z.2.1) FU ((0 : Int32), (0 : Int32), σ)).bind (fun z11 => (if (cF z11 300 17) = 0 then gd (inb (1 : Int32) 7) (gd (inb (0 : Int32) 7) (gd (inb (3 : Int32) 7) (some (((((cA z11 320 (1 : Int32).toNatClampNeg) * (9 : Int32)) - (cA z11 320 (0 : Int32).toNatClampNeg)) + (cA z11 320 (3 : Int32).toNatClampNeg)), z11)))) else gd (inb (0 : Int32) 80) (some ((cA z11 319 (0 : Int32).toNatClampNeg), z11))))
theorem c_X12_ruled {l : Launch} {G : gT} {χ σ : St} {q : Int32 × St} (h : f_X12_ruled σ = some q) : Ct l G yX12_ruled prog_14_method_37_code 4 (some .int) 2 42 [.ref (ga G 300)] χ σ (some (.int q.1)) χ q.2 := by
  refine Ct.of (by decide) (Nat.le_of_ble_eq_true rfl) ?_
  intro p e s m args below meth c Q X hr hlk hQ
  have hx := X.1
  have hb := X.2.1
  have j119_4 : ∀ (τ : St) (x1 : Int32) (x2 : Int32) (o : (Int32 × Int32 × St) ⊕ (St)), f_X12_ruled_j119_4 τ x1 x2 = some o → Sum.elim (fun z : Int32 × Int32 × St => Wat p l e (rmk 2 42) s m args below meth c Q G 4 4 [] [(1, .int z.1), (2, .int z.2.1), (0, .ref (ga G 300))] χ z.2.2) (fun z : St => Wat p l e (rmk 2 42) s m args below meth c Q G 4 125 [] [(0, .ref (ga G 300))] χ z) o → Wat p l e (rmk 2 42) s m args below meth c Q G 4 119 [] [(0, .ref (ga G 300)), (1, .int x1), (2, .int x2)] χ τ := by
    intro τ x1 x2 o h hk H locs ls hw hl
    unfold f_X12_ruled_j119_4 at h
    refine lv_iinc (v := (x2 + (1 : Int32))) (k := 2) (lv' := [(2, .int (x2 + (1 : Int32))), (0, .ref (ga G 300)), (1, .int x1)]) hx hb d_X12_ruled_119 hl rfl (by rfl) (Nat.le_of_ble_eq_true rfl) rfl (fun ls hl => ?_)
    refine lv_goto (tgt := 4) hx hb d_X12_ruled_122 (by decide) ?_
    obtain rfl := Option.some.inj h
    dsimp only [Sum.elim_inl] at hk
    exact hk _ _ _ hw (lv_sub hl [2, 0, 1] rfl)
  have j115_4 : ∀ (τ : St) (x1 : Int32) (x2 : Int32) (s1 : Int32) (s2 : Int32) (o : (Int32 × Int32 × St) ⊕ (St)), f_X12_ruled_j115_4 τ x1 x2 s1 s2 = some o → Sum.elim (fun z : Int32 × Int32 × St => Wat p l e (rmk 2 42) s m args below meth c Q G 4 4 [] [(1, .int z.1), (2, .int z.2.1), (0, .ref (ga G 300))] χ z.2.2) (fun z : St => Wat p l e (rmk 2 42) s m args below meth c Q G 4 125 [] [(0, .ref (ga G 300))] χ z) o → Wat p l e (rmk 2 42) s m args below meth c Q G 4 115 [.int s2, .int s1, .ref (ga G 319)] [(0, .ref (ga G 300)), (1, .int x1), (2, .int x2)] χ τ := by
    intro τ x1 x2 s1 s2 o h hk H locs ls hw hl
    unfold f_X12_ruled_j115_4 at h
    obtain ⟨hi2, h⟩ := gd_some h
    refine m_iast X hw o_319 (Nat.le_of_ble_eq_true rfl) hi2 d_X12_ruled_115 (fun H locs hw => ?_)
    refine lv_iinc (v := (x1 + (1 : Int32))) (k := 1) (lv' := [(1, .int (x1 + (1 : Int32))), (0, .ref (ga G 300)), (2, .int x2)]) hx hb d_X12_ruled_116 hl rfl (by rfl) (Nat.le_of_ble_eq_true rfl) rfl (fun ls hl => ?_)
    exact j119_4 (sA τ 319 s1.toNatClampNeg s2) (x1 + (1 : Int32)) x2 o h hk _ _ _ hw (lv_sub hl [1, 0, 2] rfl)
  have b4 : ∀ (τ : St) (x1 : Int32) (x2 : Int32) (o : (Int32 × Int32 × St) ⊕ (St)), f_X12_ruled_s4 τ x1 x2 = some o → Sum.elim (fun z : Int32 × Int32 × St => Wat p l e (rmk 2 42) s m args below meth c Q G 4 4 [] [(1, .int z.1), (2, .int z.2.1), (0, .ref (ga G 300))] χ z.2.2) (fun z : St => Wat p l e (rmk 2 42) s m args below meth c Q G 4 125 [] [(0, .ref (ga G 300))] χ z) o → Wat p l e (rmk 2 42) s m args below meth c Q G 4 4 [] [(1, .int x1), (2, .int x2), (0, .ref (ga G 300))] χ τ := by
    intro τ x1 x2 o h hk H locs ls hw hl
    unfold f_X12_ruled_s4 at h
    refine lv_iload_n hx hb d_X12_ruled_4 rfl (lv_at hl 1 rfl) ?_
    refine lv_aload_n hx hb d_X12_ruled_5 rfl (lv_at hl 2 rfl) ?_
    refine m_geti (j := 17) X hw ct8 o_300 (Nat.le_of_ble_eq_true rfl) rfl (Nat.le_of_ble_eq_true rfl) wd_973 d_X12_ruled_6 ?_
    refine lv_icmp_ge (tgt := 125) hx hb d_X12_ruled_9 (by decide) (fun hc => ?_) (fun hc => ?_)
    · have h := ite_t h hc
      obtain rfl := Option.some.inj h
      dsimp only [Sum.elim_inr] at hk
      exact hk _ _ _ hw (lv_sub hl [2] rfl)
    · have h := ite_f h hc
      refine lv_aload_n hx hb d_X12_ruled_12 rfl (lv_at hl 2 rfl) ?_
      refine r_getr (j := 15) X hw ct8 o_300 rfl (Nat.le_of_ble_eq_true rfl) (q := 315) rfl wd_971 d_X12_ruled_13 ?_
      refine lv_iload_n hx hb d_X12_ruled_16 rfl (lv_at hl 1 rfl) ?_
      obtain ⟨hi1, h⟩ := gd_some h
      refine m_iald X hw o_315 (Nat.le_of_ble_eq_true rfl) hi1 d_X12_ruled_17 ?_
      refine lv_istore_n (lv' := [(3, .int (cA τ 315 x2.toNatClampNeg)), (1, .int x1), (2, .int x2), (0, .ref (ga G 300))]) hx hb d_X12_ruled_18 rfl hl (Nat.le_of_ble_eq_true rfl) rfl (fun ls hl => ?_)
      refine lv_iload_n hx hb d_X12_ruled_19 rfl (lv_at hl 0 rfl) ?_
      refine lv_sipush (v := (3000 : Int32)) hx hb d_X12_ruled_20 (by decide) ?_
      refine lv_icmp_ne (tgt := 46) hx hb d_X12_ruled_23 (by decide) (fun hc => ?_) (fun hc => ?_)
      · have h := ite_f h hc
        refine lv_iload_n hx hb d_X12_ruled_46 rfl (lv_at hl 0 rfl) ?_
        refine lv_sipush (v := (2000 : Int32)) hx hb d_X12_ruled_47 (by decide) ?_
        refine lv_icmp_lt (tgt := 89) hx hb d_X12_ruled_50 (by decide) (fun hc => ?_) (fun hc => ?_)
        · have h := ite_t h hc
          refine lv_aload_n hx hb d_X12_ruled_89 rfl (lv_at hl 3 rfl) ?_
          refine r_getr (j := 19) X hw ct8 o_300 rfl (Nat.le_of_ble_eq_true rfl) (q := 319) rfl wd_975 d_X12_ruled_90 ?_
          refine lv_iload_n hx hb d_X12_ruled_93 rfl (lv_at hl 1 rfl) ?_
          refine lv_iload_n hx hb d_X12_ruled_94 rfl (lv_at hl 0 rfl) ?_
          refine lv_sipush (v := (1000 : Int32)) hx hb d_X12_ruled_95 (by decide) ?_
          refine lv_icmp_lt (tgt := 114) hx hb d_X12_ruled_98 (by decide) (fun hc => ?_) (fun hc => ?_)
          · have h := ite_t h hc
            refine lv_iload_n hx hb d_X12_ruled_114 rfl (lv_at hl 0 rfl) ?_
            exact j115_4 τ x1 x2 x1 (cA τ 315 x2.toNatClampNeg) o h hk _ _ _ hw (lv_sub hl [3, 1, 2] rfl)
          · have h := ite_f h hc
            refine lv_aload_n hx hb d_X12_ruled_101 rfl (lv_at hl 3 rfl) ?_
            refine r_getr (j := 20) X hw ct8 o_300 rfl (Nat.le_of_ble_eq_true rfl) (q := 320) rfl wd_976 d_X12_ruled_102 ?_
            refine lv_iload_n hx hb d_X12_ruled_105 rfl (lv_at hl 0 rfl) ?_
            refine lv_sipush (v := (1000 : Int32)) hx hb d_X12_ruled_106 (by decide) ?_
            refine lv_isub hx hb d_X12_ruled_109 ?_
            obtain ⟨hi3, h⟩ := gd_some h
            refine m_iald X hw o_320 (Nat.le_of_ble_eq_true rfl) hi3 d_X12_ruled_110 ?_
            refine lv_goto (tgt := 115) hx hb d_X12_ruled_111 (by decide) ?_
            exact j115_4 τ x1 x2 x1 (cA τ 320 ((cA τ 315 x2.toNatClampNeg) - (1000 : Int32)).toNatClampNeg) o h hk _ _ _ hw (lv_sub hl [3, 1, 2] rfl)
        · have h := ite_f h hc
          refine lv_iinc (v := (x1 + (-1 : Int32))) (k := 1) (lv' := [(1, .int (x1 + (-1 : Int32))), (3, .int (cA τ 315 x2.toNatClampNeg)), (2, .int x2), (0, .ref (ga G 300))]) hx hb d_X12_ruled_53 hl rfl (by rfl) (Nat.le_of_ble_eq_true rfl) rfl (fun ls hl => ?_)
          refine lv_aload_n hx hb d_X12_ruled_56 rfl (lv_at hl 3 rfl) ?_
          refine r_getr (j := 19) X hw ct8 o_300 rfl (Nat.le_of_ble_eq_true rfl) (q := 319) rfl wd_975 d_X12_ruled_57 ?_
          refine lv_iload_n hx hb d_X12_ruled_60 rfl (lv_at hl 0 rfl) ?_
          refine lv_iconst (v := (1 : Int32)) hx hb d_X12_ruled_61 (by decide) ?_
          refine lv_isub hx hb d_X12_ruled_62 ?_
          refine lv_iload_n hx hb d_X12_ruled_63 rfl (lv_at hl 1 rfl) ?_
          refine lv_sipush (v := (2000 : Int32)) hx hb d_X12_ruled_64 (by decide) ?_
          refine lv_isub hx hb d_X12_ruled_67 ?_
          refine lv_aload_n hx hb d_X12_ruled_68 rfl (lv_at hl 3 rfl) ?_
          refine r_getr (j := 19) X hw ct8 o_300 rfl (Nat.le_of_ble_eq_true rfl) (q := 319) rfl wd_975 d_X12_ruled_69 ?_
          refine lv_iload_n hx hb d_X12_ruled_72 rfl (lv_at hl 0 rfl) ?_
          refine lv_iconst (v := (1 : Int32)) hx hb d_X12_ruled_73 (by decide) ?_
          refine lv_isub hx hb d_X12_ruled_74 ?_
          obtain ⟨hi4, h⟩ := gd_some h
          refine m_iald X hw o_319 (Nat.le_of_ble_eq_true rfl) hi4 d_X12_ruled_75 ?_
          refine lv_aload_n hx hb d_X12_ruled_76 rfl (lv_at hl 3 rfl) ?_
          refine r_getr (j := 19) X hw ct8 o_300 rfl (Nat.le_of_ble_eq_true rfl) (q := 319) rfl wd_975 d_X12_ruled_77 ?_
          refine lv_iload_n hx hb d_X12_ruled_80 rfl (lv_at hl 0 rfl) ?_
          obtain ⟨hi5, h⟩ := gd_some h
          refine m_iald X hw o_319 (Nat.le_of_ble_eq_true rfl) hi5 d_X12_ruled_81 ?_
          obtain ⟨q6, e7, h⟩ := bd_some h
          refine r_callS (As := [.int ((cA τ 315 x2.toNatClampNeg) - (2000 : Int32)), .int (cA τ 319 ((x1 + (-1 : Int32)) - (1 : Int32)).toNatClampNeg), .int (cA τ 319 (x1 + (-1 : Int32)).toNatClampNeg)]) (rest := [.int ((x1 + (-1 : Int32)) - (1 : Int32)), .ref (ga G 319)]) (st' := [.int q6, .int ((x1 + (-1 : Int32)) - (1 : Int32)), .ref (ga G 319)]) X hw hl mwX12_worked wd_1278 wd_1277 (c_X12_worked e7) rfl ⟨Nat.le_of_ble_eq_true rfl, Nat.le_of_ble_eq_true rfl⟩ ⟨Nat.le_refl _, Nat.le_refl _⟩ rfl rfl (Nat.le_of_ble_eq_true rfl) d_X12_ruled_82 (fun H locs hw => ?_)
          obtain ⟨hi8, h⟩ := gd_some h
          refine m_iast X hw o_319 (Nat.le_of_ble_eq_true rfl) hi8 d_X12_ruled_85 (fun H locs hw => ?_)
          refine lv_goto (tgt := 119) hx hb d_X12_ruled_86 (by decide) ?_
          exact j119_4 (sA τ 319 ((x1 + (-1 : Int32)) - (1 : Int32)).toNatClampNeg q6) (x1 + (-1 : Int32)) x2 o h hk _ _ _ hw (lv_sub hl [3, 0, 2] rfl)
      · have h := ite_t h hc
        refine lv_aload_n hx hb d_X12_ruled_26 rfl (lv_at hl 3 rfl) ?_
        refine r_getr (j := 19) X hw ct8 o_300 rfl (Nat.le_of_ble_eq_true rfl) (q := 319) rfl wd_975 d_X12_ruled_27 ?_
        refine lv_iload_n hx hb d_X12_ruled_30 rfl (lv_at hl 1 rfl) ?_
        refine lv_iconst (v := (1 : Int32)) hx hb d_X12_ruled_31 (by decide) ?_
        refine lv_isub hx hb d_X12_ruled_32 ?_
        refine lv_aload_n hx hb d_X12_ruled_33 rfl (lv_at hl 3 rfl) ?_
        refine r_getr (j := 19) X hw ct8 o_300 rfl (Nat.le_of_ble_eq_true rfl) (q := 319) rfl wd_975 d_X12_ruled_34 ?_
        refine lv_iload_n hx hb d_X12_ruled_37 rfl (lv_at hl 1 rfl) ?_
        refine lv_iconst (v := (1 : Int32)) hx hb d_X12_ruled_38 (by decide) ?_
        refine lv_isub hx hb d_X12_ruled_39 ?_
        obtain ⟨hi9, h⟩ := gd_some h
        refine m_iald X hw o_319 (Nat.le_of_ble_eq_true rfl) hi9 d_X12_ruled_40 ?_
        refine lv_ineg hx hb d_X12_ruled_41 ?_
        obtain ⟨hi10, h⟩ := gd_some h
        refine m_iast X hw o_319 (Nat.le_of_ble_eq_true rfl) hi10 d_X12_ruled_42 (fun H locs hw => ?_)
        refine lv_goto (tgt := 119) hx hb d_X12_ruled_43 (by decide) ?_
        exact j119_4 (sA τ 319 (x1 - (1 : Int32)).toNatClampNeg (-(cA τ 319 (x1 - (1 : Int32)).toNatClampNeg))) x1 x2 o h hk _ _ _ hw (lv_sub hl [3, 1, 2] rfl)
  intro H locs ls hw hl
  have hl : lv_has ls 4 [(0, .ref (ga G 300))] := hl
  unfold f_X12_ruled at h
  refine lv_iconst (v := (0 : Int32)) hx hb d_X12_ruled_0 (by decide) ?_
  refine lv_istore_n (lv' := [(1, .int (0 : Int32)), (0, .ref (ga G 300))]) hx hb d_X12_ruled_1 rfl hl (Nat.le_of_ble_eq_true rfl) rfl (fun ls hl => ?_)
  refine lv_iconst (v := (0 : Int32)) hx hb d_X12_ruled_2 (by decide) ?_
  refine lv_istore_n (lv' := [(2, .int (0 : Int32)), (1, .int (0 : Int32)), (0, .ref (ga G 300))]) hx hb d_X12_ruled_3 rfl hl (Nat.le_of_ble_eq_true rfl) rfl (fun ls hl => ?_)
  obtain ⟨z11, e12, h⟩ := bd_some h
  refine iter_w (Wh := fun z : Int32 × Int32 × St => Wat p l e (rmk 2 42) s m args below meth c Q G 4 4 [] [(1, .int z.1), (2, .int z.2.1), (0, .ref (ga G 300))] χ z.2.2) (K := fun z : St => Wat p l e (rmk 2 42) s m args below meth c Q G 4 125 [] [(0, .ref (ga G 300))] χ z) (fun z o h1 h2 => b4 z.2.2 z.1 z.2.1 o h1 h2) FU _ _ e12 ?_ _ _ _ hw (lv_sub hl [1, 0, 2] rfl)
  intro H locs ls hw hl
  refine lv_aload_n hx hb d_X12_ruled_125 rfl (lv_at hl 0 rfl) ?_
  refine m_geti (j := 17) X hw ct8 o_300 (Nat.le_of_ble_eq_true rfl) rfl (Nat.le_of_ble_eq_true rfl) wd_973 d_X12_ruled_126 ?_
  refine lv_if_ne (tgt := 158) hx hb d_X12_ruled_129 (by decide) (fun hc => ?_) (fun hc => ?_)
  · have h := ite_f h hc
    refine lv_aload_n hx hb d_X12_ruled_158 rfl (lv_at hl 0 rfl) ?_
    refine r_getr (j := 19) X hw ct8 o_300 rfl (Nat.le_of_ble_eq_true rfl) (q := 319) rfl wd_975 d_X12_ruled_159 ?_
    refine lv_iconst (v := (0 : Int32)) hx hb d_X12_ruled_162 (by decide) ?_
    obtain ⟨hi14, h⟩ := gd_some h
    refine m_iald X hw o_319 (Nat.le_of_ble_eq_true rfl) hi14 d_X12_ruled_163 ?_
    obtain rfl := Option.some.inj h
    subst hQ
    exact r_iret X hr hlk hw d_X12_ruled_164
  · have h := ite_t h hc
    refine lv_aload_n hx hb d_X12_ruled_132 rfl (lv_at hl 0 rfl) ?_
    refine r_getr (j := 20) X hw ct8 o_300 rfl (Nat.le_of_ble_eq_true rfl) (q := 320) rfl wd_976 d_X12_ruled_133 ?_
    refine lv_iconst (v := (1 : Int32)) hx hb d_X12_ruled_136 (by decide) ?_
    obtain ⟨hi15, h⟩ := gd_some h
    refine m_iald X hw o_320 (Nat.le_of_ble_eq_true rfl) hi15 d_X12_ruled_137 ?_
    refine lv_bipush (v := (9 : Int32)) hx hb d_X12_ruled_138 (by decide) ?_
    refine lv_imul hx hb d_X12_ruled_140 ?_
    refine lv_aload_n hx hb d_X12_ruled_141 rfl (lv_at hl 0 rfl) ?_
    refine r_getr (j := 20) X hw ct8 o_300 rfl (Nat.le_of_ble_eq_true rfl) (q := 320) rfl wd_976 d_X12_ruled_142 ?_
    refine lv_iconst (v := (0 : Int32)) hx hb d_X12_ruled_145 (by decide) ?_
    obtain ⟨hi16, h⟩ := gd_some h
    refine m_iald X hw o_320 (Nat.le_of_ble_eq_true rfl) hi16 d_X12_ruled_146 ?_
    refine lv_isub hx hb d_X12_ruled_147 ?_
    refine lv_aload_n hx hb d_X12_ruled_148 rfl (lv_at hl 0 rfl) ?_
    refine r_getr (j := 20) X hw ct8 o_300 rfl (Nat.le_of_ble_eq_true rfl) (q := 320) rfl wd_976 d_X12_ruled_149 ?_
    refine lv_iconst (v := (3 : Int32)) hx hb d_X12_ruled_152 (by decide) ?_
    obtain ⟨hi17, h⟩ := gd_some h
    refine m_iald X hw o_320 (Nat.le_of_ble_eq_true rfl) hi17 d_X12_ruled_153 ?_
    refine lv_iadd hx hb d_X12_ruled_154 ?_
    refine lv_goto (tgt := 164) hx hb d_X12_ruled_155 (by decide) ?_
    obtain rfl := Option.some.inj h
    subst hQ
    exact r_iret X hr hlk hw d_X12_ruled_164
abbrev yX12_closing : MethodName := ⟨"OysterBedsModel", "closing", "([III)I"⟩
theorem mwX12_closing : MW yX12_closing prog_14_method_38_code 7 (some .int) 3 := ⟨wd_1260, wd_10, by decide +kernel⟩
theorem d_X12_closing_0 : decode prog_14_method_38_code 0 = .ok (.aload_n 0, 1) := by decide +kernel
theorem d_X12_closing_1 : decode prog_14_method_38_code 1 = .ok (.aload_n 1, 1) := by decide +kernel
theorem d_X12_closing_2 : decode prog_14_method_38_code 2 = .ok (.invokevirtual 228, 3) := by decide +kernel
theorem d_X12_closing_5 : decode prog_14_method_38_code 5 = .ok (.istore 4, 2) := by decide +kernel
theorem d_X12_closing_7 : decode prog_14_method_38_code 7 = .ok (.iconst 0, 1) := by decide +kernel
theorem d_X12_closing_8 : decode prog_14_method_38_code 8 = .ok (.istore 5, 2) := by decide +kernel
theorem d_X12_closing_10 : decode prog_14_method_38_code 10 = .ok (.iconst 0, 1) := by decide +kernel
theorem d_X12_closing_11 : decode prog_14_method_38_code 11 = .ok (.istore 6, 2) := by decide +kernel
theorem d_X12_closing_13 : decode prog_14_method_38_code 13 = .ok (.iload 6, 2) := by decide +kernel
theorem d_X12_closing_15 : decode prog_14_method_38_code 15 = .ok (.aload_n 0, 1) := by decide +kernel
theorem d_X12_closing_16 : decode prog_14_method_38_code 16 = .ok (.getfield 102, 3) := by decide +kernel
theorem d_X12_closing_19 : decode prog_14_method_38_code 19 = .ok (.if_icmp .ge 146, 3) := by decide +kernel
theorem d_X12_closing_22 : decode prog_14_method_38_code 22 = .ok (.aload_n 0, 1) := by decide +kernel
theorem d_X12_closing_23 : decode prog_14_method_38_code 23 = .ok (.getfield 38, 3) := by decide +kernel
theorem d_X12_closing_26 : decode prog_14_method_38_code 26 = .ok (.iconst 0, 1) := by decide +kernel
theorem d_X12_closing_27 : decode prog_14_method_38_code 27 = .ok (.aload_n 1, 1) := by decide +kernel
theorem d_X12_closing_28 : decode prog_14_method_38_code 28 = .ok (.iload 6, 2) := by decide +kernel
theorem d_X12_closing_30 : decode prog_14_method_38_code 30 = .ok (.iaload, 1) := by decide +kernel
theorem d_X12_closing_31 : decode prog_14_method_38_code 31 = .ok (.iastore, 1) := by decide +kernel
theorem d_X12_closing_32 : decode prog_14_method_38_code 32 = .ok (.aload_n 0, 1) := by decide +kernel
theorem d_X12_closing_33 : decode prog_14_method_38_code 33 = .ok (.getfield 38, 3) := by decide +kernel
theorem d_X12_closing_36 : decode prog_14_method_38_code 36 = .ok (.iconst 1, 1) := by decide +kernel
theorem d_X12_closing_37 : decode prog_14_method_38_code 37 = .ok (.aload_n 1, 1) := by decide +kernel
theorem d_X12_closing_38 : decode prog_14_method_38_code 38 = .ok (.bipush 8, 2) := by decide +kernel
theorem d_X12_closing_40 : decode prog_14_method_38_code 40 = .ok (.iload 6, 2) := by decide +kernel
theorem d_X12_closing_42 : decode prog_14_method_38_code 42 = .ok (.iadd, 1) := by decide +kernel
theorem d_X12_closing_43 : decode prog_14_method_38_code 43 = .ok (.iaload, 1) := by decide +kernel
theorem d_X12_closing_44 : decode prog_14_method_38_code 44 = .ok (.iload_n 2, 1) := by decide +kernel
theorem d_X12_closing_45 : decode prog_14_method_38_code 45 = .ok (.invokestatic 113, 3) := by decide +kernel
theorem d_X12_closing_48 : decode prog_14_method_38_code 48 = .ok (.invokestatic 135, 3) := by decide +kernel
theorem d_X12_closing_51 : decode prog_14_method_38_code 51 = .ok (.iastore, 1) := by decide +kernel
theorem d_X12_closing_52 : decode prog_14_method_38_code 52 = .ok (.aload_n 0, 1) := by decide +kernel
theorem d_X12_closing_53 : decode prog_14_method_38_code 53 = .ok (.getfield 38, 3) := by decide +kernel
theorem d_X12_closing_56 : decode prog_14_method_38_code 56 = .ok (.iconst 2, 1) := by decide +kernel
theorem d_X12_closing_57 : decode prog_14_method_38_code 57 = .ok (.aload_n 0, 1) := by decide +kernel
theorem d_X12_closing_58 : decode prog_14_method_38_code 58 = .ok (.getfield 13, 3) := by decide +kernel
theorem d_X12_closing_61 : decode prog_14_method_38_code 61 = .ok (.iload 6, 2) := by decide +kernel
theorem d_X12_closing_63 : decode prog_14_method_38_code 63 = .ok (.iaload, 1) := by decide +kernel
theorem d_X12_closing_64 : decode prog_14_method_38_code 64 = .ok (.iastore, 1) := by decide +kernel
theorem d_X12_closing_65 : decode prog_14_method_38_code 65 = .ok (.aload_n 0, 1) := by decide +kernel
theorem d_X12_closing_66 : decode prog_14_method_38_code 66 = .ok (.getfield 38, 3) := by decide +kernel
theorem d_X12_closing_69 : decode prog_14_method_38_code 69 = .ok (.iconst 3, 1) := by decide +kernel
theorem d_X12_closing_70 : decode prog_14_method_38_code 70 = .ok (.iload_n 3, 1) := by decide +kernel
theorem d_X12_closing_71 : decode prog_14_method_38_code 71 = .ok (.iastore, 1) := by decide +kernel
theorem d_X12_closing_72 : decode prog_14_method_38_code 72 = .ok (.aload_n 0, 1) := by decide +kernel
theorem d_X12_closing_73 : decode prog_14_method_38_code 73 = .ok (.getfield 38, 3) := by decide +kernel
theorem d_X12_closing_76 : decode prog_14_method_38_code 76 = .ok (.iconst 4, 1) := by decide +kernel
theorem d_X12_closing_77 : decode prog_14_method_38_code 77 = .ok (.iload 4, 2) := by decide +kernel
theorem d_X12_closing_79 : decode prog_14_method_38_code 79 = .ok (.aload_n 0, 1) := by decide +kernel
theorem d_X12_closing_80 : decode prog_14_method_38_code 80 = .ok (.aload_n 0, 1) := by decide +kernel
theorem d_X12_closing_81 : decode prog_14_method_38_code 81 = .ok (.getfield 13, 3) := by decide +kernel
theorem d_X12_closing_84 : decode prog_14_method_38_code 84 = .ok (.iload 6, 2) := by decide +kernel
theorem d_X12_closing_86 : decode prog_14_method_38_code 86 = .ok (.iaload, 1) := by decide +kernel
theorem d_X12_closing_87 : decode prog_14_method_38_code 87 = .ok (.invokevirtual 232, 3) := by decide +kernel
theorem d_X12_closing_90 : decode prog_14_method_38_code 90 = .ok (.iand, 1) := by decide +kernel
theorem d_X12_closing_91 : decode prog_14_method_38_code 91 = .ok (.iconst 1, 1) := by decide +kernel
theorem d_X12_closing_92 : decode prog_14_method_38_code 92 = .ok (.iload 6, 2) := by decide +kernel
theorem d_X12_closing_94 : decode prog_14_method_38_code 94 = .ok (.ishl, 1) := by decide +kernel
theorem d_X12_closing_95 : decode prog_14_method_38_code 95 = .ok (.iconst (-1), 1) := by decide +kernel
theorem d_X12_closing_96 : decode prog_14_method_38_code 96 = .ok (.ixor, 1) := by decide +kernel
theorem d_X12_closing_97 : decode prog_14_method_38_code 97 = .ok (.iand, 1) := by decide +kernel
theorem d_X12_closing_98 : decode prog_14_method_38_code 98 = .ok (.invokestatic 235, 3) := by decide +kernel
theorem d_X12_closing_101 : decode prog_14_method_38_code 101 = .ok (.iastore, 1) := by decide +kernel
theorem d_X12_closing_102 : decode prog_14_method_38_code 102 = .ok (.aload_n 0, 1) := by decide +kernel
theorem d_X12_closing_103 : decode prog_14_method_38_code 103 = .ok (.getfield 38, 3) := by decide +kernel
theorem d_X12_closing_106 : decode prog_14_method_38_code 106 = .ok (.iconst 5, 1) := by decide +kernel
theorem d_X12_closing_107 : decode prog_14_method_38_code 107 = .ok (.aload_n 1, 1) := by decide +kernel
theorem d_X12_closing_108 : decode prog_14_method_38_code 108 = .ok (.bipush 24, 2) := by decide +kernel
theorem d_X12_closing_110 : decode prog_14_method_38_code 110 = .ok (.iload 6, 2) := by decide +kernel
theorem d_X12_closing_112 : decode prog_14_method_38_code 112 = .ok (.iadd, 1) := by decide +kernel
theorem d_X12_closing_113 : decode prog_14_method_38_code 113 = .ok (.iaload, 1) := by decide +kernel
theorem d_X12_closing_114 : decode prog_14_method_38_code 114 = .ok (.iastore, 1) := by decide +kernel
theorem d_X12_closing_115 : decode prog_14_method_38_code 115 = .ok (.aload_n 0, 1) := by decide +kernel
theorem d_X12_closing_116 : decode prog_14_method_38_code 116 = .ok (.getfield 38, 3) := by decide +kernel
theorem d_X12_closing_119 : decode prog_14_method_38_code 119 = .ok (.bipush 6, 2) := by decide +kernel
theorem d_X12_closing_121 : decode prog_14_method_38_code 121 = .ok (.aload_n 1, 1) := by decide +kernel
theorem d_X12_closing_122 : decode prog_14_method_38_code 122 = .ok (.bipush 32, 2) := by decide +kernel
theorem d_X12_closing_124 : decode prog_14_method_38_code 124 = .ok (.iaload, 1) := by decide +kernel
theorem d_X12_closing_125 : decode prog_14_method_38_code 125 = .ok (.bipush 7, 2) := by decide +kernel
theorem d_X12_closing_127 : decode prog_14_method_38_code 127 = .ok (.irem, 1) := by decide +kernel
theorem d_X12_closing_128 : decode prog_14_method_38_code 128 = .ok (.iastore, 1) := by decide +kernel
theorem d_X12_closing_129 : decode prog_14_method_38_code 129 = .ok (.iload 5, 2) := by decide +kernel
theorem d_X12_closing_131 : decode prog_14_method_38_code 131 = .ok (.iload 4, 2) := by decide +kernel
theorem d_X12_closing_133 : decode prog_14_method_38_code 133 = .ok (.iload 6, 2) := by decide +kernel
theorem d_X12_closing_135 : decode prog_14_method_38_code 135 = .ok (.invokestatic 113, 3) := by decide +kernel
theorem d_X12_closing_138 : decode prog_14_method_38_code 138 = .ok (.ifCond .eq 17, 3) := by decide +kernel
theorem d_X12_closing_141 : decode prog_14_method_38_code 141 = .ok (.aload_n 0, 1) := by decide +kernel
theorem d_X12_closing_142 : decode prog_14_method_38_code 142 = .ok (.invokevirtual 240, 3) := by decide +kernel
theorem d_X12_closing_145 : decode prog_14_method_38_code 145 = .ok (.ifCond .le 10, 3) := by decide +kernel
theorem d_X12_closing_148 : decode prog_14_method_38_code 148 = .ok (.iconst 1, 1) := by decide +kernel
theorem d_X12_closing_149 : decode prog_14_method_38_code 149 = .ok (.iload 6, 2) := by decide +kernel
theorem d_X12_closing_151 : decode prog_14_method_38_code 151 = .ok (.ishl, 1) := by decide +kernel
theorem d_X12_closing_152 : decode prog_14_method_38_code 152 = .ok (.goto 4, 3) := by decide +kernel
theorem d_X12_closing_155 : decode prog_14_method_38_code 155 = .ok (.iconst 0, 1) := by decide +kernel
theorem d_X12_closing_156 : decode prog_14_method_38_code 156 = .ok (.ior, 1) := by decide +kernel
theorem d_X12_closing_157 : decode prog_14_method_38_code 157 = .ok (.istore 5, 2) := by decide +kernel
theorem d_X12_closing_159 : decode prog_14_method_38_code 159 = .ok (.iinc 6 1, 3) := by decide +kernel
theorem d_X12_closing_162 : decode prog_14_method_38_code 162 = .ok (.goto (-149), 3) := by decide +kernel
theorem d_X12_closing_165 : decode prog_14_method_38_code 165 = .ok (.iload 5, 2) := by decide +kernel
theorem d_X12_closing_167 : decode prog_14_method_38_code 167 = .ok (.ireturn, 1) := by decide +kernel
def f_X12_closing_j156_13 (r : Nat) (τ : St) (x2 : Int32) (x3 : Int32) (x4 : Int32) (x6 : Int32) (s0 : Int32) (s1 : Int32) : Option ((Int32 × Int32 × St) ⊕ (Int32 × St)) := some (.inl ((s0 ||| s1), (x6 + (1 : Int32)), τ))
def f_X12_closing_s13 (r : Nat) (τ : St) (y2 : Int32) (y3 : Int32) (y4 : Int32) (x5 : Int32) (x6 : Int32) : Option ((Int32 × Int32 × St) ⊕ (Int32 × St)) := (if (cF τ 300 3) ≤ x6 then some (.inr (x5, τ)) else gd (inb x6 34) (gd (inb (0 : Int32) 7) (gd (inb ((8 : Int32) + x6) 34) ((f_X12_has (cA (sA τ 320 (0 : Int32).toNatClampNeg (cA τ r x6.toNatClampNeg)) r ((8 : Int32) + x6).toNatClampNeg) y2).bind (fun q6 => (f_X12_flag q6).bind (fun q8 => gd (inb (1 : Int32) 7) (gd (inb x6 8) (gd (inb (2 : Int32) 7) (gd (inb (3 : Int32) 7) (gd (inb x6 8) ((f_X12_kinOf (sA (sA (sA (sA τ 320 (0 : Int32).toNatClampNeg (cA τ r x6.toNatClampNeg)) 320 (1 : Int32).toNatClampNeg q8) 320 (2 : Int32).toNatClampNeg (cA (sA (sA τ 320 (0 : Int32).toNatClampNeg (cA τ r x6.toNatClampNeg)) 320 (1 : Int32).toNatClampNeg q8) 305 x6.toNatClampNeg)) 320 (3 : Int32).toNatClampNeg y3) (cA (sA (sA (sA (sA τ 320 (0 : Int32).toNatClampNeg (cA τ r x6.toNatClampNeg)) 320 (1 : Int32).toNatClampNeg q8) 320 (2 : Int32).toNatClampNeg (cA (sA (sA τ 320 (0 : Int32).toNatClampNeg (cA τ r x6.toNatClampNeg)) 320 (1 : Int32).toNatClampNeg q8) 305 x6.toNatClampNeg)) 320 (3 : Int32).toNatClampNeg y3) 305 x6.toNatClampNeg)).bind (fun q15 => (f_J6_bitCount_0f7a4 ((y4 &&& q15) &&& (((1 : Int32) <<< (x6 &&& 31)) ^^^ (-1 : Int32)))).bind (fun q17 => gd (inb (4 : Int32) 7) (gd (inb ((24 : Int32) + x6) 34) (gd (inb (5 : Int32) 7) (gd (inb (32 : Int32) 34) (gd (inb (6 : Int32) 7) ((f_X12_has y4 x6).bind (fun q24 => (if q24 = 0 then f_X12_closing_j156_13 r (sA (sA (sA (sA (sA (sA (sA τ 320 (0 : Int32).toNatClampNeg (cA τ r x6.toNatClampNeg)) 320 (1 : Int32).toNatClampNeg q8) 320 (2 : Int32).toNatClampNeg (cA (sA (sA τ 320 (0 : Int32).toNatClampNeg (cA τ r x6.toNatClampNeg)) 320 (1 : Int32).toNatClampNeg q8) 305 x6.toNatClampNeg)) 320 (3 : Int32).toNatClampNeg y3) 320 (4 : Int32).toNatClampNeg q17) 320 (5 : Int32).toNatClampNeg (cA (sA (sA (sA (sA (sA τ 320 (0 : Int32).toNatClampNeg (cA τ r x6.toNatClampNeg)) 320 (1 : Int32).toNatClampNeg q8) 320 (2 : Int32).toNatClampNeg (cA (sA (sA τ 320 (0 : Int32).toNatClampNeg (cA τ r x6.toNatClampNeg)) 320 (1 : Int32).toNatClampNeg q8) 305 x6.toNatClampNeg)) 320 (3 : Int32).toNatClampNeg y3) 320 (4 : Int32).toNatClampNeg q17) r ((24 : Int32) + x6).toNatClampNeg)) 320 (6 : Int32).toNatClampNeg ((cA (sA (sA (sA (sA (sA (sA τ 320 (0 : Int32).toNatClampNeg (cA τ r x6.toNatClampNeg)) 320 (1 : Int32).toNatClampNeg q8) 320 (2 : Int32).toNatClampNeg (cA (sA (sA τ 320 (0 : Int32).toNatClampNeg (cA τ r x6.toNatClampNeg)) 320 (1 : Int32).toNatClampNeg q8) 305 x6.toNatClampNeg)) 320 (3 : Int32).toNatClampNeg y3) 320 (4 : Int32).toNatClampNeg q17) 320 (5 : Int32).toNatClampNeg (cA (sA (sA (sA (sA (sA τ 320 (0 : Int32).toNatClampNeg (cA τ r x6.toNatClampNeg)) 320 (1 : Int32).toNatClampNeg q8) 320 (2 : Int32).toNatClampNeg (cA (sA (sA τ 320 (0 : Int32).toNatClampNeg (cA τ r x6.toNatClampNeg)) 320 (1 : Int32).toNatClampNeg q8) 305 x6.toNatClampNeg)) 320 (3 : Int32).toNatClampNeg y3) 320 (4 : Int32).toNatClampNeg q17) r ((24 : Int32) + x6).toNatClampNeg)) r (32 : Int32).toNatClampNeg) - (cA (sA (sA (sA (sA (sA (sA τ 320 (0 : Int32).toNatClampNeg (cA τ r x6.toNatClampNeg)) 320 (1 : Int32).toNatClampNeg q8) 320 (2 : Int32).toNatClampNeg (cA (sA (sA τ 320 (0 : Int32).toNatClampNeg (cA τ r x6.toNatClampNeg)) 320 (1 : Int32).toNatClampNeg q8) 305 x6.toNatClampNeg)) 320 (3 : Int32).toNatClampNeg y3) 320 (4 : Int32).toNatClampNeg q17) 320 (5 : Int32).toNatClampNeg (cA (sA (sA (sA (sA (sA τ 320 (0 : Int32).toNatClampNeg (cA τ r x6.toNatClampNeg)) 320 (1 : Int32).toNatClampNeg q8) 320 (2 : Int32).toNatClampNeg (cA (sA (sA τ 320 (0 : Int32).toNatClampNeg (cA τ r x6.toNatClampNeg)) 320 (1 : Int32).toNatClampNeg q8) 305 x6.toNatClampNeg)) 320 (3 : Int32).toNatClampNeg y3) 320 (4 : Int32).toNatClampNeg q17) r ((24 : Int32) + x6).toNatClampNeg)) r (32 : Int32).toNatClampNeg) / (7 : Int32) * (7 : Int32))) y2 y3 y4 x6 x5 (0 : Int32) else (f_X12_ruled (sA (sA (sA (sA (sA (sA (sA τ 320 (0 : Int32).toNatClampNeg (cA τ r x6.toNatClampNeg)) 320 (1 : Int32).toNatClampNeg q8) 320 (2 : Int32).toNatClampNeg (cA (sA (sA τ 320 (0 : Int32).toNatClampNeg (cA τ r x6.toNatClampNeg)) 320 (1 : Int32).toNatClampNeg q8) 305 x6.toNatClampNeg)) 320 (3 : Int32).toNatClampNeg y3) 320 (4 : Int32).toNatClampNeg q17) 320 (5 : Int32).toNatClampNeg (cA (sA (sA (sA (sA (sA τ 320 (0 : Int32).toNatClampNeg (cA τ r x6.toNatClampNeg)) 320 (1 : Int32).toNatClampNeg q8) 320 (2 : Int32).toNatClampNeg (cA (sA (sA τ 320 (0 : Int32).toNatClampNeg (cA τ r x6.toNatClampNeg)) 320 (1 : Int32).toNatClampNeg q8) 305 x6.toNatClampNeg)) 320 (3 : Int32).toNatClampNeg y3) 320 (4 : Int32).toNatClampNeg q17) r ((24 : Int32) + x6).toNatClampNeg)) 320 (6 : Int32).toNatClampNeg ((cA (sA (sA (sA (sA (sA (sA τ 320 (0 : Int32).toNatClampNeg (cA τ r x6.toNatClampNeg)) 320 (1 : Int32).toNatClampNeg q8) 320 (2 : Int32).toNatClampNeg (cA (sA (sA τ 320 (0 : Int32).toNatClampNeg (cA τ r x6.toNatClampNeg)) 320 (1 : Int32).toNatClampNeg q8) 305 x6.toNatClampNeg)) 320 (3 : Int32).toNatClampNeg y3) 320 (4 : Int32).toNatClampNeg q17) 320 (5 : Int32).toNatClampNeg (cA (sA (sA (sA (sA (sA τ 320 (0 : Int32).toNatClampNeg (cA τ r x6.toNatClampNeg)) 320 (1 : Int32).toNatClampNeg q8) 320 (2 : Int32).toNatClampNeg (cA (sA (sA τ 320 (0 : Int32).toNatClampNeg (cA τ r x6.toNatClampNeg)) 320 (1 : Int32).toNatClampNeg q8) 305 x6.toNatClampNeg)) 320 (3 : Int32).toNatClampNeg y3) 320 (4 : Int32).toNatClampNeg q17) r ((24 : Int32) + x6).toNatClampNeg)) r (32 : Int32).toNatClampNeg) - (cA (sA (sA (sA (sA (sA (sA τ 320 (0 : Int32).toNatClampNeg (cA τ r x6.toNatClampNeg)) 320 (1 : Int32).toNatClampNeg q8) 320 (2 : Int32).toNatClampNeg (cA (sA (sA τ 320 (0 : Int32).toNatClampNeg (cA τ r x6.toNatClampNeg)) 320 (1 : Int32).toNatClampNeg q8) 305 x6.toNatClampNeg)) 320 (3 : Int32).toNatClampNeg y3) 320 (4 : Int32).toNatClampNeg q17) 320 (5 : Int32).toNatClampNeg (cA (sA (sA (sA (sA (sA τ 320 (0 : Int32).toNatClampNeg (cA τ r x6.toNatClampNeg)) 320 (1 : Int32).toNatClampNeg q8) 320 (2 : Int32).toNatClampNeg (cA (sA (sA τ 320 (0 : Int32).toNatClampNeg (cA τ r x6.toNatClampNeg)) 320 (1 : Int32).toNatClampNeg q8) 305 x6.toNatClampNeg)) 320 (3 : Int32).toNatClampNeg y3) 320 (4 : Int32).toNatClampNeg q17) r ((24 : Int32) + x6).toNatClampNeg)) r (32 : Int32).toNatClampNeg) / (7 : Int32) * (7 : Int32)))).bind (fun q26 => f_X12_closing_j156_13 r q26.2 y2 y3 y4 x6 x5 (if q26.1 ≤ 0 then (0 : Int32) else ((1 : Int32) <<< (x6 &&& 31))))))))))))))))))))))))
def f_X12_closing (σ : St) (r : Nat) (a2 : Int32) (a3 : Int32) : Option (Int32 × St) := (f_X12_openOnes σ r).bind (fun q1 => (iter (fun z => f_X12_closing_s13 r z.2.2 a2 a3 q1 z.1 z.2.1) FU ((0 : Int32), (0 : Int32), σ)).bind (fun z28 => some (z28.1, z28.2)))
theorem c_X12_closing {l : Launch} {G : gT} {χ σ : St} {r : Nat} {a2 : Int32} {a3 : Int32} (hr : OP r 11 34) (hr3 : 300 ≤ r) {q : Int32 × St} (h : f_X12_closing σ r a2 a3 = some q) : Ct l G yX12_closing prog_14_method_38_code 7 (some .int) 3 65 [.ref (ga G 300), .ref (ga G r), .int a2, .int a3] χ σ (some (.int q.1)) χ q.2 := by
  refine Ct.of (by decide) (Nat.le_of_ble_eq_true rfl) ?_
  intro p e s m args below meth c Q X hret hlk hQ
  have hx := X.1
  have hb := X.2.1
  have j156_13 : ∀ (τ : St) (x2 : Int32) (x3 : Int32) (x4 : Int32) (x6 : Int32) (s0 : Int32) (s1 : Int32) (o : (Int32 × Int32 × St) ⊕ (Int32 × St)), f_X12_closing_j156_13 r τ x2 x3 x4 x6 s0 s1 = some o → Sum.elim (fun z : Int32 × Int32 × St => Wat p l e (rmk 3 65) s m args below meth c Q G 7 13 [] [(5, .int z.1), (6, .int z.2.1), (0, .ref (ga G 300)), (1, .ref (ga G r)), (2, .int x2), (3, .int x3), (4, .int x4)] χ z.2.2) (fun z : Int32 × St => Wat p l e (rmk 3 65) s m args below meth c Q G 7 165 [] [(5, .int z.1)] χ z.2) o → Wat p l e (rmk 3 65) s m args below meth c Q G 7 156 [.int s1, .int s0] [(0, .ref (ga G 300)), (1, .ref (ga G r)), (2, .int x2), (3, .int x3), (4, .int x4), (6, .int x6)] χ τ := by
    intro τ x2 x3 x4 x6 s0 s1 o h hk H locs ls hw hl
    unfold f_X12_closing_j156_13 at h
    refine lv_ior hx hb d_X12_closing_156 ?_
    refine lv_istore (lv' := [(5, .int (s0 ||| s1)), (0, .ref (ga G 300)), (1, .ref (ga G r)), (2, .int x2), (3, .int x3), (4, .int x4), (6, .int x6)]) hx hb d_X12_closing_157 hl (Nat.le_of_ble_eq_true rfl) rfl (fun ls hl => ?_)
    refine lv_iinc (v := (x6 + (1 : Int32))) (k := 6) (lv' := [(6, .int (x6 + (1 : Int32))), (5, .int (s0 ||| s1)), (0, .ref (ga G 300)), (1, .ref (ga G r)), (2, .int x2), (3, .int x3), (4, .int x4)]) hx hb d_X12_closing_159 hl rfl (by rfl) (Nat.le_of_ble_eq_true rfl) rfl (fun ls hl => ?_)
    refine lv_goto (tgt := 13) hx hb d_X12_closing_162 (by decide) ?_
    obtain rfl := Option.some.inj h
    dsimp only [Sum.elim_inl] at hk
    exact hk _ _ _ hw (lv_sub hl [1, 0, 2, 3, 4, 5, 6] rfl)
  have b13 : ∀ (τ : St) (y2 : Int32) (y3 : Int32) (y4 : Int32) (x5 : Int32) (x6 : Int32) (o : (Int32 × Int32 × St) ⊕ (Int32 × St)), f_X12_closing_s13 r τ y2 y3 y4 x5 x6 = some o → Sum.elim (fun z : Int32 × Int32 × St => Wat p l e (rmk 3 65) s m args below meth c Q G 7 13 [] [(5, .int z.1), (6, .int z.2.1), (0, .ref (ga G 300)), (1, .ref (ga G r)), (2, .int y2), (3, .int y3), (4, .int y4)] χ z.2.2) (fun z : Int32 × St => Wat p l e (rmk 3 65) s m args below meth c Q G 7 165 [] [(5, .int z.1)] χ z.2) o → Wat p l e (rmk 3 65) s m args below meth c Q G 7 13 [] [(5, .int x5), (6, .int x6), (0, .ref (ga G 300)), (1, .ref (ga G r)), (2, .int y2), (3, .int y3), (4, .int y4)] χ τ := by
    intro τ y2 y3 y4 x5 x6 o h hk H locs ls hw hl
    unfold f_X12_closing_s13 at h
    refine lv_iload hx hb d_X12_closing_13 (lv_at hl 1 rfl) ?_
    refine lv_aload_n hx hb d_X12_closing_15 rfl (lv_at hl 2 rfl) ?_
    refine m_geti (j := 3) X hw ct8 o_300 (Nat.le_of_ble_eq_true rfl) rfl (Nat.le_of_ble_eq_true rfl) wd_959 d_X12_closing_16 ?_
    refine lv_icmp_ge (tgt := 165) hx hb d_X12_closing_19 (by decide) (fun hc => ?_) (fun hc => ?_)
    · have h := ite_t h hc
      obtain rfl := Option.some.inj h
      dsimp only [Sum.elim_inr] at hk
      exact hk _ _ _ hw (lv_sub hl [0] rfl)
    · have h := ite_f h hc
      refine lv_aload_n hx hb d_X12_closing_22 rfl (lv_at hl 2 rfl) ?_
      refine r_getr (j := 20) X hw ct8 o_300 rfl (Nat.le_of_ble_eq_true rfl) (q := 320) rfl wd_976 d_X12_closing_23 ?_
      refine lv_iconst (v := (0 : Int32)) hx hb d_X12_closing_26 (by decide) ?_
      refine lv_aload_n hx hb d_X12_closing_27 rfl (lv_at hl 3 rfl) ?_
      refine lv_iload hx hb d_X12_closing_28 (lv_at hl 1 rfl) ?_
      obtain ⟨hi3, h⟩ := gd_some h
      refine m_iald X hw hr hr3 hi3 d_X12_closing_30 ?_
      obtain ⟨hi4, h⟩ := gd_some h
      refine m_iast X hw o_320 (Nat.le_of_ble_eq_true rfl) hi4 d_X12_closing_31 (fun H locs hw => ?_)
      refine lv_aload_n hx hb d_X12_closing_32 rfl (lv_at hl 2 rfl) ?_
      refine r_getr (j := 20) X hw ct8 o_300 rfl (Nat.le_of_ble_eq_true rfl) (q := 320) rfl wd_976 d_X12_closing_33 ?_
      refine lv_iconst (v := (1 : Int32)) hx hb d_X12_closing_36 (by decide) ?_
      refine lv_aload_n hx hb d_X12_closing_37 rfl (lv_at hl 3 rfl) ?_
      refine lv_bipush (v := (8 : Int32)) hx hb d_X12_closing_38 (by decide) ?_
      refine lv_iload hx hb d_X12_closing_40 (lv_at hl 1 rfl) ?_
      refine lv_iadd hx hb d_X12_closing_42 ?_
      obtain ⟨hi5, h⟩ := gd_some h
      refine m_iald X hw hr hr3 hi5 d_X12_closing_43 ?_
      refine lv_iload_n hx hb d_X12_closing_44 rfl (lv_at hl 4 rfl) ?_
      obtain ⟨q6, e7, h⟩ := bd_some h
      refine r_callS (As := [.int (cA (sA τ 320 (0 : Int32).toNatClampNeg (cA τ r x6.toNatClampNeg)) r ((8 : Int32) + x6).toNatClampNeg), .int y2]) (rest := [.int (1 : Int32), .ref (ga G 320)]) (st' := [.int q6, .int (1 : Int32), .ref (ga G 320)]) X hw hl mwX12_has wd_1266 wd_1265 (c_X12_has e7) rfl ⟨Nat.le_of_ble_eq_true rfl, Nat.le_of_ble_eq_true rfl⟩ ⟨Nat.le_refl _, Nat.le_refl _⟩ rfl rfl (Nat.le_of_ble_eq_true rfl) d_X12_closing_45 (fun H locs hw => ?_)
      obtain ⟨q8, e9, h⟩ := bd_some h
      refine r_callS (As := [.int q6]) (rest := [.int (1 : Int32), .ref (ga G 320)]) (st' := [.int q8, .int (1 : Int32), .ref (ga G 320)]) X hw hl mwX12_flag wd_1180 wd_1179 (c_X12_flag e9) rfl ⟨Nat.le_of_ble_eq_true rfl, Nat.le_of_ble_eq_true rfl⟩ ⟨Nat.le_refl _, Nat.le_refl _⟩ rfl rfl (Nat.le_of_ble_eq_true rfl) d_X12_closing_48 (fun H locs hw => ?_)
      obtain ⟨hi10, h⟩ := gd_some h
      refine m_iast X hw o_320 (Nat.le_of_ble_eq_true rfl) hi10 d_X12_closing_51 (fun H locs hw => ?_)
      refine lv_aload_n hx hb d_X12_closing_52 rfl (lv_at hl 2 rfl) ?_
      refine r_getr (j := 20) X hw ct8 o_300 rfl (Nat.le_of_ble_eq_true rfl) (q := 320) rfl wd_976 d_X12_closing_53 ?_
      refine lv_iconst (v := (2 : Int32)) hx hb d_X12_closing_56 (by decide) ?_
      refine lv_aload_n hx hb d_X12_closing_57 rfl (lv_at hl 2 rfl) ?_
      refine r_getr (j := 5) X hw ct8 o_300 rfl (Nat.le_of_ble_eq_true rfl) (q := 305) rfl wd_961 d_X12_closing_58 ?_
      refine lv_iload hx hb d_X12_closing_61 (lv_at hl 1 rfl) ?_
      obtain ⟨hi11, h⟩ := gd_some h
      refine m_iald X hw o_305 (Nat.le_of_ble_eq_true rfl) hi11 d_X12_closing_63 ?_
      obtain ⟨hi12, h⟩ := gd_some h
      refine m_iast X hw o_320 (Nat.le_of_ble_eq_true rfl) hi12 d_X12_closing_64 (fun H locs hw => ?_)
      refine lv_aload_n hx hb d_X12_closing_65 rfl (lv_at hl 2 rfl) ?_
      refine r_getr (j := 20) X hw ct8 o_300 rfl (Nat.le_of_ble_eq_true rfl) (q := 320) rfl wd_976 d_X12_closing_66 ?_
      refine lv_iconst (v := (3 : Int32)) hx hb d_X12_closing_69 (by decide) ?_
      refine lv_iload_n hx hb d_X12_closing_70 rfl (lv_at hl 5 rfl) ?_
      obtain ⟨hi13, h⟩ := gd_some h
      refine m_iast X hw o_320 (Nat.le_of_ble_eq_true rfl) hi13 d_X12_closing_71 (fun H locs hw => ?_)
      refine lv_aload_n hx hb d_X12_closing_72 rfl (lv_at hl 2 rfl) ?_
      refine r_getr (j := 20) X hw ct8 o_300 rfl (Nat.le_of_ble_eq_true rfl) (q := 320) rfl wd_976 d_X12_closing_73 ?_
      refine lv_iconst (v := (4 : Int32)) hx hb d_X12_closing_76 (by decide) ?_
      refine lv_iload hx hb d_X12_closing_77 (lv_at hl 6 rfl) ?_
      refine lv_aload_n hx hb d_X12_closing_79 rfl (lv_at hl 2 rfl) ?_
      refine lv_aload_n hx hb d_X12_closing_80 rfl (lv_at hl 2 rfl) ?_
      refine r_getr (j := 5) X hw ct8 o_300 rfl (Nat.le_of_ble_eq_true rfl) (q := 305) rfl wd_961 d_X12_closing_81 ?_
      refine lv_iload hx hb d_X12_closing_84 (lv_at hl 1 rfl) ?_
      obtain ⟨hi14, h⟩ := gd_some h
      refine m_iald X hw o_305 (Nat.le_of_ble_eq_true rfl) hi14 d_X12_closing_86 ?_
      obtain ⟨q15, e16, h⟩ := bd_some h
      refine r_callV (As := [.int (cA (sA (sA (sA (sA τ 320 (0 : Int32).toNatClampNeg (cA τ r x6.toNatClampNeg)) 320 (1 : Int32).toNatClampNeg q8) 320 (2 : Int32).toNatClampNeg (cA (sA (sA τ 320 (0 : Int32).toNatClampNeg (cA τ r x6.toNatClampNeg)) 320 (1 : Int32).toNatClampNeg q8) 305 x6.toNatClampNeg)) 320 (3 : Int32).toNatClampNeg y3) 305 x6.toNatClampNeg)]) (rest := [.int y4, .int (4 : Int32), .ref (ga G 320)]) (st' := [.int q15, .int y4, .int (4 : Int32), .ref (ga G 320)]) X hw hl mwX12_kinOf wd_1270 wp_36 wd_1268 (c_X12_kinOf e16) (r_recv X hw ct8 o_300) rfl ⟨Nat.le_of_ble_eq_true rfl, Nat.le_of_ble_eq_true rfl⟩ ⟨Nat.le_refl _, Nat.le_refl _⟩ rfl rfl (Nat.le_of_ble_eq_true rfl) d_X12_closing_87 (fun H locs hw => ?_)
      refine lv_iand hx hb d_X12_closing_90 ?_
      refine lv_iconst (v := (1 : Int32)) hx hb d_X12_closing_91 (by decide) ?_
      refine lv_iload hx hb d_X12_closing_92 (lv_at hl 1 rfl) ?_
      refine lv_ishl hx hb d_X12_closing_94 ?_
      refine lv_iconst (v := (-1 : Int32)) hx hb d_X12_closing_95 (by decide) ?_
      refine lv_ixor hx hb d_X12_closing_96 ?_
      refine lv_iand hx hb d_X12_closing_97 ?_
      obtain ⟨q17, e18, h⟩ := bd_some h
      refine r_callS (As := [.int ((y4 &&& q15) &&& (((1 : Int32) <<< (x6 &&& 31)) ^^^ (-1 : Int32)))]) (rest := [.int (4 : Int32), .ref (ga G 320)]) (st' := [.int q17, .int (4 : Int32), .ref (ga G 320)]) X hw hl mwJ6_bitCount_0f7a4 wd_436 wd_1272 (c_J6_bitCount_0f7a4 e18) rfl ⟨Nat.le_of_ble_eq_true rfl, Nat.le_of_ble_eq_true rfl⟩ ⟨Nat.le_refl _, Nat.le_refl _⟩ rfl rfl (Nat.le_of_ble_eq_true rfl) d_X12_closing_98 (fun H locs hw => ?_)
      obtain ⟨hi19, h⟩ := gd_some h
      refine m_iast X hw o_320 (Nat.le_of_ble_eq_true rfl) hi19 d_X12_closing_101 (fun H locs hw => ?_)
      refine lv_aload_n hx hb d_X12_closing_102 rfl (lv_at hl 2 rfl) ?_
      refine r_getr (j := 20) X hw ct8 o_300 rfl (Nat.le_of_ble_eq_true rfl) (q := 320) rfl wd_976 d_X12_closing_103 ?_
      refine lv_iconst (v := (5 : Int32)) hx hb d_X12_closing_106 (by decide) ?_
      refine lv_aload_n hx hb d_X12_closing_107 rfl (lv_at hl 3 rfl) ?_
      refine lv_bipush (v := (24 : Int32)) hx hb d_X12_closing_108 (by decide) ?_
      refine lv_iload hx hb d_X12_closing_110 (lv_at hl 1 rfl) ?_
      refine lv_iadd hx hb d_X12_closing_112 ?_
      obtain ⟨hi20, h⟩ := gd_some h
      refine m_iald X hw hr hr3 hi20 d_X12_closing_113 ?_
      obtain ⟨hi21, h⟩ := gd_some h
      refine m_iast X hw o_320 (Nat.le_of_ble_eq_true rfl) hi21 d_X12_closing_114 (fun H locs hw => ?_)
      refine lv_aload_n hx hb d_X12_closing_115 rfl (lv_at hl 2 rfl) ?_
      refine r_getr (j := 20) X hw ct8 o_300 rfl (Nat.le_of_ble_eq_true rfl) (q := 320) rfl wd_976 d_X12_closing_116 ?_
      refine lv_bipush (v := (6 : Int32)) hx hb d_X12_closing_119 (by decide) ?_
      refine lv_aload_n hx hb d_X12_closing_121 rfl (lv_at hl 3 rfl) ?_
      refine lv_bipush (v := (32 : Int32)) hx hb d_X12_closing_122 (by decide) ?_
      obtain ⟨hi22, h⟩ := gd_some h
      refine m_iald X hw hr hr3 hi22 d_X12_closing_124 ?_
      refine lv_bipush (v := (7 : Int32)) hx hb d_X12_closing_125 (by decide) ?_
      refine lv_irem hx hb d_X12_closing_127 (by decide) ?_
      obtain ⟨hi23, h⟩ := gd_some h
      refine m_iast X hw o_320 (Nat.le_of_ble_eq_true rfl) hi23 d_X12_closing_128 (fun H locs hw => ?_)
      refine lv_iload hx hb d_X12_closing_129 (lv_at hl 0 rfl) ?_
      refine lv_iload hx hb d_X12_closing_131 (lv_at hl 6 rfl) ?_
      refine lv_iload hx hb d_X12_closing_133 (lv_at hl 1 rfl) ?_
      obtain ⟨q24, e25, h⟩ := bd_some h
      refine r_callS (As := [.int y4, .int x6]) (rest := [.int x5]) (st' := [.int q24, .int x5]) X hw hl mwX12_has wd_1266 wd_1265 (c_X12_has e25) rfl ⟨Nat.le_of_ble_eq_true rfl, Nat.le_of_ble_eq_true rfl⟩ ⟨Nat.le_refl _, Nat.le_refl _⟩ rfl rfl (Nat.le_of_ble_eq_true rfl) d_X12_closing_135 (fun H locs hw => ?_)
      refine lv_if_eq (tgt := 155) hx hb d_X12_closing_138 (by decide) (fun hc => ?_) (fun hc => ?_)
      · have h := ite_t h hc
        refine lv_iconst (v := (0 : Int32)) hx hb d_X12_closing_155 (by decide) ?_
        exact j156_13 (sA (sA (sA (sA (sA (sA (sA τ 320 (0 : Int32).toNatClampNeg (cA τ r x6.toNatClampNeg)) 320 (1 : Int32).toNatClampNeg q8) 320 (2 : Int32).toNatClampNeg (cA (sA (sA τ 320 (0 : Int32).toNatClampNeg (cA τ r x6.toNatClampNeg)) 320 (1 : Int32).toNatClampNeg q8) 305 x6.toNatClampNeg)) 320 (3 : Int32).toNatClampNeg y3) 320 (4 : Int32).toNatClampNeg q17) 320 (5 : Int32).toNatClampNeg (cA (sA (sA (sA (sA (sA τ 320 (0 : Int32).toNatClampNeg (cA τ r x6.toNatClampNeg)) 320 (1 : Int32).toNatClampNeg q8) 320 (2 : Int32).toNatClampNeg (cA (sA (sA τ 320 (0 : Int32).toNatClampNeg (cA τ r x6.toNatClampNeg)) 320 (1 : Int32).toNatClampNeg q8) 305 x6.toNatClampNeg)) 320 (3 : Int32).toNatClampNeg y3) 320 (4 : Int32).toNatClampNeg q17) r ((24 : Int32) + x6).toNatClampNeg)) 320 (6 : Int32).toNatClampNeg ((cA (sA (sA (sA (sA (sA (sA τ 320 (0 : Int32).toNatClampNeg (cA τ r x6.toNatClampNeg)) 320 (1 : Int32).toNatClampNeg q8) 320 (2 : Int32).toNatClampNeg (cA (sA (sA τ 320 (0 : Int32).toNatClampNeg (cA τ r x6.toNatClampNeg)) 320 (1 : Int32).toNatClampNeg q8) 305 x6.toNatClampNeg)) 320 (3 : Int32).toNatClampNeg y3) 320 (4 : Int32).toNatClampNeg q17) 320 (5 : Int32).toNatClampNeg (cA (sA (sA (sA (sA (sA τ 320 (0 : Int32).toNatClampNeg (cA τ r x6.toNatClampNeg)) 320 (1 : Int32).toNatClampNeg q8) 320 (2 : Int32).toNatClampNeg (cA (sA (sA τ 320 (0 : Int32).toNatClampNeg (cA τ r x6.toNatClampNeg)) 320 (1 : Int32).toNatClampNeg q8) 305 x6.toNatClampNeg)) 320 (3 : Int32).toNatClampNeg y3) 320 (4 : Int32).toNatClampNeg q17) r ((24 : Int32) + x6).toNatClampNeg)) r (32 : Int32).toNatClampNeg) - (cA (sA (sA (sA (sA (sA (sA τ 320 (0 : Int32).toNatClampNeg (cA τ r x6.toNatClampNeg)) 320 (1 : Int32).toNatClampNeg q8) 320 (2 : Int32).toNatClampNeg (cA (sA (sA τ 320 (0 : Int32).toNatClampNeg (cA τ r x6.toNatClampNeg)) 320 (1 : Int32).toNatClampNeg q8) 305 x6.toNatClampNeg)) 320 (3 : Int32).toNatClampNeg y3) 320 (4 : Int32).toNatClampNeg q17) 320 (5 : Int32).toNatClampNeg (cA (sA (sA (sA (sA (sA τ 320 (0 : Int32).toNatClampNeg (cA τ r x6.toNatClampNeg)) 320 (1 : Int32).toNatClampNeg q8) 320 (2 : Int32).toNatClampNeg (cA (sA (sA τ 320 (0 : Int32).toNatClampNeg (cA τ r x6.toNatClampNeg)) 320 (1 : Int32).toNatClampNeg q8) 305 x6.toNatClampNeg)) 320 (3 : Int32).toNatClampNeg y3) 320 (4 : Int32).toNatClampNeg q17) r ((24 : Int32) + x6).toNatClampNeg)) r (32 : Int32).toNatClampNeg) / (7 : Int32) * (7 : Int32))) y2 y3 y4 x6 x5 (0 : Int32) o h hk _ _ _ hw (lv_sub hl [2, 3, 4, 5, 6, 1] rfl)
      · have h := ite_f h hc
        refine lv_aload_n hx hb d_X12_closing_141 rfl (lv_at hl 2 rfl) ?_
        obtain ⟨q26, e27, h⟩ := bd_some h
        refine r_callV (As := []) (rest := [.int x5]) (st' := [.int q26.1, .int x5]) X hw hl mwX12_ruled wd_1275 wp_37 wd_1273 (c_X12_ruled e27) (r_recv X hw ct8 o_300) rfl ⟨Nat.le_of_ble_eq_true rfl, Nat.le_of_ble_eq_true rfl⟩ ⟨Nat.le_refl _, Nat.le_refl _⟩ rfl rfl (Nat.le_of_ble_eq_true rfl) d_X12_closing_142 (fun H locs hw => ?_)
        refine lv_if_le (tgt := 155) hx hb d_X12_closing_145 (by decide) (fun hc => ?_) (fun hc => ?_)
        · simp only [if_pos hc] at h
          refine lv_iconst (v := (0 : Int32)) hx hb d_X12_closing_155 (by decide) ?_
          exact j156_13 q26.2 y2 y3 y4 x6 x5 (0 : Int32) o h hk _ _ _ hw (lv_sub hl [2, 3, 4, 5, 6, 1] rfl)
        · simp only [if_neg hc] at h
          refine lv_iconst (v := (1 : Int32)) hx hb d_X12_closing_148 (by decide) ?_
          refine lv_iload hx hb d_X12_closing_149 (lv_at hl 1 rfl) ?_
          refine lv_ishl hx hb d_X12_closing_151 ?_
          refine lv_goto (tgt := 156) hx hb d_X12_closing_152 (by decide) ?_
          exact j156_13 q26.2 y2 y3 y4 x6 x5 ((1 : Int32) <<< (x6 &&& 31)) o h hk _ _ _ hw (lv_sub hl [2, 3, 4, 5, 6, 1] rfl)
  intro H locs ls hw hl
  have hl : lv_has ls 7 [(0, .ref (ga G 300)), (1, .ref (ga G r)), (2, .int a2), (3, .int a3)] := hl
  unfold f_X12_closing at h
  refine lv_aload_n hx hb d_X12_closing_0 rfl (lv_at hl 0 rfl) ?_
  refine lv_aload_n hx hb d_X12_closing_1 rfl (lv_at hl 1 rfl) ?_
  obtain ⟨q1, e2, h⟩ := bd_some h
  refine r_callV (As := [.ref (ga G r)]) (rest := []) (st' := [.int q1]) X hw hl mwX12_openOnes wd_1263 wp_35 wd_1261 (c_X12_openOnes hr hr3 e2) (r_recv X hw ct8 o_300) rfl ⟨Nat.le_of_ble_eq_true rfl, Nat.le_of_ble_eq_true rfl⟩ ⟨Nat.le_refl _, Nat.le_refl _⟩ rfl rfl (Nat.le_of_ble_eq_true rfl) d_X12_closing_2 (fun H locs hw => ?_)
  refine lv_istore (lv' := [(4, .int q1), (0, .ref (ga G 300)), (1, .ref (ga G r)), (2, .int a2), (3, .int a3)]) hx hb d_X12_closing_5 hl (Nat.le_of_ble_eq_true rfl) rfl (fun ls hl => ?_)
  refine lv_iconst (v := (0 : Int32)) hx hb d_X12_closing_7 (by decide) ?_
  refine lv_istore (lv' := [(5, .int (0 : Int32)), (4, .int q1), (0, .ref (ga G 300)), (1, .ref (ga G r)), (2, .int a2), (3, .int a3)]) hx hb d_X12_closing_8 hl (Nat.le_of_ble_eq_true rfl) rfl (fun ls hl => ?_)
  refine lv_iconst (v := (0 : Int32)) hx hb d_X12_closing_10 (by decide) ?_
  refine lv_istore (lv' := [(6, .int (0 : Int32)), (5, .int (0 : Int32)), (4, .int q1), (0, .ref (ga G 300)), (1, .ref (ga G r)), (2, .int a2), (3, .int a3)]) hx hb d_X12_closing_11 hl (Nat.le_of_ble_eq_true rfl) rfl (fun ls hl => ?_)
  obtain ⟨z28, e29, h⟩ := bd_some h
  refine iter_w (Wh := fun z : Int32 × Int32 × St => Wat p l e (rmk 3 65) s m args below meth c Q G 7 13 [] [(5, .int z.1), (6, .int z.2.1), (0, .ref (ga G 300)), (1, .ref (ga G r)), (2, .int a2), (3, .int a3), (4, .int q1)] χ z.2.2) (K := fun z : Int32 × St => Wat p l e (rmk 3 65) s m args below meth c Q G 7 165 [] [(5, .int z.1)] χ z.2) (fun z o h1 h2 => b13 z.2.2 a2 a3 q1 z.1 z.2.1 o h1 h2) FU _ _ e29 ?_ _ _ _ hw (lv_sub hl [1, 0, 3, 4, 5, 6, 2] rfl)
  intro H locs ls hw hl
  refine lv_iload hx hb d_X12_closing_165 (lv_at hl 0 rfl) ?_
  obtain rfl := Option.some.inj h
  subst hQ
  exact r_iret X hret hlk hw d_X12_closing_167
