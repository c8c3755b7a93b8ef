abbrev yX5_isLetter : MethodName := ⟨"OysterBeds$Law", "isLetter", "(C)Z"⟩
theorem mwX5_isLetter : MW yX5_isLetter prog_7_method_13_code 1 (some .boolean) 1 := ⟨wd_235, wd_8, by decide +kernel⟩
theorem d_X5_isLetter_0 : decode prog_7_method_13_code 0 = .ok (.iload_n 0, 1) := by decide +kernel
theorem d_X5_isLetter_1 : decode prog_7_method_13_code 1 = .ok (.bipush 102, 2) := by decide +kernel
theorem d_X5_isLetter_3 : decode prog_7_method_13_code 3 = .ok (.if_icmp .eq 39, 3) := by decide +kernel
theorem d_X5_isLetter_6 : decode prog_7_method_13_code 6 = .ok (.iload_n 0, 1) := by decide +kernel
theorem d_X5_isLetter_7 : decode prog_7_method_13_code 7 = .ok (.bipush 118, 2) := by decide +kernel
theorem d_X5_isLetter_9 : decode prog_7_method_13_code 9 = .ok (.if_icmp .eq 33, 3) := by decide +kernel
theorem d_X5_isLetter_12 : decode prog_7_method_13_code 12 = .ok (.iload_n 0, 1) := by decide +kernel
theorem d_X5_isLetter_13 : decode prog_7_method_13_code 13 = .ok (.bipush 107, 2) := by decide +kernel
theorem d_X5_isLetter_15 : decode prog_7_method_13_code 15 = .ok (.if_icmp .eq 27, 3) := by decide +kernel
theorem d_X5_isLetter_18 : decode prog_7_method_13_code 18 = .ok (.iload_n 0, 1) := by decide +kernel
theorem d_X5_isLetter_19 : decode prog_7_method_13_code 19 = .ok (.bipush 119, 2) := by decide +kernel
theorem d_X5_isLetter_21 : decode prog_7_method_13_code 21 = .ok (.if_icmp .eq 21, 3) := by decide +kernel
theorem d_X5_isLetter_24 : decode prog_7_method_13_code 24 = .ok (.iload_n 0, 1) := by decide +kernel
theorem d_X5_isLetter_25 : decode prog_7_method_13_code 25 = .ok (.bipush 99, 2) := by decide +kernel
theorem d_X5_isLetter_27 : decode prog_7_method_13_code 27 = .ok (.if_icmp .eq 15, 3) := by decide +kernel
theorem d_X5_isLetter_30 : decode prog_7_method_13_code 30 = .ok (.iload_n 0, 1) := by decide +kernel
theorem d_X5_isLetter_31 : decode prog_7_method_13_code 31 = .ok (.bipush 112, 2) := by decide +kernel
theorem d_X5_isLetter_33 : decode prog_7_method_13_code 33 = .ok (.if_icmp .eq 9, 3) := by decide +kernel
theorem d_X5_isLetter_36 : decode prog_7_method_13_code 36 = .ok (.iload_n 0, 1) := by decide +kernel
theorem d_X5_isLetter_37 : decode prog_7_method_13_code 37 = .ok (.bipush 110, 2) := by decide +kernel
theorem d_X5_isLetter_39 : decode prog_7_method_13_code 39 = .ok (.if_icmp .ne 7, 3) := by decide +kernel
theorem d_X5_isLetter_42 : decode prog_7_method_13_code 42 = .ok (.iconst 1, 1) := by decide +kernel
theorem d_X5_isLetter_43 : decode prog_7_method_13_code 43 = .ok (.goto 4, 3) := by decide +kernel
theorem d_X5_isLetter_46 : decode prog_7_method_13_code 46 = .ok (.iconst 0, 1) := by decide +kernel
theorem d_X5_isLetter_47 : decode prog_7_method_13_code 47 = .ok (.ireturn, 1) := by decide +kernel
def f_X5_isLetter (a0 : Int32) : Option (Int32) := some (if a0 = (102 : Int32) then (1 : Int32) else (if a0 = (118 : Int32) then (1 : Int32) else (if a0 = (107 : Int32) then (1 : Int32) else (if a0 = (119 : Int32) then (1 : Int32) else (if a0 = (99 : Int32) then (1 : Int32) else (if a0 = (112 : Int32) then (1 : Int32) else (if a0 = (110 : Int32) then (1 : Int32) else (0 : Int32))))))))
theorem c_X5_isLetter {l : Launch} {G : gT} {χ σ : St} {a0 : Int32} {q : Int32} (h : f_X5_isLetter a0 = some q) : Ct l G yX5_isLetter prog_7_method_13_code 1 (some .boolean) 0 0 [.int a0] χ σ (some (.int q)) χ σ := by
  refine Ct.of (by decide) (Nat.le_of_ble_eq_true rfl) ?_
  intro p e s m args below meth c Q X hr hlk hQ
  have hx := X.1
  have hb := X.2.1
  intro H locs ls hw hl
  have hl : lv_has ls 1 [(0, .int a0)] := hl
  unfold f_X5_isLetter at h
  refine lv_iload_n hx hb d_X5_isLetter_0 rfl (lv_at hl 0 rfl) ?_
  refine lv_bipush (v := (102 : Int32)) hx hb d_X5_isLetter_1 (by decide) ?_
  refine lv_icmp_eq (tgt := 42) hx hb d_X5_isLetter_3 (by decide) (fun hc => ?_) (fun hc => ?_)
  · simp only [if_pos hc] at h
    refine lv_iconst (v := (1 : Int32)) hx hb d_X5_isLetter_42 (by decide) ?_
    refine lv_goto (tgt := 47) hx hb d_X5_isLetter_43 (by decide) ?_
    obtain rfl := Option.some.inj h
    subst hQ
    exact r_zret X hr nbz1 hlk hw d_X5_isLetter_47
  · simp only [if_neg hc] at h
    refine lv_iload_n hx hb d_X5_isLetter_6 rfl (lv_at hl 0 rfl) ?_
    refine lv_bipush (v := (118 : Int32)) hx hb d_X5_isLetter_7 (by decide) ?_
    refine lv_icmp_eq (tgt := 42) hx hb d_X5_isLetter_9 (by decide) (fun hc => ?_) (fun hc => ?_)
    · simp only [if_pos hc] at h
      refine lv_iconst (v := (1 : Int32)) hx hb d_X5_isLetter_42 (by decide) ?_
      refine lv_goto (tgt := 47) hx hb d_X5_isLetter_43 (by decide) ?_
      obtain rfl := Option.some.inj h
      subst hQ
      exact r_zret X hr nbz1 hlk hw d_X5_isLetter_47
    · simp only [if_neg hc] at h
      refine lv_iload_n hx hb d_X5_isLetter_12 rfl (lv_at hl 0 rfl) ?_
      refine lv_bipush (v := (107 : Int32)) hx hb d_X5_isLetter_13 (by decide) ?_
      refine lv_icmp_eq (tgt := 42) hx hb d_X5_isLetter_15 (by decide) (fun hc => ?_) (fun hc => ?_)
      · simp only [if_pos hc] at h
        refine lv_iconst (v := (1 : Int32)) hx hb d_X5_isLetter_42 (by decide) ?_
        refine lv_goto (tgt := 47) hx hb d_X5_isLetter_43 (by decide) ?_
        obtain rfl := Option.some.inj h
        subst hQ
        exact r_zret X hr nbz1 hlk hw d_X5_isLetter_47
      · simp only [if_neg hc] at h
        refine lv_iload_n hx hb d_X5_isLetter_18 rfl (lv_at hl 0 rfl) ?_
        refine lv_bipush (v := (119 : Int32)) hx hb d_X5_isLetter_19 (by decide) ?_
        refine lv_icmp_eq (tgt := 42) hx hb d_X5_isLetter_21 (by decide) (fun hc => ?_) (fun hc => ?_)
        · simp only [if_pos hc] at h
          refine lv_iconst (v := (1 : Int32)) hx hb d_X5_isLetter_42 (by decide) ?_
          refine lv_goto (tgt := 47) hx hb d_X5_isLetter_43 (by decide) ?_
          obtain rfl := Option.some.inj h
          subst hQ
          exact r_zret X hr nbz1 hlk hw d_X5_isLetter_47
        · simp only [if_neg hc] at h
          refine lv_iload_n hx hb d_X5_isLetter_24 rfl (lv_at hl 0 rfl) ?_
          refine lv_bipush (v := (99 : Int32)) hx hb d_X5_isLetter_25 (by decide) ?_
          refine lv_icmp_eq (tgt := 42) hx hb d_X5_isLetter_27 (by decide) (fun hc => ?_) (fun hc => ?_)
          · simp only [if_pos hc] at h
            refine lv_iconst (v := (1 : Int32)) hx hb d_X5_isLetter_42 (by decide) ?_
            refine lv_goto (tgt := 47) hx hb d_X5_isLetter_43 (by decide) ?_
            obtain rfl := Option.some.inj h
            subst hQ
            exact r_zret X hr nbz1 hlk hw d_X5_isLetter_47
          · simp only [if_neg hc] at h
            refine lv_iload_n hx hb d_X5_isLetter_30 rfl (lv_at hl 0 rfl) ?_
            refine lv_bipush (v := (112 : Int32)) hx hb d_X5_isLetter_31 (by decide) ?_
            refine lv_icmp_eq (tgt := 42) hx hb d_X5_isLetter_33 (by decide) (fun hc => ?_) (fun hc => ?_)
            · simp only [if_pos hc] at h
              refine lv_iconst (v := (1 : Int32)) hx hb d_X5_isLetter_42 (by decide) ?_
              refine lv_goto (tgt := 47) hx hb d_X5_isLetter_43 (by decide) ?_
              obtain rfl := Option.some.inj h
              subst hQ
              exact r_zret X hr nbz1 hlk hw d_X5_isLetter_47
            · simp only [if_neg hc] at h
              refine lv_iload_n hx hb d_X5_isLetter_36 rfl (lv_at hl 0 rfl) ?_
              refine lv_bipush (v := (110 : Int32)) hx hb d_X5_isLetter_37 (by decide) ?_
              refine lv_icmp_ne (tgt := 46) hx hb d_X5_isLetter_39 (by decide) (fun hc => ?_) (fun hc => ?_)
              · simp only [if_neg hc] at h
                refine lv_iconst (v := (0 : Int32)) hx hb d_X5_isLetter_46 (by decide) ?_
                obtain rfl := Option.some.inj h
                subst hQ
                exact r_zret X hr nbz0 hlk hw d_X5_isLetter_47
              · simp only [if_pos hc] at h
                refine lv_iconst (v := (1 : Int32)) hx hb d_X5_isLetter_42 (by decide) ?_
                refine lv_goto (tgt := 47) hx hb d_X5_isLetter_43 (by decide) ?_
                obtain rfl := Option.some.inj h
                subst hQ
                exact r_zret X hr nbz1 hlk hw d_X5_isLetter_47
abbrev yX5_push : MethodName := ⟨"OysterBeds$Law", "push", "(I)V"⟩
theorem mwX5_push : MW yX5_push prog_7_method_11_code 2 none 1 := ⟨wd_228, wd_8, by decide +kernel⟩
theorem d_X5_push_0 : decode prog_7_method_11_code 0 = .ok (.aload_n 0, 1) := by decide +kernel
theorem d_X5_push_1 : decode prog_7_method_11_code 1 = .ok (.getfield 72, 3) := by decide +kernel
theorem d_X5_push_4 : decode prog_7_method_11_code 4 = .ok (.bipush 40, 2) := by decide +kernel
theorem d_X5_push_6 : decode prog_7_method_11_code 6 = .ok (.if_icmp .ge 23, 3) := by decide +kernel
theorem d_X5_push_9 : decode prog_7_method_11_code 9 = .ok (.aload_n 0, 1) := by decide +kernel
theorem d_X5_push_10 : decode prog_7_method_11_code 10 = .ok (.getfield 15, 3) := by decide +kernel
theorem d_X5_push_13 : decode prog_7_method_11_code 13 = .ok (.aload_n 0, 1) := by decide +kernel
theorem d_X5_push_14 : decode prog_7_method_11_code 14 = .ok (.getfield 72, 3) := by decide +kernel
theorem d_X5_push_17 : decode prog_7_method_11_code 17 = .ok (.iload_n 1, 1) := by decide +kernel
theorem d_X5_push_18 : decode prog_7_method_11_code 18 = .ok (.iastore, 1) := by decide +kernel
theorem d_X5_push_19 : decode prog_7_method_11_code 19 = .ok (.aload_n 0, 1) := by decide +kernel
theorem d_X5_push_20 : decode prog_7_method_11_code 20 = .ok (.dup, 1) := by decide +kernel
theorem d_X5_push_21 : decode prog_7_method_11_code 21 = .ok (.getfield 72, 3) := by decide +kernel
theorem d_X5_push_24 : decode prog_7_method_11_code 24 = .ok (.iconst 1, 1) := by decide +kernel
theorem d_X5_push_25 : decode prog_7_method_11_code 25 = .ok (.iadd, 1) := by decide +kernel
theorem d_X5_push_26 : decode prog_7_method_11_code 26 = .ok (.putfield 72, 3) := by decide +kernel
theorem d_X5_push_29 : decode prog_7_method_11_code 29 = .ok (.return_, 1) := by decide +kernel
def f_X5_push (χ : St) (w : Nat) (a1 : Int32) : Option (St) := (if (40 : Int32) ≤ (cF χ w 3) then some χ else gd (inb (cF χ w 3) 40) (some (sF (sA χ (w + 2) (cF χ w 3).toNatClampNeg a1) w 3 ((cF (sA χ (w + 2) (cF χ w 3).toNatClampNeg a1) w 3) + (1 : Int32)))))
theorem c_X5_push {l : Launch} {G : gT} {χ σ : St} {w : Nat} {a1 : Int32} (hw_w : LW G w) {q : St} (h : f_X5_push χ w a1 = some q) : Ct l G yX5_push prog_7_method_11_code 2 none 0 0 [.ref (ga G w), .int a1] χ σ (none) q σ := by
  obtain ⟨ow0_w, ow1_w, ow2_w, ow3_w, ow4_w, lw_w⟩ := law_at hw_w
  have lw0_w : w < 300 := by omega
  have lw1_w : w + 1 < 300 := by omega
  have lw2_w : w + 2 < 300 := by omega
  have lw3_w : w + 3 < 300 := by omega
  have lw4_w : w + 4 < 300 := by omega
  refine Ct.of (by decide) (Nat.le_of_ble_eq_true rfl) ?_
  intro p e s m args below meth c Q X hr hlk hQ
  have hx := X.1
  have hb := X.2.1
  intro H locs ls hw hl
  have hl : lv_has ls 2 [(0, .ref (ga G w)), (1, .int a1)] := hl
  unfold f_X5_push at h
  refine lv_aload_n hx hb d_X5_push_0 rfl (lv_at hl 0 rfl) ?_
  refine r_geti (j := 3) X hw ct2 ow0_w lw0_w rfl (Nat.le_of_ble_eq_true rfl) wd_239 d_X5_push_1 ?_
  refine lv_bipush (v := (40 : Int32)) hx hb d_X5_push_4 (by decide) ?_
  refine lv_icmp_ge (tgt := 29) hx hb d_X5_push_6 (by decide) (fun hc => ?_) (fun hc => ?_)
  · have h := ite_t h hc
    obtain rfl := Option.some.inj h
    subst hQ
    exact r_vret X hr hlk hw d_X5_push_29
  · have h := ite_f h hc
    refine lv_aload_n hx hb d_X5_push_9 rfl (lv_at hl 0 rfl) ?_
    refine r_getr (j := 2) X hw ct2 ow0_w rfl (Nat.le_of_ble_eq_true rfl) (q := (w + 2)) (rt_law hw_w).2.1 wd_238 d_X5_push_10 ?_
    refine lv_aload_n hx hb d_X5_push_13 rfl (lv_at hl 0 rfl) ?_
    refine r_geti (j := 3) X hw ct2 ow0_w lw0_w rfl (Nat.le_of_ble_eq_true rfl) wd_239 d_X5_push_14 ?_
    refine lv_iload_n hx hb d_X5_push_17 rfl (lv_at hl 1 rfl) ?_
    obtain ⟨hi1, h⟩ := gd_some h
    refine r_iast X hw ow2_w lw2_w hi1 d_X5_push_18 (fun H locs hw => ?_)
    refine lv_aload_n hx hb d_X5_push_19 rfl (lv_at hl 0 rfl) ?_
    refine lv_dup hx hb d_X5_push_20 rfl ?_
    refine r_geti (j := 3) X hw ct2 ow0_w lw0_w rfl (Nat.le_of_ble_eq_true rfl) wd_239 d_X5_push_21 ?_
    refine lv_iconst (v := (1 : Int32)) hx hb d_X5_push_24 (by decide) ?_
    refine lv_iadd hx hb d_X5_push_25 ?_
    refine r_puti (j := 3) X hw ct2 ow0_w lw0_w rfl (Nat.le_of_ble_eq_true rfl) rfl rfl rfl wd_239 d_X5_push_26 (fun H locs hw => ?_)
    obtain rfl := Option.some.inj h
    subst hQ
    exact r_vret X hr hlk hw d_X5_push_29
abbrev yX5_takeAheadOfThing : MethodName := ⟨"OysterBeds$Law", "takeAheadOfThing", "(C)Z"⟩
theorem mwX5_takeAheadOfThing : MW yX5_takeAheadOfThing prog_7_method_8_code 2 (some .boolean) 1 := ⟨wd_232, wd_8, by decide +kernel⟩
theorem d_X5_takeAheadOfThing_0 : decode prog_7_method_8_code 0 = .ok (.iload_n 1, 1) := by decide +kernel
theorem d_X5_takeAheadOfThing_1 : decode prog_7_method_8_code 1 = .ok (.bipush 45, 2) := by decide +kernel
theorem d_X5_takeAheadOfThing_3 : decode prog_7_method_8_code 3 = .ok (.if_icmp .ne 12, 3) := by decide +kernel
theorem d_X5_takeAheadOfThing_6 : decode prog_7_method_8_code 6 = .ok (.aload_n 0, 1) := by decide +kernel
theorem d_X5_takeAheadOfThing_7 : decode prog_7_method_8_code 7 = .ok (.sipush 256, 3) := by decide +kernel
theorem d_X5_takeAheadOfThing_10 : decode prog_7_method_8_code 10 = .ok (.invokevirtual 91, 3) := by decide +kernel
theorem d_X5_takeAheadOfThing_13 : decode prog_7_method_8_code 13 = .ok (.iconst 1, 1) := by decide +kernel
theorem d_X5_takeAheadOfThing_14 : decode prog_7_method_8_code 14 = .ok (.ireturn, 1) := by decide +kernel
theorem d_X5_takeAheadOfThing_15 : decode prog_7_method_8_code 15 = .ok (.iload_n 1, 1) := by decide +kernel
theorem d_X5_takeAheadOfThing_16 : decode prog_7_method_8_code 16 = .ok (.bipush 40, 2) := by decide +kernel
theorem d_X5_takeAheadOfThing_18 : decode prog_7_method_8_code 18 = .ok (.if_icmp .ne 40, 3) := by decide +kernel
theorem d_X5_takeAheadOfThing_21 : decode prog_7_method_8_code 21 = .ok (.aload_n 0, 1) := by decide +kernel
theorem d_X5_takeAheadOfThing_22 : decode prog_7_method_8_code 22 = .ok (.getfield 68, 3) := by decide +kernel
theorem d_X5_takeAheadOfThing_25 : decode prog_7_method_8_code 25 = .ok (.iconst 4, 1) := by decide +kernel
theorem d_X5_takeAheadOfThing_26 : decode prog_7_method_8_code 26 = .ok (.if_icmp .lt 5, 3) := by decide +kernel
theorem d_X5_takeAheadOfThing_29 : decode prog_7_method_8_code 29 = .ok (.iconst 0, 1) := by decide +kernel
theorem d_X5_takeAheadOfThing_30 : decode prog_7_method_8_code 30 = .ok (.ireturn, 1) := by decide +kernel
theorem d_X5_takeAheadOfThing_31 : decode prog_7_method_8_code 31 = .ok (.aload_n 0, 1) := by decide +kernel
theorem d_X5_takeAheadOfThing_32 : decode prog_7_method_8_code 32 = .ok (.dup, 1) := by decide +kernel
theorem d_X5_takeAheadOfThing_33 : decode prog_7_method_8_code 33 = .ok (.getfield 68, 3) := by decide +kernel
theorem d_X5_takeAheadOfThing_36 : decode prog_7_method_8_code 36 = .ok (.iconst 1, 1) := by decide +kernel
theorem d_X5_takeAheadOfThing_37 : decode prog_7_method_8_code 37 = .ok (.iadd, 1) := by decide +kernel
theorem d_X5_takeAheadOfThing_38 : decode prog_7_method_8_code 38 = .ok (.putfield 68, 3) := by decide +kernel
theorem d_X5_takeAheadOfThing_41 : decode prog_7_method_8_code 41 = .ok (.aload_n 0, 1) := by decide +kernel
theorem d_X5_takeAheadOfThing_42 : decode prog_7_method_8_code 42 = .ok (.getfield 18, 3) := by decide +kernel
theorem d_X5_takeAheadOfThing_45 : decode prog_7_method_8_code 45 = .ok (.aload_n 0, 1) := by decide +kernel
theorem d_X5_takeAheadOfThing_46 : decode prog_7_method_8_code 46 = .ok (.getfield 68, 3) := by decide +kernel
theorem d_X5_takeAheadOfThing_49 : decode prog_7_method_8_code 49 = .ok (.iconst 0, 1) := by decide +kernel
theorem d_X5_takeAheadOfThing_50 : decode prog_7_method_8_code 50 = .ok (.bastore, 1) := by decide +kernel
theorem d_X5_takeAheadOfThing_51 : decode prog_7_method_8_code 51 = .ok (.aload_n 0, 1) := by decide +kernel
theorem d_X5_takeAheadOfThing_52 : decode prog_7_method_8_code 52 = .ok (.iload_n 1, 1) := by decide +kernel
theorem d_X5_takeAheadOfThing_53 : decode prog_7_method_8_code 53 = .ok (.invokevirtual 91, 3) := by decide +kernel
theorem d_X5_takeAheadOfThing_56 : decode prog_7_method_8_code 56 = .ok (.iconst 1, 1) := by decide +kernel
theorem d_X5_takeAheadOfThing_57 : decode prog_7_method_8_code 57 = .ok (.ireturn, 1) := by decide +kernel
theorem d_X5_takeAheadOfThing_58 : decode prog_7_method_8_code 58 = .ok (.iload_n 1, 1) := by decide +kernel
theorem d_X5_takeAheadOfThing_59 : decode prog_7_method_8_code 59 = .ok (.invokestatic 94, 3) := by decide +kernel
theorem d_X5_takeAheadOfThing_62 : decode prog_7_method_8_code 62 = .ok (.ifCond .ne 5, 3) := by decide +kernel
theorem d_X5_takeAheadOfThing_65 : decode prog_7_method_8_code 65 = .ok (.iconst 0, 1) := by decide +kernel
theorem d_X5_takeAheadOfThing_66 : decode prog_7_method_8_code 66 = .ok (.ireturn, 1) := by decide +kernel
theorem d_X5_takeAheadOfThing_67 : decode prog_7_method_8_code 67 = .ok (.aload_n 0, 1) := by decide +kernel
theorem d_X5_takeAheadOfThing_68 : decode prog_7_method_8_code 68 = .ok (.sipush 1000, 3) := by decide +kernel
theorem d_X5_takeAheadOfThing_71 : decode prog_7_method_8_code 71 = .ok (.iload_n 1, 1) := by decide +kernel
theorem d_X5_takeAheadOfThing_72 : decode prog_7_method_8_code 72 = .ok (.iadd, 1) := by decide +kernel
theorem d_X5_takeAheadOfThing_73 : decode prog_7_method_8_code 73 = .ok (.invokevirtual 88, 3) := by decide +kernel
theorem d_X5_takeAheadOfThing_76 : decode prog_7_method_8_code 76 = .ok (.aload_n 0, 1) := by decide +kernel
theorem d_X5_takeAheadOfThing_77 : decode prog_7_method_8_code 77 = .ok (.iconst 1, 1) := by decide +kernel
theorem d_X5_takeAheadOfThing_78 : decode prog_7_method_8_code 78 = .ok (.putfield 64, 3) := by decide +kernel
theorem d_X5_takeAheadOfThing_81 : decode prog_7_method_8_code 81 = .ok (.iconst 1, 1) := by decide +kernel
theorem d_X5_takeAheadOfThing_82 : decode prog_7_method_8_code 82 = .ok (.ireturn, 1) := by decide +kernel
def f_X5_takeAheadOfThing (χ : St) (w : Nat) (a1 : Int32) : Option (Int32 × St) := (if a1 = (45 : Int32) then (f_X5_push χ w (256 : Int32)).bind (fun q8 => some ((1 : Int32), q8)) else (if a1 = (40 : Int32) then (if (cF χ w 5) < (4 : Int32) then gd (inb (cF (sF χ w 5 ((cF χ w 5) + (1 : Int32))) w 5) 5) ((f_X5_push (sA (sF χ w 5 ((cF χ w 5) + (1 : Int32))) (w + 3) (cF (sF χ w 5 ((cF χ w 5) + (1 : Int32))) w 5).toNatClampNeg (vp_nar .boolean (0 : Int32))) w a1).bind (fun q6 => some ((1 : Int32), q6))) else some ((0 : Int32), χ)) else (f_X5_isLetter a1).bind (fun q1 => (if q1 = 0 then some ((0 : Int32), χ) else (f_X5_emit χ w ((1000 : Int32) + a1)).bind (fun q3 => some ((1 : Int32), (sF q3 w 7 (1 : Int32))))))))
theorem c_X5_takeAheadOfThing {l : Launch} {G : gT} {χ σ : St} {w : Nat} {a1 : Int32} (hw_w : LW G w) {q : Int32 × St} (h : f_X5_takeAheadOfThing χ w a1 = some q) : Ct l G yX5_takeAheadOfThing prog_7_method_8_code 2 (some .boolean) 1 21 [.ref (ga G w), .int a1] χ σ (some (.int q.1)) q.2 σ := by
  obtain ⟨ow0_w, ow1_w, ow2_w, ow3_w, ow4_w, lw_w⟩ := law_at hw_w
  have lw0_w : w < 300 := by omega
  have lw1_w : w + 1 < 300 := by omega
  have lw2_w : w + 2 < 300 := by omega
  have lw3_w : w + 3 < 300 := by omega
  have lw4_w : w + 4 < 300 := by omega
  refine Ct.of (by decide) (Nat.le_of_ble_eq_true rfl) ?_
  intro p e s m args below meth c Q X hr hlk hQ
  have hx := X.1
  have hb := X.2.1
  intro H locs ls hw hl
  have hl : lv_has ls 2 [(0, .ref (ga G w)), (1, .int a1)] := hl
  unfold f_X5_takeAheadOfThing at h
  refine lv_iload_n hx hb d_X5_takeAheadOfThing_0 rfl (lv_at hl 1 rfl) ?_
  refine lv_bipush (v := (45 : Int32)) hx hb d_X5_takeAheadOfThing_1 (by decide) ?_
  refine lv_icmp_ne (tgt := 15) hx hb d_X5_takeAheadOfThing_3 (by decide) (fun hc => ?_) (fun hc => ?_)
  · have h := ite_f h hc
    refine lv_iload_n hx hb d_X5_takeAheadOfThing_15 rfl (lv_at hl 1 rfl) ?_
    refine lv_bipush (v := (40 : Int32)) hx hb d_X5_takeAheadOfThing_16 (by decide) ?_
    refine lv_icmp_ne (tgt := 58) hx hb d_X5_takeAheadOfThing_18 (by decide) (fun hc => ?_) (fun hc => ?_)
    · have h := ite_f h hc
      refine lv_iload_n hx hb d_X5_takeAheadOfThing_58 rfl (lv_at hl 1 rfl) ?_
      obtain ⟨q1, e2, h⟩ := bd_some h
      refine r_callS (As := [.int a1]) (rest := []) (st' := [.int q1]) X hw hl mwX5_isLetter wd_234 wd_233 (c_X5_isLetter e2) rfl ⟨Nat.le_of_ble_eq_true rfl, Nat.le_of_ble_eq_true rfl⟩ ⟨Nat.le_refl _, Nat.le_refl _⟩ rfl rfl (Nat.le_of_ble_eq_true rfl) d_X5_takeAheadOfThing_59 (fun H locs hw => ?_)
      refine lv_if_ne (tgt := 67) hx hb d_X5_takeAheadOfThing_62 (by decide) (fun hc => ?_) (fun hc => ?_)
      · have h := ite_f h hc
        refine lv_aload_n hx hb d_X5_takeAheadOfThing_67 rfl (lv_at hl 0 rfl) ?_
        refine lv_sipush (v := (1000 : Int32)) hx hb d_X5_takeAheadOfThing_68 (by decide) ?_
        refine lv_iload_n hx hb d_X5_takeAheadOfThing_71 rfl (lv_at hl 1 rfl) ?_
        refine lv_iadd hx hb d_X5_takeAheadOfThing_72 ?_
        obtain ⟨q3, e4, h⟩ := bd_some h
        refine r_callV (As := [.int ((1000 : Int32) + a1)]) (rest := []) (st' := []) X hw hl mwX5_emit wd_209 wp_4 wd_207 (c_X5_emit hw_w e4) (r_recv X hw ct2 ow0_w) rfl ⟨Nat.le_of_ble_eq_true rfl, Nat.le_of_ble_eq_true rfl⟩ ⟨Nat.le_refl _, Nat.le_refl _⟩ rfl rfl (Nat.le_of_ble_eq_true rfl) d_X5_takeAheadOfThing_73 (fun H locs hw => ?_)
        refine lv_aload_n hx hb d_X5_takeAheadOfThing_76 rfl (lv_at hl 0 rfl) ?_
        refine lv_iconst (v := (1 : Int32)) hx hb d_X5_takeAheadOfThing_77 (by decide) ?_
        refine r_puti (j := 7) X hw ct2 ow0_w lw0_w rfl (Nat.le_of_ble_eq_true rfl) rfl (by decide) (by decide) wd_243 d_X5_takeAheadOfThing_78 (fun H locs hw => ?_)
        refine lv_iconst (v := (1 : Int32)) hx hb d_X5_takeAheadOfThing_81 (by decide) ?_
        obtain rfl := Option.some.inj h
        subst hQ
        exact r_zret X hr nbz1 hlk hw d_X5_takeAheadOfThing_82
      · have h := ite_t h hc
        refine lv_iconst (v := (0 : Int32)) hx hb d_X5_takeAheadOfThing_65 (by decide) ?_
        obtain rfl := Option.some.inj h
        subst hQ
        exact r_zret X hr nbz0 hlk hw d_X5_takeAheadOfThing_66
    · have h := ite_t h hc
      refine lv_aload_n hx hb d_X5_takeAheadOfThing_21 rfl (lv_at hl 0 rfl) ?_
      refine r_geti (j := 5) X hw ct2 ow0_w lw0_w rfl (Nat.le_of_ble_eq_true rfl) wd_241 d_X5_takeAheadOfThing_22 ?_
      refine lv_iconst (v := (4 : Int32)) hx hb d_X5_takeAheadOfThing_25 (by decide) ?_
      refine lv_icmp_lt (tgt := 31) hx hb d_X5_takeAheadOfThing_26 (by decide) (fun hc => ?_) (fun hc => ?_)
      · have h := ite_t h hc
        refine lv_aload_n hx hb d_X5_takeAheadOfThing_31 rfl (lv_at hl 0 rfl) ?_
        refine lv_dup hx hb d_X5_takeAheadOfThing_32 rfl ?_
        refine r_geti (j := 5) X hw ct2 ow0_w lw0_w rfl (Nat.le_of_ble_eq_true rfl) wd_241 d_X5_takeAheadOfThing_33 ?_
        refine lv_iconst (v := (1 : Int32)) hx hb d_X5_takeAheadOfThing_36 (by decide) ?_
        refine lv_iadd hx hb d_X5_takeAheadOfThing_37 ?_
        refine r_puti (j := 5) X hw ct2 ow0_w lw0_w rfl (Nat.le_of_ble_eq_true rfl) rfl rfl rfl wd_241 d_X5_takeAheadOfThing_38 (fun H locs hw => ?_)
        refine lv_aload_n hx hb d_X5_takeAheadOfThing_41 rfl (lv_at hl 0 rfl) ?_
        refine r_getr (j := 4) X hw ct2 ow0_w rfl (Nat.le_of_ble_eq_true rfl) (q := (w + 3)) (rt_law hw_w).2.2.1 wd_240 d_X5_takeAheadOfThing_42 ?_
        refine lv_aload_n hx hb d_X5_takeAheadOfThing_45 rfl (lv_at hl 0 rfl) ?_
        refine r_geti (j := 5) X hw ct2 ow0_w lw0_w rfl (Nat.le_of_ble_eq_true rfl) wd_241 d_X5_takeAheadOfThing_46 ?_
        refine lv_iconst (v := (0 : Int32)) hx hb d_X5_takeAheadOfThing_49 (by decide) ?_
        obtain ⟨hi5, h⟩ := gd_some h
        refine r_zast X hw ow3_w lw3_w hi5 d_X5_takeAheadOfThing_50 (fun H locs hw => ?_)
        refine lv_aload_n hx hb d_X5_takeAheadOfThing_51 rfl (lv_at hl 0 rfl) ?_
        refine lv_iload_n hx hb d_X5_takeAheadOfThing_52 rfl (lv_at hl 1 rfl) ?_
        obtain ⟨q6, e7, h⟩ := bd_some h
        refine r_callV (As := [.int a1]) (rest := []) (st' := []) X hw hl mwX5_push wd_227 wp_7 wd_225 (c_X5_push hw_w e7) (r_recv X hw ct2 ow0_w) rfl ⟨Nat.le_of_ble_eq_true rfl, Nat.le_of_ble_eq_true rfl⟩ ⟨Nat.le_refl _, Nat.le_refl _⟩ rfl rfl (Nat.le_of_ble_eq_true rfl) d_X5_takeAheadOfThing_53 (fun H locs hw => ?_)
        refine lv_iconst (v := (1 : Int32)) hx hb d_X5_takeAheadOfThing_56 (by decide) ?_
        obtain rfl := Option.some.inj h
        subst hQ
        exact r_zret X hr nbz1 hlk hw d_X5_takeAheadOfThing_57
      · have h := ite_f h hc
        refine lv_iconst (v := (0 : Int32)) hx hb d_X5_takeAheadOfThing_29 (by decide) ?_
        obtain rfl := Option.some.inj h
        subst hQ
        exact r_zret X hr nbz0 hlk hw d_X5_takeAheadOfThing_30
  · have h := ite_t h hc
    refine lv_aload_n hx hb d_X5_takeAheadOfThing_6 rfl (lv_at hl 0 rfl) ?_
    refine lv_sipush (v := (256 : Int32)) hx hb d_X5_takeAheadOfThing_7 (by decide) ?_
    obtain ⟨q8, e9, h⟩ := bd_some h
    refine r_callV (As := [.int (256 : Int32)]) (rest := []) (st' := []) X hw hl mwX5_push wd_227 wp_7 wd_225 (c_X5_push hw_w e9) (r_recv X hw ct2 ow0_w) rfl ⟨Nat.le_of_ble_eq_true rfl, Nat.le_of_ble_eq_true rfl⟩ ⟨Nat.le_refl _, Nat.le_refl _⟩ rfl rfl (Nat.le_of_ble_eq_true rfl) d_X5_takeAheadOfThing_10 (fun H locs hw => ?_)
    refine lv_iconst (v := (1 : Int32)) hx hb d_X5_takeAheadOfThing_13 (by decide) ?_
    obtain rfl := Option.some.inj h
    subst hQ
    exact r_zret X hr nbz1 hlk hw d_X5_takeAheadOfThing_14
abbrev yX5_strengthOf : MethodName := ⟨"OysterBeds$Law", "strengthOf", "(I)I"⟩
theorem mwX5_strengthOf : MW yX5_strengthOf prog_7_method_14_code 1 (some .int) 1 := ⟨wd_221, wd_8, by decide +kernel⟩
theorem d_X5_strengthOf_0 : decode prog_7_method_14_code 0 = .ok (.iload_n 0, 1) := by decide +kernel
theorem d_X5_strengthOf_1 : decode prog_7_method_14_code 1 = .ok (.lookupswitch 83 #[(42, 79), (43, 77), (45, 77), (47, 79), (60, 75), (61, 75), (62, 75), (256, 81)], 75) := by decide +kernel
theorem d_X5_strengthOf_76 : decode prog_7_method_14_code 76 = .ok (.iconst 1, 1) := by decide +kernel
theorem d_X5_strengthOf_77 : decode prog_7_method_14_code 77 = .ok (.ireturn, 1) := by decide +kernel
theorem d_X5_strengthOf_78 : decode prog_7_method_14_code 78 = .ok (.iconst 2, 1) := by decide +kernel
theorem d_X5_strengthOf_79 : decode prog_7_method_14_code 79 = .ok (.ireturn, 1) := by decide +kernel
theorem d_X5_strengthOf_80 : decode prog_7_method_14_code 80 = .ok (.iconst 3, 1) := by decide +kernel
theorem d_X5_strengthOf_81 : decode prog_7_method_14_code 81 = .ok (.ireturn, 1) := by decide +kernel
theorem d_X5_strengthOf_82 : decode prog_7_method_14_code 82 = .ok (.iconst 4, 1) := by decide +kernel
theorem d_X5_strengthOf_83 : decode prog_7_method_14_code 83 = .ok (.ireturn, 1) := by decide +kernel
theorem d_X5_strengthOf_84 : decode prog_7_method_14_code 84 = .ok (.iconst 0, 1) := by decide +kernel
theorem d_X5_strengthOf_85 : decode prog_7_method_14_code 85 = .ok (.ireturn, 1) := by decide +kernel
theorem swD_X5_strengthOf_1 {x : Int32} (h0 : ¬ x = (42 : Int32)) (h1 : ¬ x = (43 : Int32)) (h2 : ¬ x = (45 : Int32)) (h3 : ¬ x = (47 : Int32)) (h4 : ¬ x = (60 : Int32)) (h5 : ¬ x = (61 : Int32)) (h6 : ¬ x = (62 : Int32)) (h7 : ¬ x = (256 : Int32)) : Op.lookupswitch.offset [(42, 79), (43, 77), (45, 77), (47, 79), (60, 75), (61, 75), (62, 75), (256, 81)] 83 x.toInt = 83 := by
  rw [lv_osw h0 (by decide), lv_osw h1 (by decide), lv_osw h2 (by decide), lv_osw h3 (by decide), lv_osw h4 (by decide), lv_osw h5 (by decide), lv_osw h6 (by decide), lv_osw h7 (by decide)]
  first | done | rfl
def f_X5_strengthOf (a0 : Int32) : Option (Int32) := (if a0 = (42 : Int32) then some (3 : Int32) else if a0 = (43 : Int32) then some (2 : Int32) else if a0 = (45 : Int32) then some (2 : Int32) else if a0 = (47 : Int32) then some (3 : Int32) else if a0 = (60 : Int32) then some (1 : Int32) else if a0 = (61 : Int32) then some (1 : Int32) else if a0 = (62 : Int32) then some (1 : Int32) else if a0 = (256 : Int32) then some (4 : Int32) else some (0 : Int32))
theorem c_X5_strengthOf {l : Launch} {G : gT} {χ σ : St} {a0 : Int32} {q : Int32} (h : f_X5_strengthOf a0 = some q) : Ct l G yX5_strengthOf prog_7_method_14_code 1 (some .int) 0 0 [.int a0] χ σ (some (.int q)) χ σ := by
  refine Ct.of (by decide) (Nat.le_of_ble_eq_true rfl) ?_
  intro p e s m args below meth c Q X hr hlk hQ
  have hx := X.1
  have hb := X.2.1
  intro H locs ls hw hl
  have hl : lv_has ls 1 [(0, .int a0)] := hl
  unfold f_X5_strengthOf at h
  refine lv_iload_n hx hb d_X5_strengthOf_0 rfl (lv_at hl 0 rfl) ?_
  by_cases hc0 : a0 = (42 : Int32)
  · have h := ite_t h hc0
    refine lv_lookup (tgt := 80) hx hb d_X5_strengthOf_1 (by decide) (by rw [hc0]; first | done | rfl) (by decide) ?_
    refine lv_iconst (v := (3 : Int32)) hx hb d_X5_strengthOf_80 (by decide) ?_
    obtain rfl := Option.some.inj h
    subst hQ
    exact r_iret X hr hlk hw d_X5_strengthOf_81
  have h := ite_f h hc0
  by_cases hc1 : a0 = (43 : Int32)
  · have h := ite_t h hc1
    refine lv_lookup (tgt := 78) hx hb d_X5_strengthOf_1 (by decide) (by rw [hc1]; first | done | rfl) (by decide) ?_
    refine lv_iconst (v := (2 : Int32)) hx hb d_X5_strengthOf_78 (by decide) ?_
    obtain rfl := Option.some.inj h
    subst hQ
    exact r_iret X hr hlk hw d_X5_strengthOf_79
  have h := ite_f h hc1
  by_cases hc2 : a0 = (45 : Int32)
  · have h := ite_t h hc2
    refine lv_lookup (tgt := 78) hx hb d_X5_strengthOf_1 (by decide) (by rw [hc2]; first | done | rfl) (by decide) ?_
    refine lv_iconst (v := (2 : Int32)) hx hb d_X5_strengthOf_78 (by decide) ?_
    obtain rfl := Option.some.inj h
    subst hQ
    exact r_iret X hr hlk hw d_X5_strengthOf_79
  have h := ite_f h hc2
  by_cases hc3 : a0 = (47 : Int32)
  · have h := ite_t h hc3
    refine lv_lookup (tgt := 80) hx hb d_X5_strengthOf_1 (by decide) (by rw [hc3]; first | done | rfl) (by decide) ?_
    refine lv_iconst (v := (3 : Int32)) hx hb d_X5_strengthOf_80 (by decide) ?_
    obtain rfl := Option.some.inj h
    subst hQ
    exact r_iret X hr hlk hw d_X5_strengthOf_81
  have h := ite_f h hc3
  by_cases hc4 : a0 = (60 : Int32)
  · have h := ite_t h hc4
    refine lv_lookup (tgt := 76) hx hb d_X5_strengthOf_1 (by decide) (by rw [hc4]; first | done | rfl) (by decide) ?_
    refine lv_iconst (v := (1 : Int32)) hx hb d_X5_strengthOf_76 (by decide) ?_
    obtain rfl := Option.some.inj h
    subst hQ
    exact r_iret X hr hlk hw d_X5_strengthOf_77
  have h := ite_f h hc4
  by_cases hc5 : a0 = (61 : Int32)
  · have h := ite_t h hc5
    refine lv_lookup (tgt := 76) hx hb d_X5_strengthOf_1 (by decide) (by rw [hc5]; first | done | rfl) (by decide) ?_
    refine lv_iconst (v := (1 : Int32)) hx hb d_X5_strengthOf_76 (by decide) ?_
    obtain rfl := Option.some.inj h
    subst hQ
    exact r_iret X hr hlk hw d_X5_strengthOf_77
  have h := ite_f h hc5
  by_cases hc6 : a0 = (62 : Int32)
  · have h := ite_t h hc6
    refine lv_lookup (tgt := 76) hx hb d_X5_strengthOf_1 (by decide) (by rw [hc6]; first | done | rfl) (by decide) ?_
    refine lv_iconst (v := (1 : Int32)) hx hb d_X5_strengthOf_76 (by decide) ?_
    obtain rfl := Option.some.inj h
    subst hQ
    exact r_iret X hr hlk hw d_X5_strengthOf_77
  have h := ite_f h hc6
  by_cases hc7 : a0 = (256 : Int32)
  · have h := ite_t h hc7
    refine lv_lookup (tgt := 82) hx hb d_X5_strengthOf_1 (by decide) (by rw [hc7]; first | done | rfl) (by decide) ?_
    refine lv_iconst (v := (4 : Int32)) hx hb d_X5_strengthOf_82 (by decide) ?_
    obtain rfl := Option.some.inj h
    subst hQ
    exact r_iret X hr hlk hw d_X5_strengthOf_83
  have h := ite_f h hc7
  have hn0 := lv_neT hc0 (a := 42) (by decide)
  have hn1 := lv_neT hc1 (a := 43) (by decide)
  have hn2 := lv_neT hc2 (a := 45) (by decide)
  have hn3 := lv_neT hc3 (a := 47) (by decide)
  have hn4 := lv_neT hc4 (a := 60) (by decide)
  have hn5 := lv_neT hc5 (a := 61) (by decide)
  have hn6 := lv_neT hc6 (a := 62) (by decide)
  have hn7 := lv_neT hc7 (a := 256) (by decide)
  refine lv_lookup (tgt := 84) hx hb d_X5_strengthOf_1 (by decide) (swD_X5_strengthOf_1 hc0 hc1 hc2 hc3 hc4 hc5 hc6 hc7) (by decide) ?_
  refine lv_iconst (v := (0 : Int32)) hx hb d_X5_strengthOf_84 (by decide) ?_
  obtain rfl := Option.some.inj h
  subst hQ
  exact r_iret X hr hlk hw d_X5_strengthOf_85
abbrev yX5_release : MethodName := ⟨"OysterBeds$Law", "release", "(I)V"⟩
theorem mwX5_release : MW yX5_release prog_7_method_12_code 2 none 1 := ⟨wd_218, wd_8, by decide +kernel⟩
theorem d_X5_release_0 : decode prog_7_method_12_code 0 = .ok (.aload_n 0, 1) := by decide +kernel
theorem d_X5_release_1 : decode prog_7_method_12_code 1 = .ok (.getfield 72, 3) := by decide +kernel
theorem d_X5_release_4 : decode prog_7_method_12_code 4 = .ok (.ifCond .le 67, 3) := by decide +kernel
theorem d_X5_release_7 : decode prog_7_method_12_code 7 = .ok (.aload_n 0, 1) := by decide +kernel
theorem d_X5_release_8 : decode prog_7_method_12_code 8 = .ok (.getfield 15, 3) := by decide +kernel
theorem d_X5_release_11 : decode prog_7_method_12_code 11 = .ok (.aload_n 0, 1) := by decide +kernel
theorem d_X5_release_12 : decode prog_7_method_12_code 12 = .ok (.getfield 72, 3) := by decide +kernel
theorem d_X5_release_15 : decode prog_7_method_12_code 15 = .ok (.iconst 1, 1) := by decide +kernel
theorem d_X5_release_16 : decode prog_7_method_12_code 16 = .ok (.isub, 1) := by decide +kernel
theorem d_X5_release_17 : decode prog_7_method_12_code 17 = .ok (.iaload, 1) := by decide +kernel
theorem d_X5_release_18 : decode prog_7_method_12_code 18 = .ok (.bipush 40, 2) := by decide +kernel
theorem d_X5_release_20 : decode prog_7_method_12_code 20 = .ok (.if_icmp .eq 51, 3) := by decide +kernel
theorem d_X5_release_23 : decode prog_7_method_12_code 23 = .ok (.aload_n 0, 1) := by decide +kernel
theorem d_X5_release_24 : decode prog_7_method_12_code 24 = .ok (.getfield 15, 3) := by decide +kernel
theorem d_X5_release_27 : decode prog_7_method_12_code 27 = .ok (.aload_n 0, 1) := by decide +kernel
theorem d_X5_release_28 : decode prog_7_method_12_code 28 = .ok (.getfield 72, 3) := by decide +kernel
theorem d_X5_release_31 : decode prog_7_method_12_code 31 = .ok (.iconst 1, 1) := by decide +kernel
theorem d_X5_release_32 : decode prog_7_method_12_code 32 = .ok (.isub, 1) := by decide +kernel
theorem d_X5_release_33 : decode prog_7_method_12_code 33 = .ok (.iaload, 1) := by decide +kernel
theorem d_X5_release_34 : decode prog_7_method_12_code 34 = .ok (.invokestatic 100, 3) := by decide +kernel
theorem d_X5_release_37 : decode prog_7_method_12_code 37 = .ok (.iload_n 1, 1) := by decide +kernel
theorem d_X5_release_38 : decode prog_7_method_12_code 38 = .ok (.if_icmp .lt 33, 3) := by decide +kernel
theorem d_X5_release_41 : decode prog_7_method_12_code 41 = .ok (.aload_n 0, 1) := by decide +kernel
theorem d_X5_release_42 : decode prog_7_method_12_code 42 = .ok (.dup, 1) := by decide +kernel
theorem d_X5_release_43 : decode prog_7_method_12_code 43 = .ok (.getfield 72, 3) := by decide +kernel
theorem d_X5_release_46 : decode prog_7_method_12_code 46 = .ok (.iconst 1, 1) := by decide +kernel
theorem d_X5_release_47 : decode prog_7_method_12_code 47 = .ok (.isub, 1) := by decide +kernel
theorem d_X5_release_48 : decode prog_7_method_12_code 48 = .ok (.putfield 72, 3) := by decide +kernel
theorem d_X5_release_51 : decode prog_7_method_12_code 51 = .ok (.aload_n 0, 1) := by decide +kernel
theorem d_X5_release_52 : decode prog_7_method_12_code 52 = .ok (.sipush 1000, 3) := by decide +kernel
theorem d_X5_release_55 : decode prog_7_method_12_code 55 = .ok (.aload_n 0, 1) := by decide +kernel
theorem d_X5_release_56 : decode prog_7_method_12_code 56 = .ok (.getfield 15, 3) := by decide +kernel
theorem d_X5_release_59 : decode prog_7_method_12_code 59 = .ok (.aload_n 0, 1) := by decide +kernel
theorem d_X5_release_60 : decode prog_7_method_12_code 60 = .ok (.getfield 72, 3) := by decide +kernel
theorem d_X5_release_63 : decode prog_7_method_12_code 63 = .ok (.iaload, 1) := by decide +kernel
theorem d_X5_release_64 : decode prog_7_method_12_code 64 = .ok (.iadd, 1) := by decide +kernel
theorem d_X5_release_65 : decode prog_7_method_12_code 65 = .ok (.invokevirtual 88, 3) := by decide +kernel
theorem d_X5_release_68 : decode prog_7_method_12_code 68 = .ok (.goto (-68), 3) := by decide +kernel
theorem d_X5_release_71 : decode prog_7_method_12_code 71 = .ok (.return_, 1) := by decide +kernel
def f_X5_release_s0 (w : Nat) (τ : St) (y1 : Int32) : Option ((St) ⊕ (St)) := (if (cF τ w 3) ≤ 0 then some (.inr τ) else gd (inb ((cF τ w 3) - (1 : Int32)) 40) ((if (cA τ (w + 2) ((cF τ w 3) - (1 : Int32)).toNatClampNeg) = (40 : Int32) then some (.inr τ) else gd (inb ((cF τ w 3) - (1 : Int32)) 40) ((f_X5_strengthOf (cA τ (w + 2) ((cF τ w 3) - (1 : Int32)).toNatClampNeg)).bind (fun q10 => (if q10 < y1 then some (.inr τ) else gd (inb (cF (sF τ w 3 ((cF τ w 3) - (1 : Int32))) w 3) 40) ((f_X5_emit (sF τ w 3 ((cF τ w 3) - (1 : Int32))) w ((1000 : Int32) + (cA (sF τ w 3 ((cF τ w 3) - (1 : Int32))) (w + 2) (cF (sF τ w 3 ((cF τ w 3) - (1 : Int32))) w 3).toNatClampNeg))).bind (fun q13 => some (.inl q13)))))))))
def f_X5_release (χ : St) (w : Nat) (a1 : Int32) : Option (St) := (if (cF χ w 3) ≤ 0 then some χ else gd (inb ((cF χ w 3) - (1 : Int32)) 40) ((if (cA χ (w + 2) ((cF χ w 3) - (1 : Int32)).toNatClampNeg) = (40 : Int32) then some χ else gd (inb ((cF χ w 3) - (1 : Int32)) 40) ((f_X5_strengthOf (cA χ (w + 2) ((cF χ w 3) - (1 : Int32)).toNatClampNeg)).bind (fun q3 => (if q3 < a1 then some χ else gd (inb (cF (sF χ w 3 ((cF χ w 3) - (1 : Int32))) w 3) 40) ((f_X5_emit (sF χ w 3 ((cF χ w 3) - (1 : Int32))) w ((1000 : Int32) + (cA (sF χ w 3 ((cF χ w 3) - (1 : Int32))) (w + 2) (cF (sF χ w 3 ((cF χ w 3) - (1 : Int32))) w 3).toNatClampNeg))).bind (fun q6 => (iter (fun z => f_X5_release_s0 w z a1) FU q6).bind (fun z15 => some z15)))))))))
theorem c_X5_release {l : Launch} {G : gT} {χ σ : St} {w : Nat} {a1 : Int32} (hw_w : LW G w) {q : St} (h : f_X5_release χ w a1 = some q) : Ct l G yX5_release prog_7_method_12_code 2 none 1 21 [.ref (ga G w), .int a1] χ σ (none) q σ := by
  obtain ⟨ow0_w, ow1_w, ow2_w, ow3_w, ow4_w, lw_w⟩ := law_at hw_w
  have lw0_w : w < 300 := by omega
  have lw1_w : w + 1 < 300 := by omega
  have lw2_w : w + 2 < 300 := by omega
  have lw3_w : w + 3 < 300 := by omega
  have lw4_w : w + 4 < 300 := by omega
  refine Ct.of (by decide) (Nat.le_of_ble_eq_true rfl) ?_
  intro p e s m args below meth c Q X hr hlk hQ
  have hx := X.1
  have hb := X.2.1
  have b0 : ∀ (τ : St) (y1 : Int32) (o : (St) ⊕ (St)), f_X5_release_s0 w τ y1 = some o → Sum.elim (fun z : St => Wat p l e (rmk 1 21) s m args below meth c Q G 2 0 [] [(0, .ref (ga G w)), (1, .int y1)] z σ) (fun z : St => Wat p l e (rmk 1 21) s m args below meth c Q G 2 71 [] [] z σ) o → Wat p l e (rmk 1 21) s m args below meth c Q G 2 0 [] [(0, .ref (ga G w)), (1, .int y1)] τ σ := by
    intro τ y1 o h hk H locs ls hw hl
    unfold f_X5_release_s0 at h
    refine lv_aload_n hx hb d_X5_release_0 rfl (lv_at hl 0 rfl) ?_
    refine r_geti (j := 3) X hw ct2 ow0_w lw0_w rfl (Nat.le_of_ble_eq_true rfl) wd_239 d_X5_release_1 ?_
    refine lv_if_le (tgt := 71) hx hb d_X5_release_4 (by decide) (fun hc => ?_) (fun hc => ?_)
    · have h := ite_t h hc
      obtain rfl := Option.some.inj h
      dsimp only [Sum.elim_inr] at hk
      exact hk _ _ _ hw (lv_sub hl [] rfl)
    · have h := ite_f h hc
      refine lv_aload_n hx hb d_X5_release_7 rfl (lv_at hl 0 rfl) ?_
      refine r_getr (j := 2) X hw ct2 ow0_w rfl (Nat.le_of_ble_eq_true rfl) (q := (w + 2)) (rt_law hw_w).2.1 wd_238 d_X5_release_8 ?_
      refine lv_aload_n hx hb d_X5_release_11 rfl (lv_at hl 0 rfl) ?_
      refine r_geti (j := 3) X hw ct2 ow0_w lw0_w rfl (Nat.le_of_ble_eq_true rfl) wd_239 d_X5_release_12 ?_
      refine lv_iconst (v := (1 : Int32)) hx hb d_X5_release_15 (by decide) ?_
      refine lv_isub hx hb d_X5_release_16 ?_
      obtain ⟨hi8, h⟩ := gd_some h
      refine r_iald X hw ow2_w lw2_w hi8 d_X5_release_17 ?_
      refine lv_bipush (v := (40 : Int32)) hx hb d_X5_release_18 (by decide) ?_
      refine lv_icmp_eq (tgt := 71) hx hb d_X5_release_20 (by decide) (fun hc => ?_) (fun hc => ?_)
      · have h := ite_t h hc
        obtain rfl := Option.some.inj h
        dsimp only [Sum.elim_inr] at hk
        exact hk _ _ _ hw (lv_sub hl [] rfl)
      · have h := ite_f h hc
        refine lv_aload_n hx hb d_X5_release_23 rfl (lv_at hl 0 rfl) ?_
        refine r_getr (j := 2) X hw ct2 ow0_w rfl (Nat.le_of_ble_eq_true rfl) (q := (w + 2)) (rt_law hw_w).2.1 wd_238 d_X5_release_24 ?_
        refine lv_aload_n hx hb d_X5_release_27 rfl (lv_at hl 0 rfl) ?_
        refine r_geti (j := 3) X hw ct2 ow0_w lw0_w rfl (Nat.le_of_ble_eq_true rfl) wd_239 d_X5_release_28 ?_
        refine lv_iconst (v := (1 : Int32)) hx hb d_X5_release_31 (by decide) ?_
        refine lv_isub hx hb d_X5_release_32 ?_
        obtain ⟨hi9, h⟩ := gd_some h
        refine r_iald X hw ow2_w lw2_w hi9 d_X5_release_33 ?_
        obtain ⟨q10, e11, h⟩ := bd_some h
        refine r_callS (As := [.int (cA τ (w + 2) ((cF τ w 3) - (1 : Int32)).toNatClampNeg)]) (rest := []) (st' := [.int q10]) X hw hl mwX5_strengthOf wd_220 wd_219 (c_X5_strengthOf e11) rfl ⟨Nat.le_of_ble_eq_true rfl, Nat.le_of_ble_eq_true rfl⟩ ⟨Nat.le_refl _, Nat.le_refl _⟩ rfl rfl (Nat.le_of_ble_eq_true rfl) d_X5_release_34 (fun H locs hw => ?_)
        refine lv_iload_n hx hb d_X5_release_37 rfl (lv_at hl 1 rfl) ?_
        refine lv_icmp_lt (tgt := 71) hx hb d_X5_release_38 (by decide) (fun hc => ?_) (fun hc => ?_)
        · have h := ite_t h hc
          obtain rfl := Option.some.inj h
          dsimp only [Sum.elim_inr] at hk
          exact hk _ _ _ hw (lv_sub hl [] rfl)
        · have h := ite_f h hc
          refine lv_aload_n hx hb d_X5_release_41 rfl (lv_at hl 0 rfl) ?_
          refine lv_dup hx hb d_X5_release_42 rfl ?_
          refine r_geti (j := 3) X hw ct2 ow0_w lw0_w rfl (Nat.le_of_ble_eq_true rfl) wd_239 d_X5_release_43 ?_
          refine lv_iconst (v := (1 : Int32)) hx hb d_X5_release_46 (by decide) ?_
          refine lv_isub hx hb d_X5_release_47 ?_
          refine r_puti (j := 3) X hw ct2 ow0_w lw0_w rfl (Nat.le_of_ble_eq_true rfl) rfl rfl rfl wd_239 d_X5_release_48 (fun H locs hw => ?_)
          refine lv_aload_n hx hb d_X5_release_51 rfl (lv_at hl 0 rfl) ?_
          refine lv_sipush (v := (1000 : Int32)) hx hb d_X5_release_52 (by decide) ?_
          refine lv_aload_n hx hb d_X5_release_55 rfl (lv_at hl 0 rfl) ?_
          refine r_getr (j := 2) X hw ct2 ow0_w rfl (Nat.le_of_ble_eq_true rfl) (q := (w + 2)) (rt_law hw_w).2.1 wd_238 d_X5_release_56 ?_
          refine lv_aload_n hx hb d_X5_release_59 rfl (lv_at hl 0 rfl) ?_
          refine r_geti (j := 3) X hw ct2 ow0_w lw0_w rfl (Nat.le_of_ble_eq_true rfl) wd_239 d_X5_release_60 ?_
          obtain ⟨hi12, h⟩ := gd_some h
          refine r_iald X hw ow2_w lw2_w hi12 d_X5_release_63 ?_
          refine lv_iadd hx hb d_X5_release_64 ?_
          obtain ⟨q13, e14, h⟩ := bd_some h
          refine r_callV (As := [.int ((1000 : Int32) + (cA (sF τ w 3 ((cF τ w 3) - (1 : Int32))) (w + 2) (cF (sF τ w 3 ((cF τ w 3) - (1 : Int32))) w 3).toNatClampNeg))]) (rest := []) (st' := []) X hw hl mwX5_emit wd_209 wp_4 wd_207 (c_X5_emit hw_w e14) (r_recv X hw ct2 ow0_w) rfl ⟨Nat.le_of_ble_eq_true rfl, Nat.le_of_ble_eq_true rfl⟩ ⟨Nat.le_refl _, Nat.le_refl _⟩ rfl rfl (Nat.le_of_ble_eq_true rfl) d_X5_release_65 (fun H locs hw => ?_)
          refine lv_goto (tgt := 0) hx hb d_X5_release_68 (by decide) ?_
          obtain rfl := Option.some.inj h
          dsimp only [Sum.elim_inl] at hk
          exact hk _ _ _ hw (lv_sub hl [0, 1] rfl)
  intro H locs ls hw hl
  have hl : lv_has ls 2 [(0, .ref (ga G w)), (1, .int a1)] := hl
  unfold f_X5_release at h
  refine lv_aload_n hx hb d_X5_release_0 rfl (lv_at hl 0 rfl) ?_
  refine r_geti (j := 3) X hw ct2 ow0_w lw0_w rfl (Nat.le_of_ble_eq_true rfl) wd_239 d_X5_release_1 ?_
  refine lv_if_le (tgt := 71) hx hb d_X5_release_4 (by decide) (fun hc => ?_) (fun hc => ?_)
  · have h := ite_t h hc
    obtain rfl := Option.some.inj h
    subst hQ
    exact r_vret X hr hlk hw d_X5_release_71
  · have h := ite_f h hc
    refine lv_aload_n hx hb d_X5_release_7 rfl (lv_at hl 0 rfl) ?_
    refine r_getr (j := 2) X hw ct2 ow0_w rfl (Nat.le_of_ble_eq_true rfl) (q := (w + 2)) (rt_law hw_w).2.1 wd_238 d_X5_release_8 ?_
    refine lv_aload_n hx hb d_X5_release_11 rfl (lv_at hl 0 rfl) ?_
    refine r_geti (j := 3) X hw ct2 ow0_w lw0_w rfl (Nat.le_of_ble_eq_true rfl) wd_239 d_X5_release_12 ?_
    refine lv_iconst (v := (1 : Int32)) hx hb d_X5_release_15 (by decide) ?_
    refine lv_isub hx hb d_X5_release_16 ?_
    obtain ⟨hi1, h⟩ := gd_some h
    refine r_iald X hw ow2_w lw2_w hi1 d_X5_release_17 ?_
    refine lv_bipush (v := (40 : Int32)) hx hb d_X5_release_18 (by decide) ?_
    refine lv_icmp_eq (tgt := 71) hx hb d_X5_release_20 (by decide) (fun hc => ?_) (fun hc => ?_)
    · have h := ite_t h hc
      obtain rfl := Option.some.inj h
      subst hQ
      exact r_vret X hr hlk hw d_X5_release_71
    · have h := ite_f h hc
      refine lv_aload_n hx hb d_X5_release_23 rfl (lv_at hl 0 rfl) ?_
      refine r_getr (j := 2) X hw ct2 ow0_w rfl (Nat.le_of_ble_eq_true rfl) (q := (w + 2)) (rt_law hw_w).2.1 wd_238 d_X5_release_24 ?_
      refine lv_aload_n hx hb d_X5_release_27 rfl (lv_at hl 0 rfl) ?_
      refine r_geti (j := 3) X hw ct2 ow0_w lw0_w rfl (Nat.le_of_ble_eq_true rfl) wd_239 d_X5_release_28 ?_
      refine lv_iconst (v := (1 : Int32)) hx hb d_X5_release_31 (by decide) ?_
      refine lv_isub hx hb d_X5_release_32 ?_
      obtain ⟨hi2, h⟩ := gd_some h
      refine r_iald X hw ow2_w lw2_w hi2 d_X5_release_33 ?_
      obtain ⟨q3, e4, h⟩ := bd_some h
      refine r_callS (As := [.int (cA χ (w + 2) ((cF χ w 3) - (1 : Int32)).toNatClampNeg)]) (rest := []) (st' := [.int q3]) X hw hl mwX5_strengthOf wd_220 wd_219 (c_X5_strengthOf e4) rfl ⟨Nat.le_of_ble_eq_true rfl, Nat.le_of_ble_eq_true rfl⟩ ⟨Nat.le_refl _, Nat.le_refl _⟩ rfl rfl (Nat.le_of_ble_eq_true rfl) d_X5_release_34 (fun H locs hw => ?_)
      refine lv_iload_n hx hb d_X5_release_37 rfl (lv_at hl 1 rfl) ?_
      refine lv_icmp_lt (tgt := 71) hx hb d_X5_release_38 (by decide) (fun hc => ?_) (fun hc => ?_)
      · have h := ite_t h hc
        obtain rfl := Option.some.inj h
        subst hQ
        exact r_vret X hr hlk hw d_X5_release_71
      · have h := ite_f h hc
        refine lv_aload_n hx hb d_X5_release_41 rfl (lv_at hl 0 rfl) ?_
        refine lv_dup hx hb d_X5_release_42 rfl ?_
        refine r_geti (j := 3) X hw ct2 ow0_w lw0_w rfl (Nat.le_of_ble_eq_true rfl) wd_239 d_X5_release_43 ?_
        refine lv_iconst (v := (1 : Int32)) hx hb d_X5_release_46 (by decide) ?_
        refine lv_isub hx hb d_X5_release_47 ?_
        refine r_puti (j := 3) X hw ct2 ow0_w lw0_w rfl (Nat.le_of_ble_eq_true rfl) rfl rfl rfl wd_239 d_X5_release_48 (fun H locs hw => ?_)
        refine lv_aload_n hx hb d_X5_release_51 rfl (lv_at hl 0 rfl) ?_
        refine lv_sipush (v := (1000 : Int32)) hx hb d_X5_release_52 (by decide) ?_
        refine lv_aload_n hx hb d_X5_release_55 rfl (lv_at hl 0 rfl) ?_
        refine r_getr (j := 2) X hw ct2 ow0_w rfl (Nat.le_of_ble_eq_true rfl) (q := (w + 2)) (rt_law hw_w).2.1 wd_238 d_X5_release_56 ?_
        refine lv_aload_n hx hb d_X5_release_59 rfl (lv_at hl 0 rfl) ?_
        refine r_geti (j := 3) X hw ct2 ow0_w lw0_w rfl (Nat.le_of_ble_eq_true rfl) wd_239 d_X5_release_60 ?_
        obtain ⟨hi5, h⟩ := gd_some h
        refine r_iald X hw ow2_w lw2_w hi5 d_X5_release_63 ?_
        refine lv_iadd hx hb d_X5_release_64 ?_
        obtain ⟨q6, e7, h⟩ := bd_some h
        refine r_callV (As := [.int ((1000 : Int32) + (cA (sF χ w 3 ((cF χ w 3) - (1 : Int32))) (w + 2) (cF (sF χ w 3 ((cF χ w 3) - (1 : Int32))) w 3).toNatClampNeg))]) (rest := []) (st' := []) X hw hl mwX5_emit wd_209 wp_4 wd_207 (c_X5_emit hw_w e7) (r_recv X hw ct2 ow0_w) rfl ⟨Nat.le_of_ble_eq_true rfl, Nat.le_of_ble_eq_true rfl⟩ ⟨Nat.le_refl _, Nat.le_refl _⟩ rfl rfl (Nat.le_of_ble_eq_true rfl) d_X5_release_65 (fun H locs hw => ?_)
        refine lv_goto (tgt := 0) hx hb d_X5_release_68 (by decide) ?_
        obtain ⟨z15, e16, h⟩ := bd_some h
        refine iter_w (Wh := fun z : St => Wat p l e (rmk 1 21) s m args below meth c Q G 2 0 [] [(0, .ref (ga G w)), (1, .int a1)] z σ) (K := fun z : St => Wat p l e (rmk 1 21) s m args below meth c Q G 2 71 [] [] z σ) (fun z o h1 h2 => b0 z a1 o h1 h2) FU _ _ e16 ?_ _ _ _ hw (lv_sub hl [0, 1] rfl)
        intro H locs ls hw hl
        obtain rfl := Option.some.inj h
        subst hQ
        exact r_vret X hr hlk hw d_X5_release_71
abbrev yX5_takeBehindThing : MethodName := ⟨"OysterBeds$Law", "takeBehindThing", "(C)Z"⟩
theorem mwX5_takeBehindThing : MW yX5_takeBehindThing prog_7_method_9_code 3 (some .boolean) 1 := ⟨wd_214, wd_8, by decide +kernel⟩
theorem d_X5_takeBehindThing_0 : decode prog_7_method_9_code 0 = .ok (.iload_n 1, 1) := by decide +kernel
theorem d_X5_takeBehindThing_1 : decode prog_7_method_9_code 1 = .ok (.bipush 41, 2) := by decide +kernel
theorem d_X5_takeBehindThing_3 : decode prog_7_method_9_code 3 = .ok (.if_icmp .ne 43, 3) := by decide +kernel
theorem d_X5_takeBehindThing_6 : decode prog_7_method_9_code 6 = .ok (.aload_n 0, 1) := by decide +kernel
theorem d_X5_takeBehindThing_7 : decode prog_7_method_9_code 7 = .ok (.getfield 68, 3) := by decide +kernel
theorem d_X5_takeBehindThing_10 : decode prog_7_method_9_code 10 = .ok (.ifCond .ne 5, 3) := by decide +kernel
theorem d_X5_takeBehindThing_13 : decode prog_7_method_9_code 13 = .ok (.iconst 0, 1) := by decide +kernel
theorem d_X5_takeBehindThing_14 : decode prog_7_method_9_code 14 = .ok (.ireturn, 1) := by decide +kernel
theorem d_X5_takeBehindThing_15 : decode prog_7_method_9_code 15 = .ok (.aload_n 0, 1) := by decide +kernel
theorem d_X5_takeBehindThing_16 : decode prog_7_method_9_code 16 = .ok (.dup, 1) := by decide +kernel
theorem d_X5_takeBehindThing_17 : decode prog_7_method_9_code 17 = .ok (.getfield 68, 3) := by decide +kernel
theorem d_X5_takeBehindThing_20 : decode prog_7_method_9_code 20 = .ok (.iconst 1, 1) := by decide +kernel
theorem d_X5_takeBehindThing_21 : decode prog_7_method_9_code 21 = .ok (.isub, 1) := by decide +kernel
theorem d_X5_takeBehindThing_22 : decode prog_7_method_9_code 22 = .ok (.putfield 68, 3) := by decide +kernel
theorem d_X5_takeBehindThing_25 : decode prog_7_method_9_code 25 = .ok (.aload_n 0, 1) := by decide +kernel
theorem d_X5_takeBehindThing_26 : decode prog_7_method_9_code 26 = .ok (.iconst 1, 1) := by decide +kernel
theorem d_X5_takeBehindThing_27 : decode prog_7_method_9_code 27 = .ok (.invokevirtual 32, 3) := by decide +kernel
theorem d_X5_takeBehindThing_30 : decode prog_7_method_9_code 30 = .ok (.aload_n 0, 1) := by decide +kernel
theorem d_X5_takeBehindThing_31 : decode prog_7_method_9_code 31 = .ok (.iconst 0, 1) := by decide +kernel
theorem d_X5_takeBehindThing_32 : decode prog_7_method_9_code 32 = .ok (.aload_n 0, 1) := by decide +kernel
theorem d_X5_takeBehindThing_33 : decode prog_7_method_9_code 33 = .ok (.getfield 72, 3) := by decide +kernel
theorem d_X5_takeBehindThing_36 : decode prog_7_method_9_code 36 = .ok (.iconst 1, 1) := by decide +kernel
theorem d_X5_takeBehindThing_37 : decode prog_7_method_9_code 37 = .ok (.isub, 1) := by decide +kernel
theorem d_X5_takeBehindThing_38 : decode prog_7_method_9_code 38 = .ok (.invokestatic 97, 3) := by decide +kernel
theorem d_X5_takeBehindThing_41 : decode prog_7_method_9_code 41 = .ok (.putfield 72, 3) := by decide +kernel
theorem d_X5_takeBehindThing_44 : decode prog_7_method_9_code 44 = .ok (.iconst 1, 1) := by decide +kernel
theorem d_X5_takeBehindThing_45 : decode prog_7_method_9_code 45 = .ok (.ireturn, 1) := by decide +kernel
theorem d_X5_takeBehindThing_46 : decode prog_7_method_9_code 46 = .ok (.iload_n 1, 1) := by decide +kernel
theorem d_X5_takeBehindThing_47 : decode prog_7_method_9_code 47 = .ok (.invokestatic 100, 3) := by decide +kernel
theorem d_X5_takeBehindThing_50 : decode prog_7_method_9_code 50 = .ok (.istore_n 2, 1) := by decide +kernel
theorem d_X5_takeBehindThing_51 : decode prog_7_method_9_code 51 = .ok (.iload_n 2, 1) := by decide +kernel
theorem d_X5_takeBehindThing_52 : decode prog_7_method_9_code 52 = .ok (.ifCond .eq 20, 3) := by decide +kernel
theorem d_X5_takeBehindThing_55 : decode prog_7_method_9_code 55 = .ok (.iload_n 2, 1) := by decide +kernel
theorem d_X5_takeBehindThing_56 : decode prog_7_method_9_code 56 = .ok (.iconst 1, 1) := by decide +kernel
theorem d_X5_takeBehindThing_57 : decode prog_7_method_9_code 57 = .ok (.if_icmp .ne 17, 3) := by decide +kernel
theorem d_X5_takeBehindThing_60 : decode prog_7_method_9_code 60 = .ok (.aload_n 0, 1) := by decide +kernel
theorem d_X5_takeBehindThing_61 : decode prog_7_method_9_code 61 = .ok (.getfield 18, 3) := by decide +kernel
theorem d_X5_takeBehindThing_64 : decode prog_7_method_9_code 64 = .ok (.aload_n 0, 1) := by decide +kernel
theorem d_X5_takeBehindThing_65 : decode prog_7_method_9_code 65 = .ok (.getfield 68, 3) := by decide +kernel
theorem d_X5_takeBehindThing_68 : decode prog_7_method_9_code 68 = .ok (.baload, 1) := by decide +kernel
theorem d_X5_takeBehindThing_69 : decode prog_7_method_9_code 69 = .ok (.ifCond .eq 5, 3) := by decide +kernel
theorem d_X5_takeBehindThing_72 : decode prog_7_method_9_code 72 = .ok (.iconst 0, 1) := by decide +kernel
theorem d_X5_takeBehindThing_73 : decode prog_7_method_9_code 73 = .ok (.ireturn, 1) := by decide +kernel
theorem d_X5_takeBehindThing_74 : decode prog_7_method_9_code 74 = .ok (.iload_n 2, 1) := by decide +kernel
theorem d_X5_takeBehindThing_75 : decode prog_7_method_9_code 75 = .ok (.iconst 1, 1) := by decide +kernel
theorem d_X5_takeBehindThing_76 : decode prog_7_method_9_code 76 = .ok (.if_icmp .ne 13, 3) := by decide +kernel
theorem d_X5_takeBehindThing_79 : decode prog_7_method_9_code 79 = .ok (.aload_n 0, 1) := by decide +kernel
theorem d_X5_takeBehindThing_80 : decode prog_7_method_9_code 80 = .ok (.getfield 18, 3) := by decide +kernel
theorem d_X5_takeBehindThing_83 : decode prog_7_method_9_code 83 = .ok (.aload_n 0, 1) := by decide +kernel
theorem d_X5_takeBehindThing_84 : decode prog_7_method_9_code 84 = .ok (.getfield 68, 3) := by decide +kernel
theorem d_X5_takeBehindThing_87 : decode prog_7_method_9_code 87 = .ok (.iconst 1, 1) := by decide +kernel
theorem d_X5_takeBehindThing_88 : decode prog_7_method_9_code 88 = .ok (.bastore, 1) := by decide +kernel
theorem d_X5_takeBehindThing_89 : decode prog_7_method_9_code 89 = .ok (.aload_n 0, 1) := by decide +kernel
theorem d_X5_takeBehindThing_90 : decode prog_7_method_9_code 90 = .ok (.iload_n 2, 1) := by decide +kernel
theorem d_X5_takeBehindThing_91 : decode prog_7_method_9_code 91 = .ok (.invokevirtual 32, 3) := by decide +kernel
theorem d_X5_takeBehindThing_94 : decode prog_7_method_9_code 94 = .ok (.aload_n 0, 1) := by decide +kernel
theorem d_X5_takeBehindThing_95 : decode prog_7_method_9_code 95 = .ok (.iload_n 1, 1) := by decide +kernel
theorem d_X5_takeBehindThing_96 : decode prog_7_method_9_code 96 = .ok (.invokevirtual 91, 3) := by decide +kernel
theorem d_X5_takeBehindThing_99 : decode prog_7_method_9_code 99 = .ok (.aload_n 0, 1) := by decide +kernel
theorem d_X5_takeBehindThing_100 : decode prog_7_method_9_code 100 = .ok (.iconst 0, 1) := by decide +kernel
theorem d_X5_takeBehindThing_101 : decode prog_7_method_9_code 101 = .ok (.putfield 64, 3) := by decide +kernel
theorem d_X5_takeBehindThing_104 : decode prog_7_method_9_code 104 = .ok (.iconst 1, 1) := by decide +kernel
theorem d_X5_takeBehindThing_105 : decode prog_7_method_9_code 105 = .ok (.ireturn, 1) := by decide +kernel
def f_X5_takeBehindThing_j89 (w : Nat) (τ : St) (x1 : Int32) (x2 : Int32) : Option (Int32 × St) := (f_X5_release τ w x2).bind (fun q3 => (f_X5_push q3 w x1).bind (fun q5 => some ((1 : Int32), (sF q5 w 7 (0 : Int32)))))
def f_X5_takeBehindThing_j74 (w : Nat) (τ : St) (x1 : Int32) (x2 : Int32) : Option (Int32 × St) := (if x2 = (1 : Int32) then gd (inb (cF τ w 5) 5) (f_X5_takeBehindThing_j89 w (sA τ (w + 3) (cF τ w 5).toNatClampNeg (vp_nar .boolean (1 : Int32))) x1 x2) else f_X5_takeBehindThing_j89 w τ x1 x2)
def f_X5_takeBehindThing (χ : St) (w : Nat) (a1 : Int32) : Option (Int32 × St) := (if a1 = (41 : Int32) then (if (cF χ w 5) = 0 then some ((0 : Int32), χ) else (f_X5_release (sF χ w 5 ((cF χ w 5) - (1 : Int32))) w (1 : Int32)).bind (fun q9 => some ((1 : Int32), (sF q9 w 3 (if (0 : Int32) < ((cF q9 w 3) - (1 : Int32)) then ((cF q9 w 3) - (1 : Int32)) else (0 : Int32)))))) else (f_X5_strengthOf a1).bind (fun q1 => (if q1 = 0 then some ((0 : Int32), χ) else (if q1 = (1 : Int32) then gd (inb (cF χ w 5) 5) ((if (cA χ (w + 3) (cF χ w 5).toNatClampNeg) = 0 then f_X5_takeBehindThing_j74 w χ a1 q1 else some ((0 : Int32), χ))) else f_X5_takeBehindThing_j74 w χ a1 q1))))
theorem c_X5_takeBehindThing {l : Launch} {G : gT} {χ σ : St} {w : Nat} {a1 : Int32} (hw_w : LW G w) {q : Int32 × St} (h : f_X5_takeBehindThing χ w a1 = some q) : Ct l G yX5_takeBehindThing prog_7_method_9_code 3 (some .boolean) 2 42 [.ref (ga G w), .int a1] χ σ (some (.int q.1)) q.2 σ := by
  obtain ⟨ow0_w, ow1_w, ow2_w, ow3_w, ow4_w, lw_w⟩ := law_at hw_w
  have lw0_w : w < 300 := by omega
  have lw1_w : w + 1 < 300 := by omega
  have lw2_w : w + 2 < 300 := by omega
  have lw3_w : w + 3 < 300 := by omega
  have lw4_w : w + 4 < 300 := by omega
  refine Ct.of (by decide) (Nat.le_of_ble_eq_true rfl) ?_
  intro p e s m args below meth c Q X hr hlk hQ
  have hx := X.1
  have hb := X.2.1
  have j89 : ∀ (τ : St) (x1 : Int32) (x2 : Int32), f_X5_takeBehindThing_j89 w τ x1 x2 = some q → Wat p l e (rmk 2 42) s m args below meth c Q G 3 89 [] [(0, .ref (ga G w)), (1, .int x1), (2, .int x2)] τ σ := by
    intro τ x1 x2 h H locs ls hw hl
    unfold f_X5_takeBehindThing_j89 at h
    refine lv_aload_n hx hb d_X5_takeBehindThing_89 rfl (lv_at hl 0 rfl) ?_
    refine lv_iload_n hx hb d_X5_takeBehindThing_90 rfl (lv_at hl 2 rfl) ?_
    obtain ⟨q3, e4, h⟩ := bd_some h
    refine r_callV (As := [.int x2]) (rest := []) (st' := []) X hw hl mwX5_release wd_217 wp_6 wd_215 (c_X5_release hw_w e4) (r_recv X hw ct2 ow0_w) rfl ⟨Nat.le_of_ble_eq_true rfl, Nat.le_of_ble_eq_true rfl⟩ ⟨Nat.le_refl _, Nat.le_refl _⟩ rfl rfl (Nat.le_of_ble_eq_true rfl) d_X5_takeBehindThing_91 (fun H locs hw => ?_)
    refine lv_aload_n hx hb d_X5_takeBehindThing_94 rfl (lv_at hl 0 rfl) ?_
    refine lv_iload_n hx hb d_X5_takeBehindThing_95 rfl (lv_at hl 1 rfl) ?_
    obtain ⟨q5, e6, h⟩ := bd_some h
    refine r_callV (As := [.int x1]) (rest := []) (st' := []) X hw hl mwX5_push wd_227 wp_7 wd_225 (c_X5_push hw_w e6) (r_recv X hw ct2 ow0_w) rfl ⟨Nat.le_of_ble_eq_true rfl, Nat.le_of_ble_eq_true rfl⟩ ⟨Nat.le_refl _, Nat.le_refl _⟩ rfl rfl (Nat.le_of_ble_eq_true rfl) d_X5_takeBehindThing_96 (fun H locs hw => ?_)
    refine lv_aload_n hx hb d_X5_takeBehindThing_99 rfl (lv_at hl 0 rfl) ?_
    refine lv_iconst (v := (0 : Int32)) hx hb d_X5_takeBehindThing_100 (by decide) ?_
    refine r_puti (j := 7) X hw ct2 ow0_w lw0_w rfl (Nat.le_of_ble_eq_true rfl) rfl (by decide) (by decide) wd_243 d_X5_takeBehindThing_101 (fun H locs hw => ?_)
    refine lv_iconst (v := (1 : Int32)) hx hb d_X5_takeBehindThing_104 (by decide) ?_
    obtain rfl := Option.some.inj h
    subst hQ
    exact r_zret X hr nbz1 hlk hw d_X5_takeBehindThing_105
  have j74 : ∀ (τ : St) (x1 : Int32) (x2 : Int32), f_X5_takeBehindThing_j74 w τ x1 x2 = some q → Wat p l e (rmk 2 42) s m args below meth c Q G 3 74 [] [(0, .ref (ga G w)), (1, .int x1), (2, .int x2)] τ σ := by
    intro τ x1 x2 h H locs ls hw hl
    unfold f_X5_takeBehindThing_j74 at h
    refine lv_iload_n hx hb d_X5_takeBehindThing_74 rfl (lv_at hl 2 rfl) ?_
    refine lv_iconst (v := (1 : Int32)) hx hb d_X5_takeBehindThing_75 (by decide) ?_
    refine lv_icmp_ne (tgt := 89) hx hb d_X5_takeBehindThing_76 (by decide) (fun hc => ?_) (fun hc => ?_)
    · have h := ite_f h hc
      exact j89 τ x1 x2 h _ _ _ hw (lv_sub hl [0, 1, 2] rfl)
    · have h := ite_t h hc
      refine lv_aload_n hx hb d_X5_takeBehindThing_79 rfl (lv_at hl 0 rfl) ?_
      refine r_getr (j := 4) X hw ct2 ow0_w rfl (Nat.le_of_ble_eq_true rfl) (q := (w + 3)) (rt_law hw_w).2.2.1 wd_240 d_X5_takeBehindThing_80 ?_
      refine lv_aload_n hx hb d_X5_takeBehindThing_83 rfl (lv_at hl 0 rfl) ?_
      refine r_geti (j := 5) X hw ct2 ow0_w lw0_w rfl (Nat.le_of_ble_eq_true rfl) wd_241 d_X5_takeBehindThing_84 ?_
      refine lv_iconst (v := (1 : Int32)) hx hb d_X5_takeBehindThing_87 (by decide) ?_
      obtain ⟨hi7, h⟩ := gd_some h
      refine r_zast X hw ow3_w lw3_w hi7 d_X5_takeBehindThing_88 (fun H locs hw => ?_)
      exact j89 (sA τ (w + 3) (cF τ w 5).toNatClampNeg (vp_nar .boolean (1 : Int32))) x1 x2 h _ _ _ hw (lv_sub hl [0, 1, 2] rfl)
  intro H locs ls hw hl
  have hl : lv_has ls 3 [(0, .ref (ga G w)), (1, .int a1)] := hl
  unfold f_X5_takeBehindThing at h
  refine lv_iload_n hx hb d_X5_takeBehindThing_0 rfl (lv_at hl 1 rfl) ?_
  refine lv_bipush (v := (41 : Int32)) hx hb d_X5_takeBehindThing_1 (by decide) ?_
  refine lv_icmp_ne (tgt := 46) hx hb d_X5_takeBehindThing_3 (by decide) (fun hc => ?_) (fun hc => ?_)
  · have h := ite_f h hc
    refine lv_iload_n hx hb d_X5_takeBehindThing_46 rfl (lv_at hl 1 rfl) ?_
    obtain ⟨q1, e2, h⟩ := bd_some h
    refine r_callS (As := [.int a1]) (rest := []) (st' := [.int q1]) X hw hl mwX5_strengthOf wd_220 wd_219 (c_X5_strengthOf e2) rfl ⟨Nat.le_of_ble_eq_true rfl, Nat.le_of_ble_eq_true rfl⟩ ⟨Nat.le_refl _, Nat.le_refl _⟩ rfl rfl (Nat.le_of_ble_eq_true rfl) d_X5_takeBehindThing_47 (fun H locs hw => ?_)
    refine lv_istore_n (lv' := [(2, .int q1), (0, .ref (ga G w)), (1, .int a1)]) hx hb d_X5_takeBehindThing_50 rfl hl (Nat.le_of_ble_eq_true rfl) rfl (fun ls hl => ?_)
    refine lv_iload_n hx hb d_X5_takeBehindThing_51 rfl (lv_at hl 0 rfl) ?_
    refine lv_if_eq (tgt := 72) hx hb d_X5_takeBehindThing_52 (by decide) (fun hc => ?_) (fun hc => ?_)
    · have h := ite_t h hc
      refine lv_iconst (v := (0 : Int32)) hx hb d_X5_takeBehindThing_72 (by decide) ?_
      obtain rfl := Option.some.inj h
      subst hQ
      exact r_zret X hr nbz0 hlk hw d_X5_takeBehindThing_73
    · have h := ite_f h hc
      refine lv_iload_n hx hb d_X5_takeBehindThing_55 rfl (lv_at hl 0 rfl) ?_
      refine lv_iconst (v := (1 : Int32)) hx hb d_X5_takeBehindThing_56 (by decide) ?_
      refine lv_icmp_ne (tgt := 74) hx hb d_X5_takeBehindThing_57 (by decide) (fun hc => ?_) (fun hc => ?_)
      · have h := ite_f h hc
        exact j74 χ a1 q1 h _ _ _ hw (lv_sub hl [1, 2, 0] rfl)
      · have h := ite_t h hc
        refine lv_aload_n hx hb d_X5_takeBehindThing_60 rfl (lv_at hl 1 rfl) ?_
        refine r_getr (j := 4) X hw ct2 ow0_w rfl (Nat.le_of_ble_eq_true rfl) (q := (w + 3)) (rt_law hw_w).2.2.1 wd_240 d_X5_takeBehindThing_61 ?_
        refine lv_aload_n hx hb d_X5_takeBehindThing_64 rfl (lv_at hl 1 rfl) ?_
        refine r_geti (j := 5) X hw ct2 ow0_w lw0_w rfl (Nat.le_of_ble_eq_true rfl) wd_241 d_X5_takeBehindThing_65 ?_
        obtain ⟨hi8, h⟩ := gd_some h
        refine r_zald X hw ow3_w lw3_w hi8 d_X5_takeBehindThing_68 ?_
        refine lv_if_eq (tgt := 74) hx hb d_X5_takeBehindThing_69 (by decide) (fun hc => ?_) (fun hc => ?_)
        · have h := ite_t h hc
          exact j74 χ a1 q1 h _ _ _ hw (lv_sub hl [1, 2, 0] rfl)
        · have h := ite_f h hc
          refine lv_iconst (v := (0 : Int32)) hx hb d_X5_takeBehindThing_72 (by decide) ?_
          obtain rfl := Option.some.inj h
          subst hQ
          exact r_zret X hr nbz0 hlk hw d_X5_takeBehindThing_73
  · have h := ite_t h hc
    refine lv_aload_n hx hb d_X5_takeBehindThing_6 rfl (lv_at hl 0 rfl) ?_
    refine r_geti (j := 5) X hw ct2 ow0_w lw0_w rfl (Nat.le_of_ble_eq_true rfl) wd_241 d_X5_takeBehindThing_7 ?_
    refine lv_if_ne (tgt := 15) hx hb d_X5_takeBehindThing_10 (by decide) (fun hc => ?_) (fun hc => ?_)
    · have h := ite_f h hc
      refine lv_aload_n hx hb d_X5_takeBehindThing_15 rfl (lv_at hl 0 rfl) ?_
      refine lv_dup hx hb d_X5_takeBehindThing_16 rfl ?_
      refine r_geti (j := 5) X hw ct2 ow0_w lw0_w rfl (Nat.le_of_ble_eq_true rfl) wd_241 d_X5_takeBehindThing_17 ?_
      refine lv_iconst (v := (1 : Int32)) hx hb d_X5_takeBehindThing_20 (by decide) ?_
      refine lv_isub hx hb d_X5_takeBehindThing_21 ?_
      refine r_puti (j := 5) X hw ct2 ow0_w lw0_w rfl (Nat.le_of_ble_eq_true rfl) rfl rfl rfl wd_241 d_X5_takeBehindThing_22 (fun H locs hw => ?_)
      refine lv_aload_n hx hb d_X5_takeBehindThing_25 rfl (lv_at hl 0 rfl) ?_
      refine lv_iconst (v := (1 : Int32)) hx hb d_X5_takeBehindThing_26 (by decide) ?_
      obtain ⟨q9, e10, h⟩ := bd_some h
      refine r_callV (As := [.int (1 : Int32)]) (rest := []) (st' := []) X hw hl mwX5_release wd_217 wp_6 wd_215 (c_X5_release hw_w e10) (r_recv X hw ct2 ow0_w) rfl ⟨Nat.le_of_ble_eq_true rfl, Nat.le_of_ble_eq_true rfl⟩ ⟨Nat.le_refl _, Nat.le_refl _⟩ rfl rfl (Nat.le_of_ble_eq_true rfl) d_X5_takeBehindThing_27 (fun H locs hw => ?_)
      refine lv_aload_n hx hb d_X5_takeBehindThing_30 rfl (lv_at hl 0 rfl) ?_
      refine lv_iconst (v := (0 : Int32)) hx hb d_X5_takeBehindThing_31 (by decide) ?_
      refine lv_aload_n hx hb d_X5_takeBehindThing_32 rfl (lv_at hl 0 rfl) ?_
      refine r_geti (j := 3) X hw ct2 ow0_w lw0_w rfl (Nat.le_of_ble_eq_true rfl) wd_239 d_X5_takeBehindThing_33 ?_
      refine lv_iconst (v := (1 : Int32)) hx hb d_X5_takeBehindThing_36 (by decide) ?_
      refine lv_isub hx hb d_X5_takeBehindThing_37 ?_
      refine r_max X hl wd_222 ⟨Nat.le_of_ble_eq_true rfl, Nat.le_of_ble_eq_true rfl⟩ ⟨Nat.le_refl _, Nat.le_refl _⟩ d_X5_takeBehindThing_38 ?_
      refine r_puti (j := 3) X hw ct2 ow0_w lw0_w rfl (Nat.le_of_ble_eq_true rfl) rfl rfl rfl wd_239 d_X5_takeBehindThing_41 (fun H locs hw => ?_)
      refine lv_iconst (v := (1 : Int32)) hx hb d_X5_takeBehindThing_44 (by decide) ?_
      obtain rfl := Option.some.inj h
      subst hQ
      exact r_zret X hr nbz1 hlk hw d_X5_takeBehindThing_45
    · have h := ite_t h hc
      refine lv_iconst (v := (0 : Int32)) hx hb d_X5_takeBehindThing_13 (by decide) ?_
      obtain rfl := Option.some.inj h
      subst hQ
      exact r_zret X hr nbz0 hlk hw d_X5_takeBehindThing_14
abbrev yX5_takeDigit : MethodName := ⟨"OysterBeds$Law", "takeDigit", "(I)Z"⟩
theorem mwX5_takeDigit : MW yX5_takeDigit prog_7_method_7_code 2 (some .boolean) 1 := ⟨wd_206, wd_8, by decide +kernel⟩
theorem d_X5_takeDigit_0 : decode prog_7_method_7_code 0 = .ok (.aload_n 0, 1) := by decide +kernel
theorem d_X5_takeDigit_1 : decode prog_7_method_7_code 1 = .ok (.getfield 75, 3) := by decide +kernel
theorem d_X5_takeDigit_4 : decode prog_7_method_7_code 4 = .ok (.iconst 3, 1) := by decide +kernel
theorem d_X5_takeDigit_5 : decode prog_7_method_7_code 5 = .ok (.if_icmp .eq 17, 3) := by decide +kernel
theorem d_X5_takeDigit_8 : decode prog_7_method_7_code 8 = .ok (.aload_n 0, 1) := by decide +kernel
theorem d_X5_takeDigit_9 : decode prog_7_method_7_code 9 = .ok (.getfield 75, 3) := by decide +kernel
theorem d_X5_takeDigit_12 : decode prog_7_method_7_code 12 = .ok (.ifCond .ne 12, 3) := by decide +kernel
theorem d_X5_takeDigit_15 : decode prog_7_method_7_code 15 = .ok (.aload_n 0, 1) := by decide +kernel
theorem d_X5_takeDigit_16 : decode prog_7_method_7_code 16 = .ok (.getfield 64, 3) := by decide +kernel
theorem d_X5_takeDigit_19 : decode prog_7_method_7_code 19 = .ok (.ifCond .eq 5, 3) := by decide +kernel
theorem d_X5_takeDigit_22 : decode prog_7_method_7_code 22 = .ok (.iconst 0, 1) := by decide +kernel
theorem d_X5_takeDigit_23 : decode prog_7_method_7_code 23 = .ok (.ireturn, 1) := by decide +kernel
theorem d_X5_takeDigit_24 : decode prog_7_method_7_code 24 = .ok (.aload_n 0, 1) := by decide +kernel
theorem d_X5_takeDigit_25 : decode prog_7_method_7_code 25 = .ok (.getfield 75, 3) := by decide +kernel
theorem d_X5_takeDigit_28 : decode prog_7_method_7_code 28 = .ok (.ifCond .ne 11, 3) := by decide +kernel
theorem d_X5_takeDigit_31 : decode prog_7_method_7_code 31 = .ok (.aload_n 0, 1) := by decide +kernel
theorem d_X5_takeDigit_32 : decode prog_7_method_7_code 32 = .ok (.iload_n 1, 1) := by decide +kernel
theorem d_X5_takeDigit_33 : decode prog_7_method_7_code 33 = .ok (.invokevirtual 88, 3) := by decide +kernel
theorem d_X5_takeDigit_36 : decode prog_7_method_7_code 36 = .ok (.goto 37, 3) := by decide +kernel
theorem d_X5_takeDigit_39 : decode prog_7_method_7_code 39 = .ok (.aload_n 0, 1) := by decide +kernel
theorem d_X5_takeDigit_40 : decode prog_7_method_7_code 40 = .ok (.getfield 71, 3) := by decide +kernel
theorem d_X5_takeDigit_43 : decode prog_7_method_7_code 43 = .ok (.ifCond .le 30, 3) := by decide +kernel
theorem d_X5_takeDigit_46 : decode prog_7_method_7_code 46 = .ok (.aload_n 0, 1) := by decide +kernel
theorem d_X5_takeDigit_47 : decode prog_7_method_7_code 47 = .ok (.getfield 9, 3) := by decide +kernel
theorem d_X5_takeDigit_50 : decode prog_7_method_7_code 50 = .ok (.aload_n 0, 1) := by decide +kernel
theorem d_X5_takeDigit_51 : decode prog_7_method_7_code 51 = .ok (.getfield 71, 3) := by decide +kernel
theorem d_X5_takeDigit_54 : decode prog_7_method_7_code 54 = .ok (.iconst 1, 1) := by decide +kernel
theorem d_X5_takeDigit_55 : decode prog_7_method_7_code 55 = .ok (.isub, 1) := by decide +kernel
theorem d_X5_takeDigit_56 : decode prog_7_method_7_code 56 = .ok (.bipush 10, 2) := by decide +kernel
theorem d_X5_takeDigit_58 : decode prog_7_method_7_code 58 = .ok (.aload_n 0, 1) := by decide +kernel
theorem d_X5_takeDigit_59 : decode prog_7_method_7_code 59 = .ok (.getfield 9, 3) := by decide +kernel
theorem d_X5_takeDigit_62 : decode prog_7_method_7_code 62 = .ok (.aload_n 0, 1) := by decide +kernel
theorem d_X5_takeDigit_63 : decode prog_7_method_7_code 63 = .ok (.getfield 71, 3) := by decide +kernel
theorem d_X5_takeDigit_66 : decode prog_7_method_7_code 66 = .ok (.iconst 1, 1) := by decide +kernel
theorem d_X5_takeDigit_67 : decode prog_7_method_7_code 67 = .ok (.isub, 1) := by decide +kernel
theorem d_X5_takeDigit_68 : decode prog_7_method_7_code 68 = .ok (.iaload, 1) := by decide +kernel
theorem d_X5_takeDigit_69 : decode prog_7_method_7_code 69 = .ok (.imul, 1) := by decide +kernel
theorem d_X5_takeDigit_70 : decode prog_7_method_7_code 70 = .ok (.iload_n 1, 1) := by decide +kernel
theorem d_X5_takeDigit_71 : decode prog_7_method_7_code 71 = .ok (.iadd, 1) := by decide +kernel
theorem d_X5_takeDigit_72 : decode prog_7_method_7_code 72 = .ok (.iastore, 1) := by decide +kernel
theorem d_X5_takeDigit_73 : decode prog_7_method_7_code 73 = .ok (.aload_n 0, 1) := by decide +kernel
theorem d_X5_takeDigit_74 : decode prog_7_method_7_code 74 = .ok (.dup, 1) := by decide +kernel
theorem d_X5_takeDigit_75 : decode prog_7_method_7_code 75 = .ok (.getfield 75, 3) := by decide +kernel
theorem d_X5_takeDigit_78 : decode prog_7_method_7_code 78 = .ok (.iconst 1, 1) := by decide +kernel
theorem d_X5_takeDigit_79 : decode prog_7_method_7_code 79 = .ok (.iadd, 1) := by decide +kernel
theorem d_X5_takeDigit_80 : decode prog_7_method_7_code 80 = .ok (.putfield 75, 3) := by decide +kernel
theorem d_X5_takeDigit_83 : decode prog_7_method_7_code 83 = .ok (.aload_n 0, 1) := by decide +kernel
theorem d_X5_takeDigit_84 : decode prog_7_method_7_code 84 = .ok (.iconst 1, 1) := by decide +kernel
theorem d_X5_takeDigit_85 : decode prog_7_method_7_code 85 = .ok (.putfield 64, 3) := by decide +kernel
theorem d_X5_takeDigit_88 : decode prog_7_method_7_code 88 = .ok (.iconst 1, 1) := by decide +kernel
theorem d_X5_takeDigit_89 : decode prog_7_method_7_code 89 = .ok (.ireturn, 1) := by decide +kernel
def f_X5_takeDigit_j73 (w : Nat) (τ : St) : Option (Int32 × St) := some ((1 : Int32), (sF (sF τ w 6 ((cF τ w 6) + (1 : Int32))) w 7 (1 : Int32)))
def f_X5_takeDigit_j24 (w : Nat) (τ : St) (x1 : Int32) : Option (Int32 × St) := (if (cF τ w 6) = 0 then (f_X5_emit τ w x1).bind (fun q3 => f_X5_takeDigit_j73 w q3) else (if (cF τ w 1) ≤ 0 then f_X5_takeDigit_j73 w τ else gd (inb ((cF τ w 1) - (1 : Int32)) 40) (gd (inb ((cF τ w 1) - (1 : Int32)) 40) (f_X5_takeDigit_j73 w (sA τ (w + 1) ((cF τ w 1) - (1 : Int32)).toNatClampNeg (((10 : Int32) * (cA τ (w + 1) ((cF τ w 1) - (1 : Int32)).toNatClampNeg)) + x1))))))
def f_X5_takeDigit (χ : St) (w : Nat) (a1 : Int32) : Option (Int32 × St) := (if (cF χ w 6) = (3 : Int32) then some ((0 : Int32), χ) else (if (cF χ w 6) = 0 then (if (cF χ w 7) = 0 then f_X5_takeDigit_j24 w χ a1 else some ((0 : Int32), χ)) else f_X5_takeDigit_j24 w χ a1))
theorem c_X5_takeDigit {l : Launch} {G : gT} {χ σ : St} {w : Nat} {a1 : Int32} (hw_w : LW G w) {q : Int32 × St} (h : f_X5_takeDigit χ w a1 = some q) : Ct l G yX5_takeDigit prog_7_method_7_code 2 (some .boolean) 1 21 [.ref (ga G w), .int a1] χ σ (some (.int q.1)) q.2 σ := by
  obtain ⟨ow0_w, ow1_w, ow2_w, ow3_w, ow4_w, lw_w⟩ := law_at hw_w
  have lw0_w : w < 300 := by omega
  have lw1_w : w + 1 < 300 := by omega
  have lw2_w : w + 2 < 300 := by omega
  have lw3_w : w + 3 < 300 := by omega
  have lw4_w : w + 4 < 300 := by omega
  refine Ct.of (by decide) (Nat.le_of_ble_eq_true rfl) ?_
  intro p e s m args below meth c Q X hr hlk hQ
  have hx := X.1
  have hb := X.2.1
  have j73 : ∀ (τ : St), f_X5_takeDigit_j73 w τ = some q → Wat p l e (rmk 1 21) s m args below meth c Q G 2 73 [] [(0, .ref (ga G w))] τ σ := by
    intro τ h H locs ls hw hl
    unfold f_X5_takeDigit_j73 at h
    refine lv_aload_n hx hb d_X5_takeDigit_73 rfl (lv_at hl 0 rfl) ?_
    refine lv_dup hx hb d_X5_takeDigit_74 rfl ?_
    refine r_geti (j := 6) X hw ct2 ow0_w lw0_w rfl (Nat.le_of_ble_eq_true rfl) wd_242 d_X5_takeDigit_75 ?_
    refine lv_iconst (v := (1 : Int32)) hx hb d_X5_takeDigit_78 (by decide) ?_
    refine lv_iadd hx hb d_X5_takeDigit_79 ?_
    refine r_puti (j := 6) X hw ct2 ow0_w lw0_w rfl (Nat.le_of_ble_eq_true rfl) rfl rfl rfl wd_242 d_X5_takeDigit_80 (fun H locs hw => ?_)
    refine lv_aload_n hx hb d_X5_takeDigit_83 rfl (lv_at hl 0 rfl) ?_
    refine lv_iconst (v := (1 : Int32)) hx hb d_X5_takeDigit_84 (by decide) ?_
    refine r_puti (j := 7) X hw ct2 ow0_w lw0_w rfl (Nat.le_of_ble_eq_true rfl) rfl (by decide) (by decide) wd_243 d_X5_takeDigit_85 (fun H locs hw => ?_)
    refine lv_iconst (v := (1 : Int32)) hx hb d_X5_takeDigit_88 (by decide) ?_
    obtain rfl := Option.some.inj h
    subst hQ
    exact r_zret X hr nbz1 hlk hw d_X5_takeDigit_89
  have j24 : ∀ (τ : St) (x1 : Int32), f_X5_takeDigit_j24 w τ x1 = some q → Wat p l e (rmk 1 21) s m args below meth c Q G 2 24 [] [(0, .ref (ga G w)), (1, .int x1)] τ σ := by
    intro τ x1 h H locs ls hw hl
    unfold f_X5_takeDigit_j24 at h
    refine lv_aload_n hx hb d_X5_takeDigit_24 rfl (lv_at hl 0 rfl) ?_
    refine r_geti (j := 6) X hw ct2 ow0_w lw0_w rfl (Nat.le_of_ble_eq_true rfl) wd_242 d_X5_takeDigit_25 ?_
    refine lv_if_ne (tgt := 39) hx hb d_X5_takeDigit_28 (by decide) (fun hc => ?_) (fun hc => ?_)
    · have h := ite_f h hc
      refine lv_aload_n hx hb d_X5_takeDigit_39 rfl (lv_at hl 0 rfl) ?_
      refine r_geti (j := 1) X hw ct2 ow0_w lw0_w rfl (Nat.le_of_ble_eq_true rfl) wd_237 d_X5_takeDigit_40 ?_
      refine lv_if_le (tgt := 73) hx hb d_X5_takeDigit_43 (by decide) (fun hc => ?_) (fun hc => ?_)
      · have h := ite_t h hc
        exact j73 τ h _ _ _ hw (lv_sub hl [0] rfl)
      · have h := ite_f h hc
        refine lv_aload_n hx hb d_X5_takeDigit_46 rfl (lv_at hl 0 rfl) ?_
        refine r_getr (j := 0) X hw ct2 ow0_w rfl (Nat.le_of_ble_eq_true rfl) (q := (w + 1)) (rt_law hw_w).1 wd_236 d_X5_takeDigit_47 ?_
        refine lv_aload_n hx hb d_X5_takeDigit_50 rfl (lv_at hl 0 rfl) ?_
        refine r_geti (j := 1) X hw ct2 ow0_w lw0_w rfl (Nat.le_of_ble_eq_true rfl) wd_237 d_X5_takeDigit_51 ?_
        refine lv_iconst (v := (1 : Int32)) hx hb d_X5_takeDigit_54 (by decide) ?_
        refine lv_isub hx hb d_X5_takeDigit_55 ?_
        refine lv_bipush (v := (10 : Int32)) hx hb d_X5_takeDigit_56 (by decide) ?_
        refine lv_aload_n hx hb d_X5_takeDigit_58 rfl (lv_at hl 0 rfl) ?_
        refine r_getr (j := 0) X hw ct2 ow0_w rfl (Nat.le_of_ble_eq_true rfl) (q := (w + 1)) (rt_law hw_w).1 wd_236 d_X5_takeDigit_59 ?_
        refine lv_aload_n hx hb d_X5_takeDigit_62 rfl (lv_at hl 0 rfl) ?_
        refine r_geti (j := 1) X hw ct2 ow0_w lw0_w rfl (Nat.le_of_ble_eq_true rfl) wd_237 d_X5_takeDigit_63 ?_
        refine lv_iconst (v := (1 : Int32)) hx hb d_X5_takeDigit_66 (by decide) ?_
        refine lv_isub hx hb d_X5_takeDigit_67 ?_
        obtain ⟨hi1, h⟩ := gd_some h
        refine r_iald X hw ow1_w lw1_w hi1 d_X5_takeDigit_68 ?_
        refine lv_imul hx hb d_X5_takeDigit_69 ?_
        refine lv_iload_n hx hb d_X5_takeDigit_70 rfl (lv_at hl 1 rfl) ?_
        refine lv_iadd hx hb d_X5_takeDigit_71 ?_
        obtain ⟨hi2, h⟩ := gd_some h
        refine r_iast X hw ow1_w lw1_w hi2 d_X5_takeDigit_72 (fun H locs hw => ?_)
        exact j73 (sA τ (w + 1) ((cF τ w 1) - (1 : Int32)).toNatClampNeg (((10 : Int32) * (cA τ (w + 1) ((cF τ w 1) - (1 : Int32)).toNatClampNeg)) + x1)) h _ _ _ hw (lv_sub hl [0] rfl)
    · have h := ite_t h hc
      refine lv_aload_n hx hb d_X5_takeDigit_31 rfl (lv_at hl 0 rfl) ?_
      refine lv_iload_n hx hb d_X5_takeDigit_32 rfl (lv_at hl 1 rfl) ?_
      obtain ⟨q3, e4, h⟩ := bd_some h
      refine r_callV (As := [.int x1]) (rest := []) (st' := []) X hw hl mwX5_emit wd_209 wp_4 wd_207 (c_X5_emit hw_w e4) (r_recv X hw ct2 ow0_w) rfl ⟨Nat.le_of_ble_eq_true rfl, Nat.le_of_ble_eq_true rfl⟩ ⟨Nat.le_refl _, Nat.le_refl _⟩ rfl rfl (Nat.le_of_ble_eq_true rfl) d_X5_takeDigit_33 (fun H locs hw => ?_)
      refine lv_goto (tgt := 73) hx hb d_X5_takeDigit_36 (by decide) ?_
      exact j73 q3 h _ _ _ hw (lv_sub hl [0] rfl)
  intro H locs ls hw hl
  have hl : lv_has ls 2 [(0, .ref (ga G w)), (1, .int a1)] := hl
  unfold f_X5_takeDigit at h
  refine lv_aload_n hx hb d_X5_takeDigit_0 rfl (lv_at hl 0 rfl) ?_
  refine r_geti (j := 6) X hw ct2 ow0_w lw0_w rfl (Nat.le_of_ble_eq_true rfl) wd_242 d_X5_takeDigit_1 ?_
  refine lv_iconst (v := (3 : Int32)) hx hb d_X5_takeDigit_4 (by decide) ?_
  refine lv_icmp_eq (tgt := 22) hx hb d_X5_takeDigit_5 (by decide) (fun hc => ?_) (fun hc => ?_)
  · have h := ite_t h hc
    refine lv_iconst (v := (0 : Int32)) hx hb d_X5_takeDigit_22 (by decide) ?_
    obtain rfl := Option.some.inj h
    subst hQ
    exact r_zret X hr nbz0 hlk hw d_X5_takeDigit_23
  · have h := ite_f h hc
    refine lv_aload_n hx hb d_X5_takeDigit_8 rfl (lv_at hl 0 rfl) ?_
    refine r_geti (j := 6) X hw ct2 ow0_w lw0_w rfl (Nat.le_of_ble_eq_true rfl) wd_242 d_X5_takeDigit_9 ?_
    refine lv_if_ne (tgt := 24) hx hb d_X5_takeDigit_12 (by decide) (fun hc => ?_) (fun hc => ?_)
    · have h := ite_f h hc
      exact j24 χ a1 h _ _ _ hw (lv_sub hl [0, 1] rfl)
    · have h := ite_t h hc
      refine lv_aload_n hx hb d_X5_takeDigit_15 rfl (lv_at hl 0 rfl) ?_
      refine r_geti (j := 7) X hw ct2 ow0_w lw0_w rfl (Nat.le_of_ble_eq_true rfl) wd_243 d_X5_takeDigit_16 ?_
      refine lv_if_eq (tgt := 24) hx hb d_X5_takeDigit_19 (by decide) (fun hc => ?_) (fun hc => ?_)
      · have h := ite_t h hc
        exact j24 χ a1 h _ _ _ hw (lv_sub hl [0, 1] rfl)
      · have h := ite_f h hc
        refine lv_iconst (v := (0 : Int32)) hx hb d_X5_takeDigit_22 (by decide) ?_
        obtain rfl := Option.some.inj h
        subst hQ
        exact r_zret X hr nbz0 hlk hw d_X5_takeDigit_23
abbrev yX5_take : MethodName := ⟨"OysterBeds$Law", "take", "(C)Z"⟩
theorem mwX5_take : MW yX5_take prog_7_method_6_code 2 (some .boolean) 1 := ⟨wd_202, wd_8, by decide +kernel⟩
theorem d_X5_take_0 : decode prog_7_method_6_code 0 = .ok (.iload_n 1, 1) := by decide +kernel
theorem d_X5_take_1 : decode prog_7_method_6_code 1 = .ok (.bipush 48, 2) := by decide +kernel
theorem d_X5_take_3 : decode prog_7_method_6_code 3 = .ok (.if_icmp .lt 18, 3) := by decide +kernel
theorem d_X5_take_6 : decode prog_7_method_6_code 6 = .ok (.iload_n 1, 1) := by decide +kernel
theorem d_X5_take_7 : decode prog_7_method_6_code 7 = .ok (.bipush 57, 2) := by decide +kernel
theorem d_X5_take_9 : decode prog_7_method_6_code 9 = .ok (.if_icmp .gt 12, 3) := by decide +kernel
theorem d_X5_take_12 : decode prog_7_method_6_code 12 = .ok (.aload_n 0, 1) := by decide +kernel
theorem d_X5_take_13 : decode prog_7_method_6_code 13 = .ok (.iload_n 1, 1) := by decide +kernel
theorem d_X5_take_14 : decode prog_7_method_6_code 14 = .ok (.bipush 48, 2) := by decide +kernel
theorem d_X5_take_16 : decode prog_7_method_6_code 16 = .ok (.isub, 1) := by decide +kernel
theorem d_X5_take_17 : decode prog_7_method_6_code 17 = .ok (.invokevirtual 78, 3) := by decide +kernel
theorem d_X5_take_20 : decode prog_7_method_6_code 20 = .ok (.ireturn, 1) := by decide +kernel
theorem d_X5_take_21 : decode prog_7_method_6_code 21 = .ok (.aload_n 0, 1) := by decide +kernel
theorem d_X5_take_22 : decode prog_7_method_6_code 22 = .ok (.iconst 0, 1) := by decide +kernel
theorem d_X5_take_23 : decode prog_7_method_6_code 23 = .ok (.putfield 75, 3) := by decide +kernel
theorem d_X5_take_26 : decode prog_7_method_6_code 26 = .ok (.aload_n 0, 1) := by decide +kernel
theorem d_X5_take_27 : decode prog_7_method_6_code 27 = .ok (.getfield 64, 3) := by decide +kernel
theorem d_X5_take_30 : decode prog_7_method_6_code 30 = .ok (.ifCond .eq 11, 3) := by decide +kernel
theorem d_X5_take_33 : decode prog_7_method_6_code 33 = .ok (.aload_n 0, 1) := by decide +kernel
theorem d_X5_take_34 : decode prog_7_method_6_code 34 = .ok (.iload_n 1, 1) := by decide +kernel
theorem d_X5_take_35 : decode prog_7_method_6_code 35 = .ok (.invokevirtual 82, 3) := by decide +kernel
theorem d_X5_take_38 : decode prog_7_method_6_code 38 = .ok (.goto 8, 3) := by decide +kernel
theorem d_X5_take_41 : decode prog_7_method_6_code 41 = .ok (.aload_n 0, 1) := by decide +kernel
theorem d_X5_take_42 : decode prog_7_method_6_code 42 = .ok (.iload_n 1, 1) := by decide +kernel
theorem d_X5_take_43 : decode prog_7_method_6_code 43 = .ok (.invokevirtual 85, 3) := by decide +kernel
theorem d_X5_take_46 : decode prog_7_method_6_code 46 = .ok (.ireturn, 1) := by decide +kernel
def f_X5_take_j21 (w : Nat) (τ : St) (x1 : Int32) : Option (Int32 × St) := (if (cF (sF τ w 6 (0 : Int32)) w 7) = 0 then (f_X5_takeAheadOfThing (sF τ w 6 (0 : Int32)) w x1).bind (fun q1 => gd (nb q1.1) (some (q1.1, q1.2))) else (f_X5_takeBehindThing (sF τ w 6 (0 : Int32)) w x1).bind (fun q4 => gd (nb q4.1) (some (q4.1, q4.2))))
def f_X5_take (χ : St) (w : Nat) (a1 : Int32) : Option (Int32 × St) := (if a1 < (48 : Int32) then f_X5_take_j21 w χ a1 else (if (57 : Int32) < a1 then f_X5_take_j21 w χ a1 else (f_X5_takeDigit χ w (a1 - (48 : Int32))).bind (fun q7 => gd (nb q7.1) (some (q7.1, q7.2)))))
theorem c_X5_take {l : Launch} {G : gT} {χ σ : St} {w : Nat} {a1 : Int32} (hw_w : LW G w) {q : Int32 × St} (h : f_X5_take χ w a1 = some q) : Ct l G yX5_take prog_7_method_6_code 2 (some .boolean) 3 64 [.ref (ga G w), .int a1] χ σ (some (.int q.1)) q.2 σ := by
  obtain ⟨ow0_w, ow1_w, ow2_w, ow3_w, ow4_w, lw_w⟩ := law_at hw_w
  have lw0_w : w < 300 := by omega
  have lw1_w : w + 1 < 300 := by omega
  have lw2_w : w + 2 < 300 := by omega
  have lw3_w : w + 3 < 300 := by omega
  have lw4_w : w + 4 < 300 := by omega
  refine Ct.of (by decide) (Nat.le_of_ble_eq_true rfl) ?_
  intro p e s m args below meth c Q X hr hlk hQ
  have hx := X.1
  have hb := X.2.1
  have j21 : ∀ (τ : St) (x1 : Int32), f_X5_take_j21 w τ x1 = some q → Wat p l e (rmk 3 64) s m args below meth c Q G 2 21 [] [(0, .ref (ga G w)), (1, .int x1)] τ σ := by
    intro τ x1 h H locs ls hw hl
    unfold f_X5_take_j21 at h
    refine lv_aload_n hx hb d_X5_take_21 rfl (lv_at hl 0 rfl) ?_
    refine lv_iconst (v := (0 : Int32)) hx hb d_X5_take_22 (by decide) ?_
    refine r_puti (j := 6) X hw ct2 ow0_w lw0_w rfl (Nat.le_of_ble_eq_true rfl) rfl rfl rfl wd_242 d_X5_take_23 (fun H locs hw => ?_)
    refine lv_aload_n hx hb d_X5_take_26 rfl (lv_at hl 0 rfl) ?_
    refine r_geti (j := 7) X hw ct2 ow0_w lw0_w rfl (Nat.le_of_ble_eq_true rfl) wd_243 d_X5_take_27 ?_
    refine lv_if_eq (tgt := 41) hx hb d_X5_take_30 (by decide) (fun hc => ?_) (fun hc => ?_)
    · have h := ite_t h hc
      refine lv_aload_n hx hb d_X5_take_41 rfl (lv_at hl 0 rfl) ?_
      refine lv_iload_n hx hb d_X5_take_42 rfl (lv_at hl 1 rfl) ?_
      obtain ⟨q1, e2, h⟩ := bd_some h
      refine r_callV (As := [.int x1]) (rest := []) (st' := [.int q1.1]) X hw hl mwX5_takeAheadOfThing wd_231 wp_8 wd_229 (c_X5_takeAheadOfThing hw_w e2) (r_recv X hw ct2 ow0_w) rfl ⟨Nat.le_of_ble_eq_true rfl, Nat.le_of_ble_eq_true rfl⟩ ⟨Nat.le_refl _, Nat.le_refl _⟩ rfl rfl (Nat.le_of_ble_eq_true rfl) d_X5_take_43 (fun H locs hw => ?_)
      obtain ⟨hv3, h⟩ := gd_some h
      obtain rfl := Option.some.inj h
      subst hQ
      exact r_zret X hr (nb_of hv3) hlk hw d_X5_take_46
    · have h := ite_f h hc
      refine lv_aload_n hx hb d_X5_take_33 rfl (lv_at hl 0 rfl) ?_
      refine lv_iload_n hx hb d_X5_take_34 rfl (lv_at hl 1 rfl) ?_
      obtain ⟨q4, e5, h⟩ := bd_some h
      refine r_callV (As := [.int x1]) (rest := []) (st' := [.int q4.1]) X hw hl mwX5_takeBehindThing wd_213 wp_5 wd_211 (c_X5_takeBehindThing hw_w e5) (r_recv X hw ct2 ow0_w) rfl ⟨Nat.le_of_ble_eq_true rfl, Nat.le_of_ble_eq_true rfl⟩ ⟨Nat.le_refl _, Nat.le_refl _⟩ rfl rfl (Nat.le_of_ble_eq_true rfl) d_X5_take_35 (fun H locs hw => ?_)
      refine lv_goto (tgt := 46) hx hb d_X5_take_38 (by decide) ?_
      obtain ⟨hv6, h⟩ := gd_some h
      obtain rfl := Option.some.inj h
      subst hQ
      exact r_zret X hr (nb_of hv6) hlk hw d_X5_take_46
  intro H locs ls hw hl
  have hl : lv_has ls 2 [(0, .ref (ga G w)), (1, .int a1)] := hl
  unfold f_X5_take at h
  refine lv_iload_n hx hb d_X5_take_0 rfl (lv_at hl 1 rfl) ?_
  refine lv_bipush (v := (48 : Int32)) hx hb d_X5_take_1 (by decide) ?_
  refine lv_icmp_lt (tgt := 21) hx hb d_X5_take_3 (by decide) (fun hc => ?_) (fun hc => ?_)
  · have h := ite_t h hc
    exact j21 χ a1 h _ _ _ hw (lv_sub hl [0, 1] rfl)
  · have h := ite_f h hc
    refine lv_iload_n hx hb d_X5_take_6 rfl (lv_at hl 1 rfl) ?_
    refine lv_bipush (v := (57 : Int32)) hx hb d_X5_take_7 (by decide) ?_
    refine lv_icmp_gt (tgt := 21) hx hb d_X5_take_9 (by decide) (fun hc => ?_) (fun hc => ?_)
    · have h := ite_t h hc
      exact j21 χ a1 h _ _ _ hw (lv_sub hl [0, 1] rfl)
    · have h := ite_f h hc
      refine lv_aload_n hx hb d_X5_take_12 rfl (lv_at hl 0 rfl) ?_
      refine lv_iload_n hx hb d_X5_take_13 rfl (lv_at hl 1 rfl) ?_
      refine lv_bipush (v := (48 : Int32)) hx hb d_X5_take_14 (by decide) ?_
      refine lv_isub hx hb d_X5_take_16 ?_
      obtain ⟨q7, e8, h⟩ := bd_some h
      refine r_callV (As := [.int (a1 - (48 : Int32))]) (rest := []) (st' := [.int q7.1]) X hw hl mwX5_takeDigit wd_205 wp_3 wd_203 (c_X5_takeDigit hw_w e8) (r_recv X hw ct2 ow0_w) rfl ⟨Nat.le_of_ble_eq_true rfl, Nat.le_of_ble_eq_true rfl⟩ ⟨Nat.le_refl _, Nat.le_refl _⟩ rfl rfl (Nat.le_of_ble_eq_true rfl) d_X5_take_17 (fun H locs hw => ?_)
      obtain ⟨hv9, h⟩ := gd_some h
      obtain rfl := Option.some.inj h
      subst hQ
      exact r_zret X hr (nb_of hv9) hlk hw d_X5_take_20
abbrev yX5_readNone : MethodName := ⟨"OysterBeds$Law", "readNone", "()I"⟩
theorem mwX5_readNone : MW yX5_readNone prog_7_method_3_code 2 (some .int) 0 := ⟨wd_196, wd_8, by decide +kernel⟩
theorem d_X5_readNone_0 : decode prog_7_method_3_code 0 = .ok (.iconst 0, 1) := by decide +kernel
theorem d_X5_readNone_1 : decode prog_7_method_3_code 1 = .ok (.istore_n 1, 1) := by decide +kernel
theorem d_X5_readNone_2 : decode prog_7_method_3_code 2 = .ok (.iload_n 1, 1) := by decide +kernel
theorem d_X5_readNone_3 : decode prog_7_method_3_code 3 = .ok (.getstatic 46, 3) := by decide +kernel
theorem d_X5_readNone_6 : decode prog_7_method_3_code 6 = .ok (.arraylength, 1) := by decide +kernel
theorem d_X5_readNone_7 : decode prog_7_method_3_code 7 = .ok (.if_icmp .ge 19, 3) := by decide +kernel
theorem d_X5_readNone_10 : decode prog_7_method_3_code 10 = .ok (.aload_n 0, 1) := by decide +kernel
theorem d_X5_readNone_11 : decode prog_7_method_3_code 11 = .ok (.getstatic 46, 3) := by decide +kernel
theorem d_X5_readNone_14 : decode prog_7_method_3_code 14 = .ok (.iload_n 1, 1) := by decide +kernel
theorem d_X5_readNone_15 : decode prog_7_method_3_code 15 = .ok (.caload, 1) := by decide +kernel
theorem d_X5_readNone_16 : decode prog_7_method_3_code 16 = .ok (.invokevirtual 50, 3) := by decide +kernel
theorem d_X5_readNone_19 : decode prog_7_method_3_code 19 = .ok (.pop, 1) := by decide +kernel
theorem d_X5_readNone_20 : decode prog_7_method_3_code 20 = .ok (.iinc 1 1, 3) := by decide +kernel
theorem d_X5_readNone_23 : decode prog_7_method_3_code 23 = .ok (.goto (-21), 3) := by decide +kernel
theorem d_X5_readNone_26 : decode prog_7_method_3_code 26 = .ok (.iconst (-1), 1) := by decide +kernel
theorem d_X5_readNone_27 : decode prog_7_method_3_code 27 = .ok (.ireturn, 1) := by decide +kernel
def f_X5_readNone_s2 (w : Nat) (τ : St) (x1 : Int32) : Option ((Int32 × St) ⊕ (St)) := (if (7 : Int32) ≤ x1 then some (.inr τ) else gd (inb x1 7) ((f_X5_take τ w (([118, 42, 57, 45, 102, 43, 119] : List Int32).getD x1.toNatClampNeg 0)).bind (fun q4 => some (.inl ((x1 + (1 : Int32)), q4.2)))))
def f_X5_readNone (χ : St) (w : Nat) : Option (Int32 × St) := (iter (fun z => f_X5_readNone_s2 w z.2 z.1) FU ((0 : Int32), χ)).bind (fun z6 => some ((-1 : Int32), z6))
theorem c_X5_readNone {l : Launch} {G : gT} {χ σ : St} {w : Nat} (hw_w : LW G w) {q : Int32 × St} (h : f_X5_readNone χ w = some q) : Ct l G yX5_readNone prog_7_method_3_code 2 (some .int) 4 85 [.ref (ga G w)] χ σ (some (.int q.1)) q.2 σ := by
  obtain ⟨ow0_w, ow1_w, ow2_w, ow3_w, ow4_w, lw_w⟩ := law_at hw_w
  have lw0_w : w < 300 := by omega
  have lw1_w : w + 1 < 300 := by omega
  have lw2_w : w + 2 < 300 := by omega
  have lw3_w : w + 3 < 300 := by omega
  have lw4_w : w + 4 < 300 := by omega
  refine Ct.of (by decide) (Nat.le_of_ble_eq_true rfl) ?_
  intro p e s m args below meth c Q X hr hlk hQ
  have hx := X.1
  have hb := X.2.1
  have b2 : ∀ (τ : St) (x1 : Int32) (o : (Int32 × St) ⊕ (St)), f_X5_readNone_s2 w τ x1 = some o → Sum.elim (fun z : Int32 × St => Wat p l e (rmk 4 85) s m args below meth c Q G 2 2 [] [(1, .int z.1), (0, .ref (ga G w))] z.2 σ) (fun z : St => Wat p l e (rmk 4 85) s m args below meth c Q G 2 26 [] [] z σ) o → Wat p l e (rmk 4 85) s m args below meth c Q G 2 2 [] [(1, .int x1), (0, .ref (ga G w))] τ σ := by
    intro τ x1 o h hk H locs ls hw hl
    unfold f_X5_readNone_s2 at h
    refine lv_iload_n hx hb d_X5_readNone_2 rfl (lv_at hl 0 rfl) ?_
    obtain ⟨tt1, hZ_tt1, hT_tt1⟩ := X.2.2.2.2.2.2.2.1
    refine r_gets X hZ_tt1 hw wd_197 d_X5_readNone_3 ?_
    refine r_aTn X hT_tt1 hw (v := (7 : Int32)) (by decide) d_X5_readNone_6 ?_
    refine lv_icmp_ge (tgt := 26) hx hb d_X5_readNone_7 (by decide) (fun hc => ?_) (fun hc => ?_)
    · have h := ite_t h hc
      obtain rfl := Option.some.inj h
      dsimp only [Sum.elim_inr] at hk
      exact hk _ _ _ hw (lv_sub hl [] rfl)
    · have h := ite_f h hc
      refine lv_aload_n hx hb d_X5_readNone_10 rfl (lv_at hl 1 rfl) ?_
      obtain ⟨tt2, hZ_tt2, hT_tt2⟩ := X.2.2.2.2.2.2.2.1
      refine r_gets X hZ_tt2 hw wd_197 d_X5_readNone_11 ?_
      refine lv_iload_n hx hb d_X5_readNone_14 rfl (lv_at hl 0 rfl) ?_
      obtain ⟨hi3, h⟩ := gd_some h
      refine r_aTc X hT_tt2 hw hi3 rfl d_X5_readNone_15 ?_
      obtain ⟨q4, e5, h⟩ := bd_some h
      refine r_callV (As := [.int (([118, 42, 57, 45, 102, 43, 119] : List Int32).getD x1.toNatClampNeg 0)]) (rest := []) (st' := [.int q4.1]) X hw hl mwX5_take wd_201 wp_2 wd_199 (c_X5_take hw_w e5) (r_recv X hw ct2 ow0_w) rfl ⟨Nat.le_of_ble_eq_true rfl, Nat.le_of_ble_eq_true rfl⟩ ⟨Nat.le_refl _, Nat.le_refl _⟩ rfl rfl (Nat.le_of_ble_eq_true rfl) d_X5_readNone_16 (fun H locs hw => ?_)
      refine lv_pop hx hb d_X5_readNone_19 rfl ?_
      refine lv_iinc (v := (x1 + (1 : Int32))) (k := 0) (lv' := [(1, .int (x1 + (1 : Int32))), (0, .ref (ga G w))]) hx hb d_X5_readNone_20 hl rfl (by rfl) (Nat.le_of_ble_eq_true rfl) rfl (fun ls hl => ?_)
      refine lv_goto (tgt := 2) hx hb d_X5_readNone_23 (by decide) ?_
      obtain rfl := Option.some.inj h
      dsimp only [Sum.elim_inl] at hk
      exact hk _ _ _ hw (lv_sub hl [0, 1] rfl)
  intro H locs ls hw hl
  have hl : lv_has ls 2 [(0, .ref (ga G w))] := hl
  unfold f_X5_readNone at h
  refine lv_iconst (v := (0 : Int32)) hx hb d_X5_readNone_0 (by decide) ?_
  refine lv_istore_n (lv' := [(1, .int (0 : Int32)), (0, .ref (ga G w))]) hx hb d_X5_readNone_1 rfl hl (Nat.le_of_ble_eq_true rfl) rfl (fun ls hl => ?_)
  obtain ⟨z6, e7, h⟩ := bd_some h
  refine iter_w (Wh := fun z : Int32 × St => Wat p l e (rmk 4 85) s m args below meth c Q G 2 2 [] [(1, .int z.1), (0, .ref (ga G w))] z.2 σ) (K := fun z : St => Wat p l e (rmk 4 85) s m args below meth c Q G 2 26 [] [] z σ) (fun z o h1 h2 => b2 z.2 z.1 o h1 h2) FU _ _ e7 ?_ _ _ _ hw (lv_sub hl [0, 1] rfl)
  intro H locs ls hw hl
  refine lv_iconst (v := (-1 : Int32)) hx hb d_X5_readNone_26 (by decide) ?_
  obtain rfl := Option.some.inj h
  subst hQ
  exact r_iret X hr hlk hw d_X5_readNone_27
abbrev yX5_start : MethodName := ⟨"OysterBeds$Law", "start", "()V"⟩
theorem mwX5_start : MW yX5_start prog_7_method_5_code 1 none 0 := ⟨wd_192, wd_8, by decide +kernel⟩
theorem d_X5_start_0 : decode prog_7_method_5_code 0 = .ok (.aload_n 0, 1) := by decide +kernel
theorem d_X5_start_1 : decode prog_7_method_5_code 1 = .ok (.iconst 0, 1) := by decide +kernel
theorem d_X5_start_2 : decode prog_7_method_5_code 2 = .ok (.putfield 71, 3) := by decide +kernel
theorem d_X5_start_5 : decode prog_7_method_5_code 5 = .ok (.aload_n 0, 1) := by decide +kernel
theorem d_X5_start_6 : decode prog_7_method_5_code 6 = .ok (.iconst 0, 1) := by decide +kernel
theorem d_X5_start_7 : decode prog_7_method_5_code 7 = .ok (.putfield 72, 3) := by decide +kernel
theorem d_X5_start_10 : decode prog_7_method_5_code 10 = .ok (.aload_n 0, 1) := by decide +kernel
theorem d_X5_start_11 : decode prog_7_method_5_code 11 = .ok (.iconst 0, 1) := by decide +kernel
theorem d_X5_start_12 : decode prog_7_method_5_code 12 = .ok (.putfield 68, 3) := by decide +kernel
theorem d_X5_start_15 : decode prog_7_method_5_code 15 = .ok (.aload_n 0, 1) := by decide +kernel
theorem d_X5_start_16 : decode prog_7_method_5_code 16 = .ok (.getfield 18, 3) := by decide +kernel
theorem d_X5_start_19 : decode prog_7_method_5_code 19 = .ok (.iconst 0, 1) := by decide +kernel
theorem d_X5_start_20 : decode prog_7_method_5_code 20 = .ok (.iconst 0, 1) := by decide +kernel
theorem d_X5_start_21 : decode prog_7_method_5_code 21 = .ok (.bastore, 1) := by decide +kernel
theorem d_X5_start_22 : decode prog_7_method_5_code 22 = .ok (.aload_n 0, 1) := by decide +kernel
theorem d_X5_start_23 : decode prog_7_method_5_code 23 = .ok (.iconst 0, 1) := by decide +kernel
theorem d_X5_start_24 : decode prog_7_method_5_code 24 = .ok (.putfield 75, 3) := by decide +kernel
theorem d_X5_start_27 : decode prog_7_method_5_code 27 = .ok (.aload_n 0, 1) := by decide +kernel
theorem d_X5_start_28 : decode prog_7_method_5_code 28 = .ok (.iconst 0, 1) := by decide +kernel
theorem d_X5_start_29 : decode prog_7_method_5_code 29 = .ok (.putfield 64, 3) := by decide +kernel
theorem d_X5_start_32 : decode prog_7_method_5_code 32 = .ok (.return_, 1) := by decide +kernel
def f_X5_start (χ : St) (w : Nat) : Option (St) := gd (inb (0 : Int32) 5) (some (sF (sF (sA (sF (sF (sF χ w 1 (0 : Int32)) w 3 (0 : Int32)) w 5 (0 : Int32)) (w + 3) (0 : Int32).toNatClampNeg (vp_nar .boolean (0 : Int32))) w 6 (0 : Int32)) w 7 (0 : Int32)))
theorem c_X5_start {l : Launch} {G : gT} {χ σ : St} {w : Nat} (hw_w : LW G w) {q : St} (h : f_X5_start χ w = some q) : Ct l G yX5_start prog_7_method_5_code 1 none 0 0 [.ref (ga G w)] χ σ (none) q σ := by
  obtain ⟨ow0_w, ow1_w, ow2_w, ow3_w, ow4_w, lw_w⟩ := law_at hw_w
  have lw0_w : w < 300 := by omega
  have lw1_w : w + 1 < 300 := by omega
  have lw2_w : w + 2 < 300 := by omega
  have lw3_w : w + 3 < 300 := by omega
  have lw4_w : w + 4 < 300 := by omega
  refine Ct.of (by decide) (Nat.le_of_ble_eq_true rfl) ?_
  intro p e s m args below meth c Q X hr hlk hQ
  have hx := X.1
  have hb := X.2.1
  intro H locs ls hw hl
  have hl : lv_has ls 1 [(0, .ref (ga G w))] := hl
  unfold f_X5_start at h
  refine lv_aload_n hx hb d_X5_start_0 rfl (lv_at hl 0 rfl) ?_
  refine lv_iconst (v := (0 : Int32)) hx hb d_X5_start_1 (by decide) ?_
  refine r_puti (j := 1) X hw ct2 ow0_w lw0_w rfl (Nat.le_of_ble_eq_true rfl) rfl rfl rfl wd_237 d_X5_start_2 (fun H locs hw => ?_)
  refine lv_aload_n hx hb d_X5_start_5 rfl (lv_at hl 0 rfl) ?_
  refine lv_iconst (v := (0 : Int32)) hx hb d_X5_start_6 (by decide) ?_
  refine r_puti (j := 3) X hw ct2 ow0_w lw0_w rfl (Nat.le_of_ble_eq_true rfl) rfl rfl rfl wd_239 d_X5_start_7 (fun H locs hw => ?_)
  refine lv_aload_n hx hb d_X5_start_10 rfl (lv_at hl 0 rfl) ?_
  refine lv_iconst (v := (0 : Int32)) hx hb d_X5_start_11 (by decide) ?_
  refine r_puti (j := 5) X hw ct2 ow0_w lw0_w rfl (Nat.le_of_ble_eq_true rfl) rfl rfl rfl wd_241 d_X5_start_12 (fun H locs hw => ?_)
  refine lv_aload_n hx hb d_X5_start_15 rfl (lv_at hl 0 rfl) ?_
  refine r_getr (j := 4) X hw ct2 ow0_w rfl (Nat.le_of_ble_eq_true rfl) (q := (w + 3)) (rt_law hw_w).2.2.1 wd_240 d_X5_start_16 ?_
  refine lv_iconst (v := (0 : Int32)) hx hb d_X5_start_19 (by decide) ?_
  refine lv_iconst (v := (0 : Int32)) hx hb d_X5_start_20 (by decide) ?_
  obtain ⟨hi1, h⟩ := gd_some h
  refine r_zast X hw ow3_w lw3_w hi1 d_X5_start_21 (fun H locs hw => ?_)
  refine lv_aload_n hx hb d_X5_start_22 rfl (lv_at hl 0 rfl) ?_
  refine lv_iconst (v := (0 : Int32)) hx hb d_X5_start_23 (by decide) ?_
  refine r_puti (j := 6) X hw ct2 ow0_w lw0_w rfl (Nat.le_of_ble_eq_true rfl) rfl rfl rfl wd_242 d_X5_start_24 (fun H locs hw => ?_)
  refine lv_aload_n hx hb d_X5_start_27 rfl (lv_at hl 0 rfl) ?_
  refine lv_iconst (v := (0 : Int32)) hx hb d_X5_start_28 (by decide) ?_
  refine r_puti (j := 7) X hw ct2 ow0_w lw0_w rfl (Nat.le_of_ble_eq_true rfl) rfl (by decide) (by decide) wd_243 d_X5_start_29 (fun H locs hw => ?_)
  obtain rfl := Option.some.inj h
  subst hQ
  exact r_vret X hr hlk hw d_X5_start_32
abbrev yX8_at : MethodName := ⟨"OysterBeds$Text", "at", "(I)C"⟩
theorem mwX8_at : MW yX8_at prog_10_method_4_code 2 (some .char) 1 := ⟨wd_326, wd_2, by decide +kernel⟩
theorem d_X8_at_0 : decode prog_10_method_4_code 0 = .ok (.iload_n 1, 1) := by decide +kernel
theorem d_X8_at_1 : decode prog_10_method_4_code 1 = .ok (.ifCond .lt 11, 3) := by decide +kernel
theorem d_X8_at_4 : decode prog_10_method_4_code 4 = .ok (.iload_n 1, 1) := by decide +kernel
theorem d_X8_at_5 : decode prog_10_method_4_code 5 = .ok (.aload_n 0, 1) := by decide +kernel
theorem d_X8_at_6 : decode prog_10_method_4_code 6 = .ok (.getfield 15, 3) := by decide +kernel
theorem d_X8_at_9 : decode prog_10_method_4_code 9 = .ok (.if_icmp .lt 7, 3) := by decide +kernel
theorem d_X8_at_12 : decode prog_10_method_4_code 12 = .ok (.iconst 0, 1) := by decide +kernel
theorem d_X8_at_13 : decode prog_10_method_4_code 13 = .ok (.goto 9, 3) := by decide +kernel
theorem d_X8_at_16 : decode prog_10_method_4_code 16 = .ok (.aload_n 0, 1) := by decide +kernel
theorem d_X8_at_17 : decode prog_10_method_4_code 17 = .ok (.getfield 9, 3) := by decide +kernel
theorem d_X8_at_20 : decode prog_10_method_4_code 20 = .ok (.iload_n 1, 1) := by decide +kernel
theorem d_X8_at_21 : decode prog_10_method_4_code 21 = .ok (.caload, 1) := by decide +kernel
theorem d_X8_at_22 : decode prog_10_method_4_code 22 = .ok (.ireturn, 1) := by decide +kernel
def f_X8_at (χ : St) (a1 : Int32) : Option (Int32) := (if a1 < 0 then some (0 : Int32) else (if a1 < (cF χ 1 1) then gd (inb a1 80) (gd (nc (cA χ 2 a1.toNatClampNeg)) (some (cA χ 2 a1.toNatClampNeg))) else some (0 : Int32)))
theorem c_X8_at {l : Launch} {G : gT} {χ σ : St} {a1 : Int32} (hf : FW G) {q : Int32} (h : f_X8_at χ a1 = some q) : Ct l G yX8_at prog_10_method_4_code 2 (some .char) 0 0 [.ref (ga G 1), .int a1] χ σ (some (.int q)) χ σ := by
  refine Ct.of (by decide) (Nat.le_of_ble_eq_true rfl) ?_
  intro p e s m args below meth c Q X hr hlk hQ
  have hx := X.1
  have hb := X.2.1
  intro H locs ls hw hl
  have hl : lv_has ls 2 [(0, .ref (ga G 1)), (1, .int a1)] := hl
  unfold f_X8_at at h
  refine lv_iload_n hx hb d_X8_at_0 rfl (lv_at hl 1 rfl) ?_
  refine lv_if_lt (tgt := 12) hx hb d_X8_at_1 (by decide) (fun hc => ?_) (fun hc => ?_)
  · have h := ite_t h hc
    refine lv_iconst (v := (0 : Int32)) hx hb d_X8_at_12 (by decide) ?_
    refine lv_goto (tgt := 22) hx hb d_X8_at_13 (by decide) ?_
    obtain rfl := Option.some.inj h
    subst hQ
    exact r_zret X hr ncz0 hlk hw d_X8_at_22
  · have h := ite_f h hc
    refine lv_iload_n hx hb d_X8_at_4 rfl (lv_at hl 1 rfl) ?_
    refine lv_aload_n hx hb d_X8_at_5 rfl (lv_at hl 0 rfl) ?_
    refine r_geti (j := 1) X hw ct5 (o_1 hf) (Nat.le_of_ble_eq_true rfl) rfl (Nat.le_of_ble_eq_true rfl) wd_39 d_X8_at_6 ?_
    refine lv_icmp_lt (tgt := 16) hx hb d_X8_at_9 (by decide) (fun hc => ?_) (fun hc => ?_)
    · have h := ite_t h hc
      refine lv_aload_n hx hb d_X8_at_16 rfl (lv_at hl 0 rfl) ?_
      refine r_getr (j := 0) X hw ct5 (o_1 hf) rfl (Nat.le_of_ble_eq_true rfl) (q := 2) rfl wd_38 d_X8_at_17 ?_
      refine lv_iload_n hx hb d_X8_at_20 rfl (lv_at hl 1 rfl) ?_
      obtain ⟨hi1, h⟩ := gd_some h
      refine r_cald X hw (o_2 hf) (Nat.le_of_ble_eq_true rfl) hi1 d_X8_at_21 ?_
      obtain ⟨hv2, h⟩ := gd_some h
      obtain rfl := Option.some.inj h
      subst hQ
      exact r_zret X hr (nc_of hv2) hlk hw d_X8_at_22
    · have h := ite_f h hc
      refine lv_iconst (v := (0 : Int32)) hx hb d_X8_at_12 (by decide) ?_
      refine lv_goto (tgt := 22) hx hb d_X8_at_13 (by decide) ?_
      obtain rfl := Option.some.inj h
      subst hQ
      exact r_zret X hr ncz0 hlk hw d_X8_at_22
abbrev yX5_readSigns : MethodName := ⟨"OysterBeds$Law", "readSigns", "(LOysterBeds$Text;)I"⟩
theorem mwX5_readSigns : MW yX5_readSigns prog_7_method_4_code 4 (some .int) 1 := ⟨wd_360, wd_8, by decide +kernel⟩
theorem d_X5_readSigns_0 : decode prog_7_method_4_code 0 = .ok (.aload_n 1, 1) := by decide +kernel
theorem d_X5_readSigns_1 : decode prog_7_method_4_code 1 = .ok (.getfield 36, 3) := by decide +kernel
theorem d_X5_readSigns_4 : decode prog_7_method_4_code 4 = .ok (.bipush 40, 2) := by decide +kernel
theorem d_X5_readSigns_6 : decode prog_7_method_4_code 6 = .ok (.invokestatic 54, 3) := by decide +kernel
theorem d_X5_readSigns_9 : decode prog_7_method_4_code 9 = .ok (.istore_n 2, 1) := by decide +kernel
theorem d_X5_readSigns_10 : decode prog_7_method_4_code 10 = .ok (.iconst 0, 1) := by decide +kernel
theorem d_X5_readSigns_11 : decode prog_7_method_4_code 11 = .ok (.istore_n 3, 1) := by decide +kernel
theorem d_X5_readSigns_12 : decode prog_7_method_4_code 12 = .ok (.iload_n 3, 1) := by decide +kernel
theorem d_X5_readSigns_13 : decode prog_7_method_4_code 13 = .ok (.iload_n 2, 1) := by decide +kernel
theorem d_X5_readSigns_14 : decode prog_7_method_4_code 14 = .ok (.if_icmp .ge 23, 3) := by decide +kernel
theorem d_X5_readSigns_17 : decode prog_7_method_4_code 17 = .ok (.aload_n 0, 1) := by decide +kernel
theorem d_X5_readSigns_18 : decode prog_7_method_4_code 18 = .ok (.aload_n 1, 1) := by decide +kernel
theorem d_X5_readSigns_19 : decode prog_7_method_4_code 19 = .ok (.iload_n 3, 1) := by decide +kernel
theorem d_X5_readSigns_20 : decode prog_7_method_4_code 20 = .ok (.invokevirtual 60, 3) := by decide +kernel
theorem d_X5_readSigns_23 : decode prog_7_method_4_code 23 = .ok (.invokevirtual 50, 3) := by decide +kernel
theorem d_X5_readSigns_26 : decode prog_7_method_4_code 26 = .ok (.ifCond .ne 5, 3) := by decide +kernel
theorem d_X5_readSigns_29 : decode prog_7_method_4_code 29 = .ok (.iload_n 3, 1) := by decide +kernel
theorem d_X5_readSigns_30 : decode prog_7_method_4_code 30 = .ok (.ireturn, 1) := by decide +kernel
theorem d_X5_readSigns_31 : decode prog_7_method_4_code 31 = .ok (.iinc 3 1, 3) := by decide +kernel
theorem d_X5_readSigns_34 : decode prog_7_method_4_code 34 = .ok (.goto (-22), 3) := by decide +kernel
theorem d_X5_readSigns_37 : decode prog_7_method_4_code 37 = .ok (.aload_n 1, 1) := by decide +kernel
theorem d_X5_readSigns_38 : decode prog_7_method_4_code 38 = .ok (.getfield 36, 3) := by decide +kernel
theorem d_X5_readSigns_41 : decode prog_7_method_4_code 41 = .ok (.bipush 40, 2) := by decide +kernel
theorem d_X5_readSigns_43 : decode prog_7_method_4_code 43 = .ok (.if_icmp .le 6, 3) := by decide +kernel
theorem d_X5_readSigns_46 : decode prog_7_method_4_code 46 = .ok (.bipush 40, 2) := by decide +kernel
theorem d_X5_readSigns_48 : decode prog_7_method_4_code 48 = .ok (.ireturn, 1) := by decide +kernel
theorem d_X5_readSigns_49 : decode prog_7_method_4_code 49 = .ok (.aload_n 0, 1) := by decide +kernel
theorem d_X5_readSigns_50 : decode prog_7_method_4_code 50 = .ok (.getfield 64, 3) := by decide +kernel
theorem d_X5_readSigns_53 : decode prog_7_method_4_code 53 = .ok (.ifCond .eq 14, 3) := by decide +kernel
theorem d_X5_readSigns_56 : decode prog_7_method_4_code 56 = .ok (.aload_n 0, 1) := by decide +kernel
theorem d_X5_readSigns_57 : decode prog_7_method_4_code 57 = .ok (.getfield 68, 3) := by decide +kernel
theorem d_X5_readSigns_60 : decode prog_7_method_4_code 60 = .ok (.ifCond .ne 7, 3) := by decide +kernel
theorem d_X5_readSigns_63 : decode prog_7_method_4_code 63 = .ok (.iconst (-1), 1) := by decide +kernel
theorem d_X5_readSigns_64 : decode prog_7_method_4_code 64 = .ok (.goto 4, 3) := by decide +kernel
theorem d_X5_readSigns_67 : decode prog_7_method_4_code 67 = .ok (.iload_n 2, 1) := by decide +kernel
theorem d_X5_readSigns_68 : decode prog_7_method_4_code 68 = .ok (.ireturn, 1) := by decide +kernel
def f_X5_readSigns_s12 (w : Nat) (τ : St) (y2 : Int32) (x3 : Int32) : Option ((Int32 × St) ⊕ ((Int32 × St) ⊕ (St))) := (if y2 ≤ x3 then some (.inr (.inr τ)) else (f_X8_at τ x3).bind (fun q1 => (f_X5_take τ w q1).bind (fun q3 => (if q3.1 = 0 then some (.inr (.inl (x3, q3.2))) else some (.inl ((x3 + (1 : Int32)), q3.2))))))
def f_X5_readSigns (χ : St) (w : Nat) : Option (Int32 × St) := (iter (fun z => f_X5_readSigns_s12 w z.2 (if (40 : Int32) < (cF χ 1 1) then (40 : Int32) else (cF χ 1 1)) z.1) FU ((0 : Int32), χ)).bind (Sum.elim (fun r => some r) (fun z5 => some ((if (cF z5 1 1) ≤ (40 : Int32) then (if (cF z5 w 7) = 0 then (if (40 : Int32) < (cF χ 1 1) then (40 : Int32) else (cF χ 1 1)) else (if (cF z5 w 5) = 0 then (-1 : Int32) else (if (40 : Int32) < (cF χ 1 1) then (40 : Int32) else (cF χ 1 1)))) else (40 : Int32)), z5)))
theorem c_X5_readSigns {l : Launch} {G : gT} {χ σ : St} {w : Nat} (hf : FW G) (hw_w : LW G w) {q : Int32 × St} (h : f_X5_readSigns χ w = some q) : Ct l G yX5_readSigns prog_7_method_4_code 4 (some .int) 4 85 [.ref (ga G w), .ref (ga G 1)] χ σ (some (.int q.1)) q.2 σ := by
  obtain ⟨ow0_w, ow1_w, ow2_w, ow3_w, ow4_w, lw_w⟩ := law_at hw_w
  have lw0_w : w < 300 := by omega
  have lw1_w : w + 1 < 300 := by omega
  have lw2_w : w + 2 < 300 := by omega
  have lw3_w : w + 3 < 300 := by omega
  have lw4_w : w + 4 < 300 := by omega
  refine Ct.of (by decide) (Nat.le_of_ble_eq_true rfl) ?_
  intro p e s m args below meth c Q X hr hlk hQ
  have hx := X.1
  have hb := X.2.1
  have b12 : ∀ (τ : St) (y2 : Int32) (x3 : Int32) (o : (Int32 × St) ⊕ ((Int32 × St) ⊕ (St))), f_X5_readSigns_s12 w τ y2 x3 = some o → Sum.elim (fun z : Int32 × St => Wat p l e (rmk 4 85) s m args below meth c Q G 4 12 [] [(3, .int z.1), (0, .ref (ga G w)), (1, .ref (ga G 1)), (2, .int y2)] z.2 σ) (Sum.elim (fun r : Int32 × St => r = q) (fun z : St => Wat p l e (rmk 4 85) s m args below meth c Q G 4 37 [] [(0, .ref (ga G w)), (1, .ref (ga G 1)), (2, .int y2)] z σ)) o → Wat p l e (rmk 4 85) s m args below meth c Q G 4 12 [] [(3, .int x3), (0, .ref (ga G w)), (1, .ref (ga G 1)), (2, .int y2)] τ σ := by
    intro τ y2 x3 o h hk H locs ls hw hl
    unfold f_X5_readSigns_s12 at h
    refine lv_iload_n hx hb d_X5_readSigns_12 rfl (lv_at hl 0 rfl) ?_
    refine lv_iload_n hx hb d_X5_readSigns_13 rfl (lv_at hl 3 rfl) ?_
    refine lv_icmp_ge (tgt := 37) hx hb d_X5_readSigns_14 (by decide) (fun hc => ?_) (fun hc => ?_)
    · have h := ite_t h hc
      obtain rfl := Option.some.inj h
      dsimp only [Sum.elim_inr, Sum.elim_inl] at hk
      exact hk _ _ _ hw (lv_sub hl [1, 2, 3] rfl)
    · have h := ite_f h hc
      refine lv_aload_n hx hb d_X5_readSigns_17 rfl (lv_at hl 1 rfl) ?_
      refine lv_aload_n hx hb d_X5_readSigns_18 rfl (lv_at hl 2 rfl) ?_
      refine lv_iload_n hx hb d_X5_readSigns_19 rfl (lv_at hl 0 rfl) ?_
      obtain ⟨q1, e2, h⟩ := bd_some h
      refine r_callV (As := [.int x3]) (rest := [.ref (ga G w)]) (st' := [.int q1, .ref (ga G w)]) X hw hl mwX8_at wd_324 wd_325 wd_362 (c_X8_at hf e2) (r_recv X hw ct5 (o_1 hf)) rfl ⟨Nat.le_of_ble_eq_true rfl, Nat.le_of_ble_eq_true rfl⟩ ⟨Nat.le_refl _, Nat.le_refl _⟩ rfl rfl (Nat.le_of_ble_eq_true rfl) d_X5_readSigns_20 (fun H locs hw => ?_)
      obtain ⟨q3, e4, h⟩ := bd_some h
      refine r_callV (As := [.int q1]) (rest := []) (st' := [.int q3.1]) X hw hl mwX5_take wd_201 wp_2 wd_199 (c_X5_take hw_w e4) (r_recv X hw ct2 ow0_w) rfl ⟨Nat.le_of_ble_eq_true rfl, Nat.le_of_ble_eq_true rfl⟩ ⟨Nat.le_refl _, Nat.le_refl _⟩ rfl rfl (Nat.le_of_ble_eq_true rfl) d_X5_readSigns_23 (fun H locs hw => ?_)
      refine lv_if_ne (tgt := 31) hx hb d_X5_readSigns_26 (by decide) (fun hc => ?_) (fun hc => ?_)
      · have h := ite_f h hc
        refine lv_iinc (v := (x3 + (1 : Int32))) (k := 0) (lv' := [(3, .int (x3 + (1 : Int32))), (0, .ref (ga G w)), (1, .ref (ga G 1)), (2, .int y2)]) hx hb d_X5_readSigns_31 hl rfl (by rfl) (Nat.le_of_ble_eq_true rfl) rfl (fun ls hl => ?_)
        refine lv_goto (tgt := 12) hx hb d_X5_readSigns_34 (by decide) ?_
        obtain rfl := Option.some.inj h
        dsimp only [Sum.elim_inl] at hk
        exact hk _ _ _ hw (lv_sub hl [0, 1, 2, 3] rfl)
      · have h := ite_t h hc
        refine lv_iload_n hx hb d_X5_readSigns_29 rfl (lv_at hl 0 rfl) ?_
        obtain rfl := Option.some.inj h
        cases (show _ = q from hk)
        subst hQ
        exact r_iret X hr hlk hw d_X5_readSigns_30
  intro H locs ls hw hl
  have hl : lv_has ls 4 [(0, .ref (ga G w)), (1, .ref (ga G 1))] := hl
  unfold f_X5_readSigns at h
  refine lv_aload_n hx hb d_X5_readSigns_0 rfl (lv_at hl 1 rfl) ?_
  refine r_getiN (j := 1) X hw ct5 (o_1 hf) (Nat.le_of_ble_eq_true rfl) rfl (Nat.le_of_ble_eq_true rfl) nw_2 d_X5_readSigns_1 ?_
  refine lv_bipush (v := (40 : Int32)) hx hb d_X5_readSigns_4 (by decide) ?_
  refine r_min X hl wd_361 ⟨Nat.le_of_ble_eq_true rfl, Nat.le_of_ble_eq_true rfl⟩ ⟨Nat.le_refl _, Nat.le_refl _⟩ d_X5_readSigns_6 ?_
  refine lv_istore_n (lv' := [(2, .int (if (40 : Int32) < (cF χ 1 1) then (40 : Int32) else (cF χ 1 1))), (0, .ref (ga G w)), (1, .ref (ga G 1))]) hx hb d_X5_readSigns_9 rfl hl (Nat.le_of_ble_eq_true rfl) rfl (fun ls hl => ?_)
  refine lv_iconst (v := (0 : Int32)) hx hb d_X5_readSigns_10 (by decide) ?_
  refine lv_istore_n (lv' := [(3, .int (0 : Int32)), (2, .int (if (40 : Int32) < (cF χ 1 1) then (40 : Int32) else (cF χ 1 1))), (0, .ref (ga G w)), (1, .ref (ga G 1))]) hx hb d_X5_readSigns_11 rfl hl (Nat.le_of_ble_eq_true rfl) rfl (fun ls hl => ?_)
  obtain ⟨z5, e6, h⟩ := bd_some h
  refine iter_w (Wh := fun z : Int32 × St => Wat p l e (rmk 4 85) s m args below meth c Q G 4 12 [] [(3, .int z.1), (0, .ref (ga G w)), (1, .ref (ga G 1)), (2, .int (if (40 : Int32) < (cF χ 1 1) then (40 : Int32) else (cF χ 1 1)))] z.2 σ) (K := Sum.elim (fun r : Int32 × St => r = q) (fun z : St => Wat p l e (rmk 4 85) s m args below meth c Q G 4 37 [] [(0, .ref (ga G w)), (1, .ref (ga G 1)), (2, .int (if (40 : Int32) < (cF χ 1 1) then (40 : Int32) else (cF χ 1 1)))] z σ)) (fun z o h1 h2 => b12 z.2 (if (40 : Int32) < (cF χ 1 1) then (40 : Int32) else (cF χ 1 1)) z.1 o h1 h2) FU _ _ e6 ?_ _ _ _ hw (lv_sub hl [0, 2, 3, 1] rfl)
  rcases z5 with r | z5
  · exact Option.some.inj h
  · dsimp only [Sum.elim_inr] at h ⊢
    intro H locs ls hw hl
    refine lv_aload_n hx hb d_X5_readSigns_37 rfl (lv_at hl 1 rfl) ?_
    refine r_getiN (j := 1) X hw ct5 (o_1 hf) (Nat.le_of_ble_eq_true rfl) rfl (Nat.le_of_ble_eq_true rfl) nw_2 d_X5_readSigns_38 ?_
    refine lv_bipush (v := (40 : Int32)) hx hb d_X5_readSigns_41 (by decide) ?_
    refine lv_icmp_le (tgt := 49) hx hb d_X5_readSigns_43 (by decide) (fun hc => ?_) (fun hc => ?_)
    · simp only [if_pos hc] at h
      refine lv_aload_n hx hb d_X5_readSigns_49 rfl (lv_at hl 0 rfl) ?_
      refine r_geti (j := 7) X hw ct2 ow0_w lw0_w rfl (Nat.le_of_ble_eq_true rfl) wd_243 d_X5_readSigns_50 ?_
      refine lv_if_eq (tgt := 67) hx hb d_X5_readSigns_53 (by decide) (fun hc => ?_) (fun hc => ?_)
      · simp only [if_pos hc] at h
        refine lv_iload_n hx hb d_X5_readSigns_67 rfl (lv_at hl 2 rfl) ?_
        obtain rfl := Option.some.inj h
        subst hQ
        exact r_iret X hr hlk hw d_X5_readSigns_68
      · simp only [if_neg hc] at h
        refine lv_aload_n hx hb d_X5_readSigns_56 rfl (lv_at hl 0 rfl) ?_
        refine r_geti (j := 5) X hw ct2 ow0_w lw0_w rfl (Nat.le_of_ble_eq_true rfl) wd_241 d_X5_readSigns_57 ?_
        refine lv_if_ne (tgt := 67) hx hb d_X5_readSigns_60 (by decide) (fun hc => ?_) (fun hc => ?_)
        · simp only [if_neg hc] at h
          refine lv_iload_n hx hb d_X5_readSigns_67 rfl (lv_at hl 2 rfl) ?_
          obtain rfl := Option.some.inj h
          subst hQ
          exact r_iret X hr hlk hw d_X5_readSigns_68
        · simp only [if_pos hc] at h
          refine lv_iconst (v := (-1 : Int32)) hx hb d_X5_readSigns_63 (by decide) ?_
          refine lv_goto (tgt := 68) hx hb d_X5_readSigns_64 (by decide) ?_
          obtain rfl := Option.some.inj h
          subst hQ
          exact r_iret X hr hlk hw d_X5_readSigns_68
    · simp only [if_neg hc] at h
      refine lv_bipush (v := (40 : Int32)) hx hb d_X5_readSigns_46 (by decide) ?_
      obtain rfl := Option.some.inj h
      subst hQ
      exact r_iret X hr hlk hw d_X5_readSigns_48
abbrev yX5_read : MethodName := ⟨"OysterBeds$Law", "read", "(LOysterBeds$Text;)I"⟩
theorem mwX5_read : MW yX5_read prog_7_method_2_code 3 (some .int) 1 := ⟨wd_356, wd_8, by decide +kernel⟩
theorem d_X5_read_0 : decode prog_7_method_2_code 0 = .ok (.aload_n 0, 1) := by decide +kernel
theorem d_X5_read_1 : decode prog_7_method_2_code 1 = .ok (.invokevirtual 25, 3) := by decide +kernel
theorem d_X5_read_4 : decode prog_7_method_2_code 4 = .ok (.aload_n 1, 1) := by decide +kernel
theorem d_X5_read_5 : decode prog_7_method_2_code 5 = .ok (.getfield 36, 3) := by decide +kernel
theorem d_X5_read_8 : decode prog_7_method_2_code 8 = .ok (.ifCond .ne 10, 3) := by decide +kernel
theorem d_X5_read_11 : decode prog_7_method_2_code 11 = .ok (.aload_n 0, 1) := by decide +kernel
theorem d_X5_read_12 : decode prog_7_method_2_code 12 = .ok (.invokevirtual 28, 3) := by decide +kernel
theorem d_X5_read_15 : decode prog_7_method_2_code 15 = .ok (.goto 8, 3) := by decide +kernel
theorem d_X5_read_18 : decode prog_7_method_2_code 18 = .ok (.aload_n 0, 1) := by decide +kernel
theorem d_X5_read_19 : decode prog_7_method_2_code 19 = .ok (.aload_n 1, 1) := by decide +kernel
theorem d_X5_read_20 : decode prog_7_method_2_code 20 = .ok (.invokevirtual 42, 3) := by decide +kernel
theorem d_X5_read_23 : decode prog_7_method_2_code 23 = .ok (.istore_n 2, 1) := by decide +kernel
theorem d_X5_read_24 : decode prog_7_method_2_code 24 = .ok (.aload_n 0, 1) := by decide +kernel
theorem d_X5_read_25 : decode prog_7_method_2_code 25 = .ok (.iconst 0, 1) := by decide +kernel
theorem d_X5_read_26 : decode prog_7_method_2_code 26 = .ok (.invokevirtual 32, 3) := by decide +kernel
theorem d_X5_read_29 : decode prog_7_method_2_code 29 = .ok (.iload_n 2, 1) := by decide +kernel
theorem d_X5_read_30 : decode prog_7_method_2_code 30 = .ok (.ireturn, 1) := by decide +kernel
def f_X5_read_j23 (w : Nat) (τ : St) (s0 : Int32) : Option (Int32 × St) := (f_X5_release τ w (0 : Int32)).bind (fun q5 => some (s0, q5))
def f_X5_read (χ : St) (w : Nat) : Option (Int32 × St) := (f_X5_start χ w).bind (fun q1 => (if (cF q1 1 1) = 0 then (f_X5_readNone q1 w).bind (fun q7 => f_X5_read_j23 w q7.2 q7.1) else (f_X5_readSigns q1 w).bind (fun q3 => f_X5_read_j23 w q3.2 q3.1)))
theorem c_X5_read {l : Launch} {G : gT} {χ σ : St} {w : Nat} (hf : FW G) (hw_w : LW G w) {q : Int32 × St} (h : f_X5_read χ w = some q) : Ct l G yX5_read prog_7_method_2_code 3 (some .int) 5 108 [.ref (ga G w), .ref (ga G 1)] χ σ (some (.int q.1)) q.2 σ := by
  obtain ⟨ow0_w, ow1_w, ow2_w, ow3_w, ow4_w, lw_w⟩ := law_at hw_w
  have lw0_w : w < 300 := by omega
  have lw1_w : w + 1 < 300 := by omega
  have lw2_w : w + 2 < 300 := by omega
  have lw3_w : w + 3 < 300 := by omega
  have lw4_w : w + 4 < 300 := by omega
  refine Ct.of (by decide) (Nat.le_of_ble_eq_true rfl) ?_
  intro p e s m args below meth c Q X hr hlk hQ
  have hx := X.1
  have hb := X.2.1
  have j23 : ∀ (τ : St) (s0 : Int32), f_X5_read_j23 w τ s0 = some q → Wat p l e (rmk 5 108) s m args below meth c Q G 3 23 [.int s0] [(0, .ref (ga G w))] τ σ := by
    intro τ s0 h H locs ls hw hl
    unfold f_X5_read_j23 at h
    refine lv_istore_n (lv' := [(2, .int s0), (0, .ref (ga G w))]) hx hb d_X5_read_23 rfl hl (Nat.le_of_ble_eq_true rfl) rfl (fun ls hl => ?_)
    refine lv_aload_n hx hb d_X5_read_24 rfl (lv_at hl 1 rfl) ?_
    refine lv_iconst (v := (0 : Int32)) hx hb d_X5_read_25 (by decide) ?_
    obtain ⟨q5, e6, h⟩ := bd_some h
    refine r_callV (As := [.int (0 : Int32)]) (rest := []) (st' := []) X hw hl mwX5_release wd_217 wp_6 wd_215 (c_X5_release hw_w e6) (r_recv X hw ct2 ow0_w) rfl ⟨Nat.le_of_ble_eq_true rfl, Nat.le_of_ble_eq_true rfl⟩ ⟨Nat.le_refl _, Nat.le_refl _⟩ rfl rfl (Nat.le_of_ble_eq_true rfl) d_X5_read_26 (fun H locs hw => ?_)
    refine lv_iload_n hx hb d_X5_read_29 rfl (lv_at hl 0 rfl) ?_
    obtain rfl := Option.some.inj h
    subst hQ
    exact r_iret X hr hlk hw d_X5_read_30
  intro H locs ls hw hl
  have hl : lv_has ls 3 [(0, .ref (ga G w)), (1, .ref (ga G 1))] := hl
  unfold f_X5_read at h
  refine lv_aload_n hx hb d_X5_read_0 rfl (lv_at hl 0 rfl) ?_
  obtain ⟨q1, e2, h⟩ := bd_some h
  refine r_callV (As := []) (rest := []) (st' := []) X hw hl mwX5_start wd_191 wp_0 wd_189 (c_X5_start hw_w e2) (r_recv X hw ct2 ow0_w) rfl ⟨Nat.le_of_ble_eq_true rfl, Nat.le_of_ble_eq_true rfl⟩ ⟨Nat.le_refl _, Nat.le_refl _⟩ rfl rfl (Nat.le_of_ble_eq_true rfl) d_X5_read_1 (fun H locs hw => ?_)
  refine lv_aload_n hx hb d_X5_read_4 rfl (lv_at hl 1 rfl) ?_
  refine r_getiN (j := 1) X hw ct5 (o_1 hf) (Nat.le_of_ble_eq_true rfl) rfl (Nat.le_of_ble_eq_true rfl) nw_2 d_X5_read_5 ?_
  refine lv_if_ne (tgt := 18) hx hb d_X5_read_8 (by decide) (fun hc => ?_) (fun hc => ?_)
  · have h := ite_f h hc
    refine lv_aload_n hx hb d_X5_read_18 rfl (lv_at hl 0 rfl) ?_
    refine lv_aload_n hx hb d_X5_read_19 rfl (lv_at hl 1 rfl) ?_
    obtain ⟨q3, e4, h⟩ := bd_some h
    refine r_callV (As := [.ref (ga G 1)]) (rest := []) (st' := [.int q3.1]) X hw hl mwX5_readSigns wd_359 wp_10 wd_357 (c_X5_readSigns hf hw_w e4) (r_recv X hw ct2 ow0_w) rfl ⟨Nat.le_of_ble_eq_true rfl, Nat.le_of_ble_eq_true rfl⟩ ⟨Nat.le_refl _, Nat.le_refl _⟩ rfl rfl (Nat.le_of_ble_eq_true rfl) d_X5_read_20 (fun H locs hw => ?_)
    exact j23 q3.2 q3.1 h _ _ _ hw (lv_sub hl [0] rfl)
  · have h := ite_t h hc
    refine lv_aload_n hx hb d_X5_read_11 rfl (lv_at hl 0 rfl) ?_
    obtain ⟨q7, e8, h⟩ := bd_some h
    refine r_callV (As := []) (rest := []) (st' := [.int q7.1]) X hw hl mwX5_readNone wd_195 wp_1 wd_193 (c_X5_readNone hw_w e8) (r_recv X hw ct2 ow0_w) rfl ⟨Nat.le_of_ble_eq_true rfl, Nat.le_of_ble_eq_true rfl⟩ ⟨Nat.le_refl _, Nat.le_refl _⟩ rfl rfl (Nat.le_of_ble_eq_true rfl) d_X5_read_12 (fun H locs hw => ?_)
    refine lv_goto (tgt := 23) hx hb d_X5_read_15 (by decide) ?_
    exact j23 q7.2 q7.1 h _ _ _ hw (lv_sub hl [0] rfl)
abbrev yX6_clear : MethodName := ⟨"OysterBeds$Past", "clear", "()V"⟩
theorem mwX6_clear : MW yX6_clear prog_8_method_2_code 1 none 0 := ⟨wd_348, wd_5, by decide +kernel⟩
theorem d_X6_clear_0 : decode prog_8_method_2_code 0 = .ok (.aload_n 0, 1) := by decide +kernel
theorem d_X6_clear_1 : decode prog_8_method_2_code 1 = .ok (.iconst 0, 1) := by decide +kernel
theorem d_X6_clear_2 : decode prog_8_method_2_code 2 = .ok (.putfield 25, 3) := by decide +kernel
theorem d_X6_clear_5 : decode prog_8_method_2_code 5 = .ok (.return_, 1) := by decide +kernel
def f_X6_clear (χ : St) : Option (St) := some (sF χ 5 2 (0 : Int32))
theorem c_X6_clear {l : Launch} {G : gT} {χ σ : St} (hf : FW G) {q : St} (h : f_X6_clear χ = some q) : Ct l G yX6_clear prog_8_method_2_code 1 none 0 0 [.ref (ga G 5)] χ σ (none) q σ := by
  refine Ct.of (by decide) (Nat.le_of_ble_eq_true rfl) ?_
  intro p e s m args below meth c Q X hr hlk hQ
  have hx := X.1
  have hb := X.2.1
  intro H locs ls hw hl
  have hl : lv_has ls 1 [(0, .ref (ga G 5))] := hl
  unfold f_X6_clear at h
  refine lv_aload_n hx hb d_X6_clear_0 rfl (lv_at hl 0 rfl) ?_
  refine lv_iconst (v := (0 : Int32)) hx hb d_X6_clear_1 (by decide) ?_
  refine r_puti (j := 2) X hw ct3 (o_5 hf) (Nat.le_of_ble_eq_true rfl) rfl (Nat.le_of_ble_eq_true rfl) rfl rfl rfl wd_130 d_X6_clear_2 (fun H locs hw => ?_)
  obtain rfl := Option.some.inj h
  subst hQ
  exact r_vret X hr hlk hw d_X6_clear_5
abbrev yX6_push : MethodName := ⟨"OysterBeds$Past", "push", "(LOysterBeds$Bed;)V"⟩
theorem mwX6_push : MW yX6_push prog_8_method_3_code 2 none 1 := ⟨wd_387, wd_5, by decide +kernel⟩
theorem d_X6_push_0 : decode prog_8_method_3_code 0 = .ok (.aload_n 0, 1) := by decide +kernel
theorem d_X6_push_1 : decode prog_8_method_3_code 1 = .ok (.getfield 11, 3) := by decide +kernel
theorem d_X6_push_4 : decode prog_8_method_3_code 4 = .ok (.aload_n 0, 1) := by decide +kernel
theorem d_X6_push_5 : decode prog_8_method_3_code 5 = .ok (.getfield 29, 3) := by decide +kernel
theorem d_X6_push_8 : decode prog_8_method_3_code 8 = .ok (.aaload, 1) := by decide +kernel
theorem d_X6_push_9 : decode prog_8_method_3_code 9 = .ok (.aload_n 1, 1) := by decide +kernel
theorem d_X6_push_10 : decode prog_8_method_3_code 10 = .ok (.invokevirtual 32, 3) := by decide +kernel
theorem d_X6_push_13 : decode prog_8_method_3_code 13 = .ok (.aload_n 0, 1) := by decide +kernel
theorem d_X6_push_14 : decode prog_8_method_3_code 14 = .ok (.aload_n 0, 1) := by decide +kernel
theorem d_X6_push_15 : decode prog_8_method_3_code 15 = .ok (.getfield 29, 3) := by decide +kernel
theorem d_X6_push_18 : decode prog_8_method_3_code 18 = .ok (.iconst 1, 1) := by decide +kernel
theorem d_X6_push_19 : decode prog_8_method_3_code 19 = .ok (.iadd, 1) := by decide +kernel
theorem d_X6_push_20 : decode prog_8_method_3_code 20 = .ok (.bipush 15, 2) := by decide +kernel
theorem d_X6_push_22 : decode prog_8_method_3_code 22 = .ok (.irem, 1) := by decide +kernel
theorem d_X6_push_23 : decode prog_8_method_3_code 23 = .ok (.putfield 29, 3) := by decide +kernel
theorem d_X6_push_26 : decode prog_8_method_3_code 26 = .ok (.aload_n 0, 1) := by decide +kernel
theorem d_X6_push_27 : decode prog_8_method_3_code 27 = .ok (.bipush 15, 2) := by decide +kernel
theorem d_X6_push_29 : decode prog_8_method_3_code 29 = .ok (.aload_n 0, 1) := by decide +kernel
theorem d_X6_push_30 : decode prog_8_method_3_code 30 = .ok (.getfield 25, 3) := by decide +kernel
theorem d_X6_push_33 : decode prog_8_method_3_code 33 = .ok (.iconst 1, 1) := by decide +kernel
theorem d_X6_push_34 : decode prog_8_method_3_code 34 = .ok (.iadd, 1) := by decide +kernel
theorem d_X6_push_35 : decode prog_8_method_3_code 35 = .ok (.invokestatic 36, 3) := by decide +kernel
theorem d_X6_push_38 : decode prog_8_method_3_code 38 = .ok (.putfield 25, 3) := by decide +kernel
theorem d_X6_push_41 : decode prog_8_method_3_code 41 = .ok (.return_, 1) := by decide +kernel
def f_X6_push (χ : St) (b1 : Nat) : Option (St) := gd (inb (cF χ 5 1) 15) ((f_X0_copyFrom χ (bt 6 (cF χ 5 1).toNatClampNeg) b1).bind (fun q3 => some (sF (sF q3 5 1 (((cF q3 5 1) + (1 : Int32)) - ((cF q3 5 1) + (1 : Int32)) / (15 : Int32) * (15 : Int32))) 5 2 (if ((cF (sF q3 5 1 (((cF q3 5 1) + (1 : Int32)) - ((cF q3 5 1) + (1 : Int32)) / (15 : Int32) * (15 : Int32))) 5 2) + (1 : Int32)) < (15 : Int32) then ((cF (sF q3 5 1 (((cF q3 5 1) + (1 : Int32)) - ((cF q3 5 1) + (1 : Int32)) / (15 : Int32) * (15 : Int32))) 5 2) + (1 : Int32)) else (15 : Int32)))))
theorem c_X6_push {l : Launch} {G : gT} {χ σ : St} {b1 : Nat} (hf : FW G) (hb_b1 : isBed b1 = true) {q : St} (h : f_X6_push χ b1 = some q) : Ct l G yX6_push prog_8_method_3_code 2 none 1 22 [.ref (ga G 5), .ref (ga G b1)] χ σ (none) q σ := by
  obtain ⟨ob0_b1, ob1_b1, ob2_b1, ob3_b1, ob4_b1, ob5_b1, lb_b1, -, -⟩ := bed_at hf hb_b1
  have lb0_b1 : b1 < 300 := by omega
  have lb1_b1 : b1 + 1 < 300 := by omega
  have lb2_b1 : b1 + 2 < 300 := by omega
  have lb3_b1 : b1 + 3 < 300 := by omega
  have lb4_b1 : b1 + 4 < 300 := by omega
  have lb5_b1 : b1 + 5 < 300 := by omega
  refine Ct.of (by decide) (Nat.le_of_ble_eq_true rfl) ?_
  intro p e s m args below meth c Q X hr hlk hQ
  have hx := X.1
  have hb := X.2.1
  intro H locs ls hw hl
  have hl : lv_has ls 2 [(0, .ref (ga G 5)), (1, .ref (ga G b1))] := hl
  unfold f_X6_push at h
  refine lv_aload_n hx hb d_X6_push_0 rfl (lv_at hl 0 rfl) ?_
  refine r_getr (j := 0) X hw ct3 (o_5 hf) rfl (Nat.le_of_ble_eq_true rfl) (q := 6) rfl wd_128 d_X6_push_1 ?_
  refine lv_aload_n hx hb d_X6_push_4 rfl (lv_at hl 0 rfl) ?_
  refine r_geti (j := 1) X hw ct3 (o_5 hf) (Nat.le_of_ble_eq_true rfl) rfl (Nat.le_of_ble_eq_true rfl) wd_129 d_X6_push_5 ?_
  obtain ⟨hi1, h⟩ := gd_some h
  have hb2 := bt6 (inb_lt hi1)
  refine r_aald X hw (o_6 hf) hi1 d_X6_push_8 ?_
  refine lv_aload_n hx hb d_X6_push_9 rfl (lv_at hl 1 rfl) ?_
  obtain ⟨q3, e4, h⟩ := bd_some h
  refine r_callV (As := [.ref (ga G b1)]) (rest := []) (st' := []) X hw hl mwX0_copyFrom wd_389 wd_390 wd_388 (c_X0_copyFrom hf hb2 hb_b1 e4) (r_recv X hw ct0 (bed_at hf hb2).1) rfl ⟨Nat.le_of_ble_eq_true rfl, Nat.le_of_ble_eq_true rfl⟩ ⟨Nat.le_refl _, Nat.le_refl _⟩ rfl rfl (Nat.le_of_ble_eq_true rfl) d_X6_push_10 (fun H locs hw => ?_)
  refine lv_aload_n hx hb d_X6_push_13 rfl (lv_at hl 0 rfl) ?_
  refine lv_aload_n hx hb d_X6_push_14 rfl (lv_at hl 0 rfl) ?_
  refine r_geti (j := 1) X hw ct3 (o_5 hf) (Nat.le_of_ble_eq_true rfl) rfl (Nat.le_of_ble_eq_true rfl) wd_129 d_X6_push_15 ?_
  refine lv_iconst (v := (1 : Int32)) hx hb d_X6_push_18 (by decide) ?_
  refine lv_iadd hx hb d_X6_push_19 ?_
  refine lv_bipush (v := (15 : Int32)) hx hb d_X6_push_20 (by decide) ?_
  refine lv_irem hx hb d_X6_push_22 (by decide) ?_
  refine r_puti (j := 1) X hw ct3 (o_5 hf) (Nat.le_of_ble_eq_true rfl) rfl (Nat.le_of_ble_eq_true rfl) rfl rfl rfl wd_129 d_X6_push_23 (fun H locs hw => ?_)
  refine lv_aload_n hx hb d_X6_push_26 rfl (lv_at hl 0 rfl) ?_
  refine lv_bipush (v := (15 : Int32)) hx hb d_X6_push_27 (by decide) ?_
  refine lv_aload_n hx hb d_X6_push_29 rfl (lv_at hl 0 rfl) ?_
  refine r_geti (j := 2) X hw ct3 (o_5 hf) (Nat.le_of_ble_eq_true rfl) rfl (Nat.le_of_ble_eq_true rfl) wd_130 d_X6_push_30 ?_
  refine lv_iconst (v := (1 : Int32)) hx hb d_X6_push_33 (by decide) ?_
  refine lv_iadd hx hb d_X6_push_34 ?_
  refine r_min X hl wd_392 ⟨Nat.le_of_ble_eq_true rfl, Nat.le_of_ble_eq_true rfl⟩ ⟨Nat.le_refl _, Nat.le_refl _⟩ d_X6_push_35 ?_
  refine r_puti (j := 2) X hw ct3 (o_5 hf) (Nat.le_of_ble_eq_true rfl) rfl (Nat.le_of_ble_eq_true rfl) rfl rfl rfl wd_130 d_X6_push_38 (fun H locs hw => ?_)
  obtain rfl := Option.some.inj h
  subst hQ
  exact r_vret X hr hlk hw d_X6_push_41
abbrev yX6_pop : MethodName := ⟨"OysterBeds$Past", "pop", "(LOysterBeds$Bed;)Z"⟩
theorem mwX6_pop : MW yX6_pop prog_8_method_4_code 2 (some .boolean) 1 := ⟨wd_503, wd_5, by decide +kernel⟩
theorem d_X6_pop_0 : decode prog_8_method_4_code 0 = .ok (.aload_n 0, 1) := by decide +kernel
theorem d_X6_pop_1 : decode prog_8_method_4_code 1 = .ok (.getfield 25, 3) := by decide +kernel
theorem d_X6_pop_4 : decode prog_8_method_4_code 4 = .ok (.ifCond .ne 5, 3) := by decide +kernel
theorem d_X6_pop_7 : decode prog_8_method_4_code 7 = .ok (.iconst 0, 1) := by decide +kernel
theorem d_X6_pop_8 : decode prog_8_method_4_code 8 = .ok (.ireturn, 1) := by decide +kernel
theorem d_X6_pop_9 : decode prog_8_method_4_code 9 = .ok (.aload_n 0, 1) := by decide +kernel
theorem d_X6_pop_10 : decode prog_8_method_4_code 10 = .ok (.aload_n 0, 1) := by decide +kernel
theorem d_X6_pop_11 : decode prog_8_method_4_code 11 = .ok (.getfield 29, 3) := by decide +kernel
theorem d_X6_pop_14 : decode prog_8_method_4_code 14 = .ok (.bipush 15, 2) := by decide +kernel
theorem d_X6_pop_16 : decode prog_8_method_4_code 16 = .ok (.iadd, 1) := by decide +kernel
theorem d_X6_pop_17 : decode prog_8_method_4_code 17 = .ok (.iconst 1, 1) := by decide +kernel
theorem d_X6_pop_18 : decode prog_8_method_4_code 18 = .ok (.isub, 1) := by decide +kernel
theorem d_X6_pop_19 : decode prog_8_method_4_code 19 = .ok (.bipush 15, 2) := by decide +kernel
theorem d_X6_pop_21 : decode prog_8_method_4_code 21 = .ok (.irem, 1) := by decide +kernel
theorem d_X6_pop_22 : decode prog_8_method_4_code 22 = .ok (.putfield 29, 3) := by decide +kernel
theorem d_X6_pop_25 : decode prog_8_method_4_code 25 = .ok (.aload_n 0, 1) := by decide +kernel
theorem d_X6_pop_26 : decode prog_8_method_4_code 26 = .ok (.dup, 1) := by decide +kernel
theorem d_X6_pop_27 : decode prog_8_method_4_code 27 = .ok (.getfield 25, 3) := by decide +kernel
theorem d_X6_pop_30 : decode prog_8_method_4_code 30 = .ok (.iconst 1, 1) := by decide +kernel
theorem d_X6_pop_31 : decode prog_8_method_4_code 31 = .ok (.isub, 1) := by decide +kernel
theorem d_X6_pop_32 : decode prog_8_method_4_code 32 = .ok (.putfield 25, 3) := by decide +kernel
theorem d_X6_pop_35 : decode prog_8_method_4_code 35 = .ok (.aload_n 1, 1) := by decide +kernel
theorem d_X6_pop_36 : decode prog_8_method_4_code 36 = .ok (.aload_n 0, 1) := by decide +kernel
theorem d_X6_pop_37 : decode prog_8_method_4_code 37 = .ok (.getfield 11, 3) := by decide +kernel
theorem d_X6_pop_40 : decode prog_8_method_4_code 40 = .ok (.aload_n 0, 1) := by decide +kernel
theorem d_X6_pop_41 : decode prog_8_method_4_code 41 = .ok (.getfield 29, 3) := by decide +kernel
theorem d_X6_pop_44 : decode prog_8_method_4_code 44 = .ok (.aaload, 1) := by decide +kernel
theorem d_X6_pop_45 : decode prog_8_method_4_code 45 = .ok (.invokevirtual 32, 3) := by decide +kernel
theorem d_X6_pop_48 : decode prog_8_method_4_code 48 = .ok (.iconst 1, 1) := by decide +kernel
theorem d_X6_pop_49 : decode prog_8_method_4_code 49 = .ok (.ireturn, 1) := by decide +kernel
def f_X6_pop (χ : St) (b1 : Nat) : Option (Int32 × St) := (if (cF χ 5 2) = 0 then some ((0 : Int32), χ) else gd (inb (cF (sF (sF χ 5 1 ((((cF χ 5 1) + (15 : Int32)) - (1 : Int32)) - (((cF χ 5 1) + (15 : Int32)) - (1 : Int32)) / (15 : Int32) * (15 : Int32))) 5 2 ((cF (sF χ 5 1 ((((cF χ 5 1) + (15 : Int32)) - (1 : Int32)) - (((cF χ 5 1) + (15 : Int32)) - (1 : Int32)) / (15 : Int32) * (15 : Int32))) 5 2) - (1 : Int32))) 5 1) 15) ((f_X0_copyFrom (sF (sF χ 5 1 ((((cF χ 5 1) + (15 : Int32)) - (1 : Int32)) - (((cF χ 5 1) + (15 : Int32)) - (1 : Int32)) / (15 : Int32) * (15 : Int32))) 5 2 ((cF (sF χ 5 1 ((((cF χ 5 1) + (15 : Int32)) - (1 : Int32)) - (((cF χ 5 1) + (15 : Int32)) - (1 : Int32)) / (15 : Int32) * (15 : Int32))) 5 2) - (1 : Int32))) b1 (bt 6 (cF (sF (sF χ 5 1 ((((cF χ 5 1) + (15 : Int32)) - (1 : Int32)) - (((cF χ 5 1) + (15 : Int32)) - (1 : Int32)) / (15 : Int32) * (15 : Int32))) 5 2 ((cF (sF χ 5 1 ((((cF χ 5 1) + (15 : Int32)) - (1 : Int32)) - (((cF χ 5 1) + (15 : Int32)) - (1 : Int32)) / (15 : Int32) * (15 : Int32))) 5 2) - (1 : Int32))) 5 1).toNatClampNeg)).bind (fun q3 => some ((1 : Int32), q3))))
theorem c_X6_pop {l : Launch} {G : gT} {χ σ : St} {b1 : Nat} (hf : FW G) (hb_b1 : isBed b1 = true) {q : Int32 × St} (h : f_X6_pop χ b1 = some q) : Ct l G yX6_pop prog_8_method_4_code 2 (some .boolean) 1 22 [.ref (ga G 5), .ref (ga G b1)] χ σ (some (.int q.1)) q.2 σ := by
  obtain ⟨ob0_b1, ob1_b1, ob2_b1, ob3_b1, ob4_b1, ob5_b1, lb_b1, -, -⟩ := bed_at hf hb_b1
  have lb0_b1 : b1 < 300 := by omega
  have lb1_b1 : b1 + 1 < 300 := by omega
  have lb2_b1 : b1 + 2 < 300 := by omega
  have lb3_b1 : b1 + 3 < 300 := by omega
  have lb4_b1 : b1 + 4 < 300 := by omega
  have lb5_b1 : b1 + 5 < 300 := by omega
  refine Ct.of (by decide) (Nat.le_of_ble_eq_true rfl) ?_
  intro p e s m args below meth c Q X hr hlk hQ
  have hx := X.1
  have hb := X.2.1
  intro H locs ls hw hl
  have hl : lv_has ls 2 [(0, .ref (ga G 5)), (1, .ref (ga G b1))] := hl
  unfold f_X6_pop at h
  refine lv_aload_n hx hb d_X6_pop_0 rfl (lv_at hl 0 rfl) ?_
  refine r_geti (j := 2) X hw ct3 (o_5 hf) (Nat.le_of_ble_eq_true rfl) rfl (Nat.le_of_ble_eq_true rfl) wd_130 d_X6_pop_1 ?_
  refine lv_if_ne (tgt := 9) hx hb d_X6_pop_4 (by decide) (fun hc => ?_) (fun hc => ?_)
  · have h := ite_f h hc
    refine lv_aload_n hx hb d_X6_pop_9 rfl (lv_at hl 0 rfl) ?_
    refine lv_aload_n hx hb d_X6_pop_10 rfl (lv_at hl 0 rfl) ?_
    refine r_geti (j := 1) X hw ct3 (o_5 hf) (Nat.le_of_ble_eq_true rfl) rfl (Nat.le_of_ble_eq_true rfl) wd_129 d_X6_pop_11 ?_
    refine lv_bipush (v := (15 : Int32)) hx hb d_X6_pop_14 (by decide) ?_
    refine lv_iadd hx hb d_X6_pop_16 ?_
    refine lv_iconst (v := (1 : Int32)) hx hb d_X6_pop_17 (by decide) ?_
    refine lv_isub hx hb d_X6_pop_18 ?_
    refine lv_bipush (v := (15 : Int32)) hx hb d_X6_pop_19 (by decide) ?_
    refine lv_irem hx hb d_X6_pop_21 (by decide) ?_
    refine r_puti (j := 1) X hw ct3 (o_5 hf) (Nat.le_of_ble_eq_true rfl) rfl (Nat.le_of_ble_eq_true rfl) rfl rfl rfl wd_129 d_X6_pop_22 (fun H locs hw => ?_)
    refine lv_aload_n hx hb d_X6_pop_25 rfl (lv_at hl 0 rfl) ?_
    refine lv_dup hx hb d_X6_pop_26 rfl ?_
    refine r_geti (j := 2) X hw ct3 (o_5 hf) (Nat.le_of_ble_eq_true rfl) rfl (Nat.le_of_ble_eq_true rfl) wd_130 d_X6_pop_27 ?_
    refine lv_iconst (v := (1 : Int32)) hx hb d_X6_pop_30 (by decide) ?_
    refine lv_isub hx hb d_X6_pop_31 ?_
    refine r_puti (j := 2) X hw ct3 (o_5 hf) (Nat.le_of_ble_eq_true rfl) rfl (Nat.le_of_ble_eq_true rfl) rfl rfl rfl wd_130 d_X6_pop_32 (fun H locs hw => ?_)
    refine lv_aload_n hx hb d_X6_pop_35 rfl (lv_at hl 1 rfl) ?_
    refine lv_aload_n hx hb d_X6_pop_36 rfl (lv_at hl 0 rfl) ?_
    refine r_getr (j := 0) X hw ct3 (o_5 hf) rfl (Nat.le_of_ble_eq_true rfl) (q := 6) rfl wd_128 d_X6_pop_37 ?_
    refine lv_aload_n hx hb d_X6_pop_40 rfl (lv_at hl 0 rfl) ?_
    refine r_geti (j := 1) X hw ct3 (o_5 hf) (Nat.le_of_ble_eq_true rfl) rfl (Nat.le_of_ble_eq_true rfl) wd_129 d_X6_pop_41 ?_
    obtain ⟨hi1, h⟩ := gd_some h
    have hb2 := bt6 (inb_lt hi1)
    refine r_aald X hw (o_6 hf) hi1 d_X6_pop_44 ?_
    obtain ⟨q3, e4, h⟩ := bd_some h
    refine r_callV (As := [.ref (ga G (bt 6 (cF (sF (sF χ 5 1 ((((cF χ 5 1) + (15 : Int32)) - (1 : Int32)) - (((cF χ 5 1) + (15 : Int32)) - (1 : Int32)) / (15 : Int32) * (15 : Int32))) 5 2 ((cF (sF χ 5 1 ((((cF χ 5 1) + (15 : Int32)) - (1 : Int32)) - (((cF χ 5 1) + (15 : Int32)) - (1 : Int32)) / (15 : Int32) * (15 : Int32))) 5 2) - (1 : Int32))) 5 1).toNatClampNeg))]) (rest := []) (st' := []) X hw hl mwX0_copyFrom wd_389 wd_390 wd_388 (c_X0_copyFrom hf hb_b1 hb2 e4) (r_recv X hw ct0 ob0_b1) rfl ⟨Nat.le_of_ble_eq_true rfl, Nat.le_of_ble_eq_true rfl⟩ ⟨Nat.le_refl _, Nat.le_refl _⟩ rfl rfl (Nat.le_of_ble_eq_true rfl) d_X6_pop_45 (fun H locs hw => ?_)
    refine lv_iconst (v := (1 : Int32)) hx hb d_X6_pop_48 (by decide) ?_
    obtain rfl := Option.some.inj h
    subst hQ
    exact r_zret X hr nbz1 hlk hw d_X6_pop_49
  · have h := ite_t h hc
    refine lv_iconst (v := (0 : Int32)) hx hb d_X6_pop_7 (by decide) ?_
    obtain rfl := Option.some.inj h
    subst hQ
    exact r_zret X hr nbz0 hlk hw d_X6_pop_8
abbrev yX6_store : MethodName := ⟨"OysterBeds$Past", "store", "(ILOysterBeds$Bed;)Z"⟩
theorem mwX6_store : MW yX6_store prog_8_method_5_code 3 (some .boolean) 2 := ⟨wd_853, wd_5, by decide +kernel⟩
theorem d_X6_store_0 : decode prog_8_method_5_code 0 = .ok (.iload_n 1, 1) := by decide +kernel
theorem d_X6_store_1 : decode prog_8_method_5_code 1 = .ok (.ifCond .lt 8, 3) := by decide +kernel
theorem d_X6_store_4 : decode prog_8_method_5_code 4 = .ok (.iload_n 1, 1) := by decide +kernel
theorem d_X6_store_5 : decode prog_8_method_5_code 5 = .ok (.iconst 3, 1) := by decide +kernel
theorem d_X6_store_6 : decode prog_8_method_5_code 6 = .ok (.if_icmp .lt 5, 3) := by decide +kernel
theorem d_X6_store_9 : decode prog_8_method_5_code 9 = .ok (.iconst 0, 1) := by decide +kernel
theorem d_X6_store_10 : decode prog_8_method_5_code 10 = .ok (.ireturn, 1) := by decide +kernel
theorem d_X6_store_11 : decode prog_8_method_5_code 11 = .ok (.aload_n 0, 1) := by decide +kernel
theorem d_X6_store_12 : decode prog_8_method_5_code 12 = .ok (.getfield 17, 3) := by decide +kernel
theorem d_X6_store_15 : decode prog_8_method_5_code 15 = .ok (.iload_n 1, 1) := by decide +kernel
theorem d_X6_store_16 : decode prog_8_method_5_code 16 = .ok (.aaload, 1) := by decide +kernel
theorem d_X6_store_17 : decode prog_8_method_5_code 17 = .ok (.aload_n 2, 1) := by decide +kernel
theorem d_X6_store_18 : decode prog_8_method_5_code 18 = .ok (.invokevirtual 32, 3) := by decide +kernel
theorem d_X6_store_21 : decode prog_8_method_5_code 21 = .ok (.aload_n 0, 1) := by decide +kernel
theorem d_X6_store_22 : decode prog_8_method_5_code 22 = .ok (.getfield 20, 3) := by decide +kernel
theorem d_X6_store_25 : decode prog_8_method_5_code 25 = .ok (.iload_n 1, 1) := by decide +kernel
theorem d_X6_store_26 : decode prog_8_method_5_code 26 = .ok (.iconst 1, 1) := by decide +kernel
theorem d_X6_store_27 : decode prog_8_method_5_code 27 = .ok (.bastore, 1) := by decide +kernel
theorem d_X6_store_28 : decode prog_8_method_5_code 28 = .ok (.iconst 1, 1) := by decide +kernel
theorem d_X6_store_29 : decode prog_8_method_5_code 29 = .ok (.ireturn, 1) := by decide +kernel
def f_X6_store (χ : St) (a1 : Int32) (b2 : Nat) : Option (Int32 × St) := (if a1 < 0 then some ((0 : Int32), χ) else (if a1 < (3 : Int32) then gd (inb a1 3) ((f_X0_copyFrom χ (bt 7 a1.toNatClampNeg) b2).bind (fun q3 => gd (inb a1 3) (some ((1 : Int32), (sA q3 8 a1.toNatClampNeg (vp_nar .boolean (1 : Int32))))))) else some ((0 : Int32), χ)))
theorem c_X6_store {l : Launch} {G : gT} {χ σ : St} {b2 : Nat} {a1 : Int32} (hf : FW G) (hb_b2 : isBed b2 = true) {q : Int32 × St} (h : f_X6_store χ a1 b2 = some q) : Ct l G yX6_store prog_8_method_5_code 3 (some .boolean) 1 22 [.ref (ga G 5), .int a1, .ref (ga G b2)] χ σ (some (.int q.1)) q.2 σ := by
  obtain ⟨ob0_b2, ob1_b2, ob2_b2, ob3_b2, ob4_b2, ob5_b2, lb_b2, -, -⟩ := bed_at hf hb_b2
  have lb0_b2 : b2 < 300 := by omega
  have lb1_b2 : b2 + 1 < 300 := by omega
  have lb2_b2 : b2 + 2 < 300 := by omega
  have lb3_b2 : b2 + 3 < 300 := by omega
  have lb4_b2 : b2 + 4 < 300 := by omega
  have lb5_b2 : b2 + 5 < 300 := by omega
  refine Ct.of (by decide) (Nat.le_of_ble_eq_true rfl) ?_
  intro p e s m args below meth c Q X hr hlk hQ
  have hx := X.1
  have hb := X.2.1
  intro H locs ls hw hl
  have hl : lv_has ls 3 [(0, .ref (ga G 5)), (1, .int a1), (2, .ref (ga G b2))] := hl
  unfold f_X6_store at h
  refine lv_iload_n hx hb d_X6_store_0 rfl (lv_at hl 1 rfl) ?_
  refine lv_if_lt (tgt := 9) hx hb d_X6_store_1 (by decide) (fun hc => ?_) (fun hc => ?_)
  · have h := ite_t h hc
    refine lv_iconst (v := (0 : Int32)) hx hb d_X6_store_9 (by decide) ?_
    obtain rfl := Option.some.inj h
    subst hQ
    exact r_zret X hr nbz0 hlk hw d_X6_store_10
  · have h := ite_f h hc
    refine lv_iload_n hx hb d_X6_store_4 rfl (lv_at hl 1 rfl) ?_
    refine lv_iconst (v := (3 : Int32)) hx hb d_X6_store_5 (by decide) ?_
    refine lv_icmp_lt (tgt := 11) hx hb d_X6_store_6 (by decide) (fun hc => ?_) (fun hc => ?_)
    · have h := ite_t h hc
      refine lv_aload_n hx hb d_X6_store_11 rfl (lv_at hl 0 rfl) ?_
      refine r_getr (j := 3) X hw ct3 (o_5 hf) rfl (Nat.le_of_ble_eq_true rfl) (q := 7) rfl wd_132 d_X6_store_12 ?_
      refine lv_iload_n hx hb d_X6_store_15 rfl (lv_at hl 1 rfl) ?_
      obtain ⟨hi1, h⟩ := gd_some h
      have hb2 := bt7 (inb_lt hi1)
      refine r_aald X hw (o_7 hf) hi1 d_X6_store_16 ?_
      refine lv_aload_n hx hb d_X6_store_17 rfl (lv_at hl 2 rfl) ?_
      obtain ⟨q3, e4, h⟩ := bd_some h
      refine r_callV (As := [.ref (ga G b2)]) (rest := []) (st' := []) X hw hl mwX0_copyFrom wd_389 wd_390 wd_388 (c_X0_copyFrom hf hb2 hb_b2 e4) (r_recv X hw ct0 (bed_at hf hb2).1) rfl ⟨Nat.le_of_ble_eq_true rfl, Nat.le_of_ble_eq_true rfl⟩ ⟨Nat.le_refl _, Nat.le_refl _⟩ rfl rfl (Nat.le_of_ble_eq_true rfl) d_X6_store_18 (fun H locs hw => ?_)
      refine lv_aload_n hx hb d_X6_store_21 rfl (lv_at hl 0 rfl) ?_
      refine r_getr (j := 4) X hw ct3 (o_5 hf) rfl (Nat.le_of_ble_eq_true rfl) (q := 8) rfl wd_133 d_X6_store_22 ?_
      refine lv_iload_n hx hb d_X6_store_25 rfl (lv_at hl 1 rfl) ?_
      refine lv_iconst (v := (1 : Int32)) hx hb d_X6_store_26 (by decide) ?_
      obtain ⟨hi5, h⟩ := gd_some h
      refine r_zast X hw (o_8 hf) (Nat.le_of_ble_eq_true rfl) hi5 d_X6_store_27 (fun H locs hw => ?_)
      refine lv_iconst (v := (1 : Int32)) hx hb d_X6_store_28 (by decide) ?_
      obtain rfl := Option.some.inj h
      subst hQ
      exact r_zret X hr nbz1 hlk hw d_X6_store_29
    · have h := ite_f h hc
      refine lv_iconst (v := (0 : Int32)) hx hb d_X6_store_9 (by decide) ?_
      obtain rfl := Option.some.inj h
      subst hQ
      exact r_zret X hr nbz0 hlk hw d_X6_store_10
abbrev yX6_fetch : MethodName := ⟨"OysterBeds$Past", "fetch", "(ILOysterBeds$Bed;)Z"⟩
theorem mwX6_fetch : MW yX6_fetch prog_8_method_6_code 3 (some .boolean) 2 := ⟨wd_861, wd_5, by decide +kernel⟩
theorem d_X6_fetch_0 : decode prog_8_method_6_code 0 = .ok (.iload_n 1, 1) := by decide +kernel
theorem d_X6_fetch_1 : decode prog_8_method_6_code 1 = .ok (.ifCond .lt 33, 3) := by decide +kernel
theorem d_X6_fetch_4 : decode prog_8_method_6_code 4 = .ok (.iload_n 1, 1) := by decide +kernel
theorem d_X6_fetch_5 : decode prog_8_method_6_code 5 = .ok (.iconst 3, 1) := by decide +kernel
theorem d_X6_fetch_6 : decode prog_8_method_6_code 6 = .ok (.if_icmp .ge 28, 3) := by decide +kernel
theorem d_X6_fetch_9 : decode prog_8_method_6_code 9 = .ok (.aload_n 0, 1) := by decide +kernel
theorem d_X6_fetch_10 : decode prog_8_method_6_code 10 = .ok (.getfield 20, 3) := by decide +kernel
theorem d_X6_fetch_13 : decode prog_8_method_6_code 13 = .ok (.iload_n 1, 1) := by decide +kernel
theorem d_X6_fetch_14 : decode prog_8_method_6_code 14 = .ok (.baload, 1) := by decide +kernel
theorem d_X6_fetch_15 : decode prog_8_method_6_code 15 = .ok (.ifCond .eq 19, 3) := by decide +kernel
theorem d_X6_fetch_18 : decode prog_8_method_6_code 18 = .ok (.aload_n 0, 1) := by decide +kernel
theorem d_X6_fetch_19 : decode prog_8_method_6_code 19 = .ok (.getfield 17, 3) := by decide +kernel
theorem d_X6_fetch_22 : decode prog_8_method_6_code 22 = .ok (.iload_n 1, 1) := by decide +kernel
theorem d_X6_fetch_23 : decode prog_8_method_6_code 23 = .ok (.aaload, 1) := by decide +kernel
theorem d_X6_fetch_24 : decode prog_8_method_6_code 24 = .ok (.getfield 42, 3) := by decide +kernel
theorem d_X6_fetch_27 : decode prog_8_method_6_code 27 = .ok (.aload_n 2, 1) := by decide +kernel
theorem d_X6_fetch_28 : decode prog_8_method_6_code 28 = .ok (.getfield 42, 3) := by decide +kernel
theorem d_X6_fetch_31 : decode prog_8_method_6_code 31 = .ok (.if_icmp .eq 5, 3) := by decide +kernel
theorem d_X6_fetch_34 : decode prog_8_method_6_code 34 = .ok (.iconst 0, 1) := by decide +kernel
theorem d_X6_fetch_35 : decode prog_8_method_6_code 35 = .ok (.ireturn, 1) := by decide +kernel
theorem d_X6_fetch_36 : decode prog_8_method_6_code 36 = .ok (.aload_n 2, 1) := by decide +kernel
theorem d_X6_fetch_37 : decode prog_8_method_6_code 37 = .ok (.aload_n 0, 1) := by decide +kernel
theorem d_X6_fetch_38 : decode prog_8_method_6_code 38 = .ok (.getfield 17, 3) := by decide +kernel
theorem d_X6_fetch_41 : decode prog_8_method_6_code 41 = .ok (.iload_n 1, 1) := by decide +kernel
theorem d_X6_fetch_42 : decode prog_8_method_6_code 42 = .ok (.aaload, 1) := by decide +kernel
theorem d_X6_fetch_43 : decode prog_8_method_6_code 43 = .ok (.invokevirtual 32, 3) := by decide +kernel
theorem d_X6_fetch_46 : decode prog_8_method_6_code 46 = .ok (.aload_n 0, 1) := by decide +kernel
theorem d_X6_fetch_47 : decode prog_8_method_6_code 47 = .ok (.invokevirtual 43, 3) := by decide +kernel
theorem d_X6_fetch_50 : decode prog_8_method_6_code 50 = .ok (.iconst 1, 1) := by decide +kernel
theorem d_X6_fetch_51 : decode prog_8_method_6_code 51 = .ok (.ireturn, 1) := by decide +kernel
def f_X6_fetch (χ : St) (a1 : Int32) (b2 : Nat) : Option (Int32 × St) := (if a1 < 0 then some ((0 : Int32), χ) else (if (3 : Int32) ≤ a1 then some ((0 : Int32), χ) else gd (inb a1 3) ((if (cA χ 8 a1.toNatClampNeg) = 0 then some ((0 : Int32), χ) else gd (inb a1 3) ((if (cF χ (bt 7 a1.toNatClampNeg) 5) = (cF χ b2 5) then gd (inb a1 3) ((f_X0_copyFrom χ b2 (bt 7 a1.toNatClampNeg)).bind (fun q6 => (f_X6_clear q6).bind (fun q8 => some ((1 : Int32), q8)))) else some ((0 : Int32), χ)))))))
theorem c_X6_fetch {l : Launch} {G : gT} {χ σ : St} {b2 : Nat} {a1 : Int32} (hf : FW G) (hb_b2 : isBed b2 = true) {q : Int32 × St} (h : f_X6_fetch χ a1 b2 = some q) : Ct l G yX6_fetch prog_8_method_6_code 3 (some .boolean) 1 22 [.ref (ga G 5), .int a1, .ref (ga G b2)] χ σ (some (.int q.1)) q.2 σ := by
  obtain ⟨ob0_b2, ob1_b2, ob2_b2, ob3_b2, ob4_b2, ob5_b2, lb_b2, -, -⟩ := bed_at hf hb_b2
  have lb0_b2 : b2 < 300 := by omega
  have lb1_b2 : b2 + 1 < 300 := by omega
  have lb2_b2 : b2 + 2 < 300 := by omega
  have lb3_b2 : b2 + 3 < 300 := by omega
  have lb4_b2 : b2 + 4 < 300 := by omega
  have lb5_b2 : b2 + 5 < 300 := by omega
  refine Ct.of (by decide) (Nat.le_of_ble_eq_true rfl) ?_
  intro p e s m args below meth c Q X hr hlk hQ
  have hx := X.1
  have hb := X.2.1
  intro H locs ls hw hl
  have hl : lv_has ls 3 [(0, .ref (ga G 5)), (1, .int a1), (2, .ref (ga G b2))] := hl
  unfold f_X6_fetch at h
  refine lv_iload_n hx hb d_X6_fetch_0 rfl (lv_at hl 1 rfl) ?_
  refine lv_if_lt (tgt := 34) hx hb d_X6_fetch_1 (by decide) (fun hc => ?_) (fun hc => ?_)
  · have h := ite_t h hc
    refine lv_iconst (v := (0 : Int32)) hx hb d_X6_fetch_34 (by decide) ?_
    obtain rfl := Option.some.inj h
    subst hQ
    exact r_zret X hr nbz0 hlk hw d_X6_fetch_35
  · have h := ite_f h hc
    refine lv_iload_n hx hb d_X6_fetch_4 rfl (lv_at hl 1 rfl) ?_
    refine lv_iconst (v := (3 : Int32)) hx hb d_X6_fetch_5 (by decide) ?_
    refine lv_icmp_ge (tgt := 34) hx hb d_X6_fetch_6 (by decide) (fun hc => ?_) (fun hc => ?_)
    · have h := ite_t h hc
      refine lv_iconst (v := (0 : Int32)) hx hb d_X6_fetch_34 (by decide) ?_
      obtain rfl := Option.some.inj h
      subst hQ
      exact r_zret X hr nbz0 hlk hw d_X6_fetch_35
    · have h := ite_f h hc
      refine lv_aload_n hx hb d_X6_fetch_9 rfl (lv_at hl 0 rfl) ?_
      refine r_getr (j := 4) X hw ct3 (o_5 hf) rfl (Nat.le_of_ble_eq_true rfl) (q := 8) rfl wd_133 d_X6_fetch_10 ?_
      refine lv_iload_n hx hb d_X6_fetch_13 rfl (lv_at hl 1 rfl) ?_
      obtain ⟨hi1, h⟩ := gd_some h
      refine r_zald X hw (o_8 hf) (Nat.le_of_ble_eq_true rfl) hi1 d_X6_fetch_14 ?_
      refine lv_if_eq (tgt := 34) hx hb d_X6_fetch_15 (by decide) (fun hc => ?_) (fun hc => ?_)
      · have h := ite_t h hc
        refine lv_iconst (v := (0 : Int32)) hx hb d_X6_fetch_34 (by decide) ?_
        obtain rfl := Option.some.inj h
        subst hQ
        exact r_zret X hr nbz0 hlk hw d_X6_fetch_35
      · have h := ite_f h hc
        refine lv_aload_n hx hb d_X6_fetch_18 rfl (lv_at hl 0 rfl) ?_
        refine r_getr (j := 3) X hw ct3 (o_5 hf) rfl (Nat.le_of_ble_eq_true rfl) (q := 7) rfl wd_132 d_X6_fetch_19 ?_
        refine lv_iload_n hx hb d_X6_fetch_22 rfl (lv_at hl 1 rfl) ?_
        obtain ⟨hi2, h⟩ := gd_some h
        have hb3 := bt7 (inb_lt hi2)
        refine r_aald X hw (o_7 hf) hi2 d_X6_fetch_23 ?_
        refine r_getiN (j := 5) X hw ct0 (bed_at hf hb3).1 (lt_of5 (bed_at hf hb3).2.2.2.2.2.2.1) rfl (Nat.le_of_ble_eq_true rfl) nw_25 d_X6_fetch_24 ?_
        refine lv_aload_n hx hb d_X6_fetch_27 rfl (lv_at hl 2 rfl) ?_
        refine r_getiN (j := 5) X hw ct0 ob0_b2 lb0_b2 rfl (Nat.le_of_ble_eq_true rfl) nw_25 d_X6_fetch_28 ?_
        refine lv_icmp_eq (tgt := 36) hx hb d_X6_fetch_31 (by decide) (fun hc => ?_) (fun hc => ?_)
        · have h := ite_t h hc
          refine lv_aload_n hx hb d_X6_fetch_36 rfl (lv_at hl 2 rfl) ?_
          refine lv_aload_n hx hb d_X6_fetch_37 rfl (lv_at hl 0 rfl) ?_
          refine r_getr (j := 3) X hw ct3 (o_5 hf) rfl (Nat.le_of_ble_eq_true rfl) (q := 7) rfl wd_132 d_X6_fetch_38 ?_
          refine lv_iload_n hx hb d_X6_fetch_41 rfl (lv_at hl 1 rfl) ?_
          obtain ⟨hi4, h⟩ := gd_some h
          have hb5 := bt7 (inb_lt hi4)
          refine r_aald X hw (o_7 hf) hi4 d_X6_fetch_42 ?_
          obtain ⟨q6, e7, h⟩ := bd_some h
          refine r_callV (As := [.ref (ga G (bt 7 a1.toNatClampNeg))]) (rest := []) (st' := []) X hw hl mwX0_copyFrom wd_389 wd_390 wd_388 (c_X0_copyFrom hf hb_b2 hb5 e7) (r_recv X hw ct0 ob0_b2) rfl ⟨Nat.le_of_ble_eq_true rfl, Nat.le_of_ble_eq_true rfl⟩ ⟨Nat.le_refl _, Nat.le_refl _⟩ rfl rfl (Nat.le_of_ble_eq_true rfl) d_X6_fetch_43 (fun H locs hw => ?_)
          refine lv_aload_n hx hb d_X6_fetch_46 rfl (lv_at hl 0 rfl) ?_
          obtain ⟨q8, e9, h⟩ := bd_some h
          refine r_callV (As := []) (rest := []) (st' := []) X hw hl mwX6_clear wd_346 wd_347 wd_862 (c_X6_clear hf e9) (r_recv X hw ct3 (o_5 hf)) rfl ⟨Nat.le_of_ble_eq_true rfl, Nat.le_of_ble_eq_true rfl⟩ ⟨Nat.le_refl _, Nat.le_refl _⟩ rfl rfl (Nat.le_of_ble_eq_true rfl) d_X6_fetch_47 (fun H locs hw => ?_)
          refine lv_iconst (v := (1 : Int32)) hx hb d_X6_fetch_50 (by decide) ?_
          obtain rfl := Option.some.inj h
          subst hQ
          exact r_zret X hr nbz1 hlk hw d_X6_fetch_51
        · have h := ite_f h hc
          refine lv_iconst (v := (0 : Int32)) hx hb d_X6_fetch_34 (by decide) ?_
          obtain rfl := Option.some.inj h
          subst hQ
          exact r_zret X hr nbz0 hlk hw d_X6_fetch_35
abbrev yX7_hasRoom : MethodName := ⟨"OysterBeds$Sightings", "hasRoom", "()Z"⟩
theorem mwX7_hasRoom : MW yX7_hasRoom prog_9_method_2_code 1 (some .boolean) 0 := ⟨wd_670, wd_6, by decide +kernel⟩
theorem d_X7_hasRoom_0 : decode prog_9_method_2_code 0 = .ok (.aload_n 0, 1) := by decide +kernel
theorem d_X7_hasRoom_1 : decode prog_9_method_2_code 1 = .ok (.getfield 21, 3) := by decide +kernel
theorem d_X7_hasRoom_4 : decode prog_9_method_2_code 4 = .ok (.bipush 10, 2) := by decide +kernel
theorem d_X7_hasRoom_6 : decode prog_9_method_2_code 6 = .ok (.if_icmp .ge 7, 3) := by decide +kernel
theorem d_X7_hasRoom_9 : decode prog_9_method_2_code 9 = .ok (.iconst 1, 1) := by decide +kernel
theorem d_X7_hasRoom_10 : decode prog_9_method_2_code 10 = .ok (.goto 4, 3) := by decide +kernel
theorem d_X7_hasRoom_13 : decode prog_9_method_2_code 13 = .ok (.iconst 0, 1) := by decide +kernel
theorem d_X7_hasRoom_14 : decode prog_9_method_2_code 14 = .ok (.ireturn, 1) := by decide +kernel
def f_X7_hasRoom (χ : St) : Option (Int32) := some (if (10 : Int32) ≤ (cF χ 9 3) then (0 : Int32) else (1 : Int32))
theorem c_X7_hasRoom {l : Launch} {G : gT} {χ σ : St} (hf : FW G) {q : Int32} (h : f_X7_hasRoom χ = some q) : Ct l G yX7_hasRoom prog_9_method_2_code 1 (some .boolean) 0 0 [.ref (ga G 9)] χ σ (some (.int q)) χ σ := by
  refine Ct.of (by decide) (Nat.le_of_ble_eq_true rfl) ?_
  intro p e s m args below meth c Q X hr hlk hQ
  have hx := X.1
  have hb := X.2.1
  intro H locs ls hw hl
  have hl : lv_has ls 1 [(0, .ref (ga G 9))] := hl
  unfold f_X7_hasRoom at h
  refine lv_aload_n hx hb d_X7_hasRoom_0 rfl (lv_at hl 0 rfl) ?_
  refine r_geti (j := 3) X hw ct4 (o_9 hf) (Nat.le_of_ble_eq_true rfl) rfl (Nat.le_of_ble_eq_true rfl) wd_155 d_X7_hasRoom_1 ?_
  refine lv_bipush (v := (10 : Int32)) hx hb d_X7_hasRoom_4 (by decide) ?_
  refine lv_icmp_ge (tgt := 13) hx hb d_X7_hasRoom_6 (by decide) (fun hc => ?_) (fun hc => ?_)
  · simp only [if_pos hc] at h
    refine lv_iconst (v := (0 : Int32)) hx hb d_X7_hasRoom_13 (by decide) ?_
    obtain rfl := Option.some.inj h
    subst hQ
    exact r_zret X hr nbz0 hlk hw d_X7_hasRoom_14
  · simp only [if_neg hc] at h
    refine lv_iconst (v := (1 : Int32)) hx hb d_X7_hasRoom_9 (by decide) ?_
    refine lv_goto (tgt := 14) hx hb d_X7_hasRoom_10 (by decide) ?_
    obtain rfl := Option.some.inj h
    subst hQ
    exact r_zret X hr nbz1 hlk hw d_X7_hasRoom_14
abbrev yX7_note : MethodName := ⟨"OysterBeds$Sightings", "note", "(III)I"⟩
theorem mwX7_note : MW yX7_note prog_9_method_3_code 4 (some .int) 3 := ⟨wd_674, wd_6, by decide +kernel⟩
theorem d_X7_note_0 : decode prog_9_method_3_code 0 = .ok (.aload_n 0, 1) := by decide +kernel
theorem d_X7_note_1 : decode prog_9_method_3_code 1 = .ok (.invokevirtual 25, 3) := by decide +kernel
theorem d_X7_note_4 : decode prog_9_method_3_code 4 = .ok (.ifCond .eq 43, 3) := by decide +kernel
theorem d_X7_note_7 : decode prog_9_method_3_code 7 = .ok (.aload_n 0, 1) := by decide +kernel
theorem d_X7_note_8 : decode prog_9_method_3_code 8 = .ok (.getfield 9, 3) := by decide +kernel
theorem d_X7_note_11 : decode prog_9_method_3_code 11 = .ok (.aload_n 0, 1) := by decide +kernel
theorem d_X7_note_12 : decode prog_9_method_3_code 12 = .ok (.getfield 21, 3) := by decide +kernel
theorem d_X7_note_15 : decode prog_9_method_3_code 15 = .ok (.iload_n 1, 1) := by decide +kernel
theorem d_X7_note_16 : decode prog_9_method_3_code 16 = .ok (.iastore, 1) := by decide +kernel
theorem d_X7_note_17 : decode prog_9_method_3_code 17 = .ok (.aload_n 0, 1) := by decide +kernel
theorem d_X7_note_18 : decode prog_9_method_3_code 18 = .ok (.getfield 15, 3) := by decide +kernel
theorem d_X7_note_21 : decode prog_9_method_3_code 21 = .ok (.aload_n 0, 1) := by decide +kernel
theorem d_X7_note_22 : decode prog_9_method_3_code 22 = .ok (.getfield 21, 3) := by decide +kernel
theorem d_X7_note_25 : decode prog_9_method_3_code 25 = .ok (.iload_n 2, 1) := by decide +kernel
theorem d_X7_note_26 : decode prog_9_method_3_code 26 = .ok (.iastore, 1) := by decide +kernel
theorem d_X7_note_27 : decode prog_9_method_3_code 27 = .ok (.aload_n 0, 1) := by decide +kernel
theorem d_X7_note_28 : decode prog_9_method_3_code 28 = .ok (.getfield 18, 3) := by decide +kernel
theorem d_X7_note_31 : decode prog_9_method_3_code 31 = .ok (.aload_n 0, 1) := by decide +kernel
theorem d_X7_note_32 : decode prog_9_method_3_code 32 = .ok (.getfield 21, 3) := by decide +kernel
theorem d_X7_note_35 : decode prog_9_method_3_code 35 = .ok (.iload_n 3, 1) := by decide +kernel
theorem d_X7_note_36 : decode prog_9_method_3_code 36 = .ok (.iastore, 1) := by decide +kernel
theorem d_X7_note_37 : decode prog_9_method_3_code 37 = .ok (.aload_n 0, 1) := by decide +kernel
theorem d_X7_note_38 : decode prog_9_method_3_code 38 = .ok (.dup, 1) := by decide +kernel
theorem d_X7_note_39 : decode prog_9_method_3_code 39 = .ok (.getfield 21, 3) := by decide +kernel
theorem d_X7_note_42 : decode prog_9_method_3_code 42 = .ok (.iconst 1, 1) := by decide +kernel
theorem d_X7_note_43 : decode prog_9_method_3_code 43 = .ok (.iadd, 1) := by decide +kernel
theorem d_X7_note_44 : decode prog_9_method_3_code 44 = .ok (.putfield 21, 3) := by decide +kernel
theorem d_X7_note_47 : decode prog_9_method_3_code 47 = .ok (.aload_n 0, 1) := by decide +kernel
theorem d_X7_note_48 : decode prog_9_method_3_code 48 = .ok (.getfield 21, 3) := by decide +kernel
theorem d_X7_note_51 : decode prog_9_method_3_code 51 = .ok (.ireturn, 1) := by decide +kernel
def f_X7_note_j47 (τ : St) : Option (Int32 × St) := some ((cF τ 9 3), τ)
def f_X7_note (χ : St) (a1 : Int32) (a2 : Int32) (a3 : Int32) : Option (Int32 × St) := (f_X7_hasRoom χ).bind (fun q1 => (if q1 = 0 then f_X7_note_j47 χ else gd (inb (cF χ 9 3) 10) (gd (inb (cF (sA χ 10 (cF χ 9 3).toNatClampNeg a1) 9 3) 10) (gd (inb (cF (sA (sA χ 10 (cF χ 9 3).toNatClampNeg a1) 11 (cF (sA χ 10 (cF χ 9 3).toNatClampNeg a1) 9 3).toNatClampNeg a2) 9 3) 10) (f_X7_note_j47 (sF (sA (sA (sA χ 10 (cF χ 9 3).toNatClampNeg a1) 11 (cF (sA χ 10 (cF χ 9 3).toNatClampNeg a1) 9 3).toNatClampNeg a2) 12 (cF (sA (sA χ 10 (cF χ 9 3).toNatClampNeg a1) 11 (cF (sA χ 10 (cF χ 9 3).toNatClampNeg a1) 9 3).toNatClampNeg a2) 9 3).toNatClampNeg a3) 9 3 ((cF (sA (sA (sA χ 10 (cF χ 9 3).toNatClampNeg a1) 11 (cF (sA χ 10 (cF χ 9 3).toNatClampNeg a1) 9 3).toNatClampNeg a2) 12 (cF (sA (sA χ 10 (cF χ 9 3).toNatClampNeg a1) 11 (cF (sA χ 10 (cF χ 9 3).toNatClampNeg a1) 9 3).toNatClampNeg a2) 9 3).toNatClampNeg a3) 9 3) + (1 : Int32))))))))
theorem c_X7_note {l : Launch} {G : gT} {χ σ : St} {a1 : Int32} {a2 : Int32} {a3 : Int32} (hf : FW G) {q : Int32 × St} (h : f_X7_note χ a1 a2 a3 = some q) : Ct l G yX7_note prog_9_method_3_code 4 (some .int) 1 20 [.ref (ga G 9), .int a1, .int a2, .int a3] χ σ (some (.int q.1)) q.2 σ := by
  refine Ct.of (by decide) (Nat.le_of_ble_eq_true rfl) ?_
  intro p e s m args below meth c Q X hr hlk hQ
  have hx := X.1
  have hb := X.2.1
  have j47 : ∀ (τ : St), f_X7_note_j47 τ = some q → Wat p l e (rmk 1 20) s m args below meth c Q G 4 47 [] [(0, .ref (ga G 9))] τ σ := by
    intro τ h H locs ls hw hl
    unfold f_X7_note_j47 at h
    refine lv_aload_n hx hb d_X7_note_47 rfl (lv_at hl 0 rfl) ?_
    refine r_geti (j := 3) X hw ct4 (o_9 hf) (Nat.le_of_ble_eq_true rfl) rfl (Nat.le_of_ble_eq_true rfl) wd_155 d_X7_note_48 ?_
    obtain rfl := Option.some.inj h
    subst hQ
    exact r_iret X hr hlk hw d_X7_note_51
  intro H locs ls hw hl
  have hl : lv_has ls 4 [(0, .ref (ga G 9)), (1, .int a1), (2, .int a2), (3, .int a3)] := hl
  unfold f_X7_note at h
  refine lv_aload_n hx hb d_X7_note_0 rfl (lv_at hl 0 rfl) ?_
  obtain ⟨q1, e2, h⟩ := bd_some h
  refine r_callV (As := []) (rest := []) (st' := [.int q1]) X hw hl mwX7_hasRoom wd_668 wd_669 wd_675 (c_X7_hasRoom hf e2) (r_recv X hw ct4 (o_9 hf)) rfl ⟨Nat.le_of_ble_eq_true rfl, Nat.le_of_ble_eq_true rfl⟩ ⟨Nat.le_refl _, Nat.le_refl _⟩ rfl rfl (Nat.le_of_ble_eq_true rfl) d_X7_note_1 (fun H locs hw => ?_)
  refine lv_if_eq (tgt := 47) hx hb d_X7_note_4 (by decide) (fun hc => ?_) (fun hc => ?_)
  · have h := ite_t h hc
    exact j47 χ h _ _ _ hw (lv_sub hl [0] rfl)
  · have h := ite_f h hc
    refine lv_aload_n hx hb d_X7_note_7 rfl (lv_at hl 0 rfl) ?_
    refine r_getr (j := 0) X hw ct4 (o_9 hf) rfl (Nat.le_of_ble_eq_true rfl) (q := 10) rfl wd_152 d_X7_note_8 ?_
    refine lv_aload_n hx hb d_X7_note_11 rfl (lv_at hl 0 rfl) ?_
    refine r_geti (j := 3) X hw ct4 (o_9 hf) (Nat.le_of_ble_eq_true rfl) rfl (Nat.le_of_ble_eq_true rfl) wd_155 d_X7_note_12 ?_
    refine lv_iload_n hx hb d_X7_note_15 rfl (lv_at hl 1 rfl) ?_
    obtain ⟨hi3, h⟩ := gd_some h
    refine r_iast X hw (o_10 hf) (Nat.le_of_ble_eq_true rfl) hi3 d_X7_note_16 (fun H locs hw => ?_)
    refine lv_aload_n hx hb d_X7_note_17 rfl (lv_at hl 0 rfl) ?_
    refine r_getr (j := 1) X hw ct4 (o_9 hf) rfl (Nat.le_of_ble_eq_true rfl) (q := 11) rfl wd_153 d_X7_note_18 ?_
    refine lv_aload_n hx hb d_X7_note_21 rfl (lv_at hl 0 rfl) ?_
    refine r_geti (j := 3) X hw ct4 (o_9 hf) (Nat.le_of_ble_eq_true rfl) rfl (Nat.le_of_ble_eq_true rfl) wd_155 d_X7_note_22 ?_
    refine lv_iload_n hx hb d_X7_note_25 rfl (lv_at hl 2 rfl) ?_
    obtain ⟨hi4, h⟩ := gd_some h
    refine r_iast X hw (o_11 hf) (Nat.le_of_ble_eq_true rfl) hi4 d_X7_note_26 (fun H locs hw => ?_)
    refine lv_aload_n hx hb d_X7_note_27 rfl (lv_at hl 0 rfl) ?_
    refine r_getr (j := 2) X hw ct4 (o_9 hf) rfl (Nat.le_of_ble_eq_true rfl) (q := 12) rfl wd_154 d_X7_note_28 ?_
    refine lv_aload_n hx hb d_X7_note_31 rfl (lv_at hl 0 rfl) ?_
    refine r_geti (j := 3) X hw ct4 (o_9 hf) (Nat.le_of_ble_eq_true rfl) rfl (Nat.le_of_ble_eq_true rfl) wd_155 d_X7_note_32 ?_
    refine lv_iload_n hx hb d_X7_note_35 rfl (lv_at hl 3 rfl) ?_
    obtain ⟨hi5, h⟩ := gd_some h
    refine r_iast X hw (o_12 hf) (Nat.le_of_ble_eq_true rfl) hi5 d_X7_note_36 (fun H locs hw => ?_)
    refine lv_aload_n hx hb d_X7_note_37 rfl (lv_at hl 0 rfl) ?_
    refine lv_dup hx hb d_X7_note_38 rfl ?_
    refine r_geti (j := 3) X hw ct4 (o_9 hf) (Nat.le_of_ble_eq_true rfl) rfl (Nat.le_of_ble_eq_true rfl) wd_155 d_X7_note_39 ?_
    refine lv_iconst (v := (1 : Int32)) hx hb d_X7_note_42 (by decide) ?_
    refine lv_iadd hx hb d_X7_note_43 ?_
    refine r_puti (j := 3) X hw ct4 (o_9 hf) (Nat.le_of_ble_eq_true rfl) rfl (Nat.le_of_ble_eq_true rfl) rfl rfl rfl wd_155 d_X7_note_44 (fun H locs hw => ?_)
    exact j47 (sF (sA (sA (sA χ 10 (cF χ 9 3).toNatClampNeg a1) 11 (cF (sA χ 10 (cF χ 9 3).toNatClampNeg a1) 9 3).toNatClampNeg a2) 12 (cF (sA (sA χ 10 (cF χ 9 3).toNatClampNeg a1) 11 (cF (sA χ 10 (cF χ 9 3).toNatClampNeg a1) 9 3).toNatClampNeg a2) 9 3).toNatClampNeg a3) 9 3 ((cF (sA (sA (sA χ 10 (cF χ 9 3).toNatClampNeg a1) 11 (cF (sA χ 10 (cF χ 9 3).toNatClampNeg a1) 9 3).toNatClampNeg a2) 12 (cF (sA (sA χ 10 (cF χ 9 3).toNatClampNeg a1) 11 (cF (sA χ 10 (cF χ 9 3).toNatClampNeg a1) 9 3).toNatClampNeg a2) 9 3).toNatClampNeg a3) 9 3) + (1 : Int32))) h _ _ _ hw (lv_sub hl [0] rfl)
abbrev yX7_clear : MethodName := ⟨"OysterBeds$Sightings", "clear", "()I"⟩
theorem mwX7_clear : MW yX7_clear prog_9_method_4_code 2 (some .int) 0 := ⟨wd_683, wd_6, by decide +kernel⟩
theorem d_X7_clear_0 : decode prog_9_method_4_code 0 = .ok (.aload_n 0, 1) := by decide +kernel
theorem d_X7_clear_1 : decode prog_9_method_4_code 1 = .ok (.getfield 21, 3) := by decide +kernel
theorem d_X7_clear_4 : decode prog_9_method_4_code 4 = .ok (.istore_n 1, 1) := by decide +kernel
theorem d_X7_clear_5 : decode prog_9_method_4_code 5 = .ok (.aload_n 0, 1) := by decide +kernel
theorem d_X7_clear_6 : decode prog_9_method_4_code 6 = .ok (.iconst 0, 1) := by decide +kernel
theorem d_X7_clear_7 : decode prog_9_method_4_code 7 = .ok (.putfield 21, 3) := by decide +kernel
theorem d_X7_clear_10 : decode prog_9_method_4_code 10 = .ok (.iload_n 1, 1) := by decide +kernel
theorem d_X7_clear_11 : decode prog_9_method_4_code 11 = .ok (.ireturn, 1) := by decide +kernel
def f_X7_clear (χ : St) : Option (Int32 × St) := some ((cF χ 9 3), (sF χ 9 3 (0 : Int32)))
theorem c_X7_clear {l : Launch} {G : gT} {χ σ : St} (hf : FW G) {q : Int32 × St} (h : f_X7_clear χ = some q) : Ct l G yX7_clear prog_9_method_4_code 2 (some .int) 0 0 [.ref (ga G 9)] χ σ (some (.int q.1)) q.2 σ := by
  refine Ct.of (by decide) (Nat.le_of_ble_eq_true rfl) ?_
  intro p e s m args below meth c Q X hr hlk hQ
  have hx := X.1
  have hb := X.2.1
  intro H locs ls hw hl
  have hl : lv_has ls 2 [(0, .ref (ga G 9))] := hl
  unfold f_X7_clear at h
  refine lv_aload_n hx hb d_X7_clear_0 rfl (lv_at hl 0 rfl) ?_
  refine r_geti (j := 3) X hw ct4 (o_9 hf) (Nat.le_of_ble_eq_true rfl) rfl (Nat.le_of_ble_eq_true rfl) wd_155 d_X7_clear_1 ?_
  refine lv_istore_n (lv' := [(1, .int (cF χ 9 3)), (0, .ref (ga G 9))]) hx hb d_X7_clear_4 rfl hl (Nat.le_of_ble_eq_true rfl) rfl (fun ls hl => ?_)
  refine lv_aload_n hx hb d_X7_clear_5 rfl (lv_at hl 1 rfl) ?_
  refine lv_iconst (v := (0 : Int32)) hx hb d_X7_clear_6 (by decide) ?_
  refine r_puti (j := 3) X hw ct4 (o_9 hf) (Nat.le_of_ble_eq_true rfl) rfl (Nat.le_of_ble_eq_true rfl) rfl rfl rfl wd_155 d_X7_clear_7 (fun H locs hw => ?_)
  refine lv_iload_n hx hb d_X7_clear_10 rfl (lv_at hl 0 rfl) ?_
  obtain rfl := Option.some.inj h
  subst hQ
  exact r_iret X hr hlk hw d_X7_clear_11
abbrev yX10_withYes : MethodName := ⟨"OysterBeds$Views", "withYes", "(I)I"⟩
theorem mwX10_withYes : MW yX10_withYes prog_12_method_2_code 1 (some .int) 1 := ⟨wd_697, wd_20, by decide +kernel⟩
theorem d_X10_withYes_0 : decode prog_12_method_2_code 0 = .ok (.iload_n 0, 1) := by decide +kernel
theorem d_X10_withYes_1 : decode prog_12_method_2_code 1 = .ok (.ifCond .lt 8, 3) := by decide +kernel
theorem d_X10_withYes_4 : decode prog_12_method_2_code 4 = .ok (.iload_n 0, 1) := by decide +kernel
theorem d_X10_withYes_5 : decode prog_12_method_2_code 5 = .ok (.iconst 4, 1) := by decide +kernel
theorem d_X10_withYes_6 : decode prog_12_method_2_code 6 = .ok (.if_icmp .lt 7, 3) := by decide +kernel
theorem d_X10_withYes_9 : decode prog_12_method_2_code 9 = .ok (.iconst 0, 1) := by decide +kernel
theorem d_X10_withYes_10 : decode prog_12_method_2_code 10 = .ok (.goto 8, 3) := by decide +kernel
theorem d_X10_withYes_13 : decode prog_12_method_2_code 13 = .ok (.getstatic 9, 3) := by decide +kernel
theorem d_X10_withYes_16 : decode prog_12_method_2_code 16 = .ok (.iload_n 0, 1) := by decide +kernel
theorem d_X10_withYes_17 : decode prog_12_method_2_code 17 = .ok (.iaload, 1) := by decide +kernel
theorem d_X10_withYes_18 : decode prog_12_method_2_code 18 = .ok (.ireturn, 1) := by decide +kernel
def f_X10_withYes (a0 : Int32) : Option (Int32) := (if a0 < 0 then some (0 : Int32) else (if a0 < (4 : Int32) then gd (inb a0 4) (some (([43690, 52428, 61680, 65280] : List Int32).getD a0.toNatClampNeg 0)) else some (0 : Int32)))
theorem c_X10_withYes {l : Launch} {G : gT} {χ σ : St} {a0 : Int32} (hf : FW G) {q : Int32} (h : f_X10_withYes a0 = some q) : Ct l G yX10_withYes prog_12_method_2_code 1 (some .int) 0 0 [.int a0] χ σ (some (.int q)) χ σ := by
  refine Ct.of (by decide) (Nat.le_of_ble_eq_true rfl) ?_
  intro p e s m args below meth c Q X hr hlk hQ
  have hx := X.1
  have hb := X.2.1
  intro H locs ls hw hl
  have hl : lv_has ls 1 [(0, .int a0)] := hl
  unfold f_X10_withYes at h
  refine lv_iload_n hx hb d_X10_withYes_0 rfl (lv_at hl 0 rfl) ?_
  refine lv_if_lt (tgt := 9) hx hb d_X10_withYes_1 (by decide) (fun hc => ?_) (fun hc => ?_)
  · have h := ite_t h hc
    refine lv_iconst (v := (0 : Int32)) hx hb d_X10_withYes_9 (by decide) ?_
    refine lv_goto (tgt := 18) hx hb d_X10_withYes_10 (by decide) ?_
    obtain rfl := Option.some.inj h
    subst hQ
    exact r_iret X hr hlk hw d_X10_withYes_18
  · have h := ite_f h hc
    refine lv_iload_n hx hb d_X10_withYes_4 rfl (lv_at hl 0 rfl) ?_
    refine lv_iconst (v := (4 : Int32)) hx hb d_X10_withYes_5 (by decide) ?_
    refine lv_icmp_lt (tgt := 13) hx hb d_X10_withYes_6 (by decide) (fun hc => ?_) (fun hc => ?_)
    · have h := ite_t h hc
      obtain ⟨tt1, hZ_tt1, hT_tt1⟩ := X.2.2.2.2.2.2.2.2.1
      refine r_gets X hZ_tt1 hw wd_698 d_X10_withYes_13 ?_
      refine lv_iload_n hx hb d_X10_withYes_16 rfl (lv_at hl 0 rfl) ?_
      obtain ⟨hi2, h⟩ := gd_some h
      refine r_aT X hT_tt1 hw hi2 rfl d_X10_withYes_17 ?_
      obtain rfl := Option.some.inj h
      subst hQ
      exact r_iret X hr hlk hw d_X10_withYes_18
    · have h := ite_f h hc
      refine lv_iconst (v := (0 : Int32)) hx hb d_X10_withYes_9 (by decide) ?_
      refine lv_goto (tgt := 18) hx hb d_X10_withYes_10 (by decide) ?_
      obtain rfl := Option.some.inj h
      subst hQ
      exact r_iret X hr hlk hw d_X10_withYes_18
abbrev yX7_viewsOf : MethodName := ⟨"OysterBeds$Sightings", "viewsOf", "(LOysterBeds$Bed;LOysterBeds$Law;I)I"⟩
theorem mwX7_viewsOf : MW yX7_viewsOf prog_9_method_5_code 9 (some .int) 3 := ⟨wd_691, wd_6, by decide +kernel⟩
theorem d_X7_viewsOf_0 : decode prog_9_method_5_code 0 = .ok (.ldc 29, 2) := by decide +kernel
theorem d_X7_viewsOf_2 : decode prog_9_method_5_code 2 = .ok (.istore 4, 2) := by decide +kernel
theorem d_X7_viewsOf_4 : decode prog_9_method_5_code 4 = .ok (.iconst 0, 1) := by decide +kernel
theorem d_X7_viewsOf_5 : decode prog_9_method_5_code 5 = .ok (.istore 5, 2) := by decide +kernel
theorem d_X7_viewsOf_7 : decode prog_9_method_5_code 7 = .ok (.iload 5, 2) := by decide +kernel
theorem d_X7_viewsOf_9 : decode prog_9_method_5_code 9 = .ok (.aload_n 0, 1) := by decide +kernel
theorem d_X7_viewsOf_10 : decode prog_9_method_5_code 10 = .ok (.getfield 21, 3) := by decide +kernel
theorem d_X7_viewsOf_13 : decode prog_9_method_5_code 13 = .ok (.if_icmp .ge 133, 3) := by decide +kernel
theorem d_X7_viewsOf_16 : decode prog_9_method_5_code 16 = .ok (.aload_n 1, 1) := by decide +kernel
theorem d_X7_viewsOf_17 : decode prog_9_method_5_code 17 = .ok (.aload_n 2, 1) := by decide +kernel
theorem d_X7_viewsOf_18 : decode prog_9_method_5_code 18 = .ok (.aload_n 0, 1) := by decide +kernel
theorem d_X7_viewsOf_19 : decode prog_9_method_5_code 19 = .ok (.getfield 9, 3) := by decide +kernel
theorem d_X7_viewsOf_22 : decode prog_9_method_5_code 22 = .ok (.iload 5, 2) := by decide +kernel
theorem d_X7_viewsOf_24 : decode prog_9_method_5_code 24 = .ok (.iaload, 1) := by decide +kernel
theorem d_X7_viewsOf_25 : decode prog_9_method_5_code 25 = .ok (.aload_n 0, 1) := by decide +kernel
theorem d_X7_viewsOf_26 : decode prog_9_method_5_code 26 = .ok (.getfield 15, 3) := by decide +kernel
theorem d_X7_viewsOf_29 : decode prog_9_method_5_code 29 = .ok (.iload 5, 2) := by decide +kernel
theorem d_X7_viewsOf_31 : decode prog_9_method_5_code 31 = .ok (.iaload, 1) := by decide +kernel
theorem d_X7_viewsOf_32 : decode prog_9_method_5_code 32 = .ok (.invokevirtual 30, 3) := by decide +kernel
theorem d_X7_viewsOf_35 : decode prog_9_method_5_code 35 = .ok (.istore 6, 2) := by decide +kernel
theorem d_X7_viewsOf_37 : decode prog_9_method_5_code 37 = .ok (.aload_n 0, 1) := by decide +kernel
theorem d_X7_viewsOf_38 : decode prog_9_method_5_code 38 = .ok (.getfield 18, 3) := by decide +kernel
theorem d_X7_viewsOf_41 : decode prog_9_method_5_code 41 = .ok (.iload 5, 2) := by decide +kernel
theorem d_X7_viewsOf_43 : decode prog_9_method_5_code 43 = .ok (.iaload, 1) := by decide +kernel
theorem d_X7_viewsOf_44 : decode prog_9_method_5_code 44 = .ok (.iload 6, 2) := by decide +kernel
theorem d_X7_viewsOf_46 : decode prog_9_method_5_code 46 = .ok (.iconst 1, 1) := by decide +kernel
theorem d_X7_viewsOf_47 : decode prog_9_method_5_code 47 = .ok (.iload_n 3, 1) := by decide +kernel
theorem d_X7_viewsOf_48 : decode prog_9_method_5_code 48 = .ok (.ishl, 1) := by decide +kernel
theorem d_X7_viewsOf_49 : decode prog_9_method_5_code 49 = .ok (.iconst (-1), 1) := by decide +kernel
theorem d_X7_viewsOf_50 : decode prog_9_method_5_code 50 = .ok (.ixor, 1) := by decide +kernel
theorem d_X7_viewsOf_51 : decode prog_9_method_5_code 51 = .ok (.iand, 1) := by decide +kernel
theorem d_X7_viewsOf_52 : decode prog_9_method_5_code 52 = .ok (.invokestatic 36, 3) := by decide +kernel
theorem d_X7_viewsOf_55 : decode prog_9_method_5_code 55 = .ok (.isub, 1) := by decide +kernel
theorem d_X7_viewsOf_56 : decode prog_9_method_5_code 56 = .ok (.istore 7, 2) := by decide +kernel
theorem d_X7_viewsOf_58 : decode prog_9_method_5_code 58 = .ok (.aload_n 0, 1) := by decide +kernel
theorem d_X7_viewsOf_59 : decode prog_9_method_5_code 59 = .ok (.getfield 9, 3) := by decide +kernel
theorem d_X7_viewsOf_62 : decode prog_9_method_5_code 62 = .ok (.iload 5, 2) := by decide +kernel
theorem d_X7_viewsOf_64 : decode prog_9_method_5_code 64 = .ok (.iaload, 1) := by decide +kernel
theorem d_X7_viewsOf_65 : decode prog_9_method_5_code 65 = .ok (.invokestatic 42, 3) := by decide +kernel
theorem d_X7_viewsOf_68 : decode prog_9_method_5_code 68 = .ok (.istore 8, 2) := by decide +kernel
theorem d_X7_viewsOf_70 : decode prog_9_method_5_code 70 = .ok (.aload_n 1, 1) := by decide +kernel
theorem d_X7_viewsOf_71 : decode prog_9_method_5_code 71 = .ok (.aload_n 2, 1) := by decide +kernel
theorem d_X7_viewsOf_72 : decode prog_9_method_5_code 72 = .ok (.iload_n 3, 1) := by decide +kernel
theorem d_X7_viewsOf_73 : decode prog_9_method_5_code 73 = .ok (.iconst 1, 1) := by decide +kernel
theorem d_X7_viewsOf_74 : decode prog_9_method_5_code 74 = .ok (.aload_n 0, 1) := by decide +kernel
theorem d_X7_viewsOf_75 : decode prog_9_method_5_code 75 = .ok (.getfield 15, 3) := by decide +kernel
theorem d_X7_viewsOf_78 : decode prog_9_method_5_code 78 = .ok (.iload 5, 2) := by decide +kernel
theorem d_X7_viewsOf_80 : decode prog_9_method_5_code 80 = .ok (.iaload, 1) := by decide +kernel
theorem d_X7_viewsOf_81 : decode prog_9_method_5_code 81 = .ok (.invokevirtual 47, 3) := by decide +kernel
theorem d_X7_viewsOf_84 : decode prog_9_method_5_code 84 = .ok (.ifCond .eq 7, 3) := by decide +kernel
theorem d_X7_viewsOf_87 : decode prog_9_method_5_code 87 = .ok (.iconst 1, 1) := by decide +kernel
theorem d_X7_viewsOf_88 : decode prog_9_method_5_code 88 = .ok (.goto 4, 3) := by decide +kernel
theorem d_X7_viewsOf_91 : decode prog_9_method_5_code 91 = .ok (.iconst 0, 1) := by decide +kernel
theorem d_X7_viewsOf_92 : decode prog_9_method_5_code 92 = .ok (.iload 7, 2) := by decide +kernel
theorem d_X7_viewsOf_94 : decode prog_9_method_5_code 94 = .ok (.if_icmp .eq 12, 3) := by decide +kernel
theorem d_X7_viewsOf_97 : decode prog_9_method_5_code 97 = .ok (.iload 4, 2) := by decide +kernel
theorem d_X7_viewsOf_99 : decode prog_9_method_5_code 99 = .ok (.iload 8, 2) := by decide +kernel
theorem d_X7_viewsOf_101 : decode prog_9_method_5_code 101 = .ok (.iconst (-1), 1) := by decide +kernel
theorem d_X7_viewsOf_102 : decode prog_9_method_5_code 102 = .ok (.ixor, 1) := by decide +kernel
theorem d_X7_viewsOf_103 : decode prog_9_method_5_code 103 = .ok (.iand, 1) := by decide +kernel
theorem d_X7_viewsOf_104 : decode prog_9_method_5_code 104 = .ok (.istore 4, 2) := by decide +kernel
theorem d_X7_viewsOf_106 : decode prog_9_method_5_code 106 = .ok (.aload_n 1, 1) := by decide +kernel
theorem d_X7_viewsOf_107 : decode prog_9_method_5_code 107 = .ok (.aload_n 2, 1) := by decide +kernel
theorem d_X7_viewsOf_108 : decode prog_9_method_5_code 108 = .ok (.iload_n 3, 1) := by decide +kernel
theorem d_X7_viewsOf_109 : decode prog_9_method_5_code 109 = .ok (.iconst 0, 1) := by decide +kernel
theorem d_X7_viewsOf_110 : decode prog_9_method_5_code 110 = .ok (.aload_n 0, 1) := by decide +kernel
theorem d_X7_viewsOf_111 : decode prog_9_method_5_code 111 = .ok (.getfield 15, 3) := by decide +kernel
theorem d_X7_viewsOf_114 : decode prog_9_method_5_code 114 = .ok (.iload 5, 2) := by decide +kernel
theorem d_X7_viewsOf_116 : decode prog_9_method_5_code 116 = .ok (.iaload, 1) := by decide +kernel
theorem d_X7_viewsOf_117 : decode prog_9_method_5_code 117 = .ok (.invokevirtual 47, 3) := by decide +kernel
theorem d_X7_viewsOf_120 : decode prog_9_method_5_code 120 = .ok (.ifCond .eq 7, 3) := by decide +kernel
theorem d_X7_viewsOf_123 : decode prog_9_method_5_code 123 = .ok (.iconst 1, 1) := by decide +kernel
theorem d_X7_viewsOf_124 : decode prog_9_method_5_code 124 = .ok (.goto 4, 3) := by decide +kernel
theorem d_X7_viewsOf_127 : decode prog_9_method_5_code 127 = .ok (.iconst 0, 1) := by decide +kernel
theorem d_X7_viewsOf_128 : decode prog_9_method_5_code 128 = .ok (.iload 7, 2) := by decide +kernel
theorem d_X7_viewsOf_130 : decode prog_9_method_5_code 130 = .ok (.if_icmp .eq 10, 3) := by decide +kernel
theorem d_X7_viewsOf_133 : decode prog_9_method_5_code 133 = .ok (.iload 4, 2) := by decide +kernel
theorem d_X7_viewsOf_135 : decode prog_9_method_5_code 135 = .ok (.iload 8, 2) := by decide +kernel
theorem d_X7_viewsOf_137 : decode prog_9_method_5_code 137 = .ok (.iand, 1) := by decide +kernel
theorem d_X7_viewsOf_138 : decode prog_9_method_5_code 138 = .ok (.istore 4, 2) := by decide +kernel
theorem d_X7_viewsOf_140 : decode prog_9_method_5_code 140 = .ok (.iinc 5 1, 3) := by decide +kernel
theorem d_X7_viewsOf_143 : decode prog_9_method_5_code 143 = .ok (.goto (-136), 3) := by decide +kernel
theorem d_X7_viewsOf_146 : decode prog_9_method_5_code 146 = .ok (.iload 4, 2) := by decide +kernel
theorem d_X7_viewsOf_148 : decode prog_9_method_5_code 148 = .ok (.ireturn, 1) := by decide +kernel
def f_X7_viewsOf_j140_7 (b1 : Nat) (w2 : Nat) (τ : St) (x3 : Int32) (x4 : Int32) (x5 : Int32) : Option ((Int32 × Int32 × St) ⊕ (Int32 × St)) := some (.inl (x4, (x5 + (1 : Int32)), τ))
def f_X7_viewsOf_j128_7 (b1 : Nat) (w2 : Nat) (τ : St) (x3 : Int32) (x4 : Int32) (x5 : Int32) (x7 : Int32) (x8 : Int32) (s0 : Int32) : Option ((Int32 × Int32 × St) ⊕ (Int32 × St)) := f_X7_viewsOf_j140_7 b1 w2 τ x3 (if s0 = x7 then x4 else (x4 &&& x8)) x5
def f_X7_viewsOf_j106_7 (b1 : Nat) (w2 : Nat) (τ : St) (x3 : Int32) (x4 : Int32) (x5 : Int32) (x7 : Int32) (x8 : Int32) : Option ((Int32 × Int32 × St) ⊕ (Int32 × St)) := gd (inb x5 10) ((f_X0_closes τ b1 w2 x3 (0 : Int32) (cA τ 11 x5.toNatClampNeg)).bind (fun q15 => f_X7_viewsOf_j128_7 b1 w2 q15.2 x3 x4 x5 x7 x8 (if q15.1 = 0 then (0 : Int32) else (1 : Int32))))
def f_X7_viewsOf_j92_7 (b1 : Nat) (w2 : Nat) (τ : St) (x3 : Int32) (x4 : Int32) (x5 : Int32) (x7 : Int32) (x8 : Int32) (s0 : Int32) : Option ((Int32 × Int32 × St) ⊕ (Int32 × St)) := f_X7_viewsOf_j106_7 b1 w2 τ x3 (if s0 = x7 then x4 else (x4 &&& (x8 ^^^ (-1 : Int32)))) x5 x7 x8
def f_X7_viewsOf_s7 (b1 : Nat) (w2 : Nat) (τ : St) (y3 : Int32) (x4 : Int32) (x5 : Int32) : Option ((Int32 × Int32 × St) ⊕ (Int32 × St)) := (if (cF τ 9 3) ≤ x5 then some (.inr (x4, τ)) else gd (inb x5 10) (gd (inb x5 10) ((f_X0_closing τ b1 w2 (cA τ 10 x5.toNatClampNeg) (cA τ 11 x5.toNatClampNeg)).bind (fun q3 => gd (inb x5 10) ((f_J6_bitCount_0f7a4 (q3.1 &&& (((1 : Int32) <<< (y3 &&& 31)) ^^^ (-1 : Int32)))).bind (fun q6 => gd (inb x5 10) ((f_X10_withYes (cA q3.2 10 x5.toNatClampNeg)).bind (fun q9 => gd (inb x5 10) ((f_X0_closes q3.2 b1 w2 y3 (1 : Int32) (cA q3.2 11 x5.toNatClampNeg)).bind (fun q12 => f_X7_viewsOf_j92_7 b1 w2 q12.2 y3 x4 x5 ((cA q3.2 12 x5.toNatClampNeg) - q6) q9 (if q12.1 = 0 then (0 : Int32) else (1 : Int32))))))))))))
def f_X7_viewsOf (χ : St) (b1 : Nat) (w2 : Nat) (a3 : Int32) : Option (Int32 × St) := (iter (fun z => f_X7_viewsOf_s7 b1 w2 z.2.2 a3 z.1 z.2.1) FU ((65535 : Int32), (0 : Int32), χ)).bind (fun z17 => some (z17.1, z17.2))
theorem c_X7_viewsOf {l : Launch} {G : gT} {χ σ : St} {b1 : Nat} {w2 : Nat} {a3 : Int32} (hf : FW G) (hb_b1 : isBed b1 = true) (hw_w2 : LW G w2) {q : Int32 × St} (h : f_X7_viewsOf χ b1 w2 a3 = some q) : Ct l G yX7_viewsOf prog_9_method_5_code 9 (some .int) 4 99 [.ref (ga G 9), .ref (ga G b1), .ref (ga G w2), .int a3] χ σ (some (.int q.1)) q.2 σ := by
  obtain ⟨ob0_b1, ob1_b1, ob2_b1, ob3_b1, ob4_b1, ob5_b1, lb_b1, -, -⟩ := bed_at hf hb_b1
  have lb0_b1 : b1 < 300 := by omega
  have lb1_b1 : b1 + 1 < 300 := by omega
  have lb2_b1 : b1 + 2 < 300 := by omega
  have lb3_b1 : b1 + 3 < 300 := by omega
  have lb4_b1 : b1 + 4 < 300 := by omega
  have lb5_b1 : b1 + 5 < 300 := by omega
  obtain ⟨ow0_w2, ow1_w2, ow2_w2, ow3_w2, ow4_w2, lw_w2⟩ := law_at hw_w2
  have lw0_w2 : w2 < 300 := by omega
  have lw1_w2 : w2 + 1 < 300 := by omega
  have lw2_w2 : w2 + 2 < 300 := by omega
  have lw3_w2 : w2 + 3 < 300 := by omega
  have lw4_w2 : w2 + 4 < 300 := by omega
  refine Ct.of (by decide) (Nat.le_of_ble_eq_true rfl) ?_
  intro p e s m args below meth c Q X hr hlk hQ
  have hx := X.1
  have hb := X.2.1
  have j140_7 : ∀ (τ : St) (x3 : Int32) (x4 : Int32) (x5 : Int32) (o : (Int32 × Int32 × St) ⊕ (Int32 × St)), f_X7_viewsOf_j140_7 b1 w2 τ x3 x4 x5 = some o → Sum.elim (fun z : Int32 × Int32 × St => Wat p l e (rmk 4 99) s m args below meth c Q G 9 7 [] [(4, .int z.1), (5, .int z.2.1), (0, .ref (ga G 9)), (1, .ref (ga G b1)), (2, .ref (ga G w2)), (3, .int x3)] z.2.2 σ) (fun z : Int32 × St => Wat p l e (rmk 4 99) s m args below meth c Q G 9 146 [] [(4, .int z.1)] z.2 σ) o → Wat p l e (rmk 4 99) s m args below meth c Q G 9 140 [] [(0, .ref (ga G 9)), (1, .ref (ga G b1)), (2, .ref (ga G w2)), (3, .int x3), (4, .int x4), (5, .int x5)] τ σ := by
    intro τ x3 x4 x5 o h hk H locs ls hw hl
    unfold f_X7_viewsOf_j140_7 at h
    refine lv_iinc (v := (x5 + (1 : Int32))) (k := 5) (lv' := [(5, .int (x5 + (1 : Int32))), (0, .ref (ga G 9)), (1, .ref (ga G b1)), (2, .ref (ga G w2)), (3, .int x3), (4, .int x4)]) hx hb d_X7_viewsOf_140 hl rfl (by rfl) (Nat.le_of_ble_eq_true rfl) rfl (fun ls hl => ?_)
    refine lv_goto (tgt := 7) hx hb d_X7_viewsOf_143 (by decide) ?_
    obtain rfl := Option.some.inj h
    dsimp only [Sum.elim_inl] at hk
    exact hk _ _ _ hw (lv_sub hl [5, 0, 1, 2, 3, 4] rfl)
  have j128_7 : ∀ (τ : St) (x3 : Int32) (x4 : Int32) (x5 : Int32) (x7 : Int32) (x8 : Int32) (s0 : Int32) (o : (Int32 × Int32 × St) ⊕ (Int32 × St)), f_X7_viewsOf_j128_7 b1 w2 τ x3 x4 x5 x7 x8 s0 = some o → Sum.elim (fun z : Int32 × Int32 × St => Wat p l e (rmk 4 99) s m args below meth c Q G 9 7 [] [(4, .int z.1), (5, .int z.2.1), (0, .ref (ga G 9)), (1, .ref (ga G b1)), (2, .ref (ga G w2)), (3, .int x3)] z.2.2 σ) (fun z : Int32 × St => Wat p l e (rmk 4 99) s m args below meth c Q G 9 146 [] [(4, .int z.1)] z.2 σ) o → Wat p l e (rmk 4 99) s m args below meth c Q G 9 128 [.int s0] [(0, .ref (ga G 9)), (1, .ref (ga G b1)), (2, .ref (ga G w2)), (3, .int x3), (4, .int x4), (5, .int x5), (7, .int x7), (8, .int x8)] τ σ := by
    intro τ x3 x4 x5 x7 x8 s0 o h hk H locs ls hw hl
    unfold f_X7_viewsOf_j128_7 at h
    refine lv_iload hx hb d_X7_viewsOf_128 (lv_at hl 6 rfl) ?_
    refine lv_icmp_eq (tgt := 140) hx hb d_X7_viewsOf_130 (by decide) (fun hc => ?_) (fun hc => ?_)
    · simp only [if_pos hc] at h
      exact j140_7 τ x3 x4 x5 o h hk _ _ _ hw (lv_sub hl [0, 1, 2, 3, 4, 5] rfl)
    · simp only [if_neg hc] at h
      refine lv_iload hx hb d_X7_viewsOf_133 (lv_at hl 4 rfl) ?_
      refine lv_iload hx hb d_X7_viewsOf_135 (lv_at hl 7 rfl) ?_
      refine lv_iand hx hb d_X7_viewsOf_137 ?_
      refine lv_istore (lv' := [(4, .int (x4 &&& x8)), (0, .ref (ga G 9)), (1, .ref (ga G b1)), (2, .ref (ga G w2)), (3, .int x3), (5, .int x5), (7, .int x7), (8, .int x8)]) hx hb d_X7_viewsOf_138 hl (Nat.le_of_ble_eq_true rfl) rfl (fun ls hl => ?_)
      exact j140_7 τ x3 (x4 &&& x8) x5 o h hk _ _ _ hw (lv_sub hl [1, 2, 3, 4, 0, 5] rfl)
  have j106_7 : ∀ (τ : St) (x3 : Int32) (x4 : Int32) (x5 : Int32) (x7 : Int32) (x8 : Int32) (o : (Int32 × Int32 × St) ⊕ (Int32 × St)), f_X7_viewsOf_j106_7 b1 w2 τ x3 x4 x5 x7 x8 = some o → Sum.elim (fun z : Int32 × Int32 × St => Wat p l e (rmk 4 99) s m args below meth c Q G 9 7 [] [(4, .int z.1), (5, .int z.2.1), (0, .ref (ga G 9)), (1, .ref (ga G b1)), (2, .ref (ga G w2)), (3, .int x3)] z.2.2 σ) (fun z : Int32 × St => Wat p l e (rmk 4 99) s m args below meth c Q G 9 146 [] [(4, .int z.1)] z.2 σ) o → Wat p l e (rmk 4 99) s m args below meth c Q G 9 106 [] [(0, .ref (ga G 9)), (1, .ref (ga G b1)), (2, .ref (ga G w2)), (3, .int x3), (4, .int x4), (5, .int x5), (7, .int x7), (8, .int x8)] τ σ := by
    intro τ x3 x4 x5 x7 x8 o h hk H locs ls hw hl
    unfold f_X7_viewsOf_j106_7 at h
    refine lv_aload_n hx hb d_X7_viewsOf_106 rfl (lv_at hl 1 rfl) ?_
    refine lv_aload_n hx hb d_X7_viewsOf_107 rfl (lv_at hl 2 rfl) ?_
    refine lv_iload_n hx hb d_X7_viewsOf_108 rfl (lv_at hl 3 rfl) ?_
    refine lv_iconst (v := (0 : Int32)) hx hb d_X7_viewsOf_109 (by decide) ?_
    refine lv_aload_n hx hb d_X7_viewsOf_110 rfl (lv_at hl 0 rfl) ?_
    refine r_getr (j := 1) X hw ct4 (o_9 hf) rfl (Nat.le_of_ble_eq_true rfl) (q := 11) rfl wd_153 d_X7_viewsOf_111 ?_
    refine lv_iload hx hb d_X7_viewsOf_114 (lv_at hl 5 rfl) ?_
    obtain ⟨hi14, h⟩ := gd_some h
    refine r_iald X hw (o_11 hf) (Nat.le_of_ble_eq_true rfl) hi14 d_X7_viewsOf_116 ?_
    obtain ⟨q15, e16, h⟩ := bd_some h
    refine r_callV (As := [.ref (ga G w2), .int x3, .int (0 : Int32), .int (cA τ 11 x5.toNatClampNeg)]) (rest := []) (st' := [.int q15.1]) X hw hl mwX0_closes wd_701 wd_702 wd_700 (c_X0_closes hf hb_b1 hw_w2 e16) (r_recv X hw ct0 ob0_b1) rfl ⟨Nat.le_of_ble_eq_true rfl, Nat.le_of_ble_eq_true rfl⟩ ⟨Nat.le_refl _, Nat.le_refl _⟩ rfl rfl (Nat.le_of_ble_eq_true rfl) d_X7_viewsOf_117 (fun H locs hw => ?_)
    refine lv_if_eq (tgt := 127) hx hb d_X7_viewsOf_120 (by decide) (fun hc => ?_) (fun hc => ?_)
    · simp only [if_pos hc] at h
      refine lv_iconst (v := (0 : Int32)) hx hb d_X7_viewsOf_127 (by decide) ?_
      exact j128_7 q15.2 x3 x4 x5 x7 x8 (0 : Int32) o h hk _ _ _ hw (lv_sub hl [0, 1, 2, 3, 4, 5, 6, 7] rfl)
    · simp only [if_neg hc] at h
      refine lv_iconst (v := (1 : Int32)) hx hb d_X7_viewsOf_123 (by decide) ?_
      refine lv_goto (tgt := 128) hx hb d_X7_viewsOf_124 (by decide) ?_
      exact j128_7 q15.2 x3 x4 x5 x7 x8 (1 : Int32) o h hk _ _ _ hw (lv_sub hl [0, 1, 2, 3, 4, 5, 6, 7] rfl)
  have j92_7 : ∀ (τ : St) (x3 : Int32) (x4 : Int32) (x5 : Int32) (x7 : Int32) (x8 : Int32) (s0 : Int32) (o : (Int32 × Int32 × St) ⊕ (Int32 × St)), f_X7_viewsOf_j92_7 b1 w2 τ x3 x4 x5 x7 x8 s0 = some o → Sum.elim (fun z : Int32 × Int32 × St => Wat p l e (rmk 4 99) s m args below meth c Q G 9 7 [] [(4, .int z.1), (5, .int z.2.1), (0, .ref (ga G 9)), (1, .ref (ga G b1)), (2, .ref (ga G w2)), (3, .int x3)] z.2.2 σ) (fun z : Int32 × St => Wat p l e (rmk 4 99) s m args below meth c Q G 9 146 [] [(4, .int z.1)] z.2 σ) o → Wat p l e (rmk 4 99) s m args below meth c Q G 9 92 [.int s0] [(0, .ref (ga G 9)), (1, .ref (ga G b1)), (2, .ref (ga G w2)), (3, .int x3), (4, .int x4), (5, .int x5), (7, .int x7), (8, .int x8)] τ σ := by
    intro τ x3 x4 x5 x7 x8 s0 o h hk H locs ls hw hl
    unfold f_X7_viewsOf_j92_7 at h
    refine lv_iload hx hb d_X7_viewsOf_92 (lv_at hl 6 rfl) ?_
    refine lv_icmp_eq (tgt := 106) hx hb d_X7_viewsOf_94 (by decide) (fun hc => ?_) (fun hc => ?_)
    · simp only [if_pos hc] at h
      exact j106_7 τ x3 x4 x5 x7 x8 o h hk _ _ _ hw (lv_sub hl [0, 1, 2, 3, 4, 5, 6, 7] rfl)
    · simp only [if_neg hc] at h
      refine lv_iload hx hb d_X7_viewsOf_97 (lv_at hl 4 rfl) ?_
      refine lv_iload hx hb d_X7_viewsOf_99 (lv_at hl 7 rfl) ?_
      refine lv_iconst (v := (-1 : Int32)) hx hb d_X7_viewsOf_101 (by decide) ?_
      refine lv_ixor hx hb d_X7_viewsOf_102 ?_
      refine lv_iand hx hb d_X7_viewsOf_103 ?_
      refine lv_istore (lv' := [(4, .int (x4 &&& (x8 ^^^ (-1 : Int32)))), (0, .ref (ga G 9)), (1, .ref (ga G b1)), (2, .ref (ga G w2)), (3, .int x3), (5, .int x5), (7, .int x7), (8, .int x8)]) hx hb d_X7_viewsOf_104 hl (Nat.le_of_ble_eq_true rfl) rfl (fun ls hl => ?_)
      exact j106_7 τ x3 (x4 &&& (x8 ^^^ (-1 : Int32))) x5 x7 x8 o h hk _ _ _ hw (lv_sub hl [1, 2, 3, 4, 0, 5, 6, 7] rfl)
  have b7 : ∀ (τ : St) (y3 : Int32) (x4 : Int32) (x5 : Int32) (o : (Int32 × Int32 × St) ⊕ (Int32 × St)), f_X7_viewsOf_s7 b1 w2 τ y3 x4 x5 = some o → Sum.elim (fun z : Int32 × Int32 × St => Wat p l e (rmk 4 99) s m args below meth c Q G 9 7 [] [(4, .int z.1), (5, .int z.2.1), (0, .ref (ga G 9)), (1, .ref (ga G b1)), (2, .ref (ga G w2)), (3, .int y3)] z.2.2 σ) (fun z : Int32 × St => Wat p l e (rmk 4 99) s m args below meth c Q G 9 146 [] [(4, .int z.1)] z.2 σ) o → Wat p l e (rmk 4 99) s m args below meth c Q G 9 7 [] [(4, .int x4), (5, .int x5), (0, .ref (ga G 9)), (1, .ref (ga G b1)), (2, .ref (ga G w2)), (3, .int y3)] τ σ := by
    intro τ y3 x4 x5 o h hk H locs ls hw hl
    unfold f_X7_viewsOf_s7 at h
    refine lv_iload hx hb d_X7_viewsOf_7 (lv_at hl 1 rfl) ?_
    refine lv_aload_n hx hb d_X7_viewsOf_9 rfl (lv_at hl 2 rfl) ?_
    refine r_geti (j := 3) X hw ct4 (o_9 hf) (Nat.le_of_ble_eq_true rfl) rfl (Nat.le_of_ble_eq_true rfl) wd_155 d_X7_viewsOf_10 ?_
    refine lv_icmp_ge (tgt := 146) hx hb d_X7_viewsOf_13 (by decide) (fun hc => ?_) (fun hc => ?_)
    · have h := ite_t h hc
      obtain rfl := Option.some.inj h
      dsimp only [Sum.elim_inr] at hk
      exact hk _ _ _ hw (lv_sub hl [0] rfl)
    · have h := ite_f h hc
      refine lv_aload_n hx hb d_X7_viewsOf_16 rfl (lv_at hl 3 rfl) ?_
      refine lv_aload_n hx hb d_X7_viewsOf_17 rfl (lv_at hl 4 rfl) ?_
      refine lv_aload_n hx hb d_X7_viewsOf_18 rfl (lv_at hl 2 rfl) ?_
      refine r_getr (j := 0) X hw ct4 (o_9 hf) rfl (Nat.le_of_ble_eq_true rfl) (q := 10) rfl wd_152 d_X7_viewsOf_19 ?_
      refine lv_iload hx hb d_X7_viewsOf_22 (lv_at hl 1 rfl) ?_
      obtain ⟨hi1, h⟩ := gd_some h
      refine r_iald X hw (o_10 hf) (Nat.le_of_ble_eq_true rfl) hi1 d_X7_viewsOf_24 ?_
      refine lv_aload_n hx hb d_X7_viewsOf_25 rfl (lv_at hl 2 rfl) ?_
      refine r_getr (j := 1) X hw ct4 (o_9 hf) rfl (Nat.le_of_ble_eq_true rfl) (q := 11) rfl wd_153 d_X7_viewsOf_26 ?_
      refine lv_iload hx hb d_X7_viewsOf_29 (lv_at hl 1 rfl) ?_
      obtain ⟨hi2, h⟩ := gd_some h
      refine r_iald X hw (o_11 hf) (Nat.le_of_ble_eq_true rfl) hi2 d_X7_viewsOf_31 ?_
      obtain ⟨q3, e4, h⟩ := bd_some h
      refine r_callV (As := [.ref (ga G w2), .int (cA τ 10 x5.toNatClampNeg), .int (cA τ 11 x5.toNatClampNeg)]) (rest := []) (st' := [.int q3.1]) X hw hl mwX0_closing wd_398 wd_399 wd_693 (c_X0_closing hf hb_b1 hw_w2 e4) (r_recv X hw ct0 ob0_b1) rfl ⟨Nat.le_of_ble_eq_true rfl, Nat.le_of_ble_eq_true rfl⟩ ⟨Nat.le_refl _, Nat.le_refl _⟩ rfl rfl (Nat.le_of_ble_eq_true rfl) d_X7_viewsOf_32 (fun H locs hw => ?_)
      refine lv_istore (lv' := [(6, .int q3.1), (4, .int x4), (5, .int x5), (0, .ref (ga G 9)), (1, .ref (ga G b1)), (2, .ref (ga G w2)), (3, .int y3)]) hx hb d_X7_viewsOf_35 hl (Nat.le_of_ble_eq_true rfl) rfl (fun ls hl => ?_)
      refine lv_aload_n hx hb d_X7_viewsOf_37 rfl (lv_at hl 3 rfl) ?_
      refine r_getr (j := 2) X hw ct4 (o_9 hf) rfl (Nat.le_of_ble_eq_true rfl) (q := 12) rfl wd_154 d_X7_viewsOf_38 ?_
      refine lv_iload hx hb d_X7_viewsOf_41 (lv_at hl 2 rfl) ?_
      obtain ⟨hi5, h⟩ := gd_some h
      refine r_iald X hw (o_12 hf) (Nat.le_of_ble_eq_true rfl) hi5 d_X7_viewsOf_43 ?_
      refine lv_iload hx hb d_X7_viewsOf_44 (lv_at hl 0 rfl) ?_
      refine lv_iconst (v := (1 : Int32)) hx hb d_X7_viewsOf_46 (by decide) ?_
      refine lv_iload_n hx hb d_X7_viewsOf_47 rfl (lv_at hl 6 rfl) ?_
      refine lv_ishl hx hb d_X7_viewsOf_48 ?_
      refine lv_iconst (v := (-1 : Int32)) hx hb d_X7_viewsOf_49 (by decide) ?_
      refine lv_ixor hx hb d_X7_viewsOf_50 ?_
      refine lv_iand hx hb d_X7_viewsOf_51 ?_
      obtain ⟨q6, e7, h⟩ := bd_some h
      refine r_callS (As := [.int (q3.1 &&& (((1 : Int32) <<< (y3 &&& 31)) ^^^ (-1 : Int32)))]) (rest := [.int (cA q3.2 12 x5.toNatClampNeg)]) (st' := [.int q6, .int (cA q3.2 12 x5.toNatClampNeg)]) X hw hl mwJ6_bitCount_0f7a4 wd_436 wd_694 (c_J6_bitCount_0f7a4 e7) rfl ⟨Nat.le_of_ble_eq_true rfl, Nat.le_of_ble_eq_true rfl⟩ ⟨Nat.le_refl _, Nat.le_refl _⟩ rfl rfl (Nat.le_of_ble_eq_true rfl) d_X7_viewsOf_52 (fun H locs hw => ?_)
      refine lv_isub hx hb d_X7_viewsOf_55 ?_
      refine lv_istore (lv' := [(7, .int ((cA q3.2 12 x5.toNatClampNeg) - q6)), (6, .int q3.1), (4, .int x4), (5, .int x5), (0, .ref (ga G 9)), (1, .ref (ga G b1)), (2, .ref (ga G w2)), (3, .int y3)]) hx hb d_X7_viewsOf_56 hl (Nat.le_of_ble_eq_true rfl) rfl (fun ls hl => ?_)
      refine lv_aload_n hx hb d_X7_viewsOf_58 rfl (lv_at hl 4 rfl) ?_
      refine r_getr (j := 0) X hw ct4 (o_9 hf) rfl (Nat.le_of_ble_eq_true rfl) (q := 10) rfl wd_152 d_X7_viewsOf_59 ?_
      refine lv_iload hx hb d_X7_viewsOf_62 (lv_at hl 3 rfl) ?_
      obtain ⟨hi8, h⟩ := gd_some h
      refine r_iald X hw (o_10 hf) (Nat.le_of_ble_eq_true rfl) hi8 d_X7_viewsOf_64 ?_
      obtain ⟨q9, e10, h⟩ := bd_some h
      refine r_callS (As := [.int (cA q3.2 10 x5.toNatClampNeg)]) (rest := []) (st' := [.int q9]) X hw hl mwX10_withYes wd_696 wd_695 (c_X10_withYes hf e10) rfl ⟨Nat.le_of_ble_eq_true rfl, Nat.le_of_ble_eq_true rfl⟩ ⟨Nat.le_refl _, Nat.le_refl _⟩ rfl rfl (Nat.le_of_ble_eq_true rfl) d_X7_viewsOf_65 (fun H locs hw => ?_)
      refine lv_istore (lv' := [(8, .int q9), (7, .int ((cA q3.2 12 x5.toNatClampNeg) - q6)), (6, .int q3.1), (4, .int x4), (5, .int x5), (0, .ref (ga G 9)), (1, .ref (ga G b1)), (2, .ref (ga G w2)), (3, .int y3)]) hx hb d_X7_viewsOf_68 hl (Nat.le_of_ble_eq_true rfl) rfl (fun ls hl => ?_)
      refine lv_aload_n hx hb d_X7_viewsOf_70 rfl (lv_at hl 6 rfl) ?_
      refine lv_aload_n hx hb d_X7_viewsOf_71 rfl (lv_at hl 7 rfl) ?_
      refine lv_iload_n hx hb d_X7_viewsOf_72 rfl (lv_at hl 8 rfl) ?_
      refine lv_iconst (v := (1 : Int32)) hx hb d_X7_viewsOf_73 (by decide) ?_
      refine lv_aload_n hx hb d_X7_viewsOf_74 rfl (lv_at hl 5 rfl) ?_
      refine r_getr (j := 1) X hw ct4 (o_9 hf) rfl (Nat.le_of_ble_eq_true rfl) (q := 11) rfl wd_153 d_X7_viewsOf_75 ?_
      refine lv_iload hx hb d_X7_viewsOf_78 (lv_at hl 4 rfl) ?_
      obtain ⟨hi11, h⟩ := gd_some h
      refine r_iald X hw (o_11 hf) (Nat.le_of_ble_eq_true rfl) hi11 d_X7_viewsOf_80 ?_
      obtain ⟨q12, e13, h⟩ := bd_some h
      refine r_callV (As := [.ref (ga G w2), .int y3, .int (1 : Int32), .int (cA q3.2 11 x5.toNatClampNeg)]) (rest := []) (st' := [.int q12.1]) X hw hl mwX0_closes wd_701 wd_702 wd_700 (c_X0_closes hf hb_b1 hw_w2 e13) (r_recv X hw ct0 ob0_b1) rfl ⟨Nat.le_of_ble_eq_true rfl, Nat.le_of_ble_eq_true rfl⟩ ⟨Nat.le_refl _, Nat.le_refl _⟩ rfl rfl (Nat.le_of_ble_eq_true rfl) d_X7_viewsOf_81 (fun H locs hw => ?_)
      refine lv_if_eq (tgt := 91) hx hb d_X7_viewsOf_84 (by decide) (fun hc => ?_) (fun hc => ?_)
      · simp only [if_pos hc] at h
        refine lv_iconst (v := (0 : Int32)) hx hb d_X7_viewsOf_91 (by decide) ?_
        exact j92_7 q12.2 y3 x4 x5 ((cA q3.2 12 x5.toNatClampNeg) - q6) q9 (0 : Int32) o h hk _ _ _ hw (lv_sub hl [5, 6, 7, 8, 3, 4, 1, 0] rfl)
      · simp only [if_neg hc] at h
        refine lv_iconst (v := (1 : Int32)) hx hb d_X7_viewsOf_87 (by decide) ?_
        refine lv_goto (tgt := 92) hx hb d_X7_viewsOf_88 (by decide) ?_
        exact j92_7 q12.2 y3 x4 x5 ((cA q3.2 12 x5.toNatClampNeg) - q6) q9 (1 : Int32) o h hk _ _ _ hw (lv_sub hl [5, 6, 7, 8, 3, 4, 1, 0] rfl)
  intro H locs ls hw hl
  have hl : lv_has ls 9 [(0, .ref (ga G 9)), (1, .ref (ga G b1)), (2, .ref (ga G w2)), (3, .int a3)] := hl
  unfold f_X7_viewsOf at h
  refine r_ldc X wd_692 d_X7_viewsOf_0 ?_
  refine lv_istore (lv' := [(4, .int (65535 : Int32)), (0, .ref (ga G 9)), (1, .ref (ga G b1)), (2, .ref (ga G w2)), (3, .int a3)]) hx hb d_X7_viewsOf_2 hl (Nat.le_of_ble_eq_true rfl) rfl (fun ls hl => ?_)
  refine lv_iconst (v := (0 : Int32)) hx hb d_X7_viewsOf_4 (by decide) ?_
  refine lv_istore (lv' := [(5, .int (0 : Int32)), (4, .int (65535 : Int32)), (0, .ref (ga G 9)), (1, .ref (ga G b1)), (2, .ref (ga G w2)), (3, .int a3)]) hx hb d_X7_viewsOf_5 hl (Nat.le_of_ble_eq_true rfl) rfl (fun ls hl => ?_)
  obtain ⟨z17, e18, h⟩ := bd_some h
  refine iter_w (Wh := fun z : Int32 × Int32 × St => Wat p l e (rmk 4 99) s m args below meth c Q G 9 7 [] [(4, .int z.1), (5, .int z.2.1), (0, .ref (ga G 9)), (1, .ref (ga G b1)), (2, .ref (ga G w2)), (3, .int a3)] z.2.2 σ) (K := fun z : Int32 × St => Wat p l e (rmk 4 99) s m args below meth c Q G 9 146 [] [(4, .int z.1)] z.2 σ) (fun z o h1 h2 => b7 z.2.2 a3 z.1 z.2.1 o h1 h2) FU _ _ e18 ?_ _ _ _ hw (lv_sub hl [1, 0, 2, 3, 4, 5] rfl)
  intro H locs ls hw hl
  refine lv_iload hx hb d_X7_viewsOf_146 (lv_at hl 0 rfl) ?_
  obtain rfl := Option.some.inj h
  subst hQ
  exact r_iret X hr hlk hw d_X7_viewsOf_148
abbrev yX8_put : MethodName := ⟨"OysterBeds$Text", "put", "(C)V"⟩
theorem mwX8_put : MW yX8_put prog_10_method_2_code 2 none 1 := ⟨wd_299, wd_2, by decide +kernel⟩
theorem d_X8_put_0 : decode prog_10_method_2_code 0 = .ok (.aload_n 0, 1) := by decide +kernel
theorem d_X8_put_1 : decode prog_10_method_2_code 1 = .ok (.getfield 15, 3) := by decide +kernel
theorem d_X8_put_4 : decode prog_10_method_2_code 4 = .ok (.bipush 80, 2) := by decide +kernel
theorem d_X8_put_6 : decode prog_10_method_2_code 6 = .ok (.if_icmp .ge 23, 3) := by decide +kernel
theorem d_X8_put_9 : decode prog_10_method_2_code 9 = .ok (.aload_n 0, 1) := by decide +kernel
theorem d_X8_put_10 : decode prog_10_method_2_code 10 = .ok (.getfield 9, 3) := by decide +kernel
theorem d_X8_put_13 : decode prog_10_method_2_code 13 = .ok (.aload_n 0, 1) := by decide +kernel
theorem d_X8_put_14 : decode prog_10_method_2_code 14 = .ok (.getfield 15, 3) := by decide +kernel
theorem d_X8_put_17 : decode prog_10_method_2_code 17 = .ok (.iload_n 1, 1) := by decide +kernel
theorem d_X8_put_18 : decode prog_10_method_2_code 18 = .ok (.castore, 1) := by decide +kernel
theorem d_X8_put_19 : decode prog_10_method_2_code 19 = .ok (.aload_n 0, 1) := by decide +kernel
theorem d_X8_put_20 : decode prog_10_method_2_code 20 = .ok (.dup, 1) := by decide +kernel
theorem d_X8_put_21 : decode prog_10_method_2_code 21 = .ok (.getfield 15, 3) := by decide +kernel
theorem d_X8_put_24 : decode prog_10_method_2_code 24 = .ok (.iconst 1, 1) := by decide +kernel
theorem d_X8_put_25 : decode prog_10_method_2_code 25 = .ok (.iadd, 1) := by decide +kernel
theorem d_X8_put_26 : decode prog_10_method_2_code 26 = .ok (.putfield 15, 3) := by decide +kernel
theorem d_X8_put_29 : decode prog_10_method_2_code 29 = .ok (.return_, 1) := by decide +kernel
def f_X8_put (χ : St) (a1 : Int32) : Option (St) := (if (80 : Int32) ≤ (cF χ 1 1) then some χ else gd (inb (cF χ 1 1) 80) (some (sF (sA χ 2 (cF χ 1 1).toNatClampNeg (vp_nar .char a1)) 1 1 ((cF (sA χ 2 (cF χ 1 1).toNatClampNeg (vp_nar .char a1)) 1 1) + (1 : Int32)))))
theorem c_X8_put {l : Launch} {G : gT} {χ σ : St} {a1 : Int32} (hf : FW G) {q : St} (h : f_X8_put χ a1 = some q) : Ct l G yX8_put prog_10_method_2_code 2 none 0 0 [.ref (ga G 1), .int a1] χ σ (none) q σ := by
  refine Ct.of (by decide) (Nat.le_of_ble_eq_true rfl) ?_
  intro p e s m args below meth c Q X hr hlk hQ
  have hx := X.1
  have hb := X.2.1
  intro H locs ls hw hl
  have hl : lv_has ls 2 [(0, .ref (ga G 1)), (1, .int a1)] := hl
  unfold f_X8_put at h
  refine lv_aload_n hx hb d_X8_put_0 rfl (lv_at hl 0 rfl) ?_
  refine r_geti (j := 1) X hw ct5 (o_1 hf) (Nat.le_of_ble_eq_true rfl) rfl (Nat.le_of_ble_eq_true rfl) wd_39 d_X8_put_1 ?_
  refine lv_bipush (v := (80 : Int32)) hx hb d_X8_put_4 (by decide) ?_
  refine lv_icmp_ge (tgt := 29) hx hb d_X8_put_6 (by decide) (fun hc => ?_) (fun hc => ?_)
  · have h := ite_t h hc
    obtain rfl := Option.some.inj h
    subst hQ
    exact r_vret X hr hlk hw d_X8_put_29
  · have h := ite_f h hc
    refine lv_aload_n hx hb d_X8_put_9 rfl (lv_at hl 0 rfl) ?_
    refine r_getr (j := 0) X hw ct5 (o_1 hf) rfl (Nat.le_of_ble_eq_true rfl) (q := 2) rfl wd_38 d_X8_put_10 ?_
    refine lv_aload_n hx hb d_X8_put_13 rfl (lv_at hl 0 rfl) ?_
    refine r_geti (j := 1) X hw ct5 (o_1 hf) (Nat.le_of_ble_eq_true rfl) rfl (Nat.le_of_ble_eq_true rfl) wd_39 d_X8_put_14 ?_
    refine lv_iload_n hx hb d_X8_put_17 rfl (lv_at hl 1 rfl) ?_
    obtain ⟨hi1, h⟩ := gd_some h
    refine r_cast X hw (o_2 hf) (Nat.le_of_ble_eq_true rfl) hi1 d_X8_put_18 (fun H locs hw => ?_)
    refine lv_aload_n hx hb d_X8_put_19 rfl (lv_at hl 0 rfl) ?_
    refine lv_dup hx hb d_X8_put_20 rfl ?_
    refine r_geti (j := 1) X hw ct5 (o_1 hf) (Nat.le_of_ble_eq_true rfl) rfl (Nat.le_of_ble_eq_true rfl) wd_39 d_X8_put_21 ?_
    refine lv_iconst (v := (1 : Int32)) hx hb d_X8_put_24 (by decide) ?_
    refine lv_iadd hx hb d_X8_put_25 ?_
    refine r_puti (j := 1) X hw ct5 (o_1 hf) (Nat.le_of_ble_eq_true rfl) rfl (Nat.le_of_ble_eq_true rfl) rfl rfl rfl wd_39 d_X8_put_26 (fun H locs hw => ?_)
    obtain rfl := Option.some.inj h
    subst hQ
    exact r_vret X hr hlk hw d_X8_put_29
abbrev yX8_cutTo : MethodName := ⟨"OysterBeds$Text", "cutTo", "(I)Z"⟩
theorem mwX8_cutTo : MW yX8_cutTo prog_10_method_3_code 2 (some .boolean) 1 := ⟨wd_307, wd_2, by decide +kernel⟩
theorem d_X8_cutTo_0 : decode prog_10_method_3_code 0 = .ok (.iload_n 1, 1) := by decide +kernel
theorem d_X8_cutTo_1 : decode prog_10_method_3_code 1 = .ok (.ifCond .lt 11, 3) := by decide +kernel
theorem d_X8_cutTo_4 : decode prog_10_method_3_code 4 = .ok (.iload_n 1, 1) := by decide +kernel
theorem d_X8_cutTo_5 : decode prog_10_method_3_code 5 = .ok (.aload_n 0, 1) := by decide +kernel
theorem d_X8_cutTo_6 : decode prog_10_method_3_code 6 = .ok (.getfield 15, 3) := by decide +kernel
theorem d_X8_cutTo_9 : decode prog_10_method_3_code 9 = .ok (.if_icmp .le 5, 3) := by decide +kernel
theorem d_X8_cutTo_12 : decode prog_10_method_3_code 12 = .ok (.iconst 0, 1) := by decide +kernel
theorem d_X8_cutTo_13 : decode prog_10_method_3_code 13 = .ok (.ireturn, 1) := by decide +kernel
theorem d_X8_cutTo_14 : decode prog_10_method_3_code 14 = .ok (.aload_n 0, 1) := by decide +kernel
theorem d_X8_cutTo_15 : decode prog_10_method_3_code 15 = .ok (.iload_n 1, 1) := by decide +kernel
theorem d_X8_cutTo_16 : decode prog_10_method_3_code 16 = .ok (.putfield 15, 3) := by decide +kernel
theorem d_X8_cutTo_19 : decode prog_10_method_3_code 19 = .ok (.iconst 1, 1) := by decide +kernel
theorem d_X8_cutTo_20 : decode prog_10_method_3_code 20 = .ok (.ireturn, 1) := by decide +kernel
def f_X8_cutTo (χ : St) (a1 : Int32) : Option (Int32 × St) := (if a1 < 0 then some ((0 : Int32), χ) else (if a1 ≤ (cF χ 1 1) then some ((1 : Int32), (sF χ 1 1 a1)) else some ((0 : Int32), χ)))
theorem c_X8_cutTo {l : Launch} {G : gT} {χ σ : St} {a1 : Int32} (hf : FW G) {q : Int32 × St} (h : f_X8_cutTo χ a1 = some q) : Ct l G yX8_cutTo prog_10_method_3_code 2 (some .boolean) 0 0 [.ref (ga G 1), .int a1] χ σ (some (.int q.1)) q.2 σ := by
  refine Ct.of (by decide) (Nat.le_of_ble_eq_true rfl) ?_
  intro p e s m args below meth c Q X hr hlk hQ
  have hx := X.1
  have hb := X.2.1
  intro H locs ls hw hl
  have hl : lv_has ls 2 [(0, .ref (ga G 1)), (1, .int a1)] := hl
  unfold f_X8_cutTo at h
  refine lv_iload_n hx hb d_X8_cutTo_0 rfl (lv_at hl 1 rfl) ?_
  refine lv_if_lt (tgt := 12) hx hb d_X8_cutTo_1 (by decide) (fun hc => ?_) (fun hc => ?_)
  · have h := ite_t h hc
    refine lv_iconst (v := (0 : Int32)) hx hb d_X8_cutTo_12 (by decide) ?_
    obtain rfl := Option.some.inj h
    subst hQ
    exact r_zret X hr nbz0 hlk hw d_X8_cutTo_13
  · have h := ite_f h hc
    refine lv_iload_n hx hb d_X8_cutTo_4 rfl (lv_at hl 1 rfl) ?_
    refine lv_aload_n hx hb d_X8_cutTo_5 rfl (lv_at hl 0 rfl) ?_
    refine r_geti (j := 1) X hw ct5 (o_1 hf) (Nat.le_of_ble_eq_true rfl) rfl (Nat.le_of_ble_eq_true rfl) wd_39 d_X8_cutTo_6 ?_
    refine lv_icmp_le (tgt := 14) hx hb d_X8_cutTo_9 (by decide) (fun hc => ?_) (fun hc => ?_)
    · have h := ite_t h hc
      refine lv_aload_n hx hb d_X8_cutTo_14 rfl (lv_at hl 0 rfl) ?_
      refine lv_iload_n hx hb d_X8_cutTo_15 rfl (lv_at hl 1 rfl) ?_
      refine r_puti (j := 1) X hw ct5 (o_1 hf) (Nat.le_of_ble_eq_true rfl) rfl (Nat.le_of_ble_eq_true rfl) rfl rfl rfl wd_39 d_X8_cutTo_16 (fun H locs hw => ?_)
      refine lv_iconst (v := (1 : Int32)) hx hb d_X8_cutTo_19 (by decide) ?_
      obtain rfl := Option.some.inj h
      subst hQ
      exact r_zret X hr nbz1 hlk hw d_X8_cutTo_20
    · have h := ite_f h hc
      refine lv_iconst (v := (0 : Int32)) hx hb d_X8_cutTo_12 (by decide) ?_
      obtain rfl := Option.some.inj h
      subst hQ
      exact r_zret X hr nbz0 hlk hw d_X8_cutTo_13
abbrev yX8_digitAt : MethodName := ⟨"OysterBeds$Text", "digitAt", "(I)I"⟩
theorem mwX8_digitAt : MW yX8_digitAt prog_10_method_5_code 3 (some .int) 1 := ⟨wd_330, wd_2, by decide +kernel⟩
theorem d_X8_digitAt_0 : decode prog_10_method_5_code 0 = .ok (.aload_n 0, 1) := by decide +kernel
theorem d_X8_digitAt_1 : decode prog_10_method_5_code 1 = .ok (.iload_n 1, 1) := by decide +kernel
theorem d_X8_digitAt_2 : decode prog_10_method_5_code 2 = .ok (.invokevirtual 19, 3) := by decide +kernel
theorem d_X8_digitAt_5 : decode prog_10_method_5_code 5 = .ok (.istore_n 2, 1) := by decide +kernel
theorem d_X8_digitAt_6 : decode prog_10_method_5_code 6 = .ok (.iload_n 2, 1) := by decide +kernel
theorem d_X8_digitAt_7 : decode prog_10_method_5_code 7 = .ok (.bipush 48, 2) := by decide +kernel
theorem d_X8_digitAt_9 : decode prog_10_method_5_code 9 = .ok (.if_icmp .lt 16, 3) := by decide +kernel
theorem d_X8_digitAt_12 : decode prog_10_method_5_code 12 = .ok (.iload_n 2, 1) := by decide +kernel
theorem d_X8_digitAt_13 : decode prog_10_method_5_code 13 = .ok (.bipush 57, 2) := by decide +kernel
theorem d_X8_digitAt_15 : decode prog_10_method_5_code 15 = .ok (.if_icmp .gt 10, 3) := by decide +kernel
theorem d_X8_digitAt_18 : decode prog_10_method_5_code 18 = .ok (.iload_n 2, 1) := by decide +kernel
theorem d_X8_digitAt_19 : decode prog_10_method_5_code 19 = .ok (.bipush 48, 2) := by decide +kernel
theorem d_X8_digitAt_21 : decode prog_10_method_5_code 21 = .ok (.isub, 1) := by decide +kernel
theorem d_X8_digitAt_22 : decode prog_10_method_5_code 22 = .ok (.goto 4, 3) := by decide +kernel
theorem d_X8_digitAt_25 : decode prog_10_method_5_code 25 = .ok (.iconst (-1), 1) := by decide +kernel
theorem d_X8_digitAt_26 : decode prog_10_method_5_code 26 = .ok (.ireturn, 1) := by decide +kernel
def f_X8_digitAt (χ : St) (a1 : Int32) : Option (Int32) := (f_X8_at χ a1).bind (fun q1 => some (if q1 < (48 : Int32) then (-1 : Int32) else (if (57 : Int32) < q1 then (-1 : Int32) else (q1 - (48 : Int32)))))
theorem c_X8_digitAt {l : Launch} {G : gT} {χ σ : St} {a1 : Int32} (hf : FW G) {q : Int32} (h : f_X8_digitAt χ a1 = some q) : Ct l G yX8_digitAt prog_10_method_5_code 3 (some .int) 1 21 [.ref (ga G 1), .int a1] χ σ (some (.int q)) χ σ := by
  refine Ct.of (by decide) (Nat.le_of_ble_eq_true rfl) ?_
  intro p e s m args below meth c Q X hr hlk hQ
  have hx := X.1
  have hb := X.2.1
  intro H locs ls hw hl
  have hl : lv_has ls 3 [(0, .ref (ga G 1)), (1, .int a1)] := hl
  unfold f_X8_digitAt at h
  refine lv_aload_n hx hb d_X8_digitAt_0 rfl (lv_at hl 0 rfl) ?_
  refine lv_iload_n hx hb d_X8_digitAt_1 rfl (lv_at hl 1 rfl) ?_
  obtain ⟨q1, e2, h⟩ := bd_some h
  refine r_callV (As := [.int a1]) (rest := []) (st' := [.int q1]) X hw hl mwX8_at wd_324 wd_325 wd_323 (c_X8_at hf e2) (r_recv X hw ct5 (o_1 hf)) rfl ⟨Nat.le_of_ble_eq_true rfl, Nat.le_of_ble_eq_true rfl⟩ ⟨Nat.le_refl _, Nat.le_refl _⟩ rfl rfl (Nat.le_of_ble_eq_true rfl) d_X8_digitAt_2 (fun H locs hw => ?_)
  refine lv_istore_n (lv' := [(2, .int q1), (0, .ref (ga G 1)), (1, .int a1)]) hx hb d_X8_digitAt_5 rfl hl (Nat.le_of_ble_eq_true rfl) rfl (fun ls hl => ?_)
  refine lv_iload_n hx hb d_X8_digitAt_6 rfl (lv_at hl 0 rfl) ?_
  refine lv_bipush (v := (48 : Int32)) hx hb d_X8_digitAt_7 (by decide) ?_
  refine lv_icmp_lt (tgt := 25) hx hb d_X8_digitAt_9 (by decide) (fun hc => ?_) (fun hc => ?_)
  · simp only [if_pos hc] at h
    refine lv_iconst (v := (-1 : Int32)) hx hb d_X8_digitAt_25 (by decide) ?_
    obtain rfl := Option.some.inj h
    subst hQ
    exact r_iret X hr hlk hw d_X8_digitAt_26
  · simp only [if_neg hc] at h
    refine lv_iload_n hx hb d_X8_digitAt_12 rfl (lv_at hl 0 rfl) ?_
    refine lv_bipush (v := (57 : Int32)) hx hb d_X8_digitAt_13 (by decide) ?_
    refine lv_icmp_gt (tgt := 25) hx hb d_X8_digitAt_15 (by decide) (fun hc => ?_) (fun hc => ?_)
    · simp only [if_pos hc] at h
      refine lv_iconst (v := (-1 : Int32)) hx hb d_X8_digitAt_25 (by decide) ?_
      obtain rfl := Option.some.inj h
      subst hQ
      exact r_iret X hr hlk hw d_X8_digitAt_26
    · simp only [if_neg hc] at h
      refine lv_iload_n hx hb d_X8_digitAt_18 rfl (lv_at hl 0 rfl) ?_
      refine lv_bipush (v := (48 : Int32)) hx hb d_X8_digitAt_19 (by decide) ?_
      refine lv_isub hx hb d_X8_digitAt_21 ?_
      refine lv_goto (tgt := 26) hx hb d_X8_digitAt_22 (by decide) ?_
      obtain rfl := Option.some.inj h
      subst hQ
      exact r_iret X hr hlk hw d_X8_digitAt_26
abbrev yX8_twoDigitsAt : MethodName := ⟨"OysterBeds$Text", "twoDigitsAt", "(I)I"⟩
theorem mwX8_twoDigitsAt : MW yX8_twoDigitsAt prog_10_method_6_code 2 (some .int) 1 := ⟨wd_334, wd_2, by decide +kernel⟩
theorem d_X8_twoDigitsAt_0 : decode prog_10_method_6_code 0 = .ok (.bipush 10, 2) := by decide +kernel
theorem d_X8_twoDigitsAt_2 : decode prog_10_method_6_code 2 = .ok (.aload_n 0, 1) := by decide +kernel
theorem d_X8_twoDigitsAt_3 : decode prog_10_method_6_code 3 = .ok (.iload_n 1, 1) := by decide +kernel
theorem d_X8_twoDigitsAt_4 : decode prog_10_method_6_code 4 = .ok (.invokevirtual 23, 3) := by decide +kernel
theorem d_X8_twoDigitsAt_7 : decode prog_10_method_6_code 7 = .ok (.imul, 1) := by decide +kernel
theorem d_X8_twoDigitsAt_8 : decode prog_10_method_6_code 8 = .ok (.aload_n 0, 1) := by decide +kernel
theorem d_X8_twoDigitsAt_9 : decode prog_10_method_6_code 9 = .ok (.iload_n 1, 1) := by decide +kernel
theorem d_X8_twoDigitsAt_10 : decode prog_10_method_6_code 10 = .ok (.iconst 1, 1) := by decide +kernel
theorem d_X8_twoDigitsAt_11 : decode prog_10_method_6_code 11 = .ok (.iadd, 1) := by decide +kernel
theorem d_X8_twoDigitsAt_12 : decode prog_10_method_6_code 12 = .ok (.invokevirtual 23, 3) := by decide +kernel
theorem d_X8_twoDigitsAt_15 : decode prog_10_method_6_code 15 = .ok (.iadd, 1) := by decide +kernel
theorem d_X8_twoDigitsAt_16 : decode prog_10_method_6_code 16 = .ok (.ireturn, 1) := by decide +kernel
def f_X8_twoDigitsAt (χ : St) (a1 : Int32) : Option (Int32) := (f_X8_digitAt χ a1).bind (fun q1 => (f_X8_digitAt χ (a1 + (1 : Int32))).bind (fun q3 => some (((10 : Int32) * q1) + q3)))
theorem c_X8_twoDigitsAt {l : Launch} {G : gT} {χ σ : St} {a1 : Int32} (hf : FW G) {q : Int32} (h : f_X8_twoDigitsAt χ a1 = some q) : Ct l G yX8_twoDigitsAt prog_10_method_6_code 2 (some .int) 2 43 [.ref (ga G 1), .int a1] χ σ (some (.int q)) χ σ := by
  refine Ct.of (by decide) (Nat.le_of_ble_eq_true rfl) ?_
  intro p e s m args below meth c Q X hr hlk hQ
  have hx := X.1
  have hb := X.2.1
  intro H locs ls hw hl
  have hl : lv_has ls 2 [(0, .ref (ga G 1)), (1, .int a1)] := hl
  unfold f_X8_twoDigitsAt at h
  refine lv_bipush (v := (10 : Int32)) hx hb d_X8_twoDigitsAt_0 (by decide) ?_
  refine lv_aload_n hx hb d_X8_twoDigitsAt_2 rfl (lv_at hl 0 rfl) ?_
  refine lv_iload_n hx hb d_X8_twoDigitsAt_3 rfl (lv_at hl 1 rfl) ?_
  obtain ⟨q1, e2, h⟩ := bd_some h
  refine r_callV (As := [.int a1]) (rest := [.int (10 : Int32)]) (st' := [.int q1, .int (10 : Int32)]) X hw hl mwX8_digitAt wd_328 wd_329 wd_327 (c_X8_digitAt hf e2) (r_recv X hw ct5 (o_1 hf)) rfl ⟨Nat.le_of_ble_eq_true rfl, Nat.le_of_ble_eq_true rfl⟩ ⟨Nat.le_refl _, Nat.le_refl _⟩ rfl rfl (Nat.le_of_ble_eq_true rfl) d_X8_twoDigitsAt_4 (fun H locs hw => ?_)
  refine lv_imul hx hb d_X8_twoDigitsAt_7 ?_
  refine lv_aload_n hx hb d_X8_twoDigitsAt_8 rfl (lv_at hl 0 rfl) ?_
  refine lv_iload_n hx hb d_X8_twoDigitsAt_9 rfl (lv_at hl 1 rfl) ?_
  refine lv_iconst (v := (1 : Int32)) hx hb d_X8_twoDigitsAt_10 (by decide) ?_
  refine lv_iadd hx hb d_X8_twoDigitsAt_11 ?_
  obtain ⟨q3, e4, h⟩ := bd_some h
  refine r_callV (As := [.int (a1 + (1 : Int32))]) (rest := [.int ((10 : Int32) * q1)]) (st' := [.int q3, .int ((10 : Int32) * q1)]) X hw hl mwX8_digitAt wd_328 wd_329 wd_327 (c_X8_digitAt hf e4) (r_recv X hw ct5 (o_1 hf)) rfl ⟨Nat.le_of_ble_eq_true rfl, Nat.le_of_ble_eq_true rfl⟩ ⟨Nat.le_refl _, Nat.le_refl _⟩ rfl rfl (Nat.le_of_ble_eq_true rfl) d_X8_twoDigitsAt_12 (fun H locs hw => ?_)
  refine lv_iadd hx hb d_X8_twoDigitsAt_15 ?_
  obtain rfl := Option.some.inj h
  subst hQ
  exact r_iret X hr hlk hw d_X8_twoDigitsAt_16
abbrev yX8_canStandInLines : MethodName := ⟨"OysterBeds$Text", "canStandInLines", "(II)Z"⟩
theorem mwX8_canStandInLines : MW yX8_canStandInLines prog_10_method_8_code 4 (some .boolean) 2 := ⟨wd_322, wd_2, by decide +kernel⟩
theorem d_X8_canStandInLines_0 : decode prog_10_method_8_code 0 = .ok (.aload_n 0, 1) := by decide +kernel
theorem d_X8_canStandInLines_1 : decode prog_10_method_8_code 1 = .ok (.iload_n 1, 1) := by decide +kernel
theorem d_X8_canStandInLines_2 : decode prog_10_method_8_code 2 = .ok (.invokevirtual 19, 3) := by decide +kernel
theorem d_X8_canStandInLines_5 : decode prog_10_method_8_code 5 = .ok (.istore_n 3, 1) := by decide +kernel
theorem d_X8_canStandInLines_6 : decode prog_10_method_8_code 6 = .ok (.iload_n 1, 1) := by decide +kernel
theorem d_X8_canStandInLines_7 : decode prog_10_method_8_code 7 = .ok (.iconst 5, 1) := by decide +kernel
theorem d_X8_canStandInLines_8 : decode prog_10_method_8_code 8 = .ok (.irem, 1) := by decide +kernel
theorem d_X8_canStandInLines_9 : decode prog_10_method_8_code 9 = .ok (.tableswitch 104 0 4 #[35, 104, 104, 66, 92], 35) := by decide +kernel
theorem d_X8_canStandInLines_44 : decode prog_10_method_8_code 44 = .ok (.iload_n 1, 1) := by decide +kernel
theorem d_X8_canStandInLines_45 : decode prog_10_method_8_code 45 = .ok (.iconst 5, 1) := by decide +kernel
theorem d_X8_canStandInLines_46 : decode prog_10_method_8_code 46 = .ok (.idiv, 1) := by decide +kernel
theorem d_X8_canStandInLines_47 : decode prog_10_method_8_code 47 = .ok (.iload_n 2, 1) := by decide +kernel
theorem d_X8_canStandInLines_48 : decode prog_10_method_8_code 48 = .ok (.if_icmp .ge 25, 3) := by decide +kernel
theorem d_X8_canStandInLines_51 : decode prog_10_method_8_code 51 = .ok (.iload_n 3, 1) := by decide +kernel
theorem d_X8_canStandInLines_52 : decode prog_10_method_8_code 52 = .ok (.bipush 110, 2) := by decide +kernel
theorem d_X8_canStandInLines_54 : decode prog_10_method_8_code 54 = .ok (.if_icmp .eq 15, 3) := by decide +kernel
theorem d_X8_canStandInLines_57 : decode prog_10_method_8_code 57 = .ok (.iload_n 3, 1) := by decide +kernel
theorem d_X8_canStandInLines_58 : decode prog_10_method_8_code 58 = .ok (.bipush 112, 2) := by decide +kernel
theorem d_X8_canStandInLines_60 : decode prog_10_method_8_code 60 = .ok (.if_icmp .eq 9, 3) := by decide +kernel
theorem d_X8_canStandInLines_63 : decode prog_10_method_8_code 63 = .ok (.iload_n 3, 1) := by decide +kernel
theorem d_X8_canStandInLines_64 : decode prog_10_method_8_code 64 = .ok (.bipush 114, 2) := by decide +kernel
theorem d_X8_canStandInLines_66 : decode prog_10_method_8_code 66 = .ok (.if_icmp .ne 7, 3) := by decide +kernel
theorem d_X8_canStandInLines_69 : decode prog_10_method_8_code 69 = .ok (.iconst 1, 1) := by decide +kernel
theorem d_X8_canStandInLines_70 : decode prog_10_method_8_code 70 = .ok (.goto 4, 3) := by decide +kernel
theorem d_X8_canStandInLines_73 : decode prog_10_method_8_code 73 = .ok (.iconst 0, 1) := by decide +kernel
theorem d_X8_canStandInLines_74 : decode prog_10_method_8_code 74 = .ok (.ireturn, 1) := by decide +kernel
theorem d_X8_canStandInLines_75 : decode prog_10_method_8_code 75 = .ok (.aload_n 0, 1) := by decide +kernel
theorem d_X8_canStandInLines_76 : decode prog_10_method_8_code 76 = .ok (.iload_n 1, 1) := by decide +kernel
theorem d_X8_canStandInLines_77 : decode prog_10_method_8_code 77 = .ok (.invokevirtual 23, 3) := by decide +kernel
theorem d_X8_canStandInLines_80 : decode prog_10_method_8_code 80 = .ok (.ifCond .lt 19, 3) := by decide +kernel
theorem d_X8_canStandInLines_83 : decode prog_10_method_8_code 83 = .ok (.aload_n 0, 1) := by decide +kernel
theorem d_X8_canStandInLines_84 : decode prog_10_method_8_code 84 = .ok (.iload_n 1, 1) := by decide +kernel
theorem d_X8_canStandInLines_85 : decode prog_10_method_8_code 85 = .ok (.iconst 1, 1) := by decide +kernel
theorem d_X8_canStandInLines_86 : decode prog_10_method_8_code 86 = .ok (.isub, 1) := by decide +kernel
theorem d_X8_canStandInLines_87 : decode prog_10_method_8_code 87 = .ok (.invokevirtual 37, 3) := by decide +kernel
theorem d_X8_canStandInLines_90 : decode prog_10_method_8_code 90 = .ok (.bipush 16, 2) := by decide +kernel
theorem d_X8_canStandInLines_92 : decode prog_10_method_8_code 92 = .ok (.if_icmp .ge 7, 3) := by decide +kernel
theorem d_X8_canStandInLines_95 : decode prog_10_method_8_code 95 = .ok (.iconst 1, 1) := by decide +kernel
theorem d_X8_canStandInLines_96 : decode prog_10_method_8_code 96 = .ok (.goto 4, 3) := by decide +kernel
theorem d_X8_canStandInLines_99 : decode prog_10_method_8_code 99 = .ok (.iconst 0, 1) := by decide +kernel
theorem d_X8_canStandInLines_100 : decode prog_10_method_8_code 100 = .ok (.ireturn, 1) := by decide +kernel
theorem d_X8_canStandInLines_101 : decode prog_10_method_8_code 101 = .ok (.iload_n 3, 1) := by decide +kernel
theorem d_X8_canStandInLines_102 : decode prog_10_method_8_code 102 = .ok (.bipush 59, 2) := by decide +kernel
theorem d_X8_canStandInLines_104 : decode prog_10_method_8_code 104 = .ok (.if_icmp .ne 7, 3) := by decide +kernel
theorem d_X8_canStandInLines_107 : decode prog_10_method_8_code 107 = .ok (.iconst 1, 1) := by decide +kernel
theorem d_X8_canStandInLines_108 : decode prog_10_method_8_code 108 = .ok (.goto 4, 3) := by decide +kernel
theorem d_X8_canStandInLines_111 : decode prog_10_method_8_code 111 = .ok (.iconst 0, 1) := by decide +kernel
theorem d_X8_canStandInLines_112 : decode prog_10_method_8_code 112 = .ok (.ireturn, 1) := by decide +kernel
theorem d_X8_canStandInLines_113 : decode prog_10_method_8_code 113 = .ok (.aload_n 0, 1) := by decide +kernel
theorem d_X8_canStandInLines_114 : decode prog_10_method_8_code 114 = .ok (.iload_n 1, 1) := by decide +kernel
theorem d_X8_canStandInLines_115 : decode prog_10_method_8_code 115 = .ok (.invokevirtual 23, 3) := by decide +kernel
theorem d_X8_canStandInLines_118 : decode prog_10_method_8_code 118 = .ok (.ifCond .lt 7, 3) := by decide +kernel
theorem d_X8_canStandInLines_121 : decode prog_10_method_8_code 121 = .ok (.iconst 1, 1) := by decide +kernel
theorem d_X8_canStandInLines_122 : decode prog_10_method_8_code 122 = .ok (.goto 4, 3) := by decide +kernel
theorem d_X8_canStandInLines_125 : decode prog_10_method_8_code 125 = .ok (.iconst 0, 1) := by decide +kernel
theorem d_X8_canStandInLines_126 : decode prog_10_method_8_code 126 = .ok (.ireturn, 1) := by decide +kernel
def f_X8_canStandInLines (χ : St) (a1 : Int32) (a2 : Int32) : Option (Int32) := (f_X8_at χ a1).bind (fun q1 => (if (a1 - a1 / (5 : Int32) * (5 : Int32)) = (0 : Int32) then some (if a2 ≤ (a1 / (5 : Int32)) then (0 : Int32) else (if q1 = (110 : Int32) then (1 : Int32) else (if q1 = (112 : Int32) then (1 : Int32) else (if q1 = (114 : Int32) then (1 : Int32) else (0 : Int32))))) else if (a1 - a1 / (5 : Int32) * (5 : Int32)) = (3 : Int32) then (f_X8_digitAt χ a1).bind (fun q3 => (if q3 < 0 then some (0 : Int32) else (f_X8_twoDigitsAt χ (a1 - (1 : Int32))).bind (fun q5 => some (if (16 : Int32) ≤ q5 then (0 : Int32) else (1 : Int32))))) else if (a1 - a1 / (5 : Int32) * (5 : Int32)) = (4 : Int32) then some (if q1 = (59 : Int32) then (1 : Int32) else (0 : Int32)) else (f_X8_digitAt χ a1).bind (fun q7 => some (if q7 < 0 then (0 : Int32) else (1 : Int32)))))
theorem c_X8_canStandInLines {l : Launch} {G : gT} {χ σ : St} {a1 : Int32} {a2 : Int32} (hf : FW G) {q : Int32} (h : f_X8_canStandInLines χ a1 a2 = some q) : Ct l G yX8_canStandInLines prog_10_method_8_code 4 (some .boolean) 3 64 [.ref (ga G 1), .int a1, .int a2] χ σ (some (.int q)) χ σ := by
  refine Ct.of (by decide) (Nat.le_of_ble_eq_true rfl) ?_
  intro p e s m args below meth c Q X hr hlk hQ
  have hx := X.1
  have hb := X.2.1
  intro H locs ls hw hl
  have hl : lv_has ls 4 [(0, .ref (ga G 1)), (1, .int a1), (2, .int a2)] := hl
  unfold f_X8_canStandInLines at h
  refine lv_aload_n hx hb d_X8_canStandInLines_0 rfl (lv_at hl 0 rfl) ?_
  refine lv_iload_n hx hb d_X8_canStandInLines_1 rfl (lv_at hl 1 rfl) ?_
  obtain ⟨q1, e2, h⟩ := bd_some h
  refine r_callV (As := [.int a1]) (rest := []) (st' := [.int q1]) X hw hl mwX8_at wd_324 wd_325 wd_323 (c_X8_at hf e2) (r_recv X hw ct5 (o_1 hf)) rfl ⟨Nat.le_of_ble_eq_true rfl, Nat.le_of_ble_eq_true rfl⟩ ⟨Nat.le_refl _, Nat.le_refl _⟩ rfl rfl (Nat.le_of_ble_eq_true rfl) d_X8_canStandInLines_2 (fun H locs hw => ?_)
  refine lv_istore_n (lv' := [(3, .int q1), (0, .ref (ga G 1)), (1, .int a1), (2, .int a2)]) hx hb d_X8_canStandInLines_5 rfl hl (Nat.le_of_ble_eq_true rfl) rfl (fun ls hl => ?_)
  refine lv_iload_n hx hb d_X8_canStandInLines_6 rfl (lv_at hl 2 rfl) ?_
  refine lv_iconst (v := (5 : Int32)) hx hb d_X8_canStandInLines_7 (by decide) ?_
  refine lv_irem hx hb d_X8_canStandInLines_8 (by decide) ?_
  by_cases hc0 : (a1 - a1 / (5 : Int32) * (5 : Int32)) = (0 : Int32)
  · have h := ite_t h hc0
    refine lv_tableIn (tgt := 44) hx hb d_X8_canStandInLines_9 (by rw [hc0]; decide) (by rw [hc0]; decide) (by rw [hc0]; rfl) (by decide) ?_
    refine lv_iload_n hx hb d_X8_canStandInLines_44 rfl (lv_at hl 2 rfl) ?_
    refine lv_iconst (v := (5 : Int32)) hx hb d_X8_canStandInLines_45 (by decide) ?_
    refine lv_idiv hx hb d_X8_canStandInLines_46 (by decide) ?_
    refine lv_iload_n hx hb d_X8_canStandInLines_47 rfl (lv_at hl 3 rfl) ?_
    refine lv_icmp_ge (tgt := 73) hx hb d_X8_canStandInLines_48 (by decide) (fun hc => ?_) (fun hc => ?_)
    · simp only [if_pos hc] at h
      refine lv_iconst (v := (0 : Int32)) hx hb d_X8_canStandInLines_73 (by decide) ?_
      obtain rfl := Option.some.inj h
      subst hQ
      exact r_zret X hr nbz0 hlk hw d_X8_canStandInLines_74
    · simp only [if_neg hc] at h
      refine lv_iload_n hx hb d_X8_canStandInLines_51 rfl (lv_at hl 0 rfl) ?_
      refine lv_bipush (v := (110 : Int32)) hx hb d_X8_canStandInLines_52 (by decide) ?_
      refine lv_icmp_eq (tgt := 69) hx hb d_X8_canStandInLines_54 (by decide) (fun hc => ?_) (fun hc => ?_)
      · simp only [if_pos hc] at h
        refine lv_iconst (v := (1 : Int32)) hx hb d_X8_canStandInLines_69 (by decide) ?_
        refine lv_goto (tgt := 74) hx hb d_X8_canStandInLines_70 (by decide) ?_
        obtain rfl := Option.some.inj h
        subst hQ
        exact r_zret X hr nbz1 hlk hw d_X8_canStandInLines_74
      · simp only [if_neg hc] at h
        refine lv_iload_n hx hb d_X8_canStandInLines_57 rfl (lv_at hl 0 rfl) ?_
        refine lv_bipush (v := (112 : Int32)) hx hb d_X8_canStandInLines_58 (by decide) ?_
        refine lv_icmp_eq (tgt := 69) hx hb d_X8_canStandInLines_60 (by decide) (fun hc => ?_) (fun hc => ?_)
        · simp only [if_pos hc] at h
          refine lv_iconst (v := (1 : Int32)) hx hb d_X8_canStandInLines_69 (by decide) ?_
          refine lv_goto (tgt := 74) hx hb d_X8_canStandInLines_70 (by decide) ?_
          obtain rfl := Option.some.inj h
          subst hQ
          exact r_zret X hr nbz1 hlk hw d_X8_canStandInLines_74
        · simp only [if_neg hc] at h
          refine lv_iload_n hx hb d_X8_canStandInLines_63 rfl (lv_at hl 0 rfl) ?_
          refine lv_bipush (v := (114 : Int32)) hx hb d_X8_canStandInLines_64 (by decide) ?_
          refine lv_icmp_ne (tgt := 73) hx hb d_X8_canStandInLines_66 (by decide) (fun hc => ?_) (fun hc => ?_)
          · simp only [if_neg hc] at h
            refine lv_iconst (v := (0 : Int32)) hx hb d_X8_canStandInLines_73 (by decide) ?_
            obtain rfl := Option.some.inj h
            subst hQ
            exact r_zret X hr nbz0 hlk hw d_X8_canStandInLines_74
          · simp only [if_pos hc] at h
            refine lv_iconst (v := (1 : Int32)) hx hb d_X8_canStandInLines_69 (by decide) ?_
            refine lv_goto (tgt := 74) hx hb d_X8_canStandInLines_70 (by decide) ?_
            obtain rfl := Option.some.inj h
            subst hQ
            exact r_zret X hr nbz1 hlk hw d_X8_canStandInLines_74
  have h := ite_f h hc0
  by_cases hc1 : (a1 - a1 / (5 : Int32) * (5 : Int32)) = (3 : Int32)
  · have h := ite_t h hc1
    refine lv_tableIn (tgt := 75) hx hb d_X8_canStandInLines_9 (by rw [hc1]; decide) (by rw [hc1]; decide) (by rw [hc1]; rfl) (by decide) ?_
    refine lv_aload_n hx hb d_X8_canStandInLines_75 rfl (lv_at hl 1 rfl) ?_
    refine lv_iload_n hx hb d_X8_canStandInLines_76 rfl (lv_at hl 2 rfl) ?_
    obtain ⟨q3, e4, h⟩ := bd_some h
    refine r_callV (As := [.int a1]) (rest := []) (st' := [.int q3]) X hw hl mwX8_digitAt wd_328 wd_329 wd_327 (c_X8_digitAt hf e4) (r_recv X hw ct5 (o_1 hf)) rfl ⟨Nat.le_of_ble_eq_true rfl, Nat.le_of_ble_eq_true rfl⟩ ⟨Nat.le_refl _, Nat.le_refl _⟩ rfl rfl (Nat.le_of_ble_eq_true rfl) d_X8_canStandInLines_77 (fun H locs hw => ?_)
    refine lv_if_lt (tgt := 99) hx hb d_X8_canStandInLines_80 (by decide) (fun hc => ?_) (fun hc => ?_)
    · have h := ite_t h hc
      refine lv_iconst (v := (0 : Int32)) hx hb d_X8_canStandInLines_99 (by decide) ?_
      obtain rfl := Option.some.inj h
      subst hQ
      exact r_zret X hr nbz0 hlk hw d_X8_canStandInLines_100
    · have h := ite_f h hc
      refine lv_aload_n hx hb d_X8_canStandInLines_83 rfl (lv_at hl 1 rfl) ?_
      refine lv_iload_n hx hb d_X8_canStandInLines_84 rfl (lv_at hl 2 rfl) ?_
      refine lv_iconst (v := (1 : Int32)) hx hb d_X8_canStandInLines_85 (by decide) ?_
      refine lv_isub hx hb d_X8_canStandInLines_86 ?_
      obtain ⟨q5, e6, h⟩ := bd_some h
      refine r_callV (As := [.int (a1 - (1 : Int32))]) (rest := []) (st' := [.int q5]) X hw hl mwX8_twoDigitsAt wd_332 wd_333 wd_331 (c_X8_twoDigitsAt hf e6) (r_recv X hw ct5 (o_1 hf)) rfl ⟨Nat.le_of_ble_eq_true rfl, Nat.le_of_ble_eq_true rfl⟩ ⟨Nat.le_refl _, Nat.le_refl _⟩ rfl rfl (Nat.le_of_ble_eq_true rfl) d_X8_canStandInLines_87 (fun H locs hw => ?_)
      refine lv_bipush (v := (16 : Int32)) hx hb d_X8_canStandInLines_90 (by decide) ?_
      refine lv_icmp_ge (tgt := 99) hx hb d_X8_canStandInLines_92 (by decide) (fun hc => ?_) (fun hc => ?_)
      · simp only [if_pos hc] at h
        refine lv_iconst (v := (0 : Int32)) hx hb d_X8_canStandInLines_99 (by decide) ?_
        obtain rfl := Option.some.inj h
        subst hQ
        exact r_zret X hr nbz0 hlk hw d_X8_canStandInLines_100
      · simp only [if_neg hc] at h
        refine lv_iconst (v := (1 : Int32)) hx hb d_X8_canStandInLines_95 (by decide) ?_
        refine lv_goto (tgt := 100) hx hb d_X8_canStandInLines_96 (by decide) ?_
        obtain rfl := Option.some.inj h
        subst hQ
        exact r_zret X hr nbz1 hlk hw d_X8_canStandInLines_100
  have h := ite_f h hc1
  by_cases hc2 : (a1 - a1 / (5 : Int32) * (5 : Int32)) = (4 : Int32)
  · have h := ite_t h hc2
    refine lv_tableIn (tgt := 101) hx hb d_X8_canStandInLines_9 (by rw [hc2]; decide) (by rw [hc2]; decide) (by rw [hc2]; rfl) (by decide) ?_
    refine lv_iload_n hx hb d_X8_canStandInLines_101 rfl (lv_at hl 0 rfl) ?_
    refine lv_bipush (v := (59 : Int32)) hx hb d_X8_canStandInLines_102 (by decide) ?_
    refine lv_icmp_ne (tgt := 111) hx hb d_X8_canStandInLines_104 (by decide) (fun hc => ?_) (fun hc => ?_)
    · simp only [if_neg hc] at h
      refine lv_iconst (v := (0 : Int32)) hx hb d_X8_canStandInLines_111 (by decide) ?_
      obtain rfl := Option.some.inj h
      subst hQ
      exact r_zret X hr nbz0 hlk hw d_X8_canStandInLines_112
    · simp only [if_pos hc] at h
      refine lv_iconst (v := (1 : Int32)) hx hb d_X8_canStandInLines_107 (by decide) ?_
      refine lv_goto (tgt := 112) hx hb d_X8_canStandInLines_108 (by decide) ?_
      obtain rfl := Option.some.inj h
      subst hQ
      exact r_zret X hr nbz1 hlk hw d_X8_canStandInLines_112
  have h := ite_f h hc2
  have hn0 := lv_neT hc0 (a := 0) (by decide)
  have hn1 := lv_neT hc1 (a := 3) (by decide)
  have hn2 := lv_neT hc2 (a := 4) (by decide)
  refine lv_tabD (tgt := 113) hx hb d_X8_canStandInLines_9 ?_ (by decide) ?_
  · have hg : (a1 - a1 / (5 : Int32) * (5 : Int32)).toInt < 0 ∨ 4 < (a1 - a1 / (5 : Int32) * (5 : Int32)).toInt ∨ (a1 - a1 / (5 : Int32) * (5 : Int32)).toInt = 1 ∨ (a1 - a1 / (5 : Int32) * (5 : Int32)).toInt = 2 := by omega
    rcases hg with hg | hg | hg | hg
    · exact Or.inl hg
    · exact Or.inr (Or.inl hg)
    · exact Or.inr (Or.inr ⟨by rw [hg]; decide, by rw [hg]; decide, by rw [hg]; rfl⟩)
    · exact Or.inr (Or.inr ⟨by rw [hg]; decide, by rw [hg]; decide, by rw [hg]; rfl⟩)
  refine lv_aload_n hx hb d_X8_canStandInLines_113 rfl (lv_at hl 1 rfl) ?_
  refine lv_iload_n hx hb d_X8_canStandInLines_114 rfl (lv_at hl 2 rfl) ?_
  obtain ⟨q7, e8, h⟩ := bd_some h
  refine r_callV (As := [.int a1]) (rest := []) (st' := [.int q7]) X hw hl mwX8_digitAt wd_328 wd_329 wd_327 (c_X8_digitAt hf e8) (r_recv X hw ct5 (o_1 hf)) rfl ⟨Nat.le_of_ble_eq_true rfl, Nat.le_of_ble_eq_true rfl⟩ ⟨Nat.le_refl _, Nat.le_refl _⟩ rfl rfl (Nat.le_of_ble_eq_true rfl) d_X8_canStandInLines_115 (fun H locs hw => ?_)
  refine lv_if_lt (tgt := 125) hx hb d_X8_canStandInLines_118 (by decide) (fun hc => ?_) (fun hc => ?_)
  · simp only [if_pos hc] at h
    refine lv_iconst (v := (0 : Int32)) hx hb d_X8_canStandInLines_125 (by decide) ?_
    obtain rfl := Option.some.inj h
    subst hQ
    exact r_zret X hr nbz0 hlk hw d_X8_canStandInLines_126
  · simp only [if_neg hc] at h
    refine lv_iconst (v := (1 : Int32)) hx hb d_X8_canStandInLines_121 (by decide) ?_
    refine lv_goto (tgt := 126) hx hb d_X8_canStandInLines_122 (by decide) ?_
    obtain rfl := Option.some.inj h
    subst hQ
    exact r_zret X hr nbz1 hlk hw d_X8_canStandInLines_126
abbrev yX8_faultAsLines : MethodName := ⟨"OysterBeds$Text", "faultAsLines", "(I)I"⟩
theorem mwX8_faultAsLines : MW yX8_faultAsLines prog_10_method_7_code 4 (some .int) 1 := ⟨wd_315, wd_2, by decide +kernel⟩
theorem d_X8_faultAsLines_0 : decode prog_10_method_7_code 0 = .ok (.aload_n 0, 1) := by decide +kernel
theorem d_X8_faultAsLines_1 : decode prog_10_method_7_code 1 = .ok (.getfield 15, 3) := by decide +kernel
theorem d_X8_faultAsLines_4 : decode prog_10_method_7_code 4 = .ok (.bipush 39, 2) := by decide +kernel
theorem d_X8_faultAsLines_6 : decode prog_10_method_7_code 6 = .ok (.invokestatic 27, 3) := by decide +kernel
theorem d_X8_faultAsLines_9 : decode prog_10_method_7_code 9 = .ok (.istore_n 2, 1) := by decide +kernel
theorem d_X8_faultAsLines_10 : decode prog_10_method_7_code 10 = .ok (.iconst 0, 1) := by decide +kernel
theorem d_X8_faultAsLines_11 : decode prog_10_method_7_code 11 = .ok (.istore_n 3, 1) := by decide +kernel
theorem d_X8_faultAsLines_12 : decode prog_10_method_7_code 12 = .ok (.iload_n 3, 1) := by decide +kernel
theorem d_X8_faultAsLines_13 : decode prog_10_method_7_code 13 = .ok (.iload_n 2, 1) := by decide +kernel
theorem d_X8_faultAsLines_14 : decode prog_10_method_7_code 14 = .ok (.if_icmp .ge 20, 3) := by decide +kernel
theorem d_X8_faultAsLines_17 : decode prog_10_method_7_code 17 = .ok (.aload_n 0, 1) := by decide +kernel
theorem d_X8_faultAsLines_18 : decode prog_10_method_7_code 18 = .ok (.iload_n 3, 1) := by decide +kernel
theorem d_X8_faultAsLines_19 : decode prog_10_method_7_code 19 = .ok (.iload_n 1, 1) := by decide +kernel
theorem d_X8_faultAsLines_20 : decode prog_10_method_7_code 20 = .ok (.invokevirtual 33, 3) := by decide +kernel
theorem d_X8_faultAsLines_23 : decode prog_10_method_7_code 23 = .ok (.ifCond .ne 5, 3) := by decide +kernel
theorem d_X8_faultAsLines_26 : decode prog_10_method_7_code 26 = .ok (.iload_n 3, 1) := by decide +kernel
theorem d_X8_faultAsLines_27 : decode prog_10_method_7_code 27 = .ok (.ireturn, 1) := by decide +kernel
theorem d_X8_faultAsLines_28 : decode prog_10_method_7_code 28 = .ok (.iinc 3 1, 3) := by decide +kernel
theorem d_X8_faultAsLines_31 : decode prog_10_method_7_code 31 = .ok (.goto (-19), 3) := by decide +kernel
theorem d_X8_faultAsLines_34 : decode prog_10_method_7_code 34 = .ok (.aload_n 0, 1) := by decide +kernel
theorem d_X8_faultAsLines_35 : decode prog_10_method_7_code 35 = .ok (.getfield 15, 3) := by decide +kernel
theorem d_X8_faultAsLines_38 : decode prog_10_method_7_code 38 = .ok (.bipush 39, 2) := by decide +kernel
theorem d_X8_faultAsLines_40 : decode prog_10_method_7_code 40 = .ok (.if_icmp .le 6, 3) := by decide +kernel
theorem d_X8_faultAsLines_43 : decode prog_10_method_7_code 43 = .ok (.bipush 39, 2) := by decide +kernel
theorem d_X8_faultAsLines_45 : decode prog_10_method_7_code 45 = .ok (.ireturn, 1) := by decide +kernel
theorem d_X8_faultAsLines_46 : decode prog_10_method_7_code 46 = .ok (.aload_n 0, 1) := by decide +kernel
theorem d_X8_faultAsLines_47 : decode prog_10_method_7_code 47 = .ok (.getfield 15, 3) := by decide +kernel
theorem d_X8_faultAsLines_50 : decode prog_10_method_7_code 50 = .ok (.ifCond .eq 13, 3) := by decide +kernel
theorem d_X8_faultAsLines_53 : decode prog_10_method_7_code 53 = .ok (.aload_n 0, 1) := by decide +kernel
theorem d_X8_faultAsLines_54 : decode prog_10_method_7_code 54 = .ok (.getfield 15, 3) := by decide +kernel
theorem d_X8_faultAsLines_57 : decode prog_10_method_7_code 57 = .ok (.iconst 5, 1) := by decide +kernel
theorem d_X8_faultAsLines_58 : decode prog_10_method_7_code 58 = .ok (.irem, 1) := by decide +kernel
theorem d_X8_faultAsLines_59 : decode prog_10_method_7_code 59 = .ok (.iconst 4, 1) := by decide +kernel
theorem d_X8_faultAsLines_60 : decode prog_10_method_7_code 60 = .ok (.if_icmp .ne 7, 3) := by decide +kernel
theorem d_X8_faultAsLines_63 : decode prog_10_method_7_code 63 = .ok (.iconst (-1), 1) := by decide +kernel
theorem d_X8_faultAsLines_64 : decode prog_10_method_7_code 64 = .ok (.goto 7, 3) := by decide +kernel
theorem d_X8_faultAsLines_67 : decode prog_10_method_7_code 67 = .ok (.aload_n 0, 1) := by decide +kernel
theorem d_X8_faultAsLines_68 : decode prog_10_method_7_code 68 = .ok (.getfield 15, 3) := by decide +kernel
theorem d_X8_faultAsLines_71 : decode prog_10_method_7_code 71 = .ok (.ireturn, 1) := by decide +kernel
def f_X8_faultAsLines_s12 (χ : St) (y1 : Int32) (y2 : Int32) (x3 : Int32) : Option ((Int32) ⊕ ((Int32) ⊕ (Unit))) := (if y2 ≤ x3 then some (.inr (.inr ())) else (f_X8_canStandInLines χ x3 y1).bind (fun q1 => (if q1 = 0 then some (.inr (.inl x3)) else some (.inl (x3 + (1 : Int32))))))
def f_X8_faultAsLines (χ : St) (a1 : Int32) : Option (Int32) := (iter (fun z => f_X8_faultAsLines_s12 χ a1 (if (39 : Int32) < (cF χ 1 1) then (39 : Int32) else (cF χ 1 1)) z) FU (0 : Int32)).bind (Sum.elim (fun r => some r) (fun z3 => some (if (cF χ 1 1) ≤ (39 : Int32) then (if (cF χ 1 1) = 0 then (-1 : Int32) else (if ((cF χ 1 1) - (cF χ 1 1) / (5 : Int32) * (5 : Int32)) = (4 : Int32) then (-1 : Int32) else (cF χ 1 1))) else (39 : Int32))))
theorem c_X8_faultAsLines {l : Launch} {G : gT} {χ σ : St} {a1 : Int32} (hf : FW G) {q : Int32} (h : f_X8_faultAsLines χ a1 = some q) : Ct l G yX8_faultAsLines prog_10_method_7_code 4 (some .int) 4 87 [.ref (ga G 1), .int a1] χ σ (some (.int q)) χ σ := by
  refine Ct.of (by decide) (Nat.le_of_ble_eq_true rfl) ?_
  intro p e s m args below meth c Q X hr hlk hQ
  have hx := X.1
  have hb := X.2.1
  have b12 : ∀ (y1 : Int32) (y2 : Int32) (x3 : Int32) (o : (Int32) ⊕ ((Int32) ⊕ (Unit))), f_X8_faultAsLines_s12 χ y1 y2 x3 = some o → Sum.elim (fun z : Int32 => Wat p l e (rmk 4 87) s m args below meth c Q G 4 12 [] [(3, .int z), (0, .ref (ga G 1)), (1, .int y1), (2, .int y2)] χ σ) (Sum.elim (fun r : Int32 => r = q) (fun z : Unit => Wat p l e (rmk 4 87) s m args below meth c Q G 4 34 [] [(0, .ref (ga G 1))] χ σ)) o → Wat p l e (rmk 4 87) s m args below meth c Q G 4 12 [] [(3, .int x3), (0, .ref (ga G 1)), (1, .int y1), (2, .int y2)] χ σ := by
    intro y1 y2 x3 o h hk H locs ls hw hl
    unfold f_X8_faultAsLines_s12 at h
    refine lv_iload_n hx hb d_X8_faultAsLines_12 rfl (lv_at hl 0 rfl) ?_
    refine lv_iload_n hx hb d_X8_faultAsLines_13 rfl (lv_at hl 3 rfl) ?_
    refine lv_icmp_ge (tgt := 34) hx hb d_X8_faultAsLines_14 (by decide) (fun hc => ?_) (fun hc => ?_)
    · have h := ite_t h hc
      obtain rfl := Option.some.inj h
      dsimp only [Sum.elim_inr, Sum.elim_inl] at hk
      exact hk _ _ _ hw (lv_sub hl [1] rfl)
    · have h := ite_f h hc
      refine lv_aload_n hx hb d_X8_faultAsLines_17 rfl (lv_at hl 1 rfl) ?_
      refine lv_iload_n hx hb d_X8_faultAsLines_18 rfl (lv_at hl 0 rfl) ?_
      refine lv_iload_n hx hb d_X8_faultAsLines_19 rfl (lv_at hl 2 rfl) ?_
      obtain ⟨q1, e2, h⟩ := bd_some h
      refine r_callV (As := [.int x3, .int y1]) (rest := []) (st' := [.int q1]) X hw hl mwX8_canStandInLines wd_321 wp_9 wd_319 (c_X8_canStandInLines hf e2) (r_recv X hw ct5 (o_1 hf)) rfl ⟨Nat.le_of_ble_eq_true rfl, Nat.le_of_ble_eq_true rfl⟩ ⟨Nat.le_refl _, Nat.le_refl _⟩ rfl rfl (Nat.le_of_ble_eq_true rfl) d_X8_faultAsLines_20 (fun H locs hw => ?_)
      refine lv_if_ne (tgt := 28) hx hb d_X8_faultAsLines_23 (by decide) (fun hc => ?_) (fun hc => ?_)
      · have h := ite_f h hc
        refine lv_iinc (v := (x3 + (1 : Int32))) (k := 0) (lv' := [(3, .int (x3 + (1 : Int32))), (0, .ref (ga G 1)), (1, .int y1), (2, .int y2)]) hx hb d_X8_faultAsLines_28 hl rfl (by rfl) (Nat.le_of_ble_eq_true rfl) rfl (fun ls hl => ?_)
        refine lv_goto (tgt := 12) hx hb d_X8_faultAsLines_31 (by decide) ?_
        obtain rfl := Option.some.inj h
        dsimp only [Sum.elim_inl] at hk
        exact hk _ _ _ hw (lv_sub hl [0, 1, 2, 3] rfl)
      · have h := ite_t h hc
        refine lv_iload_n hx hb d_X8_faultAsLines_26 rfl (lv_at hl 0 rfl) ?_
        obtain rfl := Option.some.inj h
        cases (show _ = q from hk)
        subst hQ
        exact r_iret X hr hlk hw d_X8_faultAsLines_27
  intro H locs ls hw hl
  have hl : lv_has ls 4 [(0, .ref (ga G 1)), (1, .int a1)] := hl
  unfold f_X8_faultAsLines at h
  refine lv_aload_n hx hb d_X8_faultAsLines_0 rfl (lv_at hl 0 rfl) ?_
  refine r_geti (j := 1) X hw ct5 (o_1 hf) (Nat.le_of_ble_eq_true rfl) rfl (Nat.le_of_ble_eq_true rfl) wd_39 d_X8_faultAsLines_1 ?_
  refine lv_bipush (v := (39 : Int32)) hx hb d_X8_faultAsLines_4 (by decide) ?_
  refine r_min X hl wd_316 ⟨Nat.le_of_ble_eq_true rfl, Nat.le_of_ble_eq_true rfl⟩ ⟨Nat.le_refl _, Nat.le_refl _⟩ d_X8_faultAsLines_6 ?_
  refine lv_istore_n (lv' := [(2, .int (if (39 : Int32) < (cF χ 1 1) then (39 : Int32) else (cF χ 1 1))), (0, .ref (ga G 1)), (1, .int a1)]) hx hb d_X8_faultAsLines_9 rfl hl (Nat.le_of_ble_eq_true rfl) rfl (fun ls hl => ?_)
  refine lv_iconst (v := (0 : Int32)) hx hb d_X8_faultAsLines_10 (by decide) ?_
  refine lv_istore_n (lv' := [(3, .int (0 : Int32)), (2, .int (if (39 : Int32) < (cF χ 1 1) then (39 : Int32) else (cF χ 1 1))), (0, .ref (ga G 1)), (1, .int a1)]) hx hb d_X8_faultAsLines_11 rfl hl (Nat.le_of_ble_eq_true rfl) rfl (fun ls hl => ?_)
  obtain ⟨z3, e4, h⟩ := bd_some h
  refine iter_w (Wh := fun z : Int32 => Wat p l e (rmk 4 87) s m args below meth c Q G 4 12 [] [(3, .int z), (0, .ref (ga G 1)), (1, .int a1), (2, .int (if (39 : Int32) < (cF χ 1 1) then (39 : Int32) else (cF χ 1 1)))] χ σ) (K := Sum.elim (fun r : Int32 => r = q) (fun z : Unit => Wat p l e (rmk 4 87) s m args below meth c Q G 4 34 [] [(0, .ref (ga G 1))] χ σ)) (fun z o h1 h2 => b12 a1 (if (39 : Int32) < (cF χ 1 1) then (39 : Int32) else (cF χ 1 1)) z o h1 h2) FU _ _ e4 ?_ _ _ _ hw (lv_sub hl [0, 2, 3, 1] rfl)
  rcases z3 with r | z3
  · exact Option.some.inj h
  · dsimp only [Sum.elim_inr] at h ⊢
    intro H locs ls hw hl
    refine lv_aload_n hx hb d_X8_faultAsLines_34 rfl (lv_at hl 0 rfl) ?_
    refine r_geti (j := 1) X hw ct5 (o_1 hf) (Nat.le_of_ble_eq_true rfl) rfl (Nat.le_of_ble_eq_true rfl) wd_39 d_X8_faultAsLines_35 ?_
    refine lv_bipush (v := (39 : Int32)) hx hb d_X8_faultAsLines_38 (by decide) ?_
    refine lv_icmp_le (tgt := 46) hx hb d_X8_faultAsLines_40 (by decide) (fun hc => ?_) (fun hc => ?_)
    · simp only [if_pos hc] at h
      refine lv_aload_n hx hb d_X8_faultAsLines_46 rfl (lv_at hl 0 rfl) ?_
      refine r_geti (j := 1) X hw ct5 (o_1 hf) (Nat.le_of_ble_eq_true rfl) rfl (Nat.le_of_ble_eq_true rfl) wd_39 d_X8_faultAsLines_47 ?_
      refine lv_if_eq (tgt := 63) hx hb d_X8_faultAsLines_50 (by decide) (fun hc => ?_) (fun hc => ?_)
      · simp only [if_pos hc] at h
        refine lv_iconst (v := (-1 : Int32)) hx hb d_X8_faultAsLines_63 (by decide) ?_
        refine lv_goto (tgt := 71) hx hb d_X8_faultAsLines_64 (by decide) ?_
        obtain rfl := Option.some.inj h
        subst hQ
        exact r_iret X hr hlk hw d_X8_faultAsLines_71
      · simp only [if_neg hc] at h
        refine lv_aload_n hx hb d_X8_faultAsLines_53 rfl (lv_at hl 0 rfl) ?_
        refine r_geti (j := 1) X hw ct5 (o_1 hf) (Nat.le_of_ble_eq_true rfl) rfl (Nat.le_of_ble_eq_true rfl) wd_39 d_X8_faultAsLines_54 ?_
        refine lv_iconst (v := (5 : Int32)) hx hb d_X8_faultAsLines_57 (by decide) ?_
        refine lv_irem hx hb d_X8_faultAsLines_58 (by decide) ?_
        refine lv_iconst (v := (4 : Int32)) hx hb d_X8_faultAsLines_59 (by decide) ?_
        refine lv_icmp_ne (tgt := 67) hx hb d_X8_faultAsLines_60 (by decide) (fun hc => ?_) (fun hc => ?_)
        · simp only [if_neg hc] at h
          refine lv_aload_n hx hb d_X8_faultAsLines_67 rfl (lv_at hl 0 rfl) ?_
          refine r_geti (j := 1) X hw ct5 (o_1 hf) (Nat.le_of_ble_eq_true rfl) rfl (Nat.le_of_ble_eq_true rfl) wd_39 d_X8_faultAsLines_68 ?_
          obtain rfl := Option.some.inj h
          subst hQ
          exact r_iret X hr hlk hw d_X8_faultAsLines_71
        · simp only [if_pos hc] at h
          refine lv_iconst (v := (-1 : Int32)) hx hb d_X8_faultAsLines_63 (by decide) ?_
          refine lv_goto (tgt := 71) hx hb d_X8_faultAsLines_64 (by decide) ?_
          obtain rfl := Option.some.inj h
          subst hQ
          exact r_iret X hr hlk hw d_X8_faultAsLines_71
    · simp only [if_neg hc] at h
      refine lv_bipush (v := (39 : Int32)) hx hb d_X8_faultAsLines_43 (by decide) ?_
      obtain rfl := Option.some.inj h
      subst hQ
      exact r_iret X hr hlk hw d_X8_faultAsLines_45
abbrev yX8_digitsBehind : MethodName := ⟨"OysterBeds$Text", "digitsBehind", "(C)I"⟩
theorem mwX8_digitsBehind : MW yX8_digitsBehind prog_10_method_10_code 1 (some .int) 1 := ⟨wd_490, wd_2, by decide +kernel⟩
theorem d_X8_digitsBehind_0 : decode prog_10_method_10_code 0 = .ok (.iload_n 0, 1) := by decide +kernel
theorem d_X8_digitsBehind_1 : decode prog_10_method_10_code 1 = .ok (.lookupswitch 57 #[(102, 53), (107, 51), (110, 51), (113, 53), (118, 55)], 51) := by decide +kernel
theorem d_X8_digitsBehind_52 : decode prog_10_method_10_code 52 = .ok (.iconst 1, 1) := by decide +kernel
theorem d_X8_digitsBehind_53 : decode prog_10_method_10_code 53 = .ok (.ireturn, 1) := by decide +kernel
theorem d_X8_digitsBehind_54 : decode prog_10_method_10_code 54 = .ok (.iconst 2, 1) := by decide +kernel
theorem d_X8_digitsBehind_55 : decode prog_10_method_10_code 55 = .ok (.ireturn, 1) := by decide +kernel
theorem d_X8_digitsBehind_56 : decode prog_10_method_10_code 56 = .ok (.iconst 3, 1) := by decide +kernel
theorem d_X8_digitsBehind_57 : decode prog_10_method_10_code 57 = .ok (.ireturn, 1) := by decide +kernel
theorem d_X8_digitsBehind_58 : decode prog_10_method_10_code 58 = .ok (.iconst 0, 1) := by decide +kernel
theorem d_X8_digitsBehind_59 : decode prog_10_method_10_code 59 = .ok (.ireturn, 1) := by decide +kernel
theorem swD_X8_digitsBehind_1 {x : Int32} (h0 : ¬ x = (102 : Int32)) (h1 : ¬ x = (107 : Int32)) (h2 : ¬ x = (110 : Int32)) (h3 : ¬ x = (113 : Int32)) (h4 : ¬ x = (118 : Int32)) : Op.lookupswitch.offset [(102, 53), (107, 51), (110, 51), (113, 53), (118, 55)] 57 x.toInt = 57 := by
  rw [lv_osw h0 (by decide), lv_osw h1 (by decide), lv_osw h2 (by decide), lv_osw h3 (by decide), lv_osw h4 (by decide)]
  first | done | rfl
def f_X8_digitsBehind (a0 : Int32) : Option (Int32) := (if a0 = (102 : Int32) then some (2 : Int32) else if a0 = (107 : Int32) then some (1 : Int32) else if a0 = (110 : Int32) then some (1 : Int32) else if a0 = (113 : Int32) then some (2 : Int32) else if a0 = (118 : Int32) then some (3 : Int32) else some (0 : Int32))
theorem c_X8_digitsBehind {l : Launch} {G : gT} {χ σ : St} {a0 : Int32} (hf : FW G) {q : Int32} (h : f_X8_digitsBehind a0 = some q) : Ct l G yX8_digitsBehind prog_10_method_10_code 1 (some .int) 0 0 [.int a0] χ σ (some (.int q)) χ σ := by
  refine Ct.of (by decide) (Nat.le_of_ble_eq_true rfl) ?_
  intro p e s m args below meth c Q X hr hlk hQ
  have hx := X.1
  have hb := X.2.1
  intro H locs ls hw hl
  have hl : lv_has ls 1 [(0, .int a0)] := hl
  unfold f_X8_digitsBehind at h
  refine lv_iload_n hx hb d_X8_digitsBehind_0 rfl (lv_at hl 0 rfl) ?_
  by_cases hc0 : a0 = (102 : Int32)
  · have h := ite_t h hc0
    refine lv_lookup (tgt := 54) hx hb d_X8_digitsBehind_1 (by decide) (by rw [hc0]; first | done | rfl) (by decide) ?_
    refine lv_iconst (v := (2 : Int32)) hx hb d_X8_digitsBehind_54 (by decide) ?_
    obtain rfl := Option.some.inj h
    subst hQ
    exact r_iret X hr hlk hw d_X8_digitsBehind_55
  have h := ite_f h hc0
  by_cases hc1 : a0 = (107 : Int32)
  · have h := ite_t h hc1
    refine lv_lookup (tgt := 52) hx hb d_X8_digitsBehind_1 (by decide) (by rw [hc1]; first | done | rfl) (by decide) ?_
    refine lv_iconst (v := (1 : Int32)) hx hb d_X8_digitsBehind_52 (by decide) ?_
    obtain rfl := Option.some.inj h
    subst hQ
    exact r_iret X hr hlk hw d_X8_digitsBehind_53
  have h := ite_f h hc1
  by_cases hc2 : a0 = (110 : Int32)
  · have h := ite_t h hc2
    refine lv_lookup (tgt := 52) hx hb d_X8_digitsBehind_1 (by decide) (by rw [hc2]; first | done | rfl) (by decide) ?_
    refine lv_iconst (v := (1 : Int32)) hx hb d_X8_digitsBehind_52 (by decide) ?_
    obtain rfl := Option.some.inj h
    subst hQ
    exact r_iret X hr hlk hw d_X8_digitsBehind_53
  have h := ite_f h hc2
  by_cases hc3 : a0 = (113 : Int32)
  · have h := ite_t h hc3
    refine lv_lookup (tgt := 54) hx hb d_X8_digitsBehind_1 (by decide) (by rw [hc3]; first | done | rfl) (by decide) ?_
    refine lv_iconst (v := (2 : Int32)) hx hb d_X8_digitsBehind_54 (by decide) ?_
    obtain rfl := Option.some.inj h
    subst hQ
    exact r_iret X hr hlk hw d_X8_digitsBehind_55
  have h := ite_f h hc3
  by_cases hc4 : a0 = (118 : Int32)
  · have h := ite_t h hc4
    refine lv_lookup (tgt := 56) hx hb d_X8_digitsBehind_1 (by decide) (by rw [hc4]; first | done | rfl) (by decide) ?_
    refine lv_iconst (v := (3 : Int32)) hx hb d_X8_digitsBehind_56 (by decide) ?_
    obtain rfl := Option.some.inj h
    subst hQ
    exact r_iret X hr hlk hw d_X8_digitsBehind_57
  have h := ite_f h hc4
  have hn0 := lv_neT hc0 (a := 102) (by decide)
  have hn1 := lv_neT hc1 (a := 107) (by decide)
  have hn2 := lv_neT hc2 (a := 110) (by decide)
  have hn3 := lv_neT hc3 (a := 113) (by decide)
  have hn4 := lv_neT hc4 (a := 118) (by decide)
  refine lv_lookup (tgt := 58) hx hb d_X8_digitsBehind_1 (by decide) (swD_X8_digitsBehind_1 hc0 hc1 hc2 hc3 hc4) (by decide) ?_
  refine lv_iconst (v := (0 : Int32)) hx hb d_X8_digitsBehind_58 (by decide) ?_
  obtain rfl := Option.some.inj h
  subst hQ
  exact r_iret X hr hlk hw d_X8_digitsBehind_59
abbrev yX8_faultAsSeason : MethodName := ⟨"OysterBeds$Text", "faultAsSeason", "()I"⟩
theorem mwX8_faultAsSeason : MW yX8_faultAsSeason prog_10_method_9_code 5 (some .int) 0 := ⟨wd_487, wd_2, by decide +kernel⟩
theorem d_X8_faultAsSeason_0 : decode prog_10_method_9_code 0 = .ok (.aload_n 0, 1) := by decide +kernel
theorem d_X8_faultAsSeason_1 : decode prog_10_method_9_code 1 = .ok (.getfield 15, 3) := by decide +kernel
theorem d_X8_faultAsSeason_4 : decode prog_10_method_9_code 4 = .ok (.bipush 60, 2) := by decide +kernel
theorem d_X8_faultAsSeason_6 : decode prog_10_method_9_code 6 = .ok (.invokestatic 27, 3) := by decide +kernel
theorem d_X8_faultAsSeason_9 : decode prog_10_method_9_code 9 = .ok (.istore_n 1, 1) := by decide +kernel
theorem d_X8_faultAsSeason_10 : decode prog_10_method_9_code 10 = .ok (.iconst 0, 1) := by decide +kernel
theorem d_X8_faultAsSeason_11 : decode prog_10_method_9_code 11 = .ok (.istore_n 2, 1) := by decide +kernel
theorem d_X8_faultAsSeason_12 : decode prog_10_method_9_code 12 = .ok (.bipush 9, 2) := by decide +kernel
theorem d_X8_faultAsSeason_14 : decode prog_10_method_9_code 14 = .ok (.istore_n 3, 1) := by decide +kernel
theorem d_X8_faultAsSeason_15 : decode prog_10_method_9_code 15 = .ok (.iconst 0, 1) := by decide +kernel
theorem d_X8_faultAsSeason_16 : decode prog_10_method_9_code 16 = .ok (.istore 4, 2) := by decide +kernel
theorem d_X8_faultAsSeason_18 : decode prog_10_method_9_code 18 = .ok (.iload 4, 2) := by decide +kernel
theorem d_X8_faultAsSeason_20 : decode prog_10_method_9_code 20 = .ok (.iload_n 1, 1) := by decide +kernel
theorem d_X8_faultAsSeason_21 : decode prog_10_method_9_code 21 = .ok (.if_icmp .ge 76, 3) := by decide +kernel
theorem d_X8_faultAsSeason_24 : decode prog_10_method_9_code 24 = .ok (.iload_n 2, 1) := by decide +kernel
theorem d_X8_faultAsSeason_25 : decode prog_10_method_9_code 25 = .ok (.ifCond .ne 38, 3) := by decide +kernel
theorem d_X8_faultAsSeason_28 : decode prog_10_method_9_code 28 = .ok (.aload_n 0, 1) := by decide +kernel
theorem d_X8_faultAsSeason_29 : decode prog_10_method_9_code 29 = .ok (.iload 4, 2) := by decide +kernel
theorem d_X8_faultAsSeason_31 : decode prog_10_method_9_code 31 = .ok (.invokevirtual 19, 3) := by decide +kernel
theorem d_X8_faultAsSeason_34 : decode prog_10_method_9_code 34 = .ok (.invokestatic 40, 3) := by decide +kernel
theorem d_X8_faultAsSeason_37 : decode prog_10_method_9_code 37 = .ok (.istore_n 2, 1) := by decide +kernel
theorem d_X8_faultAsSeason_38 : decode prog_10_method_9_code 38 = .ok (.aload_n 0, 1) := by decide +kernel
theorem d_X8_faultAsSeason_39 : decode prog_10_method_9_code 39 = .ok (.iload 4, 2) := by decide +kernel
theorem d_X8_faultAsSeason_41 : decode prog_10_method_9_code 41 = .ok (.invokevirtual 19, 3) := by decide +kernel
theorem d_X8_faultAsSeason_44 : decode prog_10_method_9_code 44 = .ok (.bipush 113, 2) := by decide +kernel
theorem d_X8_faultAsSeason_46 : decode prog_10_method_9_code 46 = .ok (.if_icmp .ne 7, 3) := by decide +kernel
theorem d_X8_faultAsSeason_49 : decode prog_10_method_9_code 49 = .ok (.iconst 3, 1) := by decide +kernel
theorem d_X8_faultAsSeason_50 : decode prog_10_method_9_code 50 = .ok (.goto 5, 3) := by decide +kernel
theorem d_X8_faultAsSeason_53 : decode prog_10_method_9_code 53 = .ok (.bipush 9, 2) := by decide +kernel
theorem d_X8_faultAsSeason_55 : decode prog_10_method_9_code 55 = .ok (.istore_n 3, 1) := by decide +kernel
theorem d_X8_faultAsSeason_56 : decode prog_10_method_9_code 56 = .ok (.iload_n 2, 1) := by decide +kernel
theorem d_X8_faultAsSeason_57 : decode prog_10_method_9_code 57 = .ok (.ifCond .ne 34, 3) := by decide +kernel
theorem d_X8_faultAsSeason_60 : decode prog_10_method_9_code 60 = .ok (.iload 4, 2) := by decide +kernel
theorem d_X8_faultAsSeason_62 : decode prog_10_method_9_code 62 = .ok (.ireturn, 1) := by decide +kernel
theorem d_X8_faultAsSeason_63 : decode prog_10_method_9_code 63 = .ok (.aload_n 0, 1) := by decide +kernel
theorem d_X8_faultAsSeason_64 : decode prog_10_method_9_code 64 = .ok (.iload 4, 2) := by decide +kernel
theorem d_X8_faultAsSeason_66 : decode prog_10_method_9_code 66 = .ok (.invokevirtual 23, 3) := by decide +kernel
theorem d_X8_faultAsSeason_69 : decode prog_10_method_9_code 69 = .ok (.ifCond .lt 13, 3) := by decide +kernel
theorem d_X8_faultAsSeason_72 : decode prog_10_method_9_code 72 = .ok (.aload_n 0, 1) := by decide +kernel
theorem d_X8_faultAsSeason_73 : decode prog_10_method_9_code 73 = .ok (.iload 4, 2) := by decide +kernel
theorem d_X8_faultAsSeason_75 : decode prog_10_method_9_code 75 = .ok (.invokevirtual 23, 3) := by decide +kernel
theorem d_X8_faultAsSeason_78 : decode prog_10_method_9_code 78 = .ok (.iload_n 3, 1) := by decide +kernel
theorem d_X8_faultAsSeason_79 : decode prog_10_method_9_code 79 = .ok (.if_icmp .le 6, 3) := by decide +kernel
theorem d_X8_faultAsSeason_82 : decode prog_10_method_9_code 82 = .ok (.iload 4, 2) := by decide +kernel
theorem d_X8_faultAsSeason_84 : decode prog_10_method_9_code 84 = .ok (.ireturn, 1) := by decide +kernel
theorem d_X8_faultAsSeason_85 : decode prog_10_method_9_code 85 = .ok (.iinc 2 (-1), 3) := by decide +kernel
theorem d_X8_faultAsSeason_88 : decode prog_10_method_9_code 88 = .ok (.bipush 9, 2) := by decide +kernel
theorem d_X8_faultAsSeason_90 : decode prog_10_method_9_code 90 = .ok (.istore_n 3, 1) := by decide +kernel
theorem d_X8_faultAsSeason_91 : decode prog_10_method_9_code 91 = .ok (.iinc 4 1, 3) := by decide +kernel
theorem d_X8_faultAsSeason_94 : decode prog_10_method_9_code 94 = .ok (.goto (-76), 3) := by decide +kernel
theorem d_X8_faultAsSeason_97 : decode prog_10_method_9_code 97 = .ok (.aload_n 0, 1) := by decide +kernel
theorem d_X8_faultAsSeason_98 : decode prog_10_method_9_code 98 = .ok (.getfield 15, 3) := by decide +kernel
theorem d_X8_faultAsSeason_101 : decode prog_10_method_9_code 101 = .ok (.bipush 60, 2) := by decide +kernel
theorem d_X8_faultAsSeason_103 : decode prog_10_method_9_code 103 = .ok (.if_icmp .le 6, 3) := by decide +kernel
theorem d_X8_faultAsSeason_106 : decode prog_10_method_9_code 106 = .ok (.bipush 60, 2) := by decide +kernel
theorem d_X8_faultAsSeason_108 : decode prog_10_method_9_code 108 = .ok (.ireturn, 1) := by decide +kernel
theorem d_X8_faultAsSeason_109 : decode prog_10_method_9_code 109 = .ok (.iload_n 2, 1) := by decide +kernel
theorem d_X8_faultAsSeason_110 : decode prog_10_method_9_code 110 = .ok (.ifCond .ne 7, 3) := by decide +kernel
theorem d_X8_faultAsSeason_113 : decode prog_10_method_9_code 113 = .ok (.iconst (-1), 1) := by decide +kernel
theorem d_X8_faultAsSeason_114 : decode prog_10_method_9_code 114 = .ok (.goto 7, 3) := by decide +kernel
theorem d_X8_faultAsSeason_117 : decode prog_10_method_9_code 117 = .ok (.aload_n 0, 1) := by decide +kernel
theorem d_X8_faultAsSeason_118 : decode prog_10_method_9_code 118 = .ok (.getfield 15, 3) := by decide +kernel
theorem d_X8_faultAsSeason_121 : decode prog_10_method_9_code 121 = .ok (.ireturn, 1) := by decide +kernel
def f_X8_faultAsSeason_j91_18 (χ : St) (x1 : Int32) (x2 : Int32) (x3 : Int32) (x4 : Int32) : Option ((Int32 × Int32 × Int32) ⊕ ((Int32) ⊕ (Int32))) := some (.inl (x2, x3, (x4 + (1 : Int32))))
def f_X8_faultAsSeason_j55_18 (χ : St) (x1 : Int32) (x2 : Int32) (x4 : Int32) (s0 : Int32) : Option ((Int32 × Int32 × Int32) ⊕ ((Int32) ⊕ (Int32))) := (if x2 = 0 then some (.inr (.inl x4)) else f_X8_faultAsSeason_j91_18 χ x1 x2 s0 x4)
def f_X8_faultAsSeason_s18 (χ : St) (y1 : Int32) (x2 : Int32) (x3 : Int32) (x4 : Int32) : Option ((Int32 × Int32 × Int32) ⊕ ((Int32) ⊕ (Int32))) := (if y1 ≤ x4 then some (.inr (.inr x2)) else (if x2 = 0 then (f_X8_at χ x4).bind (fun q5 => (f_X8_digitsBehind q5).bind (fun q7 => (f_X8_at χ x4).bind (fun q9 => f_X8_faultAsSeason_j55_18 χ y1 q7 x4 (if q9 = (113 : Int32) then (3 : Int32) else (9 : Int32))))) else (f_X8_digitAt χ x4).bind (fun q1 => (if q1 < 0 then some (.inr (.inl x4)) else (f_X8_digitAt χ x4).bind (fun q3 => (if q3 ≤ x3 then f_X8_faultAsSeason_j91_18 χ y1 (x2 + (-1 : Int32)) (9 : Int32) x4 else some (.inr (.inl x4))))))))
def f_X8_faultAsSeason (χ : St) : Option (Int32) := (iter (fun z => f_X8_faultAsSeason_s18 χ (if (60 : Int32) < (cF χ 1 1) then (60 : Int32) else (cF χ 1 1)) z.1 z.2.1 z.2.2) FU ((0 : Int32), (9 : Int32), (0 : Int32))).bind (Sum.elim (fun r => some r) (fun z11 => some (if (cF χ 1 1) ≤ (60 : Int32) then (if z11 = 0 then (-1 : Int32) else (cF χ 1 1)) else (60 : Int32))))
theorem c_X8_faultAsSeason {l : Launch} {G : gT} {χ σ : St} (hf : FW G) {q : Int32} (h : f_X8_faultAsSeason χ = some q) : Ct l G yX8_faultAsSeason prog_10_method_9_code 5 (some .int) 2 43 [.ref (ga G 1)] χ σ (some (.int q)) χ σ := by
  refine Ct.of (by decide) (Nat.le_of_ble_eq_true rfl) ?_
  intro p e s m args below meth c Q X hr hlk hQ
  have hx := X.1
  have hb := X.2.1
  have j91_18 : ∀ (x1 : Int32) (x2 : Int32) (x3 : Int32) (x4 : Int32) (o : (Int32 × Int32 × Int32) ⊕ ((Int32) ⊕ (Int32))), f_X8_faultAsSeason_j91_18 χ x1 x2 x3 x4 = some o → Sum.elim (fun z : Int32 × Int32 × Int32 => Wat p l e (rmk 2 43) s m args below meth c Q G 5 18 [] [(2, .int z.1), (3, .int z.2.1), (4, .int z.2.2), (0, .ref (ga G 1)), (1, .int x1)] χ σ) (Sum.elim (fun r : Int32 => r = q) (fun z : Int32 => Wat p l e (rmk 2 43) s m args below meth c Q G 5 97 [] [(0, .ref (ga G 1)), (2, .int z)] χ σ)) o → Wat p l e (rmk 2 43) s m args below meth c Q G 5 91 [] [(0, .ref (ga G 1)), (1, .int x1), (2, .int x2), (3, .int x3), (4, .int x4)] χ σ := by
    intro x1 x2 x3 x4 o h hk H locs ls hw hl
    unfold f_X8_faultAsSeason_j91_18 at h
    refine lv_iinc (v := (x4 + (1 : Int32))) (k := 4) (lv' := [(4, .int (x4 + (1 : Int32))), (0, .ref (ga G 1)), (1, .int x1), (2, .int x2), (3, .int x3)]) hx hb d_X8_faultAsSeason_91 hl rfl (by rfl) (Nat.le_of_ble_eq_true rfl) rfl (fun ls hl => ?_)
    refine lv_goto (tgt := 18) hx hb d_X8_faultAsSeason_94 (by decide) ?_
    obtain rfl := Option.some.inj h
    dsimp only [Sum.elim_inl] at hk
    exact hk _ _ _ hw (lv_sub hl [3, 4, 0, 1, 2] rfl)
  have j55_18 : ∀ (x1 : Int32) (x2 : Int32) (x4 : Int32) (s0 : Int32) (o : (Int32 × Int32 × Int32) ⊕ ((Int32) ⊕ (Int32))), f_X8_faultAsSeason_j55_18 χ x1 x2 x4 s0 = some o → Sum.elim (fun z : Int32 × Int32 × Int32 => Wat p l e (rmk 2 43) s m args below meth c Q G 5 18 [] [(2, .int z.1), (3, .int z.2.1), (4, .int z.2.2), (0, .ref (ga G 1)), (1, .int x1)] χ σ) (Sum.elim (fun r : Int32 => r = q) (fun z : Int32 => Wat p l e (rmk 2 43) s m args below meth c Q G 5 97 [] [(0, .ref (ga G 1)), (2, .int z)] χ σ)) o → Wat p l e (rmk 2 43) s m args below meth c Q G 5 55 [.int s0] [(0, .ref (ga G 1)), (1, .int x1), (2, .int x2), (4, .int x4)] χ σ := by
    intro x1 x2 x4 s0 o h hk H locs ls hw hl
    unfold f_X8_faultAsSeason_j55_18 at h
    refine lv_istore_n (lv' := [(3, .int s0), (0, .ref (ga G 1)), (1, .int x1), (2, .int x2), (4, .int x4)]) hx hb d_X8_faultAsSeason_55 rfl hl (Nat.le_of_ble_eq_true rfl) rfl (fun ls hl => ?_)
    refine lv_iload_n hx hb d_X8_faultAsSeason_56 rfl (lv_at hl 3 rfl) ?_
    refine lv_if_ne (tgt := 91) hx hb d_X8_faultAsSeason_57 (by decide) (fun hc => ?_) (fun hc => ?_)
    · have h := ite_f h hc
      exact j91_18 x1 x2 s0 x4 o h hk _ _ _ hw (lv_sub hl [1, 2, 3, 0, 4] rfl)
    · have h := ite_t h hc
      refine lv_iload hx hb d_X8_faultAsSeason_60 (lv_at hl 4 rfl) ?_
      obtain rfl := Option.some.inj h
      cases (show _ = q from hk)
      subst hQ
      exact r_iret X hr hlk hw d_X8_faultAsSeason_62
  have b18 : ∀ (y1 : Int32) (x2 : Int32) (x3 : Int32) (x4 : Int32) (o : (Int32 × Int32 × Int32) ⊕ ((Int32) ⊕ (Int32))), f_X8_faultAsSeason_s18 χ y1 x2 x3 x4 = some o → Sum.elim (fun z : Int32 × Int32 × Int32 => Wat p l e (rmk 2 43) s m args below meth c Q G 5 18 [] [(2, .int z.1), (3, .int z.2.1), (4, .int z.2.2), (0, .ref (ga G 1)), (1, .int y1)] χ σ) (Sum.elim (fun r : Int32 => r = q) (fun z : Int32 => Wat p l e (rmk 2 43) s m args below meth c Q G 5 97 [] [(0, .ref (ga G 1)), (2, .int z)] χ σ)) o → Wat p l e (rmk 2 43) s m args below meth c Q G 5 18 [] [(2, .int x2), (3, .int x3), (4, .int x4), (0, .ref (ga G 1)), (1, .int y1)] χ σ := by
    intro y1 x2 x3 x4 o h hk H locs ls hw hl
    unfold f_X8_faultAsSeason_s18 at h
    refine lv_iload hx hb d_X8_faultAsSeason_18 (lv_at hl 2 rfl) ?_
    refine lv_iload_n hx hb d_X8_faultAsSeason_20 rfl (lv_at hl 4 rfl) ?_
    refine lv_icmp_ge (tgt := 97) hx hb d_X8_faultAsSeason_21 (by decide) (fun hc => ?_) (fun hc => ?_)
    · have h := ite_t h hc
      obtain rfl := Option.some.inj h
      dsimp only [Sum.elim_inr, Sum.elim_inl] at hk
      exact hk _ _ _ hw (lv_sub hl [3, 0] rfl)
    · have h := ite_f h hc
      refine lv_iload_n hx hb d_X8_faultAsSeason_24 rfl (lv_at hl 0 rfl) ?_
      refine lv_if_ne (tgt := 63) hx hb d_X8_faultAsSeason_25 (by decide) (fun hc => ?_) (fun hc => ?_)
      · have h := ite_f h hc
        refine lv_aload_n hx hb d_X8_faultAsSeason_63 rfl (lv_at hl 3 rfl) ?_
        refine lv_iload hx hb d_X8_faultAsSeason_64 (lv_at hl 2 rfl) ?_
        obtain ⟨q1, e2, h⟩ := bd_some h
        refine r_callV (As := [.int x4]) (rest := []) (st' := [.int q1]) X hw hl mwX8_digitAt wd_328 wd_329 wd_327 (c_X8_digitAt hf e2) (r_recv X hw ct5 (o_1 hf)) rfl ⟨Nat.le_of_ble_eq_true rfl, Nat.le_of_ble_eq_true rfl⟩ ⟨Nat.le_refl _, Nat.le_refl _⟩ rfl rfl (Nat.le_of_ble_eq_true rfl) d_X8_faultAsSeason_66 (fun H locs hw => ?_)
        refine lv_if_lt (tgt := 82) hx hb d_X8_faultAsSeason_69 (by decide) (fun hc => ?_) (fun hc => ?_)
        · have h := ite_t h hc
          refine lv_iload hx hb d_X8_faultAsSeason_82 (lv_at hl 2 rfl) ?_
          obtain rfl := Option.some.inj h
          cases (show _ = q from hk)
          subst hQ
          exact r_iret X hr hlk hw d_X8_faultAsSeason_84
        · have h := ite_f h hc
          refine lv_aload_n hx hb d_X8_faultAsSeason_72 rfl (lv_at hl 3 rfl) ?_
          refine lv_iload hx hb d_X8_faultAsSeason_73 (lv_at hl 2 rfl) ?_
          obtain ⟨q3, e4, h⟩ := bd_some h
          refine r_callV (As := [.int x4]) (rest := []) (st' := [.int q3]) X hw hl mwX8_digitAt wd_328 wd_329 wd_327 (c_X8_digitAt hf e4) (r_recv X hw ct5 (o_1 hf)) rfl ⟨Nat.le_of_ble_eq_true rfl, Nat.le_of_ble_eq_true rfl⟩ ⟨Nat.le_refl _, Nat.le_refl _⟩ rfl rfl (Nat.le_of_ble_eq_true rfl) d_X8_faultAsSeason_75 (fun H locs hw => ?_)
          refine lv_iload_n hx hb d_X8_faultAsSeason_78 rfl (lv_at hl 1 rfl) ?_
          refine lv_icmp_le (tgt := 85) hx hb d_X8_faultAsSeason_79 (by decide) (fun hc => ?_) (fun hc => ?_)
          · have h := ite_t h hc
            refine lv_iinc (v := (x2 + (-1 : Int32))) (k := 0) (lv' := [(2, .int (x2 + (-1 : Int32))), (3, .int x3), (4, .int x4), (0, .ref (ga G 1)), (1, .int y1)]) hx hb d_X8_faultAsSeason_85 hl rfl (by rfl) (Nat.le_of_ble_eq_true rfl) rfl (fun ls hl => ?_)
            refine lv_bipush (v := (9 : Int32)) hx hb d_X8_faultAsSeason_88 (by decide) ?_
            refine lv_istore_n (lv' := [(3, .int (9 : Int32)), (2, .int (x2 + (-1 : Int32))), (4, .int x4), (0, .ref (ga G 1)), (1, .int y1)]) hx hb d_X8_faultAsSeason_90 rfl hl (Nat.le_of_ble_eq_true rfl) rfl (fun ls hl => ?_)
            exact j91_18 y1 (x2 + (-1 : Int32)) (9 : Int32) x4 o h hk _ _ _ hw (lv_sub hl [3, 4, 1, 0, 2] rfl)
          · have h := ite_f h hc
            refine lv_iload hx hb d_X8_faultAsSeason_82 (lv_at hl 2 rfl) ?_
            obtain rfl := Option.some.inj h
            cases (show _ = q from hk)
            subst hQ
            exact r_iret X hr hlk hw d_X8_faultAsSeason_84
      · have h := ite_t h hc
        refine lv_aload_n hx hb d_X8_faultAsSeason_28 rfl (lv_at hl 3 rfl) ?_
        refine lv_iload hx hb d_X8_faultAsSeason_29 (lv_at hl 2 rfl) ?_
        obtain ⟨q5, e6, h⟩ := bd_some h
        refine r_callV (As := [.int x4]) (rest := []) (st' := [.int q5]) X hw hl mwX8_at wd_324 wd_325 wd_323 (c_X8_at hf e6) (r_recv X hw ct5 (o_1 hf)) rfl ⟨Nat.le_of_ble_eq_true rfl, Nat.le_of_ble_eq_true rfl⟩ ⟨Nat.le_refl _, Nat.le_refl _⟩ rfl rfl (Nat.le_of_ble_eq_true rfl) d_X8_faultAsSeason_31 (fun H locs hw => ?_)
        obtain ⟨q7, e8, h⟩ := bd_some h
        refine r_callS (As := [.int q5]) (rest := []) (st' := [.int q7]) X hw hl mwX8_digitsBehind wd_489 wd_488 (c_X8_digitsBehind hf e8) rfl ⟨Nat.le_of_ble_eq_true rfl, Nat.le_of_ble_eq_true rfl⟩ ⟨Nat.le_refl _, Nat.le_refl _⟩ rfl rfl (Nat.le_of_ble_eq_true rfl) d_X8_faultAsSeason_34 (fun H locs hw => ?_)
        refine lv_istore_n (lv' := [(2, .int q7), (3, .int x3), (4, .int x4), (0, .ref (ga G 1)), (1, .int y1)]) hx hb d_X8_faultAsSeason_37 rfl hl (Nat.le_of_ble_eq_true rfl) rfl (fun ls hl => ?_)
        refine lv_aload_n hx hb d_X8_faultAsSeason_38 rfl (lv_at hl 3 rfl) ?_
        refine lv_iload hx hb d_X8_faultAsSeason_39 (lv_at hl 2 rfl) ?_
        obtain ⟨q9, e10, h⟩ := bd_some h
        refine r_callV (As := [.int x4]) (rest := []) (st' := [.int q9]) X hw hl mwX8_at wd_324 wd_325 wd_323 (c_X8_at hf e10) (r_recv X hw ct5 (o_1 hf)) rfl ⟨Nat.le_of_ble_eq_true rfl, Nat.le_of_ble_eq_true rfl⟩ ⟨Nat.le_refl _, Nat.le_refl _⟩ rfl rfl (Nat.le_of_ble_eq_true rfl) d_X8_faultAsSeason_41 (fun H locs hw => ?_)
        refine lv_bipush (v := (113 : Int32)) hx hb d_X8_faultAsSeason_44 (by decide) ?_
        refine lv_icmp_ne (tgt := 53) hx hb d_X8_faultAsSeason_46 (by decide) (fun hc => ?_) (fun hc => ?_)
        · simp only [if_neg hc] at h
          refine lv_bipush (v := (9 : Int32)) hx hb d_X8_faultAsSeason_53 (by decide) ?_
          exact j55_18 y1 q7 x4 (9 : Int32) o h hk _ _ _ hw (lv_sub hl [3, 4, 0, 2] rfl)
        · simp only [if_pos hc] at h
          refine lv_iconst (v := (3 : Int32)) hx hb d_X8_faultAsSeason_49 (by decide) ?_
          refine lv_goto (tgt := 55) hx hb d_X8_faultAsSeason_50 (by decide) ?_
          exact j55_18 y1 q7 x4 (3 : Int32) o h hk _ _ _ hw (lv_sub hl [3, 4, 0, 2] rfl)
  intro H locs ls hw hl
  have hl : lv_has ls 5 [(0, .ref (ga G 1))] := hl
  unfold f_X8_faultAsSeason at h
  refine lv_aload_n hx hb d_X8_faultAsSeason_0 rfl (lv_at hl 0 rfl) ?_
  refine r_geti (j := 1) X hw ct5 (o_1 hf) (Nat.le_of_ble_eq_true rfl) rfl (Nat.le_of_ble_eq_true rfl) wd_39 d_X8_faultAsSeason_1 ?_
  refine lv_bipush (v := (60 : Int32)) hx hb d_X8_faultAsSeason_4 (by decide) ?_
  refine r_min X hl wd_316 ⟨Nat.le_of_ble_eq_true rfl, Nat.le_of_ble_eq_true rfl⟩ ⟨Nat.le_refl _, Nat.le_refl _⟩ d_X8_faultAsSeason_6 ?_
  refine lv_istore_n (lv' := [(1, .int (if (60 : Int32) < (cF χ 1 1) then (60 : Int32) else (cF χ 1 1))), (0, .ref (ga G 1))]) hx hb d_X8_faultAsSeason_9 rfl hl (Nat.le_of_ble_eq_true rfl) rfl (fun ls hl => ?_)
  refine lv_iconst (v := (0 : Int32)) hx hb d_X8_faultAsSeason_10 (by decide) ?_
  refine lv_istore_n (lv' := [(2, .int (0 : Int32)), (1, .int (if (60 : Int32) < (cF χ 1 1) then (60 : Int32) else (cF χ 1 1))), (0, .ref (ga G 1))]) hx hb d_X8_faultAsSeason_11 rfl hl (Nat.le_of_ble_eq_true rfl) rfl (fun ls hl => ?_)
  refine lv_bipush (v := (9 : Int32)) hx hb d_X8_faultAsSeason_12 (by decide) ?_
  refine lv_istore_n (lv' := [(3, .int (9 : Int32)), (2, .int (0 : Int32)), (1, .int (if (60 : Int32) < (cF χ 1 1) then (60 : Int32) else (cF χ 1 1))), (0, .ref (ga G 1))]) hx hb d_X8_faultAsSeason_14 rfl hl (Nat.le_of_ble_eq_true rfl) rfl (fun ls hl => ?_)
  refine lv_iconst (v := (0 : Int32)) hx hb d_X8_faultAsSeason_15 (by decide) ?_
  refine lv_istore (lv' := [(4, .int (0 : Int32)), (3, .int (9 : Int32)), (2, .int (0 : Int32)), (1, .int (if (60 : Int32) < (cF χ 1 1) then (60 : Int32) else (cF χ 1 1))), (0, .ref (ga G 1))]) hx hb d_X8_faultAsSeason_16 hl (Nat.le_of_ble_eq_true rfl) rfl (fun ls hl => ?_)
  obtain ⟨z11, e12, h⟩ := bd_some h
  refine iter_w (Wh := fun z : Int32 × Int32 × Int32 => Wat p l e (rmk 2 43) s m args below meth c Q G 5 18 [] [(2, .int z.1), (3, .int z.2.1), (4, .int z.2.2), (0, .ref (ga G 1)), (1, .int (if (60 : Int32) < (cF χ 1 1) then (60 : Int32) else (cF χ 1 1)))] χ σ) (K := Sum.elim (fun r : Int32 => r = q) (fun z : Int32 => Wat p l e (rmk 2 43) s m args below meth c Q G 5 97 [] [(0, .ref (ga G 1)), (2, .int z)] χ σ)) (fun z o h1 h2 => b18 (if (60 : Int32) < (cF χ 1 1) then (60 : Int32) else (cF χ 1 1)) z.1 z.2.1 z.2.2 o h1 h2) FU _ _ e12 ?_ _ _ _ hw (lv_sub hl [2, 1, 0, 4, 3] rfl)
  rcases z11 with r | z11
  · exact Option.some.inj h
  · dsimp only [Sum.elim_inr] at h ⊢
    intro H locs ls hw hl
    refine lv_aload_n hx hb d_X8_faultAsSeason_97 rfl (lv_at hl 0 rfl) ?_
    refine r_geti (j := 1) X hw ct5 (o_1 hf) (Nat.le_of_ble_eq_true rfl) rfl (Nat.le_of_ble_eq_true rfl) wd_39 d_X8_faultAsSeason_98 ?_
    refine lv_bipush (v := (60 : Int32)) hx hb d_X8_faultAsSeason_101 (by decide) ?_
    refine lv_icmp_le (tgt := 109) hx hb d_X8_faultAsSeason_103 (by decide) (fun hc => ?_) (fun hc => ?_)
    · simp only [if_pos hc] at h
      refine lv_iload_n hx hb d_X8_faultAsSeason_109 rfl (lv_at hl 1 rfl) ?_
      refine lv_if_ne (tgt := 117) hx hb d_X8_faultAsSeason_110 (by decide) (fun hc => ?_) (fun hc => ?_)
      · simp only [if_neg hc] at h
        refine lv_aload_n hx hb d_X8_faultAsSeason_117 rfl (lv_at hl 0 rfl) ?_
        refine r_geti (j := 1) X hw ct5 (o_1 hf) (Nat.le_of_ble_eq_true rfl) rfl (Nat.le_of_ble_eq_true rfl) wd_39 d_X8_faultAsSeason_118 ?_
        obtain rfl := Option.some.inj h
        subst hQ
        exact r_iret X hr hlk hw d_X8_faultAsSeason_121
      · simp only [if_pos hc] at h
        refine lv_iconst (v := (-1 : Int32)) hx hb d_X8_faultAsSeason_113 (by decide) ?_
        refine lv_goto (tgt := 121) hx hb d_X8_faultAsSeason_114 (by decide) ?_
        obtain rfl := Option.some.inj h
        subst hQ
        exact r_iret X hr hlk hw d_X8_faultAsSeason_121
    · simp only [if_neg hc] at h
      refine lv_bipush (v := (60 : Int32)) hx hb d_X8_faultAsSeason_106 (by decide) ?_
      obtain rfl := Option.some.inj h
      subst hQ
      exact r_iret X hr hlk hw d_X8_faultAsSeason_108
abbrev yX9_start : MethodName := ⟨"OysterBeds$Told", "start", "()V"⟩
theorem mwX9_start : MW yX9_start prog_11_method_2_code 1 none 0 := ⟨wd_422, wd_3, by decide +kernel⟩
theorem d_X9_start_0 : decode prog_11_method_2_code 0 = .ok (.aload_n 0, 1) := by decide +kernel
theorem d_X9_start_1 : decode prog_11_method_2_code 1 = .ok (.iconst 0, 1) := by decide +kernel
theorem d_X9_start_2 : decode prog_11_method_2_code 2 = .ok (.putfield 15, 3) := by decide +kernel
theorem d_X9_start_5 : decode prog_11_method_2_code 5 = .ok (.return_, 1) := by decide +kernel
def f_X9_start (χ : St) : Option (St) := some (sF χ 3 1 (0 : Int32))
theorem c_X9_start {l : Launch} {G : gT} {χ σ : St} (hf : FW G) {q : St} (h : f_X9_start χ = some q) : Ct l G yX9_start prog_11_method_2_code 1 none 0 0 [.ref (ga G 3)] χ σ (none) q σ := by
  refine Ct.of (by decide) (Nat.le_of_ble_eq_true rfl) ?_
  intro p e s m args below meth c Q X hr hlk hQ
  have hx := X.1
  have hb := X.2.1
  intro H locs ls hw hl
  have hl : lv_has ls 1 [(0, .ref (ga G 3))] := hl
  unfold f_X9_start at h
  refine lv_aload_n hx hb d_X9_start_0 rfl (lv_at hl 0 rfl) ?_
  refine lv_iconst (v := (0 : Int32)) hx hb d_X9_start_1 (by decide) ?_
  refine r_puti (j := 1) X hw ct6 (o_3 hf) (Nat.le_of_ble_eq_true rfl) rfl (Nat.le_of_ble_eq_true rfl) rfl rfl rfl wd_56 d_X9_start_2 (fun H locs hw => ?_)
  obtain rfl := Option.some.inj h
  subst hQ
  exact r_vret X hr hlk hw d_X9_start_5
abbrev yX9_add : MethodName := ⟨"OysterBeds$Told", "add", "(J)V"⟩
theorem mwX9_add : MW yX9_add prog_11_method_3_code 3 none 1 := ⟨wd_426, wd_3, by decide +kernel⟩
theorem d_X9_add_0 : decode prog_11_method_3_code 0 = .ok (.aload_n 0, 1) := by decide +kernel
theorem d_X9_add_1 : decode prog_11_method_3_code 1 = .ok (.getfield 15, 3) := by decide +kernel
theorem d_X9_add_4 : decode prog_11_method_3_code 4 = .ok (.bipush 12, 2) := by decide +kernel
theorem d_X9_add_6 : decode prog_11_method_3_code 6 = .ok (.if_icmp .ge 23, 3) := by decide +kernel
theorem d_X9_add_9 : decode prog_11_method_3_code 9 = .ok (.aload_n 0, 1) := by decide +kernel
theorem d_X9_add_10 : decode prog_11_method_3_code 10 = .ok (.getfield 9, 3) := by decide +kernel
theorem d_X9_add_13 : decode prog_11_method_3_code 13 = .ok (.aload_n 0, 1) := by decide +kernel
theorem d_X9_add_14 : decode prog_11_method_3_code 14 = .ok (.getfield 15, 3) := by decide +kernel
theorem d_X9_add_17 : decode prog_11_method_3_code 17 = .ok (.lload_n 1, 1) := by decide +kernel
theorem d_X9_add_18 : decode prog_11_method_3_code 18 = .ok (.lastore, 1) := by decide +kernel
theorem d_X9_add_19 : decode prog_11_method_3_code 19 = .ok (.aload_n 0, 1) := by decide +kernel
theorem d_X9_add_20 : decode prog_11_method_3_code 20 = .ok (.dup, 1) := by decide +kernel
theorem d_X9_add_21 : decode prog_11_method_3_code 21 = .ok (.getfield 15, 3) := by decide +kernel
theorem d_X9_add_24 : decode prog_11_method_3_code 24 = .ok (.iconst 1, 1) := by decide +kernel
theorem d_X9_add_25 : decode prog_11_method_3_code 25 = .ok (.iadd, 1) := by decide +kernel
theorem d_X9_add_26 : decode prog_11_method_3_code 26 = .ok (.putfield 15, 3) := by decide +kernel
theorem d_X9_add_29 : decode prog_11_method_3_code 29 = .ok (.return_, 1) := by decide +kernel
def f_X9_add (χ : St) (a1 : Int64) : Option (St) := (if (12 : Int32) ≤ (cF χ 3 1) then some χ else gd (inb (cF χ 3 1) 12) (some (sF (sL χ 4 (cF χ 3 1).toNatClampNeg a1) 3 1 ((cF (sL χ 4 (cF χ 3 1).toNatClampNeg a1) 3 1) + (1 : Int32)))))
theorem c_X9_add {l : Launch} {G : gT} {χ σ : St} {a1 : Int64} (hf : FW G) {q : St} (h : f_X9_add χ a1 = some q) : Ct l G yX9_add prog_11_method_3_code 3 none 0 0 [.ref (ga G 3), .long a1] χ σ (none) q σ := by
  refine Ct.of (by decide) (Nat.le_of_ble_eq_true rfl) ?_
  intro p e s m args below meth c Q X hr hlk hQ
  have hx := X.1
  have hb := X.2.1
  intro H locs ls hw hl
  have hl : lv_has ls 3 [(0, .ref (ga G 3)), (1, .long a1)] := hl
  unfold f_X9_add at h
  refine lv_aload_n hx hb d_X9_add_0 rfl (lv_at hl 0 rfl) ?_
  refine r_geti (j := 1) X hw ct6 (o_3 hf) (Nat.le_of_ble_eq_true rfl) rfl (Nat.le_of_ble_eq_true rfl) wd_56 d_X9_add_1 ?_
  refine lv_bipush (v := (12 : Int32)) hx hb d_X9_add_4 (by decide) ?_
  refine lv_icmp_ge (tgt := 29) hx hb d_X9_add_6 (by decide) (fun hc => ?_) (fun hc => ?_)
  · have h := ite_t h hc
    obtain rfl := Option.some.inj h
    subst hQ
    exact r_vret X hr hlk hw d_X9_add_29
  · have h := ite_f h hc
    refine lv_aload_n hx hb d_X9_add_9 rfl (lv_at hl 0 rfl) ?_
    refine r_getr (j := 0) X hw ct6 (o_3 hf) rfl (Nat.le_of_ble_eq_true rfl) (q := 4) rfl wd_54 d_X9_add_10 ?_
    refine lv_aload_n hx hb d_X9_add_13 rfl (lv_at hl 0 rfl) ?_
    refine r_geti (j := 1) X hw ct6 (o_3 hf) (Nat.le_of_ble_eq_true rfl) rfl (Nat.le_of_ble_eq_true rfl) wd_56 d_X9_add_14 ?_
    refine lv_lload_n hx hb d_X9_add_17 rfl (lv_at hl 1 rfl) ?_
    obtain ⟨hi1, h⟩ := gd_some h
    refine r_last X hw (o_4 hf) (Nat.le_of_ble_eq_true rfl) hi1 d_X9_add_18 (fun H locs hw => ?_)
    refine lv_aload_n hx hb d_X9_add_19 rfl (lv_at hl 0 rfl) ?_
    refine lv_dup hx hb d_X9_add_20 rfl ?_
    refine r_geti (j := 1) X hw ct6 (o_3 hf) (Nat.le_of_ble_eq_true rfl) rfl (Nat.le_of_ble_eq_true rfl) wd_56 d_X9_add_21 ?_
    refine lv_iconst (v := (1 : Int32)) hx hb d_X9_add_24 (by decide) ?_
    refine lv_iadd hx hb d_X9_add_25 ?_
    refine r_puti (j := 1) X hw ct6 (o_3 hf) (Nat.le_of_ble_eq_true rfl) rfl (Nat.le_of_ble_eq_true rfl) rfl rfl rfl wd_56 d_X9_add_26 (fun H locs hw => ?_)
    obtain rfl := Option.some.inj h
    subst hQ
    exact r_vret X hr hlk hw d_X9_add_29
abbrev yX9_commonOf : MethodName := ⟨"OysterBeds$Told", "commonOf", "(JJ)J"⟩
theorem mwX9_commonOf : MW yX9_commonOf prog_11_method_5_code 11 (some .long) 2 := ⟨wd_635, wd_3, by decide +kernel⟩
theorem d_X9_commonOf_0 : decode prog_11_method_5_code 0 = .ok (.lload_n 0, 1) := by decide +kernel
theorem d_X9_commonOf_1 : decode prog_11_method_5_code 1 = .ok (.lstore 4, 2) := by decide +kernel
theorem d_X9_commonOf_3 : decode prog_11_method_5_code 3 = .ok (.lload_n 2, 1) := by decide +kernel
theorem d_X9_commonOf_4 : decode prog_11_method_5_code 4 = .ok (.lstore 6, 2) := by decide +kernel
theorem d_X9_commonOf_6 : decode prog_11_method_5_code 6 = .ok (.iconst 0, 1) := by decide +kernel
theorem d_X9_commonOf_7 : decode prog_11_method_5_code 7 = .ok (.istore 8, 2) := by decide +kernel
theorem d_X9_commonOf_9 : decode prog_11_method_5_code 9 = .ok (.iload 8, 2) := by decide +kernel
theorem d_X9_commonOf_11 : decode prog_11_method_5_code 11 = .ok (.sipush 1000, 3) := by decide +kernel
theorem d_X9_commonOf_14 : decode prog_11_method_5_code 14 = .ok (.if_icmp .ge 31, 3) := by decide +kernel
theorem d_X9_commonOf_17 : decode prog_11_method_5_code 17 = .ok (.lload 6, 2) := by decide +kernel
theorem d_X9_commonOf_19 : decode prog_11_method_5_code 19 = .ok (.lconst 0, 1) := by decide +kernel
theorem d_X9_commonOf_20 : decode prog_11_method_5_code 20 = .ok (.lcmp, 1) := by decide +kernel
theorem d_X9_commonOf_21 : decode prog_11_method_5_code 21 = .ok (.ifCond .eq 24, 3) := by decide +kernel
theorem d_X9_commonOf_24 : decode prog_11_method_5_code 24 = .ok (.lload 4, 2) := by decide +kernel
theorem d_X9_commonOf_26 : decode prog_11_method_5_code 26 = .ok (.lload 6, 2) := by decide +kernel
theorem d_X9_commonOf_28 : decode prog_11_method_5_code 28 = .ok (.lrem, 1) := by decide +kernel
theorem d_X9_commonOf_29 : decode prog_11_method_5_code 29 = .ok (.lstore 9, 2) := by decide +kernel
theorem d_X9_commonOf_31 : decode prog_11_method_5_code 31 = .ok (.lload 6, 2) := by decide +kernel
theorem d_X9_commonOf_33 : decode prog_11_method_5_code 33 = .ok (.lstore 4, 2) := by decide +kernel
theorem d_X9_commonOf_35 : decode prog_11_method_5_code 35 = .ok (.lload 9, 2) := by decide +kernel
theorem d_X9_commonOf_37 : decode prog_11_method_5_code 37 = .ok (.lstore 6, 2) := by decide +kernel
theorem d_X9_commonOf_39 : decode prog_11_method_5_code 39 = .ok (.iinc 8 1, 3) := by decide +kernel
theorem d_X9_commonOf_42 : decode prog_11_method_5_code 42 = .ok (.goto (-33), 3) := by decide +kernel
theorem d_X9_commonOf_45 : decode prog_11_method_5_code 45 = .ok (.lload 4, 2) := by decide +kernel
theorem d_X9_commonOf_47 : decode prog_11_method_5_code 47 = .ok (.lreturn, 1) := by decide +kernel
def f_X9_commonOf_s9 (x4 : Int64) (x6 : Int64) (x8 : Int32) : Option ((Int64 × Int64 × Int32) ⊕ (Int64)) := (if (1000 : Int32) ≤ x8 then some (.inr x4) else (if (lg_cmp x6 (0 : Int64)) = 0 then some (.inr x4) else gd (nzl x6) (some (.inl (x6, (x4 - x4 / x6 * x6), (x8 + (1 : Int32)))))))
def f_X9_commonOf (a0 : Int64) (a2 : Int64) : Option (Int64) := (iter (fun z => f_X9_commonOf_s9 z.1 z.2.1 z.2.2) FU (a0, a2, (0 : Int32))).bind (fun z2 => some z2)
theorem c_X9_commonOf {l : Launch} {G : gT} {χ σ : St} {a0 : Int64} {a2 : Int64} (hf : FW G) {q : Int64} (h : f_X9_commonOf a0 a2 = some q) : Ct l G yX9_commonOf prog_11_method_5_code 11 (some .long) 0 0 [.long a0, .long a2] χ σ (some (.long q)) χ σ := by
  refine Ct.of (by decide) (Nat.le_of_ble_eq_true rfl) ?_
  intro p e s m args below meth c Q X hr hlk hQ
  have hx := X.1
  have hb := X.2.1
  have b9 : ∀ (x4 : Int64) (x6 : Int64) (x8 : Int32) (o : (Int64 × Int64 × Int32) ⊕ (Int64)), f_X9_commonOf_s9 x4 x6 x8 = some o → Sum.elim (fun z : Int64 × Int64 × Int32 => Wat p l e (rmk 0 0) s m args below meth c Q G 11 9 [] [(4, .long z.1), (6, .long z.2.1), (8, .int z.2.2)] χ σ) (fun z : Int64 => Wat p l e (rmk 0 0) s m args below meth c Q G 11 45 [] [(4, .long z)] χ σ) o → Wat p l e (rmk 0 0) s m args below meth c Q G 11 9 [] [(4, .long x4), (6, .long x6), (8, .int x8)] χ σ := by
    intro x4 x6 x8 o h hk H locs ls hw hl
    unfold f_X9_commonOf_s9 at h
    refine lv_iload hx hb d_X9_commonOf_9 (lv_at hl 2 rfl) ?_
    refine lv_sipush (v := (1000 : Int32)) hx hb d_X9_commonOf_11 (by decide) ?_
    refine lv_icmp_ge (tgt := 45) hx hb d_X9_commonOf_14 (by decide) (fun hc => ?_) (fun hc => ?_)
    · have h := ite_t h hc
      obtain rfl := Option.some.inj h
      dsimp only [Sum.elim_inr] at hk
      exact hk _ _ _ hw (lv_sub hl [0] rfl)
    · have h := ite_f h hc
      refine lv_lload hx hb d_X9_commonOf_17 (lv_at hl 1 rfl) ?_
      refine lv_lconst (v := (0 : Int64)) hx hb d_X9_commonOf_19 (by decide) ?_
      refine W.lcmp hx hb d_X9_commonOf_20 ?_
      refine lv_if_eq (tgt := 45) hx hb d_X9_commonOf_21 (by decide) (fun hc => ?_) (fun hc => ?_)
      · have h := ite_t h hc
        obtain rfl := Option.some.inj h
        dsimp only [Sum.elim_inr] at hk
        exact hk _ _ _ hw (lv_sub hl [0] rfl)
      · have h := ite_f h hc
        refine lv_lload hx hb d_X9_commonOf_24 (lv_at hl 0 rfl) ?_
        refine lv_lload hx hb d_X9_commonOf_26 (lv_at hl 1 rfl) ?_
        obtain ⟨hz1, h⟩ := gd_some h
        refine lv_lrem hx hb d_X9_commonOf_28 (nzl_ne hz1) ?_
        refine lv_lstore (lv' := [(9, .long (x4 - x4 / x6 * x6)), (4, .long x4), (6, .long x6), (8, .int x8)]) hx hb d_X9_commonOf_29 hl (Nat.le_of_ble_eq_true rfl) rfl (fun ls hl => ?_)
        refine lv_lload hx hb d_X9_commonOf_31 (lv_at hl 2 rfl) ?_
        refine lv_lstore (lv' := [(4, .long x6), (9, .long (x4 - x4 / x6 * x6)), (6, .long x6), (8, .int x8)]) hx hb d_X9_commonOf_33 hl (Nat.le_of_ble_eq_true rfl) rfl (fun ls hl => ?_)
        refine lv_lload hx hb d_X9_commonOf_35 (lv_at hl 1 rfl) ?_
        refine lv_lstore (lv' := [(6, .long (x4 - x4 / x6 * x6)), (4, .long x6), (9, .long (x4 - x4 / x6 * x6)), (8, .int x8)]) hx hb d_X9_commonOf_37 hl (Nat.le_of_ble_eq_true rfl) rfl (fun ls hl => ?_)
        refine lv_iinc (v := (x8 + (1 : Int32))) (k := 3) (lv' := [(8, .int (x8 + (1 : Int32))), (6, .long (x4 - x4 / x6 * x6)), (4, .long x6), (9, .long (x4 - x4 / x6 * x6))]) hx hb d_X9_commonOf_39 hl rfl (by rfl) (Nat.le_of_ble_eq_true rfl) rfl (fun ls hl => ?_)
        refine lv_goto (tgt := 9) hx hb d_X9_commonOf_42 (by decide) ?_
        obtain rfl := Option.some.inj h
        dsimp only [Sum.elim_inl] at hk
        exact hk _ _ _ hw (lv_sub hl [2, 1, 0] rfl)
  intro H locs ls hw hl
  have hl : lv_has ls 11 [(0, .long a0), (2, .long a2)] := hl
  unfold f_X9_commonOf at h
  refine lv_lload_n hx hb d_X9_commonOf_0 rfl (lv_at hl 0 rfl) ?_
  refine lv_lstore (lv' := [(4, .long a0), (0, .long a0), (2, .long a2)]) hx hb d_X9_commonOf_1 hl (Nat.le_of_ble_eq_true rfl) rfl (fun ls hl => ?_)
  refine lv_lload_n hx hb d_X9_commonOf_3 rfl (lv_at hl 2 rfl) ?_
  refine lv_lstore (lv' := [(6, .long a2), (4, .long a0), (0, .long a0), (2, .long a2)]) hx hb d_X9_commonOf_4 hl (Nat.le_of_ble_eq_true rfl) rfl (fun ls hl => ?_)
  refine lv_iconst (v := (0 : Int32)) hx hb d_X9_commonOf_6 (by decide) ?_
  refine lv_istore (lv' := [(8, .int (0 : Int32)), (6, .long a2), (4, .long a0), (0, .long a0), (2, .long a2)]) hx hb d_X9_commonOf_7 hl (Nat.le_of_ble_eq_true rfl) rfl (fun ls hl => ?_)
  obtain ⟨z2, e3, h⟩ := bd_some h
  refine iter_w (Wh := fun z : Int64 × Int64 × Int32 => Wat p l e (rmk 0 0) s m args below meth c Q G 11 9 [] [(4, .long z.1), (6, .long z.2.1), (8, .int z.2.2)] χ σ) (K := fun z : Int64 => Wat p l e (rmk 0 0) s m args below meth c Q G 11 45 [] [(4, .long z)] χ σ) (fun z o h1 h2 => b9 z.1 z.2.1 z.2.2 o h1 h2) FU _ _ e3 ?_ _ _ _ hw (lv_sub hl [2, 1, 0] rfl)
  intro H locs ls hw hl
  refine lv_lload hx hb d_X9_commonOf_45 (lv_at hl 0 rfl) ?_
  obtain rfl := Option.some.inj h
  subst hQ
  exact r_lret X hr hlk hw d_X9_commonOf_47
abbrev yX9_addFraction : MethodName := ⟨"OysterBeds$Told", "addFraction", "(JJ)V"⟩
theorem mwX9_addFraction : MW yX9_addFraction prog_11_method_4_code 7 none 2 := ⟨wd_632, wd_3, by decide +kernel⟩
theorem d_X9_addFraction_0 : decode prog_11_method_4_code 0 = .ok (.lload_n 1, 1) := by decide +kernel
theorem d_X9_addFraction_1 : decode prog_11_method_4_code 1 = .ok (.lload_n 3, 1) := by decide +kernel
theorem d_X9_addFraction_2 : decode prog_11_method_4_code 2 = .ok (.invokestatic 19, 3) := by decide +kernel
theorem d_X9_addFraction_5 : decode prog_11_method_4_code 5 = .ok (.lstore 5, 2) := by decide +kernel
theorem d_X9_addFraction_7 : decode prog_11_method_4_code 7 = .ok (.lload 5, 2) := by decide +kernel
theorem d_X9_addFraction_9 : decode prog_11_method_4_code 9 = .ok (.lconst 0, 1) := by decide +kernel
theorem d_X9_addFraction_10 : decode prog_11_method_4_code 10 = .ok (.lcmp, 1) := by decide +kernel
theorem d_X9_addFraction_11 : decode prog_11_method_4_code 11 = .ok (.ifCond .gt 4, 3) := by decide +kernel
theorem d_X9_addFraction_14 : decode prog_11_method_4_code 14 = .ok (.return_, 1) := by decide +kernel
theorem d_X9_addFraction_15 : decode prog_11_method_4_code 15 = .ok (.aload_n 0, 1) := by decide +kernel
theorem d_X9_addFraction_16 : decode prog_11_method_4_code 16 = .ok (.lload_n 1, 1) := by decide +kernel
theorem d_X9_addFraction_17 : decode prog_11_method_4_code 17 = .ok (.lload 5, 2) := by decide +kernel
theorem d_X9_addFraction_19 : decode prog_11_method_4_code 19 = .ok (.ldiv, 1) := by decide +kernel
theorem d_X9_addFraction_20 : decode prog_11_method_4_code 20 = .ok (.invokevirtual 23, 3) := by decide +kernel
theorem d_X9_addFraction_23 : decode prog_11_method_4_code 23 = .ok (.aload_n 0, 1) := by decide +kernel
theorem d_X9_addFraction_24 : decode prog_11_method_4_code 24 = .ok (.lload_n 3, 1) := by decide +kernel
theorem d_X9_addFraction_25 : decode prog_11_method_4_code 25 = .ok (.lload 5, 2) := by decide +kernel
theorem d_X9_addFraction_27 : decode prog_11_method_4_code 27 = .ok (.ldiv, 1) := by decide +kernel
theorem d_X9_addFraction_28 : decode prog_11_method_4_code 28 = .ok (.invokevirtual 23, 3) := by decide +kernel
theorem d_X9_addFraction_31 : decode prog_11_method_4_code 31 = .ok (.return_, 1) := by decide +kernel
def f_X9_addFraction (χ : St) (a1 : Int64) (a3 : Int64) : Option (St) := (f_X9_commonOf a1 a3).bind (fun q1 => (if 0 < (lg_cmp q1 (0 : Int64)) then gd (nzl q1) ((f_X9_add χ (a1 / q1)).bind (fun q4 => gd (nzl q1) ((f_X9_add q4 (a3 / q1)).bind (fun q7 => some q7)))) else some χ))
theorem c_X9_addFraction {l : Launch} {G : gT} {χ σ : St} {a1 : Int64} {a3 : Int64} (hf : FW G) {q : St} (h : f_X9_addFraction χ a1 a3 = some q) : Ct l G yX9_addFraction prog_11_method_4_code 7 none 1 30 [.ref (ga G 3), .long a1, .long a3] χ σ (none) q σ := by
  refine Ct.of (by decide) (Nat.le_of_ble_eq_true rfl) ?_
  intro p e s m args below meth c Q X hr hlk hQ
  have hx := X.1
  have hb := X.2.1
  intro H locs ls hw hl
  have hl : lv_has ls 7 [(0, .ref (ga G 3)), (1, .long a1), (3, .long a3)] := hl
  unfold f_X9_addFraction at h
  refine lv_lload_n hx hb d_X9_addFraction_0 rfl (lv_at hl 1 rfl) ?_
  refine lv_lload_n hx hb d_X9_addFraction_1 rfl (lv_at hl 2 rfl) ?_
  obtain ⟨q1, e2, h⟩ := bd_some h
  refine r_callS (As := [.long a1, .long a3]) (rest := []) (st' := [.long q1]) X hw hl mwX9_commonOf wd_634 wd_633 (c_X9_commonOf hf e2) rfl ⟨Nat.le_of_ble_eq_true rfl, Nat.le_of_ble_eq_true rfl⟩ ⟨Nat.le_refl _, Nat.le_refl _⟩ rfl rfl (Nat.le_of_ble_eq_true rfl) d_X9_addFraction_2 (fun H locs hw => ?_)
  refine lv_lstore (lv' := [(5, .long q1), (0, .ref (ga G 3)), (1, .long a1), (3, .long a3)]) hx hb d_X9_addFraction_5 hl (Nat.le_of_ble_eq_true rfl) rfl (fun ls hl => ?_)
  refine lv_lload hx hb d_X9_addFraction_7 (lv_at hl 0 rfl) ?_
  refine lv_lconst (v := (0 : Int64)) hx hb d_X9_addFraction_9 (by decide) ?_
  refine W.lcmp hx hb d_X9_addFraction_10 ?_
  refine lv_if_gt (tgt := 15) hx hb d_X9_addFraction_11 (by decide) (fun hc => ?_) (fun hc => ?_)
  · have h := ite_t h hc
    refine lv_aload_n hx hb d_X9_addFraction_15 rfl (lv_at hl 1 rfl) ?_
    refine lv_lload_n hx hb d_X9_addFraction_16 rfl (lv_at hl 2 rfl) ?_
    refine lv_lload hx hb d_X9_addFraction_17 (lv_at hl 0 rfl) ?_
    obtain ⟨hz3, h⟩ := gd_some h
    refine lv_ldiv hx hb d_X9_addFraction_19 (nzl_ne hz3) ?_
    obtain ⟨q4, e5, h⟩ := bd_some h
    refine r_callV (As := [.long (a1 / q1)]) (rest := []) (st' := []) X hw hl mwX9_add wd_424 wd_425 wd_636 (c_X9_add hf e5) (r_recv X hw ct6 (o_3 hf)) rfl ⟨Nat.le_of_ble_eq_true rfl, Nat.le_of_ble_eq_true rfl⟩ ⟨Nat.le_refl _, Nat.le_refl _⟩ rfl rfl (Nat.le_of_ble_eq_true rfl) d_X9_addFraction_20 (fun H locs hw => ?_)
    refine lv_aload_n hx hb d_X9_addFraction_23 rfl (lv_at hl 1 rfl) ?_
    refine lv_lload_n hx hb d_X9_addFraction_24 rfl (lv_at hl 3 rfl) ?_
    refine lv_lload hx hb d_X9_addFraction_25 (lv_at hl 0 rfl) ?_
    obtain ⟨hz6, h⟩ := gd_some h
    refine lv_ldiv hx hb d_X9_addFraction_27 (nzl_ne hz6) ?_
    obtain ⟨q7, e8, h⟩ := bd_some h
    refine r_callV (As := [.long (a3 / q1)]) (rest := []) (st' := []) X hw hl mwX9_add wd_424 wd_425 wd_636 (c_X9_add hf e8) (r_recv X hw ct6 (o_3 hf)) rfl ⟨Nat.le_of_ble_eq_true rfl, Nat.le_of_ble_eq_true rfl⟩ ⟨Nat.le_refl _, Nat.le_refl _⟩ rfl rfl (Nat.le_of_ble_eq_true rfl) d_X9_addFraction_28 (fun H locs hw => ?_)
    obtain rfl := Option.some.inj h
    subst hQ
    exact r_vret X hr hlk hw d_X9_addFraction_31
  · have h := ite_f h hc
    obtain rfl := Option.some.inj h
    subst hQ
    exact r_vret X hr hlk hw d_X9_addFraction_14
abbrev yX10_leastIn : MethodName := ⟨"OysterBeds$Views", "leastIn", "(I)I"⟩
theorem mwX10_leastIn : MW yX10_leastIn prog_12_method_3_code 2 (some .int) 1 := ⟨wd_706, wd_20, by decide +kernel⟩
theorem d_X10_leastIn_0 : decode prog_12_method_3_code 0 = .ok (.iconst 0, 1) := by decide +kernel
theorem d_X10_leastIn_1 : decode prog_12_method_3_code 1 = .ok (.istore_n 1, 1) := by decide +kernel
theorem d_X10_leastIn_2 : decode prog_12_method_3_code 2 = .ok (.iload_n 1, 1) := by decide +kernel
theorem d_X10_leastIn_3 : decode prog_12_method_3_code 3 = .ok (.bipush 16, 2) := by decide +kernel
theorem d_X10_leastIn_5 : decode prog_12_method_3_code 5 = .ok (.if_icmp .ge 17, 3) := by decide +kernel
theorem d_X10_leastIn_8 : decode prog_12_method_3_code 8 = .ok (.iload_n 0, 1) := by decide +kernel
theorem d_X10_leastIn_9 : decode prog_12_method_3_code 9 = .ok (.iload_n 1, 1) := by decide +kernel
theorem d_X10_leastIn_10 : decode prog_12_method_3_code 10 = .ok (.ishr, 1) := by decide +kernel
theorem d_X10_leastIn_11 : decode prog_12_method_3_code 11 = .ok (.iconst 1, 1) := by decide +kernel
theorem d_X10_leastIn_12 : decode prog_12_method_3_code 12 = .ok (.iand, 1) := by decide +kernel
theorem d_X10_leastIn_13 : decode prog_12_method_3_code 13 = .ok (.ifCond .ne 9, 3) := by decide +kernel
theorem d_X10_leastIn_16 : decode prog_12_method_3_code 16 = .ok (.iinc 1 1, 3) := by decide +kernel
theorem d_X10_leastIn_19 : decode prog_12_method_3_code 19 = .ok (.goto (-17), 3) := by decide +kernel
theorem d_X10_leastIn_22 : decode prog_12_method_3_code 22 = .ok (.iload_n 1, 1) := by decide +kernel
theorem d_X10_leastIn_23 : decode prog_12_method_3_code 23 = .ok (.ireturn, 1) := by decide +kernel
def f_X10_leastIn_s2 (y0 : Int32) (x1 : Int32) : Option ((Int32) ⊕ (Int32)) := (if (16 : Int32) ≤ x1 then some (.inr x1) else (if ((y0 >>> (x1 &&& 31)) &&& (1 : Int32)) = 0 then some (.inl (x1 + (1 : Int32))) else some (.inr x1)))
def f_X10_leastIn (a0 : Int32) : Option (Int32) := (iter (fun z => f_X10_leastIn_s2 a0 z) FU (0 : Int32)).bind (fun z1 => some z1)
theorem c_X10_leastIn {l : Launch} {G : gT} {χ σ : St} {a0 : Int32} (hf : FW G) {q : Int32} (h : f_X10_leastIn a0 = some q) : Ct l G yX10_leastIn prog_12_method_3_code 2 (some .int) 0 0 [.int a0] χ σ (some (.int q)) χ σ := by
  refine Ct.of (by decide) (Nat.le_of_ble_eq_true rfl) ?_
  intro p e s m args below meth c Q X hr hlk hQ
  have hx := X.1
  have hb := X.2.1
  have b2 : ∀ (y0 : Int32) (x1 : Int32) (o : (Int32) ⊕ (Int32)), f_X10_leastIn_s2 y0 x1 = some o → Sum.elim (fun z : Int32 => Wat p l e (rmk 0 0) s m args below meth c Q G 2 2 [] [(1, .int z), (0, .int y0)] χ σ) (fun z : Int32 => Wat p l e (rmk 0 0) s m args below meth c Q G 2 22 [] [(1, .int z)] χ σ) o → Wat p l e (rmk 0 0) s m args below meth c Q G 2 2 [] [(1, .int x1), (0, .int y0)] χ σ := by
    intro y0 x1 o h hk H locs ls hw hl
    unfold f_X10_leastIn_s2 at h
    refine lv_iload_n hx hb d_X10_leastIn_2 rfl (lv_at hl 0 rfl) ?_
    refine lv_bipush (v := (16 : Int32)) hx hb d_X10_leastIn_3 (by decide) ?_
    refine lv_icmp_ge (tgt := 22) hx hb d_X10_leastIn_5 (by decide) (fun hc => ?_) (fun hc => ?_)
    · have h := ite_t h hc
      obtain rfl := Option.some.inj h
      dsimp only [Sum.elim_inr] at hk
      exact hk _ _ _ hw (lv_sub hl [0] rfl)
    · have h := ite_f h hc
      refine lv_iload_n hx hb d_X10_leastIn_8 rfl (lv_at hl 1 rfl) ?_
      refine lv_iload_n hx hb d_X10_leastIn_9 rfl (lv_at hl 0 rfl) ?_
      refine lv_ishr hx hb d_X10_leastIn_10 ?_
      refine lv_iconst (v := (1 : Int32)) hx hb d_X10_leastIn_11 (by decide) ?_
      refine lv_iand hx hb d_X10_leastIn_12 ?_
      refine lv_if_ne (tgt := 22) hx hb d_X10_leastIn_13 (by decide) (fun hc => ?_) (fun hc => ?_)
      · have h := ite_f h hc
        obtain rfl := Option.some.inj h
        dsimp only [Sum.elim_inr] at hk
        exact hk _ _ _ hw (lv_sub hl [0] rfl)
      · have h := ite_t h hc
        refine lv_iinc (v := (x1 + (1 : Int32))) (k := 0) (lv' := [(1, .int (x1 + (1 : Int32))), (0, .int y0)]) hx hb d_X10_leastIn_16 hl rfl (by rfl) (Nat.le_of_ble_eq_true rfl) rfl (fun ls hl => ?_)
        refine lv_goto (tgt := 2) hx hb d_X10_leastIn_19 (by decide) ?_
        obtain rfl := Option.some.inj h
        dsimp only [Sum.elim_inl] at hk
        exact hk _ _ _ hw (lv_sub hl [0, 1] rfl)
  intro H locs ls hw hl
  have hl : lv_has ls 2 [(0, .int a0)] := hl
  unfold f_X10_leastIn at h
  refine lv_iconst (v := (0 : Int32)) hx hb d_X10_leastIn_0 (by decide) ?_
  refine lv_istore_n (lv' := [(1, .int (0 : Int32)), (0, .int a0)]) hx hb d_X10_leastIn_1 rfl hl (Nat.le_of_ble_eq_true rfl) rfl (fun ls hl => ?_)
  obtain ⟨z1, e2, h⟩ := bd_some h
  refine iter_w (Wh := fun z : Int32 => Wat p l e (rmk 0 0) s m args below meth c Q G 2 2 [] [(1, .int z), (0, .int a0)] χ σ) (K := fun z : Int32 => Wat p l e (rmk 0 0) s m args below meth c Q G 2 22 [] [(1, .int z)] χ σ) (fun z o h1 h2 => b2 a0 z o h1 h2) FU _ _ e2 ?_ _ _ _ hw (lv_sub hl [0, 1] rfl)
  intro H locs ls hw hl
  refine lv_iload_n hx hb d_X10_leastIn_22 rfl (lv_at hl 0 rfl) ?_
  obtain rfl := Option.some.inj h
  subst hQ
  exact r_iret X hr hlk hw d_X10_leastIn_23
abbrev yX10_greatestIn : MethodName := ⟨"OysterBeds$Views", "greatestIn", "(I)I"⟩
theorem mwX10_greatestIn : MW yX10_greatestIn prog_12_method_4_code 2 (some .int) 1 := ⟨wd_709, wd_20, by decide +kernel⟩
theorem d_X10_greatestIn_0 : decode prog_12_method_4_code 0 = .ok (.bipush 15, 2) := by decide +kernel
theorem d_X10_greatestIn_2 : decode prog_12_method_4_code 2 = .ok (.istore_n 1, 1) := by decide +kernel
theorem d_X10_greatestIn_3 : decode prog_12_method_4_code 3 = .ok (.iload_n 1, 1) := by decide +kernel
theorem d_X10_greatestIn_4 : decode prog_12_method_4_code 4 = .ok (.ifCond .le 17, 3) := by decide +kernel
theorem d_X10_greatestIn_7 : decode prog_12_method_4_code 7 = .ok (.iload_n 0, 1) := by decide +kernel
theorem d_X10_greatestIn_8 : decode prog_12_method_4_code 8 = .ok (.iload_n 1, 1) := by decide +kernel
theorem d_X10_greatestIn_9 : decode prog_12_method_4_code 9 = .ok (.ishr, 1) := by decide +kernel
theorem d_X10_greatestIn_10 : decode prog_12_method_4_code 10 = .ok (.iconst 1, 1) := by decide +kernel
theorem d_X10_greatestIn_11 : decode prog_12_method_4_code 11 = .ok (.iand, 1) := by decide +kernel
theorem d_X10_greatestIn_12 : decode prog_12_method_4_code 12 = .ok (.ifCond .ne 9, 3) := by decide +kernel
theorem d_X10_greatestIn_15 : decode prog_12_method_4_code 15 = .ok (.iinc 1 (-1), 3) := by decide +kernel
theorem d_X10_greatestIn_18 : decode prog_12_method_4_code 18 = .ok (.goto (-15), 3) := by decide +kernel
theorem d_X10_greatestIn_21 : decode prog_12_method_4_code 21 = .ok (.iload_n 1, 1) := by decide +kernel
theorem d_X10_greatestIn_22 : decode prog_12_method_4_code 22 = .ok (.ireturn, 1) := by decide +kernel
def f_X10_greatestIn_s3 (y0 : Int32) (x1 : Int32) : Option ((Int32) ⊕ (Int32)) := (if x1 ≤ 0 then some (.inr x1) else (if ((y0 >>> (x1 &&& 31)) &&& (1 : Int32)) = 0 then some (.inl (x1 + (-1 : Int32))) else some (.inr x1)))
def f_X10_greatestIn (a0 : Int32) : Option (Int32) := (iter (fun z => f_X10_greatestIn_s3 a0 z) FU (15 : Int32)).bind (fun z1 => some z1)
theorem c_X10_greatestIn {l : Launch} {G : gT} {χ σ : St} {a0 : Int32} (hf : FW G) {q : Int32} (h : f_X10_greatestIn a0 = some q) : Ct l G yX10_greatestIn prog_12_method_4_code 2 (some .int) 0 0 [.int a0] χ σ (some (.int q)) χ σ := by
  refine Ct.of (by decide) (Nat.le_of_ble_eq_true rfl) ?_
  intro p e s m args below meth c Q X hr hlk hQ
  have hx := X.1
  have hb := X.2.1
  have b3 : ∀ (y0 : Int32) (x1 : Int32) (o : (Int32) ⊕ (Int32)), f_X10_greatestIn_s3 y0 x1 = some o → Sum.elim (fun z : Int32 => Wat p l e (rmk 0 0) s m args below meth c Q G 2 3 [] [(1, .int z), (0, .int y0)] χ σ) (fun z : Int32 => Wat p l e (rmk 0 0) s m args below meth c Q G 2 21 [] [(1, .int z)] χ σ) o → Wat p l e (rmk 0 0) s m args below meth c Q G 2 3 [] [(1, .int x1), (0, .int y0)] χ σ := by
    intro y0 x1 o h hk H locs ls hw hl
    unfold f_X10_greatestIn_s3 at h
    refine lv_iload_n hx hb d_X10_greatestIn_3 rfl (lv_at hl 0 rfl) ?_
    refine lv_if_le (tgt := 21) hx hb d_X10_greatestIn_4 (by decide) (fun hc => ?_) (fun hc => ?_)
    · have h := ite_t h hc
      obtain rfl := Option.some.inj h
      dsimp only [Sum.elim_inr] at hk
      exact hk _ _ _ hw (lv_sub hl [0] rfl)
    · have h := ite_f h hc
      refine lv_iload_n hx hb d_X10_greatestIn_7 rfl (lv_at hl 1 rfl) ?_
      refine lv_iload_n hx hb d_X10_greatestIn_8 rfl (lv_at hl 0 rfl) ?_
      refine lv_ishr hx hb d_X10_greatestIn_9 ?_
      refine lv_iconst (v := (1 : Int32)) hx hb d_X10_greatestIn_10 (by decide) ?_
      refine lv_iand hx hb d_X10_greatestIn_11 ?_
      refine lv_if_ne (tgt := 21) hx hb d_X10_greatestIn_12 (by decide) (fun hc => ?_) (fun hc => ?_)
      · have h := ite_f h hc
        obtain rfl := Option.some.inj h
        dsimp only [Sum.elim_inr] at hk
        exact hk _ _ _ hw (lv_sub hl [0] rfl)
      · have h := ite_t h hc
        refine lv_iinc (v := (x1 + (-1 : Int32))) (k := 0) (lv' := [(1, .int (x1 + (-1 : Int32))), (0, .int y0)]) hx hb d_X10_greatestIn_15 hl rfl (by rfl) (Nat.le_of_ble_eq_true rfl) rfl (fun ls hl => ?_)
        refine lv_goto (tgt := 3) hx hb d_X10_greatestIn_18 (by decide) ?_
        obtain rfl := Option.some.inj h
        dsimp only [Sum.elim_inl] at hk
        exact hk _ _ _ hw (lv_sub hl [0, 1] rfl)
  intro H locs ls hw hl
  have hl : lv_has ls 2 [(0, .int a0)] := hl
  unfold f_X10_greatestIn at h
  refine lv_bipush (v := (15 : Int32)) hx hb d_X10_greatestIn_0 (by decide) ?_
  refine lv_istore_n (lv' := [(1, .int (15 : Int32)), (0, .int a0)]) hx hb d_X10_greatestIn_2 rfl hl (Nat.le_of_ble_eq_true rfl) rfl (fun ls hl => ?_)
  obtain ⟨z1, e2, h⟩ := bd_some h
  refine iter_w (Wh := fun z : Int32 => Wat p l e (rmk 0 0) s m args below meth c Q G 2 3 [] [(1, .int z), (0, .int a0)] χ σ) (K := fun z : Int32 => Wat p l e (rmk 0 0) s m args below meth c Q G 2 21 [] [(1, .int z)] χ σ) (fun z o h1 h2 => b3 a0 z o h1 h2) FU _ _ e2 ?_ _ _ _ hw (lv_sub hl [0, 1] rfl)
  intro H locs ls hw hl
  refine lv_iload_n hx hb d_X10_greatestIn_21 rfl (lv_at hl 0 rfl) ?_
  obtain rfl := Option.some.inj h
  subst hQ
  exact r_iret X hr hlk hw d_X10_greatestIn_22
abbrev yX10_ofMost : MethodName := ⟨"OysterBeds$Views", "ofMost", "(LOysterBeds$Bed;I)I"⟩
theorem mwX10_ofMost : MW yX10_ofMost prog_12_method_5_code 4 (some .int) 2 := ⟨wd_575, wd_20, by decide +kernel⟩
theorem d_X10_ofMost_0 : decode prog_12_method_5_code 0 = .ok (.iconst 0, 1) := by decide +kernel
theorem d_X10_ofMost_1 : decode prog_12_method_5_code 1 = .ok (.istore_n 2, 1) := by decide +kernel
theorem d_X10_ofMost_2 : decode prog_12_method_5_code 2 = .ok (.iconst 0, 1) := by decide +kernel
theorem d_X10_ofMost_3 : decode prog_12_method_5_code 3 = .ok (.istore_n 3, 1) := by decide +kernel
theorem d_X10_ofMost_4 : decode prog_12_method_5_code 4 = .ok (.iload_n 3, 1) := by decide +kernel
theorem d_X10_ofMost_5 : decode prog_12_method_5_code 5 = .ok (.iconst 4, 1) := by decide +kernel
theorem d_X10_ofMost_6 : decode prog_12_method_5_code 6 = .ok (.if_icmp .ge 34, 3) := by decide +kernel
theorem d_X10_ofMost_9 : decode prog_12_method_5_code 9 = .ok (.iconst 2, 1) := by decide +kernel
theorem d_X10_ofMost_10 : decode prog_12_method_5_code 10 = .ok (.aload_n 0, 1) := by decide +kernel
theorem d_X10_ofMost_11 : decode prog_12_method_5_code 11 = .ok (.iload_n 3, 1) := by decide +kernel
theorem d_X10_ofMost_12 : decode prog_12_method_5_code 12 = .ok (.invokevirtual 15, 3) := by decide +kernel
theorem d_X10_ofMost_15 : decode prog_12_method_5_code 15 = .ok (.iload_n 1, 1) := by decide +kernel
theorem d_X10_ofMost_16 : decode prog_12_method_5_code 16 = .ok (.iand, 1) := by decide +kernel
theorem d_X10_ofMost_17 : decode prog_12_method_5_code 17 = .ok (.invokestatic 21, 3) := by decide +kernel
theorem d_X10_ofMost_20 : decode prog_12_method_5_code 20 = .ok (.imul, 1) := by decide +kernel
theorem d_X10_ofMost_21 : decode prog_12_method_5_code 21 = .ok (.iload_n 1, 1) := by decide +kernel
theorem d_X10_ofMost_22 : decode prog_12_method_5_code 22 = .ok (.invokestatic 21, 3) := by decide +kernel
theorem d_X10_ofMost_25 : decode prog_12_method_5_code 25 = .ok (.if_icmp .le 9, 3) := by decide +kernel
theorem d_X10_ofMost_28 : decode prog_12_method_5_code 28 = .ok (.iload_n 2, 1) := by decide +kernel
theorem d_X10_ofMost_29 : decode prog_12_method_5_code 29 = .ok (.iconst 1, 1) := by decide +kernel
theorem d_X10_ofMost_30 : decode prog_12_method_5_code 30 = .ok (.iload_n 3, 1) := by decide +kernel
theorem d_X10_ofMost_31 : decode prog_12_method_5_code 31 = .ok (.ishl, 1) := by decide +kernel
theorem d_X10_ofMost_32 : decode prog_12_method_5_code 32 = .ok (.ior, 1) := by decide +kernel
theorem d_X10_ofMost_33 : decode prog_12_method_5_code 33 = .ok (.istore_n 2, 1) := by decide +kernel
theorem d_X10_ofMost_34 : decode prog_12_method_5_code 34 = .ok (.iinc 3 1, 3) := by decide +kernel
theorem d_X10_ofMost_37 : decode prog_12_method_5_code 37 = .ok (.goto (-33), 3) := by decide +kernel
theorem d_X10_ofMost_40 : decode prog_12_method_5_code 40 = .ok (.iload_n 2, 1) := by decide +kernel
theorem d_X10_ofMost_41 : decode prog_12_method_5_code 41 = .ok (.ireturn, 1) := by decide +kernel
def f_X10_ofMost_j34_4 (b0 : Nat) (χ : St) (x1 : Int32) (x2 : Int32) (x3 : Int32) : Option ((Int32 × Int32) ⊕ (Int32)) := some (.inl (x2, (x3 + (1 : Int32))))
def f_X10_ofMost_s4 (b0 : Nat) (χ : St) (y1 : Int32) (x2 : Int32) (x3 : Int32) : Option ((Int32 × Int32) ⊕ (Int32)) := (if (4 : Int32) ≤ x3 then some (.inr x2) else (f_X0_yesOnes χ b0 x3).bind (fun q1 => (f_J6_bitCount_0f7a4 (q1 &&& y1)).bind (fun q3 => (f_J6_bitCount_0f7a4 y1).bind (fun q5 => f_X10_ofMost_j34_4 b0 χ y1 (if ((2 : Int32) * q3) ≤ q5 then x2 else (x2 ||| ((1 : Int32) <<< (x3 &&& 31)))) x3))))
def f_X10_ofMost (χ : St) (b0 : Nat) (a1 : Int32) : Option (Int32) := (iter (fun z => f_X10_ofMost_s4 b0 χ a1 z.1 z.2) FU ((0 : Int32), (0 : Int32))).bind (fun z7 => some z7)
theorem c_X10_ofMost {l : Launch} {G : gT} {χ σ : St} {b0 : Nat} {a1 : Int32} (hf : FW G) (hb_b0 : isBed b0 = true) {q : Int32} (h : f_X10_ofMost χ b0 a1 = some q) : Ct l G yX10_ofMost prog_12_method_5_code 4 (some .int) 1 23 [.ref (ga G b0), .int a1] χ σ (some (.int q)) χ σ := by
  obtain ⟨ob0_b0, ob1_b0, ob2_b0, ob3_b0, ob4_b0, ob5_b0, lb_b0, -, -⟩ := bed_at hf hb_b0
  have lb0_b0 : b0 < 300 := by omega
  have lb1_b0 : b0 + 1 < 300 := by omega
  have lb2_b0 : b0 + 2 < 300 := by omega
  have lb3_b0 : b0 + 3 < 300 := by omega
  have lb4_b0 : b0 + 4 < 300 := by omega
  have lb5_b0 : b0 + 5 < 300 := by omega
  refine Ct.of (by decide) (Nat.le_of_ble_eq_true rfl) ?_
  intro p e s m args below meth c Q X hr hlk hQ
  have hx := X.1
  have hb := X.2.1
  have j34_4 : ∀ (x1 : Int32) (x2 : Int32) (x3 : Int32) (o : (Int32 × Int32) ⊕ (Int32)), f_X10_ofMost_j34_4 b0 χ x1 x2 x3 = some o → Sum.elim (fun z : Int32 × Int32 => Wat p l e (rmk 1 23) s m args below meth c Q G 4 4 [] [(2, .int z.1), (3, .int z.2), (0, .ref (ga G b0)), (1, .int x1)] χ σ) (fun z : Int32 => Wat p l e (rmk 1 23) s m args below meth c Q G 4 40 [] [(2, .int z)] χ σ) o → Wat p l e (rmk 1 23) s m args below meth c Q G 4 34 [] [(0, .ref (ga G b0)), (1, .int x1), (2, .int x2), (3, .int x3)] χ σ := by
    intro x1 x2 x3 o h hk H locs ls hw hl
    unfold f_X10_ofMost_j34_4 at h
    refine lv_iinc (v := (x3 + (1 : Int32))) (k := 3) (lv' := [(3, .int (x3 + (1 : Int32))), (0, .ref (ga G b0)), (1, .int x1), (2, .int x2)]) hx hb d_X10_ofMost_34 hl rfl (by rfl) (Nat.le_of_ble_eq_true rfl) rfl (fun ls hl => ?_)
    refine lv_goto (tgt := 4) hx hb d_X10_ofMost_37 (by decide) ?_
    obtain rfl := Option.some.inj h
    dsimp only [Sum.elim_inl] at hk
    exact hk _ _ _ hw (lv_sub hl [3, 0, 1, 2] rfl)
  have b4 : ∀ (y1 : Int32) (x2 : Int32) (x3 : Int32) (o : (Int32 × Int32) ⊕ (Int32)), f_X10_ofMost_s4 b0 χ y1 x2 x3 = some o → Sum.elim (fun z : Int32 × Int32 => Wat p l e (rmk 1 23) s m args below meth c Q G 4 4 [] [(2, .int z.1), (3, .int z.2), (0, .ref (ga G b0)), (1, .int y1)] χ σ) (fun z : Int32 => Wat p l e (rmk 1 23) s m args below meth c Q G 4 40 [] [(2, .int z)] χ σ) o → Wat p l e (rmk 1 23) s m args below meth c Q G 4 4 [] [(2, .int x2), (3, .int x3), (0, .ref (ga G b0)), (1, .int y1)] χ σ := by
    intro y1 x2 x3 o h hk H locs ls hw hl
    unfold f_X10_ofMost_s4 at h
    refine lv_iload_n hx hb d_X10_ofMost_4 rfl (lv_at hl 1 rfl) ?_
    refine lv_iconst (v := (4 : Int32)) hx hb d_X10_ofMost_5 (by decide) ?_
    refine lv_icmp_ge (tgt := 40) hx hb d_X10_ofMost_6 (by decide) (fun hc => ?_) (fun hc => ?_)
    · have h := ite_t h hc
      obtain rfl := Option.some.inj h
      dsimp only [Sum.elim_inr] at hk
      exact hk _ _ _ hw (lv_sub hl [0] rfl)
    · have h := ite_f h hc
      refine lv_iconst (v := (2 : Int32)) hx hb d_X10_ofMost_9 (by decide) ?_
      refine lv_aload_n hx hb d_X10_ofMost_10 rfl (lv_at hl 2 rfl) ?_
      refine lv_iload_n hx hb d_X10_ofMost_11 rfl (lv_at hl 1 rfl) ?_
      obtain ⟨q1, e2, h⟩ := bd_some h
      refine r_callV (As := [.int x3]) (rest := [.int (2 : Int32)]) (st' := [.int q1, .int (2 : Int32)]) X hw hl mwX0_yesOnes wd_510 wd_511 wd_576 (c_X0_yesOnes hf hb_b0 e2) (r_recv X hw ct0 ob0_b0) rfl ⟨Nat.le_of_ble_eq_true rfl, Nat.le_of_ble_eq_true rfl⟩ ⟨Nat.le_refl _, Nat.le_refl _⟩ rfl rfl (Nat.le_of_ble_eq_true rfl) d_X10_ofMost_12 (fun H locs hw => ?_)
      refine lv_iload_n hx hb d_X10_ofMost_15 rfl (lv_at hl 3 rfl) ?_
      refine lv_iand hx hb d_X10_ofMost_16 ?_
      obtain ⟨q3, e4, h⟩ := bd_some h
      refine r_callS (As := [.int (q1 &&& y1)]) (rest := [.int (2 : Int32)]) (st' := [.int q3, .int (2 : Int32)]) X hw hl mwJ6_bitCount_0f7a4 wd_436 wd_577 (c_J6_bitCount_0f7a4 e4) rfl ⟨Nat.le_of_ble_eq_true rfl, Nat.le_of_ble_eq_true rfl⟩ ⟨Nat.le_refl _, Nat.le_refl _⟩ rfl rfl (Nat.le_of_ble_eq_true rfl) d_X10_ofMost_17 (fun H locs hw => ?_)
      refine lv_imul hx hb d_X10_ofMost_20 ?_
      refine lv_iload_n hx hb d_X10_ofMost_21 rfl (lv_at hl 3 rfl) ?_
      obtain ⟨q5, e6, h⟩ := bd_some h
      refine r_callS (As := [.int y1]) (rest := [.int ((2 : Int32) * q3)]) (st' := [.int q5, .int ((2 : Int32) * q3)]) X hw hl mwJ6_bitCount_0f7a4 wd_436 wd_577 (c_J6_bitCount_0f7a4 e6) rfl ⟨Nat.le_of_ble_eq_true rfl, Nat.le_of_ble_eq_true rfl⟩ ⟨Nat.le_refl _, Nat.le_refl _⟩ rfl rfl (Nat.le_of_ble_eq_true rfl) d_X10_ofMost_22 (fun H locs hw => ?_)
      refine lv_icmp_le (tgt := 34) hx hb d_X10_ofMost_25 (by decide) (fun hc => ?_) (fun hc => ?_)
      · simp only [if_pos hc] at h
        exact j34_4 y1 x2 x3 o h hk _ _ _ hw (lv_sub hl [2, 3, 0, 1] rfl)
      · simp only [if_neg hc] at h
        refine lv_iload_n hx hb d_X10_ofMost_28 rfl (lv_at hl 0 rfl) ?_
        refine lv_iconst (v := (1 : Int32)) hx hb d_X10_ofMost_29 (by decide) ?_
        refine lv_iload_n hx hb d_X10_ofMost_30 rfl (lv_at hl 1 rfl) ?_
        refine lv_ishl hx hb d_X10_ofMost_31 ?_
        refine lv_ior hx hb d_X10_ofMost_32 ?_
        refine lv_istore_n (lv' := [(2, .int (x2 ||| ((1 : Int32) <<< (x3 &&& 31)))), (3, .int x3), (0, .ref (ga G b0)), (1, .int y1)]) hx hb d_X10_ofMost_33 rfl hl (Nat.le_of_ble_eq_true rfl) rfl (fun ls hl => ?_)
        exact j34_4 y1 (x2 ||| ((1 : Int32) <<< (x3 &&& 31))) x3 o h hk _ _ _ hw (lv_sub hl [2, 3, 0, 1] rfl)
  intro H locs ls hw hl
  have hl : lv_has ls 4 [(0, .ref (ga G b0)), (1, .int a1)] := hl
  unfold f_X10_ofMost at h
  refine lv_iconst (v := (0 : Int32)) hx hb d_X10_ofMost_0 (by decide) ?_
  refine lv_istore_n (lv' := [(2, .int (0 : Int32)), (0, .ref (ga G b0)), (1, .int a1)]) hx hb d_X10_ofMost_1 rfl hl (Nat.le_of_ble_eq_true rfl) rfl (fun ls hl => ?_)
  refine lv_iconst (v := (0 : Int32)) hx hb d_X10_ofMost_2 (by decide) ?_
  refine lv_istore_n (lv' := [(3, .int (0 : Int32)), (2, .int (0 : Int32)), (0, .ref (ga G b0)), (1, .int a1)]) hx hb d_X10_ofMost_3 rfl hl (Nat.le_of_ble_eq_true rfl) rfl (fun ls hl => ?_)
  obtain ⟨z7, e8, h⟩ := bd_some h
  refine iter_w (Wh := fun z : Int32 × Int32 => Wat p l e (rmk 1 23) s m args below meth c Q G 4 4 [] [(2, .int z.1), (3, .int z.2), (0, .ref (ga G b0)), (1, .int a1)] χ σ) (K := fun z : Int32 => Wat p l e (rmk 1 23) s m args below meth c Q G 4 40 [] [(2, .int z)] χ σ) (fun z o h1 h2 => b4 a1 z.1 z.2 o h1 h2) FU _ _ e8 ?_ _ _ _ hw (lv_sub hl [1, 0, 2, 3] rfl)
  intro H locs ls hw hl
  refine lv_iload_n hx hb d_X10_ofMost_40 rfl (lv_at hl 0 rfl) ?_
  obtain rfl := Option.some.inj h
  subst hQ
  exact r_iret X hr hlk hw d_X10_ofMost_41
abbrev yX10_ties : MethodName := ⟨"OysterBeds$Views", "ties", "(LOysterBeds$Bed;)I"⟩
theorem mwX10_ties : MW yX10_ties prog_12_method_6_code 3 (some .int) 1 := ⟨wd_583, wd_20, by decide +kernel⟩
theorem d_X10_ties_0 : decode prog_12_method_6_code 0 = .ok (.iconst 0, 1) := by decide +kernel
theorem d_X10_ties_1 : decode prog_12_method_6_code 1 = .ok (.istore_n 1, 1) := by decide +kernel
theorem d_X10_ties_2 : decode prog_12_method_6_code 2 = .ok (.iconst 0, 1) := by decide +kernel
theorem d_X10_ties_3 : decode prog_12_method_6_code 3 = .ok (.istore_n 2, 1) := by decide +kernel
theorem d_X10_ties_4 : decode prog_12_method_6_code 4 = .ok (.iload_n 2, 1) := by decide +kernel
theorem d_X10_ties_5 : decode prog_12_method_6_code 5 = .ok (.iconst 4, 1) := by decide +kernel
theorem d_X10_ties_6 : decode prog_12_method_6_code 6 = .ok (.if_icmp .ge 29, 3) := by decide +kernel
theorem d_X10_ties_9 : decode prog_12_method_6_code 9 = .ok (.iconst 2, 1) := by decide +kernel
theorem d_X10_ties_10 : decode prog_12_method_6_code 10 = .ok (.aload_n 0, 1) := by decide +kernel
theorem d_X10_ties_11 : decode prog_12_method_6_code 11 = .ok (.iload_n 2, 1) := by decide +kernel
theorem d_X10_ties_12 : decode prog_12_method_6_code 12 = .ok (.invokevirtual 15, 3) := by decide +kernel
theorem d_X10_ties_15 : decode prog_12_method_6_code 15 = .ok (.invokestatic 21, 3) := by decide +kernel
theorem d_X10_ties_18 : decode prog_12_method_6_code 18 = .ok (.imul, 1) := by decide +kernel
theorem d_X10_ties_19 : decode prog_12_method_6_code 19 = .ok (.aload_n 0, 1) := by decide +kernel
theorem d_X10_ties_20 : decode prog_12_method_6_code 20 = .ok (.getfield 26, 3) := by decide +kernel
theorem d_X10_ties_23 : decode prog_12_method_6_code 23 = .ok (.if_icmp .ne 6, 3) := by decide +kernel
theorem d_X10_ties_26 : decode prog_12_method_6_code 26 = .ok (.iinc 1 1, 3) := by decide +kernel
theorem d_X10_ties_29 : decode prog_12_method_6_code 29 = .ok (.iinc 2 1, 3) := by decide +kernel
theorem d_X10_ties_32 : decode prog_12_method_6_code 32 = .ok (.goto (-28), 3) := by decide +kernel
theorem d_X10_ties_35 : decode prog_12_method_6_code 35 = .ok (.iload_n 1, 1) := by decide +kernel
theorem d_X10_ties_36 : decode prog_12_method_6_code 36 = .ok (.ireturn, 1) := by decide +kernel
def f_X10_ties_j29_4 (b0 : Nat) (χ : St) (x1 : Int32) (x2 : Int32) : Option ((Int32 × Int32) ⊕ (Int32)) := some (.inl (x1, (x2 + (1 : Int32))))
def f_X10_ties_s4 (b0 : Nat) (χ : St) (x1 : Int32) (x2 : Int32) : Option ((Int32 × Int32) ⊕ (Int32)) := (if (4 : Int32) ≤ x2 then some (.inr x1) else (f_X0_yesOnes χ b0 x2).bind (fun q1 => (f_J6_bitCount_0f7a4 q1).bind (fun q3 => f_X10_ties_j29_4 b0 χ (if ((2 : Int32) * q3) = (cF χ b0 5) then (x1 + (1 : Int32)) else x1) x2)))
def f_X10_ties (χ : St) (b0 : Nat) : Option (Int32) := (iter (fun z => f_X10_ties_s4 b0 χ z.1 z.2) FU ((0 : Int32), (0 : Int32))).bind (fun z5 => some z5)
theorem c_X10_ties {l : Launch} {G : gT} {χ σ : St} {b0 : Nat} (hf : FW G) (hb_b0 : isBed b0 = true) {q : Int32} (h : f_X10_ties χ b0 = some q) : Ct l G yX10_ties prog_12_method_6_code 3 (some .int) 1 23 [.ref (ga G b0)] χ σ (some (.int q)) χ σ := by
  obtain ⟨ob0_b0, ob1_b0, ob2_b0, ob3_b0, ob4_b0, ob5_b0, lb_b0, -, -⟩ := bed_at hf hb_b0
  have lb0_b0 : b0 < 300 := by omega
  have lb1_b0 : b0 + 1 < 300 := by omega
  have lb2_b0 : b0 + 2 < 300 := by omega
  have lb3_b0 : b0 + 3 < 300 := by omega
  have lb4_b0 : b0 + 4 < 300 := by omega
  have lb5_b0 : b0 + 5 < 300 := by omega
  refine Ct.of (by decide) (Nat.le_of_ble_eq_true rfl) ?_
  intro p e s m args below meth c Q X hr hlk hQ
  have hx := X.1
  have hb := X.2.1
  have j29_4 : ∀ (x1 : Int32) (x2 : Int32) (o : (Int32 × Int32) ⊕ (Int32)), f_X10_ties_j29_4 b0 χ x1 x2 = some o → Sum.elim (fun z : Int32 × Int32 => Wat p l e (rmk 1 23) s m args below meth c Q G 3 4 [] [(1, .int z.1), (2, .int z.2), (0, .ref (ga G b0))] χ σ) (fun z : Int32 => Wat p l e (rmk 1 23) s m args below meth c Q G 3 35 [] [(1, .int z)] χ σ) o → Wat p l e (rmk 1 23) s m args below meth c Q G 3 29 [] [(0, .ref (ga G b0)), (1, .int x1), (2, .int x2)] χ σ := by
    intro x1 x2 o h hk H locs ls hw hl
    unfold f_X10_ties_j29_4 at h
    refine lv_iinc (v := (x2 + (1 : Int32))) (k := 2) (lv' := [(2, .int (x2 + (1 : Int32))), (0, .ref (ga G b0)), (1, .int x1)]) hx hb d_X10_ties_29 hl rfl (by rfl) (Nat.le_of_ble_eq_true rfl) rfl (fun ls hl => ?_)
    refine lv_goto (tgt := 4) hx hb d_X10_ties_32 (by decide) ?_
    obtain rfl := Option.some.inj h
    dsimp only [Sum.elim_inl] at hk
    exact hk _ _ _ hw (lv_sub hl [2, 0, 1] rfl)
  have b4 : ∀ (x1 : Int32) (x2 : Int32) (o : (Int32 × Int32) ⊕ (Int32)), f_X10_ties_s4 b0 χ x1 x2 = some o → Sum.elim (fun z : Int32 × Int32 => Wat p l e (rmk 1 23) s m args below meth c Q G 3 4 [] [(1, .int z.1), (2, .int z.2), (0, .ref (ga G b0))] χ σ) (fun z : Int32 => Wat p l e (rmk 1 23) s m args below meth c Q G 3 35 [] [(1, .int z)] χ σ) o → Wat p l e (rmk 1 23) s m args below meth c Q G 3 4 [] [(1, .int x1), (2, .int x2), (0, .ref (ga G b0))] χ σ := by
    intro x1 x2 o h hk H locs ls hw hl
    unfold f_X10_ties_s4 at h
    refine lv_iload_n hx hb d_X10_ties_4 rfl (lv_at hl 1 rfl) ?_
    refine lv_iconst (v := (4 : Int32)) hx hb d_X10_ties_5 (by decide) ?_
    refine lv_icmp_ge (tgt := 35) hx hb d_X10_ties_6 (by decide) (fun hc => ?_) (fun hc => ?_)
    · have h := ite_t h hc
      obtain rfl := Option.some.inj h
      dsimp only [Sum.elim_inr] at hk
      exact hk _ _ _ hw (lv_sub hl [0] rfl)
    · have h := ite_f h hc
      refine lv_iconst (v := (2 : Int32)) hx hb d_X10_ties_9 (by decide) ?_
      refine lv_aload_n hx hb d_X10_ties_10 rfl (lv_at hl 2 rfl) ?_
      refine lv_iload_n hx hb d_X10_ties_11 rfl (lv_at hl 1 rfl) ?_
      obtain ⟨q1, e2, h⟩ := bd_some h
      refine r_callV (As := [.int x2]) (rest := [.int (2 : Int32)]) (st' := [.int q1, .int (2 : Int32)]) X hw hl mwX0_yesOnes wd_510 wd_511 wd_576 (c_X0_yesOnes hf hb_b0 e2) (r_recv X hw ct0 ob0_b0) rfl ⟨Nat.le_of_ble_eq_true rfl, Nat.le_of_ble_eq_true rfl⟩ ⟨Nat.le_refl _, Nat.le_refl _⟩ rfl rfl (Nat.le_of_ble_eq_true rfl) d_X10_ties_12 (fun H locs hw => ?_)
      obtain ⟨q3, e4, h⟩ := bd_some h
      refine r_callS (As := [.int q1]) (rest := [.int (2 : Int32)]) (st' := [.int q3, .int (2 : Int32)]) X hw hl mwJ6_bitCount_0f7a4 wd_436 wd_577 (c_J6_bitCount_0f7a4 e4) rfl ⟨Nat.le_of_ble_eq_true rfl, Nat.le_of_ble_eq_true rfl⟩ ⟨Nat.le_refl _, Nat.le_refl _⟩ rfl rfl (Nat.le_of_ble_eq_true rfl) d_X10_ties_15 (fun H locs hw => ?_)
      refine lv_imul hx hb d_X10_ties_18 ?_
      refine lv_aload_n hx hb d_X10_ties_19 rfl (lv_at hl 2 rfl) ?_
      refine r_getiN (j := 5) X hw ct0 ob0_b0 lb0_b0 rfl (Nat.le_of_ble_eq_true rfl) nw_24 d_X10_ties_20 ?_
      refine lv_icmp_ne (tgt := 29) hx hb d_X10_ties_23 (by decide) (fun hc => ?_) (fun hc => ?_)
      · simp only [if_neg hc] at h
        exact j29_4 x1 x2 o h hk _ _ _ hw (lv_sub hl [2, 0, 1] rfl)
      · simp only [if_pos hc] at h
        refine lv_iinc (v := (x1 + (1 : Int32))) (k := 0) (lv' := [(1, .int (x1 + (1 : Int32))), (2, .int x2), (0, .ref (ga G b0))]) hx hb d_X10_ties_26 hl rfl (by rfl) (Nat.le_of_ble_eq_true rfl) rfl (fun ls hl => ?_)
        exact j29_4 (x1 + (1 : Int32)) x2 o h hk _ _ _ hw (lv_sub hl [2, 0, 1] rfl)
  intro H locs ls hw hl
  have hl : lv_has ls 3 [(0, .ref (ga G b0))] := hl
  unfold f_X10_ties at h
  refine lv_iconst (v := (0 : Int32)) hx hb d_X10_ties_0 (by decide) ?_
  refine lv_istore_n (lv' := [(1, .int (0 : Int32)), (0, .ref (ga G b0))]) hx hb d_X10_ties_1 rfl hl (Nat.le_of_ble_eq_true rfl) rfl (fun ls hl => ?_)
  refine lv_iconst (v := (0 : Int32)) hx hb d_X10_ties_2 (by decide) ?_
  refine lv_istore_n (lv' := [(2, .int (0 : Int32)), (1, .int (0 : Int32)), (0, .ref (ga G b0))]) hx hb d_X10_ties_3 rfl hl (Nat.le_of_ble_eq_true rfl) rfl (fun ls hl => ?_)
  obtain ⟨z5, e6, h⟩ := bd_some h
  refine iter_w (Wh := fun z : Int32 × Int32 => Wat p l e (rmk 1 23) s m args below meth c Q G 3 4 [] [(1, .int z.1), (2, .int z.2), (0, .ref (ga G b0))] χ σ) (K := fun z : Int32 => Wat p l e (rmk 1 23) s m args below meth c Q G 3 35 [] [(1, .int z)] χ σ) (fun z o h1 h2 => b4 z.1 z.2 o h1 h2) FU _ _ e6 ?_ _ _ _ hw (lv_sub hl [1, 0, 2] rfl)
  intro H locs ls hw hl
  refine lv_iload_n hx hb d_X10_ties_35 rfl (lv_at hl 0 rfl) ?_
  obtain rfl := Option.some.inj h
  subst hQ
  exact r_iret X hr hlk hw d_X10_ties_36
abbrev yX10_onesWith : MethodName := ⟨"OysterBeds$Views", "onesWith", "(LOysterBeds$Bed;I)I"⟩
theorem mwX10_onesWith : MW yX10_onesWith prog_12_method_7_code 4 (some .int) 2 := ⟨wd_580, wd_20, by decide +kernel⟩
theorem d_X10_onesWith_0 : decode prog_12_method_7_code 0 = .ok (.iconst 0, 1) := by decide +kernel
theorem d_X10_onesWith_1 : decode prog_12_method_7_code 1 = .ok (.istore_n 2, 1) := by decide +kernel
theorem d_X10_onesWith_2 : decode prog_12_method_7_code 2 = .ok (.iconst 0, 1) := by decide +kernel
theorem d_X10_onesWith_3 : decode prog_12_method_7_code 3 = .ok (.istore_n 3, 1) := by decide +kernel
theorem d_X10_onesWith_4 : decode prog_12_method_7_code 4 = .ok (.iload_n 3, 1) := by decide +kernel
theorem d_X10_onesWith_5 : decode prog_12_method_7_code 5 = .ok (.aload_n 0, 1) := by decide +kernel
theorem d_X10_onesWith_6 : decode prog_12_method_7_code 6 = .ok (.getfield 26, 3) := by decide +kernel
theorem d_X10_onesWith_9 : decode prog_12_method_7_code 9 = .ok (.if_icmp .ge 25, 3) := by decide +kernel
theorem d_X10_onesWith_12 : decode prog_12_method_7_code 12 = .ok (.aload_n 0, 1) := by decide +kernel
theorem d_X10_onesWith_13 : decode prog_12_method_7_code 13 = .ok (.getfield 30, 3) := by decide +kernel
theorem d_X10_onesWith_16 : decode prog_12_method_7_code 16 = .ok (.iload_n 3, 1) := by decide +kernel
theorem d_X10_onesWith_17 : decode prog_12_method_7_code 17 = .ok (.iaload, 1) := by decide +kernel
theorem d_X10_onesWith_18 : decode prog_12_method_7_code 18 = .ok (.iload_n 1, 1) := by decide +kernel
theorem d_X10_onesWith_19 : decode prog_12_method_7_code 19 = .ok (.if_icmp .ne 9, 3) := by decide +kernel
theorem d_X10_onesWith_22 : decode prog_12_method_7_code 22 = .ok (.iload_n 2, 1) := by decide +kernel
theorem d_X10_onesWith_23 : decode prog_12_method_7_code 23 = .ok (.iconst 1, 1) := by decide +kernel
theorem d_X10_onesWith_24 : decode prog_12_method_7_code 24 = .ok (.iload_n 3, 1) := by decide +kernel
theorem d_X10_onesWith_25 : decode prog_12_method_7_code 25 = .ok (.ishl, 1) := by decide +kernel
theorem d_X10_onesWith_26 : decode prog_12_method_7_code 26 = .ok (.ior, 1) := by decide +kernel
theorem d_X10_onesWith_27 : decode prog_12_method_7_code 27 = .ok (.istore_n 2, 1) := by decide +kernel
theorem d_X10_onesWith_28 : decode prog_12_method_7_code 28 = .ok (.iinc 3 1, 3) := by decide +kernel
theorem d_X10_onesWith_31 : decode prog_12_method_7_code 31 = .ok (.goto (-27), 3) := by decide +kernel
theorem d_X10_onesWith_34 : decode prog_12_method_7_code 34 = .ok (.iload_n 2, 1) := by decide +kernel
theorem d_X10_onesWith_35 : decode prog_12_method_7_code 35 = .ok (.ireturn, 1) := by decide +kernel
def f_X10_onesWith_j28_4 (b0 : Nat) (χ : St) (x1 : Int32) (x2 : Int32) (x3 : Int32) : Option ((Int32 × Int32) ⊕ (Int32)) := some (.inl (x2, (x3 + (1 : Int32))))
def f_X10_onesWith_s4 (b0 : Nat) (χ : St) (y1 : Int32) (x2 : Int32) (x3 : Int32) : Option ((Int32 × Int32) ⊕ (Int32)) := (if (cF χ b0 5) ≤ x3 then some (.inr x2) else gd (inb x3 8) (f_X10_onesWith_j28_4 b0 χ y1 (if (cA χ (b0 + 3) x3.toNatClampNeg) = y1 then (x2 ||| ((1 : Int32) <<< (x3 &&& 31))) else x2) x3))
def f_X10_onesWith (χ : St) (b0 : Nat) (a1 : Int32) : Option (Int32) := (iter (fun z => f_X10_onesWith_s4 b0 χ a1 z.1 z.2) FU ((0 : Int32), (0 : Int32))).bind (fun z2 => some z2)
theorem c_X10_onesWith {l : Launch} {G : gT} {χ σ : St} {b0 : Nat} {a1 : Int32} (hf : FW G) (hb_b0 : isBed b0 = true) {q : Int32} (h : f_X10_onesWith χ b0 a1 = some q) : Ct l G yX10_onesWith prog_12_method_7_code 4 (some .int) 0 0 [.ref (ga G b0), .int a1] χ σ (some (.int q)) χ σ := by
  obtain ⟨ob0_b0, ob1_b0, ob2_b0, ob3_b0, ob4_b0, ob5_b0, lb_b0, -, -⟩ := bed_at hf hb_b0
  have lb0_b0 : b0 < 300 := by omega
  have lb1_b0 : b0 + 1 < 300 := by omega
  have lb2_b0 : b0 + 2 < 300 := by omega
  have lb3_b0 : b0 + 3 < 300 := by omega
  have lb4_b0 : b0 + 4 < 300 := by omega
  have lb5_b0 : b0 + 5 < 300 := by omega
  refine Ct.of (by decide) (Nat.le_of_ble_eq_true rfl) ?_
  intro p e s m args below meth c Q X hr hlk hQ
  have hx := X.1
  have hb := X.2.1
  have j28_4 : ∀ (x1 : Int32) (x2 : Int32) (x3 : Int32) (o : (Int32 × Int32) ⊕ (Int32)), f_X10_onesWith_j28_4 b0 χ x1 x2 x3 = some o → Sum.elim (fun z : Int32 × Int32 => Wat p l e (rmk 0 0) s m args below meth c Q G 4 4 [] [(2, .int z.1), (3, .int z.2), (0, .ref (ga G b0)), (1, .int x1)] χ σ) (fun z : Int32 => Wat p l e (rmk 0 0) s m args below meth c Q G 4 34 [] [(2, .int z)] χ σ) o → Wat p l e (rmk 0 0) s m args below meth c Q G 4 28 [] [(0, .ref (ga G b0)), (1, .int x1), (2, .int x2), (3, .int x3)] χ σ := by
    intro x1 x2 x3 o h hk H locs ls hw hl
    unfold f_X10_onesWith_j28_4 at h
    refine lv_iinc (v := (x3 + (1 : Int32))) (k := 3) (lv' := [(3, .int (x3 + (1 : Int32))), (0, .ref (ga G b0)), (1, .int x1), (2, .int x2)]) hx hb d_X10_onesWith_28 hl rfl (by rfl) (Nat.le_of_ble_eq_true rfl) rfl (fun ls hl => ?_)
    refine lv_goto (tgt := 4) hx hb d_X10_onesWith_31 (by decide) ?_
    obtain rfl := Option.some.inj h
    dsimp only [Sum.elim_inl] at hk
    exact hk _ _ _ hw (lv_sub hl [3, 0, 1, 2] rfl)
  have b4 : ∀ (y1 : Int32) (x2 : Int32) (x3 : Int32) (o : (Int32 × Int32) ⊕ (Int32)), f_X10_onesWith_s4 b0 χ y1 x2 x3 = some o → Sum.elim (fun z : Int32 × Int32 => Wat p l e (rmk 0 0) s m args below meth c Q G 4 4 [] [(2, .int z.1), (3, .int z.2), (0, .ref (ga G b0)), (1, .int y1)] χ σ) (fun z : Int32 => Wat p l e (rmk 0 0) s m args below meth c Q G 4 34 [] [(2, .int z)] χ σ) o → Wat p l e (rmk 0 0) s m args below meth c Q G 4 4 [] [(2, .int x2), (3, .int x3), (0, .ref (ga G b0)), (1, .int y1)] χ σ := by
    intro y1 x2 x3 o h hk H locs ls hw hl
    unfold f_X10_onesWith_s4 at h
    refine lv_iload_n hx hb d_X10_onesWith_4 rfl (lv_at hl 1 rfl) ?_
    refine lv_aload_n hx hb d_X10_onesWith_5 rfl (lv_at hl 2 rfl) ?_
    refine r_getiN (j := 5) X hw ct0 ob0_b0 lb0_b0 rfl (Nat.le_of_ble_eq_true rfl) nw_24 d_X10_onesWith_6 ?_
    refine lv_icmp_ge (tgt := 34) hx hb d_X10_onesWith_9 (by decide) (fun hc => ?_) (fun hc => ?_)
    · have h := ite_t h hc
      obtain rfl := Option.some.inj h
      dsimp only [Sum.elim_inr] at hk
      exact hk _ _ _ hw (lv_sub hl [0] rfl)
    · have h := ite_f h hc
      refine lv_aload_n hx hb d_X10_onesWith_12 rfl (lv_at hl 2 rfl) ?_
      refine r_getrN (j := 2) X hw ct0 ob0_b0 rfl (Nat.le_of_ble_eq_true rfl) (q := (b0 + 3)) (rt_bed hb_b0) nw_15 d_X10_onesWith_13 ?_
      refine lv_iload_n hx hb d_X10_onesWith_16 rfl (lv_at hl 1 rfl) ?_
      obtain ⟨hi1, h⟩ := gd_some h
      refine r_iald X hw ob3_b0 lb3_b0 hi1 d_X10_onesWith_17 ?_
      refine lv_iload_n hx hb d_X10_onesWith_18 rfl (lv_at hl 3 rfl) ?_
      refine lv_icmp_ne (tgt := 28) hx hb d_X10_onesWith_19 (by decide) (fun hc => ?_) (fun hc => ?_)
      · simp only [if_neg hc] at h
        exact j28_4 y1 x2 x3 o h hk _ _ _ hw (lv_sub hl [2, 3, 0, 1] rfl)
      · simp only [if_pos hc] at h
        refine lv_iload_n hx hb d_X10_onesWith_22 rfl (lv_at hl 0 rfl) ?_
        refine lv_iconst (v := (1 : Int32)) hx hb d_X10_onesWith_23 (by decide) ?_
        refine lv_iload_n hx hb d_X10_onesWith_24 rfl (lv_at hl 1 rfl) ?_
        refine lv_ishl hx hb d_X10_onesWith_25 ?_
        refine lv_ior hx hb d_X10_onesWith_26 ?_
        refine lv_istore_n (lv' := [(2, .int (x2 ||| ((1 : Int32) <<< (x3 &&& 31)))), (3, .int x3), (0, .ref (ga G b0)), (1, .int y1)]) hx hb d_X10_onesWith_27 rfl hl (Nat.le_of_ble_eq_true rfl) rfl (fun ls hl => ?_)
        exact j28_4 y1 (x2 ||| ((1 : Int32) <<< (x3 &&& 31))) x3 o h hk _ _ _ hw (lv_sub hl [2, 3, 0, 1] rfl)
  intro H locs ls hw hl
  have hl : lv_has ls 4 [(0, .ref (ga G b0)), (1, .int a1)] := hl
  unfold f_X10_onesWith at h
  refine lv_iconst (v := (0 : Int32)) hx hb d_X10_onesWith_0 (by decide) ?_
  refine lv_istore_n (lv' := [(2, .int (0 : Int32)), (0, .ref (ga G b0)), (1, .int a1)]) hx hb d_X10_onesWith_1 rfl hl (Nat.le_of_ble_eq_true rfl) rfl (fun ls hl => ?_)
  refine lv_iconst (v := (0 : Int32)) hx hb d_X10_onesWith_2 (by decide) ?_
  refine lv_istore_n (lv' := [(3, .int (0 : Int32)), (2, .int (0 : Int32)), (0, .ref (ga G b0)), (1, .int a1)]) hx hb d_X10_onesWith_3 rfl hl (Nat.le_of_ble_eq_true rfl) rfl (fun ls hl => ?_)
  obtain ⟨z2, e3, h⟩ := bd_some h
  refine iter_w (Wh := fun z : Int32 × Int32 => Wat p l e (rmk 0 0) s m args below meth c Q G 4 4 [] [(2, .int z.1), (3, .int z.2), (0, .ref (ga G b0)), (1, .int a1)] χ σ) (K := fun z : Int32 => Wat p l e (rmk 0 0) s m args below meth c Q G 4 34 [] [(2, .int z)] χ σ) (fun z o h1 h2 => b4 a1 z.1 z.2 o h1 h2) FU _ _ e3 ?_ _ _ _ hw (lv_sub hl [1, 0, 2, 3] rfl)
  intro H locs ls hw hl
  refine lv_iload_n hx hb d_X10_onesWith_34 rfl (lv_at hl 0 rfl) ?_
  obtain rfl := Option.some.inj h
  subst hQ
  exact r_iret X hr hlk hw d_X10_onesWith_35
abbrev yX10_farFromAll : MethodName := ⟨"OysterBeds$Views", "farFromAll", "(LOysterBeds$Bed;I)I"⟩
theorem mwX10_farFromAll : MW yX10_farFromAll prog_12_method_8_code 4 (some .int) 2 := ⟨wd_590, wd_20, by decide +kernel⟩
theorem d_X10_farFromAll_0 : decode prog_12_method_8_code 0 = .ok (.iconst 0, 1) := by decide +kernel
theorem d_X10_farFromAll_1 : decode prog_12_method_8_code 1 = .ok (.istore_n 2, 1) := by decide +kernel
theorem d_X10_farFromAll_2 : decode prog_12_method_8_code 2 = .ok (.iconst 0, 1) := by decide +kernel
theorem d_X10_farFromAll_3 : decode prog_12_method_8_code 3 = .ok (.istore_n 3, 1) := by decide +kernel
theorem d_X10_farFromAll_4 : decode prog_12_method_8_code 4 = .ok (.iload_n 3, 1) := by decide +kernel
theorem d_X10_farFromAll_5 : decode prog_12_method_8_code 5 = .ok (.aload_n 0, 1) := by decide +kernel
theorem d_X10_farFromAll_6 : decode prog_12_method_8_code 6 = .ok (.getfield 26, 3) := by decide +kernel
theorem d_X10_farFromAll_9 : decode prog_12_method_8_code 9 = .ok (.if_icmp .ge 23, 3) := by decide +kernel
theorem d_X10_farFromAll_12 : decode prog_12_method_8_code 12 = .ok (.iload_n 2, 1) := by decide +kernel
theorem d_X10_farFromAll_13 : decode prog_12_method_8_code 13 = .ok (.aload_n 0, 1) := by decide +kernel
theorem d_X10_farFromAll_14 : decode prog_12_method_8_code 14 = .ok (.getfield 30, 3) := by decide +kernel
theorem d_X10_farFromAll_17 : decode prog_12_method_8_code 17 = .ok (.iload_n 3, 1) := by decide +kernel
theorem d_X10_farFromAll_18 : decode prog_12_method_8_code 18 = .ok (.iaload, 1) := by decide +kernel
theorem d_X10_farFromAll_19 : decode prog_12_method_8_code 19 = .ok (.iload_n 1, 1) := by decide +kernel
theorem d_X10_farFromAll_20 : decode prog_12_method_8_code 20 = .ok (.ixor, 1) := by decide +kernel
theorem d_X10_farFromAll_21 : decode prog_12_method_8_code 21 = .ok (.invokestatic 21, 3) := by decide +kernel
theorem d_X10_farFromAll_24 : decode prog_12_method_8_code 24 = .ok (.iadd, 1) := by decide +kernel
theorem d_X10_farFromAll_25 : decode prog_12_method_8_code 25 = .ok (.istore_n 2, 1) := by decide +kernel
theorem d_X10_farFromAll_26 : decode prog_12_method_8_code 26 = .ok (.iinc 3 1, 3) := by decide +kernel
theorem d_X10_farFromAll_29 : decode prog_12_method_8_code 29 = .ok (.goto (-25), 3) := by decide +kernel
theorem d_X10_farFromAll_32 : decode prog_12_method_8_code 32 = .ok (.iload_n 2, 1) := by decide +kernel
theorem d_X10_farFromAll_33 : decode prog_12_method_8_code 33 = .ok (.ireturn, 1) := by decide +kernel
def f_X10_farFromAll_s4 (b0 : Nat) (χ : St) (y1 : Int32) (x2 : Int32) (x3 : Int32) : Option ((Int32 × Int32) ⊕ (Int32)) := (if (cF χ b0 5) ≤ x3 then some (.inr x2) else gd (inb x3 8) ((f_J6_bitCount_0f7a4 ((cA χ (b0 + 3) x3.toNatClampNeg) ^^^ y1)).bind (fun q2 => some (.inl ((x2 + q2), (x3 + (1 : Int32)))))))
def f_X10_farFromAll (χ : St) (b0 : Nat) (a1 : Int32) : Option (Int32) := (iter (fun z => f_X10_farFromAll_s4 b0 χ a1 z.1 z.2) FU ((0 : Int32), (0 : Int32))).bind (fun z4 => some z4)
theorem c_X10_farFromAll {l : Launch} {G : gT} {χ σ : St} {b0 : Nat} {a1 : Int32} (hf : FW G) (hb_b0 : isBed b0 = true) {q : Int32} (h : f_X10_farFromAll χ b0 a1 = some q) : Ct l G yX10_farFromAll prog_12_method_8_code 4 (some .int) 1 20 [.ref (ga G b0), .int a1] χ σ (some (.int q)) χ σ := by
  obtain ⟨ob0_b0, ob1_b0, ob2_b0, ob3_b0, ob4_b0, ob5_b0, lb_b0, -, -⟩ := bed_at hf hb_b0
  have lb0_b0 : b0 < 300 := by omega
  have lb1_b0 : b0 + 1 < 300 := by omega
  have lb2_b0 : b0 + 2 < 300 := by omega
  have lb3_b0 : b0 + 3 < 300 := by omega
  have lb4_b0 : b0 + 4 < 300 := by omega
  have lb5_b0 : b0 + 5 < 300 := by omega
  refine Ct.of (by decide) (Nat.le_of_ble_eq_true rfl) ?_
  intro p e s m args below meth c Q X hr hlk hQ
  have hx := X.1
  have hb := X.2.1
  have b4 : ∀ (y1 : Int32) (x2 : Int32) (x3 : Int32) (o : (Int32 × Int32) ⊕ (Int32)), f_X10_farFromAll_s4 b0 χ y1 x2 x3 = some o → Sum.elim (fun z : Int32 × Int32 => Wat p l e (rmk 1 20) s m args below meth c Q G 4 4 [] [(2, .int z.1), (3, .int z.2), (0, .ref (ga G b0)), (1, .int y1)] χ σ) (fun z : Int32 => Wat p l e (rmk 1 20) s m args below meth c Q G 4 32 [] [(2, .int z)] χ σ) o → Wat p l e (rmk 1 20) s m args below meth c Q G 4 4 [] [(2, .int x2), (3, .int x3), (0, .ref (ga G b0)), (1, .int y1)] χ σ := by
    intro y1 x2 x3 o h hk H locs ls hw hl
    unfold f_X10_farFromAll_s4 at h
    refine lv_iload_n hx hb d_X10_farFromAll_4 rfl (lv_at hl 1 rfl) ?_
    refine lv_aload_n hx hb d_X10_farFromAll_5 rfl (lv_at hl 2 rfl) ?_
    refine r_getiN (j := 5) X hw ct0 ob0_b0 lb0_b0 rfl (Nat.le_of_ble_eq_true rfl) nw_24 d_X10_farFromAll_6 ?_
    refine lv_icmp_ge (tgt := 32) hx hb d_X10_farFromAll_9 (by decide) (fun hc => ?_) (fun hc => ?_)
    · have h := ite_t h hc
      obtain rfl := Option.some.inj h
      dsimp only [Sum.elim_inr] at hk
      exact hk _ _ _ hw (lv_sub hl [0] rfl)
    · have h := ite_f h hc
      refine lv_iload_n hx hb d_X10_farFromAll_12 rfl (lv_at hl 0 rfl) ?_
      refine lv_aload_n hx hb d_X10_farFromAll_13 rfl (lv_at hl 2 rfl) ?_
      refine r_getrN (j := 2) X hw ct0 ob0_b0 rfl (Nat.le_of_ble_eq_true rfl) (q := (b0 + 3)) (rt_bed hb_b0) nw_15 d_X10_farFromAll_14 ?_
      refine lv_iload_n hx hb d_X10_farFromAll_17 rfl (lv_at hl 1 rfl) ?_
      obtain ⟨hi1, h⟩ := gd_some h
      refine r_iald X hw ob3_b0 lb3_b0 hi1 d_X10_farFromAll_18 ?_
      refine lv_iload_n hx hb d_X10_farFromAll_19 rfl (lv_at hl 3 rfl) ?_
      refine lv_ixor hx hb d_X10_farFromAll_20 ?_
      obtain ⟨q2, e3, h⟩ := bd_some h
      refine r_callS (As := [.int ((cA χ (b0 + 3) x3.toNatClampNeg) ^^^ y1)]) (rest := [.int x2]) (st' := [.int q2, .int x2]) X hw hl mwJ6_bitCount_0f7a4 wd_436 wd_577 (c_J6_bitCount_0f7a4 e3) rfl ⟨Nat.le_of_ble_eq_true rfl, Nat.le_of_ble_eq_true rfl⟩ ⟨Nat.le_refl _, Nat.le_refl _⟩ rfl rfl (Nat.le_of_ble_eq_true rfl) d_X10_farFromAll_21 (fun H locs hw => ?_)
      refine lv_iadd hx hb d_X10_farFromAll_24 ?_
      refine lv_istore_n (lv' := [(2, .int (x2 + q2)), (3, .int x3), (0, .ref (ga G b0)), (1, .int y1)]) hx hb d_X10_farFromAll_25 rfl hl (Nat.le_of_ble_eq_true rfl) rfl (fun ls hl => ?_)
      refine lv_iinc (v := (x3 + (1 : Int32))) (k := 1) (lv' := [(3, .int (x3 + (1 : Int32))), (2, .int (x2 + q2)), (0, .ref (ga G b0)), (1, .int y1)]) hx hb d_X10_farFromAll_26 hl rfl (by rfl) (Nat.le_of_ble_eq_true rfl) rfl (fun ls hl => ?_)
      refine lv_goto (tgt := 4) hx hb d_X10_farFromAll_29 (by decide) ?_
      obtain rfl := Option.some.inj h
      dsimp only [Sum.elim_inl] at hk
      exact hk _ _ _ hw (lv_sub hl [1, 0, 2, 3] rfl)
  intro H locs ls hw hl
  have hl : lv_has ls 4 [(0, .ref (ga G b0)), (1, .int a1)] := hl
  unfold f_X10_farFromAll at h
  refine lv_iconst (v := (0 : Int32)) hx hb d_X10_farFromAll_0 (by decide) ?_
  refine lv_istore_n (lv' := [(2, .int (0 : Int32)), (0, .ref (ga G b0)), (1, .int a1)]) hx hb d_X10_farFromAll_1 rfl hl (Nat.le_of_ble_eq_true rfl) rfl (fun ls hl => ?_)
  refine lv_iconst (v := (0 : Int32)) hx hb d_X10_farFromAll_2 (by decide) ?_
  refine lv_istore_n (lv' := [(3, .int (0 : Int32)), (2, .int (0 : Int32)), (0, .ref (ga G b0)), (1, .int a1)]) hx hb d_X10_farFromAll_3 rfl hl (Nat.le_of_ble_eq_true rfl) rfl (fun ls hl => ?_)
  obtain ⟨z4, e5, h⟩ := bd_some h
  refine iter_w (Wh := fun z : Int32 × Int32 => Wat p l e (rmk 1 20) s m args below meth c Q G 4 4 [] [(2, .int z.1), (3, .int z.2), (0, .ref (ga G b0)), (1, .int a1)] χ σ) (K := fun z : Int32 => Wat p l e (rmk 1 20) s m args below meth c Q G 4 32 [] [(2, .int z)] χ σ) (fun z o h1 h2 => b4 a1 z.1 z.2 o h1 h2) FU _ _ e5 ?_ _ _ _ hw (lv_sub hl [1, 0, 2, 3] rfl)
  intro H locs ls hw hl
  refine lv_iload_n hx hb d_X10_farFromAll_32 rfl (lv_at hl 0 rfl) ?_
  obtain rfl := Option.some.inj h
  subst hQ
  exact r_iret X hr hlk hw d_X10_farFromAll_33
abbrev yX10_farthestFrom : MethodName := ⟨"OysterBeds$Views", "farthestFrom", "(LOysterBeds$Bed;I)I"⟩
theorem mwX10_farthestFrom : MW yX10_farthestFrom prog_12_method_9_code 4 (some .int) 2 := ⟨wd_593, wd_20, by decide +kernel⟩
theorem d_X10_farthestFrom_0 : decode prog_12_method_9_code 0 = .ok (.iconst 0, 1) := by decide +kernel
theorem d_X10_farthestFrom_1 : decode prog_12_method_9_code 1 = .ok (.istore_n 2, 1) := by decide +kernel
theorem d_X10_farthestFrom_2 : decode prog_12_method_9_code 2 = .ok (.iconst 0, 1) := by decide +kernel
theorem d_X10_farthestFrom_3 : decode prog_12_method_9_code 3 = .ok (.istore_n 3, 1) := by decide +kernel
theorem d_X10_farthestFrom_4 : decode prog_12_method_9_code 4 = .ok (.iload_n 3, 1) := by decide +kernel
theorem d_X10_farthestFrom_5 : decode prog_12_method_9_code 5 = .ok (.aload_n 0, 1) := by decide +kernel
theorem d_X10_farthestFrom_6 : decode prog_12_method_9_code 6 = .ok (.getfield 26, 3) := by decide +kernel
theorem d_X10_farthestFrom_9 : decode prog_12_method_9_code 9 = .ok (.if_icmp .ge 25, 3) := by decide +kernel
theorem d_X10_farthestFrom_12 : decode prog_12_method_9_code 12 = .ok (.iload_n 2, 1) := by decide +kernel
theorem d_X10_farthestFrom_13 : decode prog_12_method_9_code 13 = .ok (.aload_n 0, 1) := by decide +kernel
theorem d_X10_farthestFrom_14 : decode prog_12_method_9_code 14 = .ok (.getfield 30, 3) := by decide +kernel
theorem d_X10_farthestFrom_17 : decode prog_12_method_9_code 17 = .ok (.iload_n 3, 1) := by decide +kernel
theorem d_X10_farthestFrom_18 : decode prog_12_method_9_code 18 = .ok (.iaload, 1) := by decide +kernel
theorem d_X10_farthestFrom_19 : decode prog_12_method_9_code 19 = .ok (.iload_n 1, 1) := by decide +kernel
theorem d_X10_farthestFrom_20 : decode prog_12_method_9_code 20 = .ok (.ixor, 1) := by decide +kernel
theorem d_X10_farthestFrom_21 : decode prog_12_method_9_code 21 = .ok (.invokestatic 21, 3) := by decide +kernel
theorem d_X10_farthestFrom_24 : decode prog_12_method_9_code 24 = .ok (.invokestatic 33, 3) := by decide +kernel
theorem d_X10_farthestFrom_27 : decode prog_12_method_9_code 27 = .ok (.istore_n 2, 1) := by decide +kernel
theorem d_X10_farthestFrom_28 : decode prog_12_method_9_code 28 = .ok (.iinc 3 1, 3) := by decide +kernel
theorem d_X10_farthestFrom_31 : decode prog_12_method_9_code 31 = .ok (.goto (-27), 3) := by decide +kernel
theorem d_X10_farthestFrom_34 : decode prog_12_method_9_code 34 = .ok (.iload_n 2, 1) := by decide +kernel
theorem d_X10_farthestFrom_35 : decode prog_12_method_9_code 35 = .ok (.ireturn, 1) := by decide +kernel
def f_X10_farthestFrom_s4 (b0 : Nat) (χ : St) (y1 : Int32) (x2 : Int32) (x3 : Int32) : Option ((Int32 × Int32) ⊕ (Int32)) := (if (cF χ b0 5) ≤ x3 then some (.inr x2) else gd (inb x3 8) ((f_J6_bitCount_0f7a4 ((cA χ (b0 + 3) x3.toNatClampNeg) ^^^ y1)).bind (fun q2 => some (.inl ((if x2 < q2 then q2 else x2), (x3 + (1 : Int32)))))))
def f_X10_farthestFrom (χ : St) (b0 : Nat) (a1 : Int32) : Option (Int32) := (iter (fun z => f_X10_farthestFrom_s4 b0 χ a1 z.1 z.2) FU ((0 : Int32), (0 : Int32))).bind (fun z4 => some z4)
theorem c_X10_farthestFrom {l : Launch} {G : gT} {χ σ : St} {b0 : Nat} {a1 : Int32} (hf : FW G) (hb_b0 : isBed b0 = true) {q : Int32} (h : f_X10_farthestFrom χ b0 a1 = some q) : Ct l G yX10_farthestFrom prog_12_method_9_code 4 (some .int) 1 21 [.ref (ga G b0), .int a1] χ σ (some (.int q)) χ σ := by
  obtain ⟨ob0_b0, ob1_b0, ob2_b0, ob3_b0, ob4_b0, ob5_b0, lb_b0, -, -⟩ := bed_at hf hb_b0
  have lb0_b0 : b0 < 300 := by omega
  have lb1_b0 : b0 + 1 < 300 := by omega
  have lb2_b0 : b0 + 2 < 300 := by omega
  have lb3_b0 : b0 + 3 < 300 := by omega
  have lb4_b0 : b0 + 4 < 300 := by omega
  have lb5_b0 : b0 + 5 < 300 := by omega
  refine Ct.of (by decide) (Nat.le_of_ble_eq_true rfl) ?_
  intro p e s m args below meth c Q X hr hlk hQ
  have hx := X.1
  have hb := X.2.1
  have b4 : ∀ (y1 : Int32) (x2 : Int32) (x3 : Int32) (o : (Int32 × Int32) ⊕ (Int32)), f_X10_farthestFrom_s4 b0 χ y1 x2 x3 = some o → Sum.elim (fun z : Int32 × Int32 => Wat p l e (rmk 1 21) s m args below meth c Q G 4 4 [] [(2, .int z.1), (3, .int z.2), (0, .ref (ga G b0)), (1, .int y1)] χ σ) (fun z : Int32 => Wat p l e (rmk 1 21) s m args below meth c Q G 4 34 [] [(2, .int z)] χ σ) o → Wat p l e (rmk 1 21) s m args below meth c Q G 4 4 [] [(2, .int x2), (3, .int x3), (0, .ref (ga G b0)), (1, .int y1)] χ σ := by
    intro y1 x2 x3 o h hk H locs ls hw hl
    unfold f_X10_farthestFrom_s4 at h
    refine lv_iload_n hx hb d_X10_farthestFrom_4 rfl (lv_at hl 1 rfl) ?_
    refine lv_aload_n hx hb d_X10_farthestFrom_5 rfl (lv_at hl 2 rfl) ?_
    refine r_getiN (j := 5) X hw ct0 ob0_b0 lb0_b0 rfl (Nat.le_of_ble_eq_true rfl) nw_24 d_X10_farthestFrom_6 ?_
    refine lv_icmp_ge (tgt := 34) hx hb d_X10_farthestFrom_9 (by decide) (fun hc => ?_) (fun hc => ?_)
    · have h := ite_t h hc
      obtain rfl := Option.some.inj h
      dsimp only [Sum.elim_inr] at hk
      exact hk _ _ _ hw (lv_sub hl [0] rfl)
    · have h := ite_f h hc
      refine lv_iload_n hx hb d_X10_farthestFrom_12 rfl (lv_at hl 0 rfl) ?_
      refine lv_aload_n hx hb d_X10_farthestFrom_13 rfl (lv_at hl 2 rfl) ?_
      refine r_getrN (j := 2) X hw ct0 ob0_b0 rfl (Nat.le_of_ble_eq_true rfl) (q := (b0 + 3)) (rt_bed hb_b0) nw_15 d_X10_farthestFrom_14 ?_
      refine lv_iload_n hx hb d_X10_farthestFrom_17 rfl (lv_at hl 1 rfl) ?_
      obtain ⟨hi1, h⟩ := gd_some h
      refine r_iald X hw ob3_b0 lb3_b0 hi1 d_X10_farthestFrom_18 ?_
      refine lv_iload_n hx hb d_X10_farthestFrom_19 rfl (lv_at hl 3 rfl) ?_
      refine lv_ixor hx hb d_X10_farthestFrom_20 ?_
      obtain ⟨q2, e3, h⟩ := bd_some h
      refine r_callS (As := [.int ((cA χ (b0 + 3) x3.toNatClampNeg) ^^^ y1)]) (rest := [.int x2]) (st' := [.int q2, .int x2]) X hw hl mwJ6_bitCount_0f7a4 wd_436 wd_577 (c_J6_bitCount_0f7a4 e3) rfl ⟨Nat.le_of_ble_eq_true rfl, Nat.le_of_ble_eq_true rfl⟩ ⟨Nat.le_refl _, Nat.le_refl _⟩ rfl rfl (Nat.le_of_ble_eq_true rfl) d_X10_farthestFrom_21 (fun H locs hw => ?_)
      refine r_max X hl wd_594 ⟨Nat.le_of_ble_eq_true rfl, Nat.le_of_ble_eq_true rfl⟩ ⟨Nat.le_refl _, Nat.le_refl _⟩ d_X10_farthestFrom_24 ?_
      refine lv_istore_n (lv' := [(2, .int (if x2 < q2 then q2 else x2)), (3, .int x3), (0, .ref (ga G b0)), (1, .int y1)]) hx hb d_X10_farthestFrom_27 rfl hl (Nat.le_of_ble_eq_true rfl) rfl (fun ls hl => ?_)
      refine lv_iinc (v := (x3 + (1 : Int32))) (k := 1) (lv' := [(3, .int (x3 + (1 : Int32))), (2, .int (if x2 < q2 then q2 else x2)), (0, .ref (ga G b0)), (1, .int y1)]) hx hb d_X10_farthestFrom_28 hl rfl (by rfl) (Nat.le_of_ble_eq_true rfl) rfl (fun ls hl => ?_)
      refine lv_goto (tgt := 4) hx hb d_X10_farthestFrom_31 (by decide) ?_
      obtain rfl := Option.some.inj h
      dsimp only [Sum.elim_inl] at hk
      exact hk _ _ _ hw (lv_sub hl [1, 0, 2, 3] rfl)
  intro H locs ls hw hl
  have hl : lv_has ls 4 [(0, .ref (ga G b0)), (1, .int a1)] := hl
  unfold f_X10_farthestFrom at h
  refine lv_iconst (v := (0 : Int32)) hx hb d_X10_farthestFrom_0 (by decide) ?_
  refine lv_istore_n (lv' := [(2, .int (0 : Int32)), (0, .ref (ga G b0)), (1, .int a1)]) hx hb d_X10_farthestFrom_1 rfl hl (Nat.le_of_ble_eq_true rfl) rfl (fun ls hl => ?_)
  refine lv_iconst (v := (0 : Int32)) hx hb d_X10_farthestFrom_2 (by decide) ?_
  refine lv_istore_n (lv' := [(3, .int (0 : Int32)), (2, .int (0 : Int32)), (0, .ref (ga G b0)), (1, .int a1)]) hx hb d_X10_farthestFrom_3 rfl hl (Nat.le_of_ble_eq_true rfl) rfl (fun ls hl => ?_)
  obtain ⟨z4, e5, h⟩ := bd_some h
  refine iter_w (Wh := fun z : Int32 × Int32 => Wat p l e (rmk 1 21) s m args below meth c Q G 4 4 [] [(2, .int z.1), (3, .int z.2), (0, .ref (ga G b0)), (1, .int a1)] χ σ) (K := fun z : Int32 => Wat p l e (rmk 1 21) s m args below meth c Q G 4 34 [] [(2, .int z)] χ σ) (fun z o h1 h2 => b4 a1 z.1 z.2 o h1 h2) FU _ _ e5 ?_ _ _ _ hw (lv_sub hl [1, 0, 2, 3] rfl)
  intro H locs ls hw hl
  refine lv_iload_n hx hb d_X10_farthestFrom_34 rfl (lv_at hl 0 rfl) ?_
  obtain rfl := Option.some.inj h
  subst hQ
  exact r_iret X hr hlk hw d_X10_farthestFrom_35
abbrev yX10_areToldBy : MethodName := ⟨"OysterBeds$Views", "areToldBy", "(LOysterBeds$Bed;I)Z"⟩
theorem mwX10_areToldBy : MW yX10_areToldBy prog_12_method_10_code 5 (some .boolean) 2 := ⟨wd_609, wd_20, by decide +kernel⟩
theorem d_X10_areToldBy_0 : decode prog_12_method_10_code 0 = .ok (.iconst 0, 1) := by decide +kernel
theorem d_X10_areToldBy_1 : decode prog_12_method_10_code 1 = .ok (.istore_n 2, 1) := by decide +kernel
theorem d_X10_areToldBy_2 : decode prog_12_method_10_code 2 = .ok (.iload_n 2, 1) := by decide +kernel
theorem d_X10_areToldBy_3 : decode prog_12_method_10_code 3 = .ok (.aload_n 0, 1) := by decide +kernel
theorem d_X10_areToldBy_4 : decode prog_12_method_10_code 4 = .ok (.getfield 26, 3) := by decide +kernel
theorem d_X10_areToldBy_7 : decode prog_12_method_10_code 7 = .ok (.if_icmp .ge 56, 3) := by decide +kernel
theorem d_X10_areToldBy_10 : decode prog_12_method_10_code 10 = .ok (.iload_n 2, 1) := by decide +kernel
theorem d_X10_areToldBy_11 : decode prog_12_method_10_code 11 = .ok (.iconst 1, 1) := by decide +kernel
theorem d_X10_areToldBy_12 : decode prog_12_method_10_code 12 = .ok (.iadd, 1) := by decide +kernel
theorem d_X10_areToldBy_13 : decode prog_12_method_10_code 13 = .ok (.istore_n 3, 1) := by decide +kernel
theorem d_X10_areToldBy_14 : decode prog_12_method_10_code 14 = .ok (.iload_n 3, 1) := by decide +kernel
theorem d_X10_areToldBy_15 : decode prog_12_method_10_code 15 = .ok (.aload_n 0, 1) := by decide +kernel
theorem d_X10_areToldBy_16 : decode prog_12_method_10_code 16 = .ok (.getfield 26, 3) := by decide +kernel
theorem d_X10_areToldBy_19 : decode prog_12_method_10_code 19 = .ok (.if_icmp .ge 38, 3) := by decide +kernel
theorem d_X10_areToldBy_22 : decode prog_12_method_10_code 22 = .ok (.aload_n 0, 1) := by decide +kernel
theorem d_X10_areToldBy_23 : decode prog_12_method_10_code 23 = .ok (.getfield 30, 3) := by decide +kernel
theorem d_X10_areToldBy_26 : decode prog_12_method_10_code 26 = .ok (.iload_n 2, 1) := by decide +kernel
theorem d_X10_areToldBy_27 : decode prog_12_method_10_code 27 = .ok (.iaload, 1) := by decide +kernel
theorem d_X10_areToldBy_28 : decode prog_12_method_10_code 28 = .ok (.aload_n 0, 1) := by decide +kernel
theorem d_X10_areToldBy_29 : decode prog_12_method_10_code 29 = .ok (.getfield 30, 3) := by decide +kernel
theorem d_X10_areToldBy_32 : decode prog_12_method_10_code 32 = .ok (.iload_n 3, 1) := by decide +kernel
theorem d_X10_areToldBy_33 : decode prog_12_method_10_code 33 = .ok (.iaload, 1) := by decide +kernel
theorem d_X10_areToldBy_34 : decode prog_12_method_10_code 34 = .ok (.ixor, 1) := by decide +kernel
theorem d_X10_areToldBy_35 : decode prog_12_method_10_code 35 = .ok (.istore 4, 2) := by decide +kernel
theorem d_X10_areToldBy_37 : decode prog_12_method_10_code 37 = .ok (.iload 4, 2) := by decide +kernel
theorem d_X10_areToldBy_39 : decode prog_12_method_10_code 39 = .ok (.ifCond .eq 12, 3) := by decide +kernel
theorem d_X10_areToldBy_42 : decode prog_12_method_10_code 42 = .ok (.iload 4, 2) := by decide +kernel
theorem d_X10_areToldBy_44 : decode prog_12_method_10_code 44 = .ok (.iload_n 1, 1) := by decide +kernel
theorem d_X10_areToldBy_45 : decode prog_12_method_10_code 45 = .ok (.iand, 1) := by decide +kernel
theorem d_X10_areToldBy_46 : decode prog_12_method_10_code 46 = .ok (.ifCond .ne 5, 3) := by decide +kernel
theorem d_X10_areToldBy_49 : decode prog_12_method_10_code 49 = .ok (.iconst 0, 1) := by decide +kernel
theorem d_X10_areToldBy_50 : decode prog_12_method_10_code 50 = .ok (.ireturn, 1) := by decide +kernel
theorem d_X10_areToldBy_51 : decode prog_12_method_10_code 51 = .ok (.iinc 3 1, 3) := by decide +kernel
theorem d_X10_areToldBy_54 : decode prog_12_method_10_code 54 = .ok (.goto (-40), 3) := by decide +kernel
theorem d_X10_areToldBy_57 : decode prog_12_method_10_code 57 = .ok (.iinc 2 1, 3) := by decide +kernel
theorem d_X10_areToldBy_60 : decode prog_12_method_10_code 60 = .ok (.goto (-58), 3) := by decide +kernel
theorem d_X10_areToldBy_63 : decode prog_12_method_10_code 63 = .ok (.iconst 1, 1) := by decide +kernel
theorem d_X10_areToldBy_64 : decode prog_12_method_10_code 64 = .ok (.ireturn, 1) := by decide +kernel
def f_X10_areToldBy_j51_14 (b0 : Nat) (χ : St) (x1 : Int32) (x2 : Int32) (x3 : Int32) : Option ((Int32) ⊕ ((Int32) ⊕ (Unit))) := some (.inl (x3 + (1 : Int32)))
def f_X10_areToldBy_s14 (b0 : Nat) (χ : St) (y1 : Int32) (y2 : Int32) (x3 : Int32) : Option ((Int32) ⊕ ((Int32) ⊕ (Unit))) := (if (cF χ b0 5) ≤ x3 then some (.inr (.inr ())) else gd (inb y2 8) (gd (inb x3 8) ((if ((cA χ (b0 + 3) y2.toNatClampNeg) ^^^ (cA χ (b0 + 3) x3.toNatClampNeg)) = 0 then f_X10_areToldBy_j51_14 b0 χ y1 y2 x3 else (if (((cA χ (b0 + 3) y2.toNatClampNeg) ^^^ (cA χ (b0 + 3) x3.toNatClampNeg)) &&& y1) = 0 then some (.inr (.inl (0 : Int32))) else f_X10_areToldBy_j51_14 b0 χ y1 y2 x3)))))
def f_X10_areToldBy_s2 (b0 : Nat) (χ : St) (y1 : Int32) (x2 : Int32) : Option ((Int32) ⊕ ((Int32) ⊕ (Unit))) := (if (cF χ b0 5) ≤ x2 then some (.inr (.inr ())) else (iter (fun z => f_X10_areToldBy_s14 b0 χ y1 x2 z) FU (x2 + (1 : Int32))).bind (Sum.elim (fun r => some (.inr (.inl r))) (fun z3 => some (.inl (x2 + (1 : Int32))))))
def f_X10_areToldBy (χ : St) (b0 : Nat) (a1 : Int32) : Option (Int32) := (iter (fun z => f_X10_areToldBy_s2 b0 χ a1 z) FU (0 : Int32)).bind (Sum.elim (fun r => some r) (fun z6 => some (1 : Int32)))
theorem c_X10_areToldBy {l : Launch} {G : gT} {χ σ : St} {b0 : Nat} {a1 : Int32} (hf : FW G) (hb_b0 : isBed b0 = true) {q : Int32} (h : f_X10_areToldBy χ b0 a1 = some q) : Ct l G yX10_areToldBy prog_12_method_10_code 5 (some .boolean) 0 0 [.ref (ga G b0), .int a1] χ σ (some (.int q)) χ σ := by
  obtain ⟨ob0_b0, ob1_b0, ob2_b0, ob3_b0, ob4_b0, ob5_b0, lb_b0, -, -⟩ := bed_at hf hb_b0
  have lb0_b0 : b0 < 300 := by omega
  have lb1_b0 : b0 + 1 < 300 := by omega
  have lb2_b0 : b0 + 2 < 300 := by omega
  have lb3_b0 : b0 + 3 < 300 := by omega
  have lb4_b0 : b0 + 4 < 300 := by omega
  have lb5_b0 : b0 + 5 < 300 := by omega
  refine Ct.of (by decide) (Nat.le_of_ble_eq_true rfl) ?_
  intro p e s m args below meth c Q X hr hlk hQ
  have hx := X.1
  have hb := X.2.1
  have j51_14 : ∀ (x1 : Int32) (x2 : Int32) (x3 : Int32) (o : (Int32) ⊕ ((Int32) ⊕ (Unit))), f_X10_areToldBy_j51_14 b0 χ x1 x2 x3 = some o → Sum.elim (fun z : Int32 => Wat p l e (rmk 0 0) s m args below meth c Q G 5 14 [] [(3, .int z), (0, .ref (ga G b0)), (1, .int x1), (2, .int x2)] χ σ) (Sum.elim (fun r : Int32 => r = q) (fun z : Unit => Wat p l e (rmk 0 0) s m args below meth c Q G 5 57 [] [(0, .ref (ga G b0)), (1, .int x1), (2, .int x2)] χ σ)) o → Wat p l e (rmk 0 0) s m args below meth c Q G 5 51 [] [(0, .ref (ga G b0)), (1, .int x1), (2, .int x2), (3, .int x3)] χ σ := by
    intro x1 x2 x3 o h hk H locs ls hw hl
    unfold f_X10_areToldBy_j51_14 at h
    refine lv_iinc (v := (x3 + (1 : Int32))) (k := 3) (lv' := [(3, .int (x3 + (1 : Int32))), (0, .ref (ga G b0)), (1, .int x1), (2, .int x2)]) hx hb d_X10_areToldBy_51 hl rfl (by rfl) (Nat.le_of_ble_eq_true rfl) rfl (fun ls hl => ?_)
    refine lv_goto (tgt := 14) hx hb d_X10_areToldBy_54 (by decide) ?_
    obtain rfl := Option.some.inj h
    dsimp only [Sum.elim_inl] at hk
    exact hk _ _ _ hw (lv_sub hl [0, 1, 2, 3] rfl)
  have b14 : ∀ (y1 : Int32) (y2 : Int32) (x3 : Int32) (o : (Int32) ⊕ ((Int32) ⊕ (Unit))), f_X10_areToldBy_s14 b0 χ y1 y2 x3 = some o → Sum.elim (fun z : Int32 => Wat p l e (rmk 0 0) s m args below meth c Q G 5 14 [] [(3, .int z), (0, .ref (ga G b0)), (1, .int y1), (2, .int y2)] χ σ) (Sum.elim (fun r : Int32 => r = q) (fun z : Unit => Wat p l e (rmk 0 0) s m args below meth c Q G 5 57 [] [(0, .ref (ga G b0)), (1, .int y1), (2, .int y2)] χ σ)) o → Wat p l e (rmk 0 0) s m args below meth c Q G 5 14 [] [(3, .int x3), (0, .ref (ga G b0)), (1, .int y1), (2, .int y2)] χ σ := by
    intro y1 y2 x3 o h hk H locs ls hw hl
    unfold f_X10_areToldBy_s14 at h
    refine lv_iload_n hx hb d_X10_areToldBy_14 rfl (lv_at hl 0 rfl) ?_
    refine lv_aload_n hx hb d_X10_areToldBy_15 rfl (lv_at hl 1 rfl) ?_
    refine r_getiN (j := 5) X hw ct0 ob0_b0 lb0_b0 rfl (Nat.le_of_ble_eq_true rfl) nw_24 d_X10_areToldBy_16 ?_
    refine lv_icmp_ge (tgt := 57) hx hb d_X10_areToldBy_19 (by decide) (fun hc => ?_) (fun hc => ?_)
    · have h := ite_t h hc
      obtain rfl := Option.some.inj h
      dsimp only [Sum.elim_inr, Sum.elim_inl] at hk
      exact hk _ _ _ hw (lv_sub hl [1, 2, 3] rfl)
    · have h := ite_f h hc
      refine lv_aload_n hx hb d_X10_areToldBy_22 rfl (lv_at hl 1 rfl) ?_
      refine r_getrN (j := 2) X hw ct0 ob0_b0 rfl (Nat.le_of_ble_eq_true rfl) (q := (b0 + 3)) (rt_bed hb_b0) nw_15 d_X10_areToldBy_23 ?_
      refine lv_iload_n hx hb d_X10_areToldBy_26 rfl (lv_at hl 3 rfl) ?_
      obtain ⟨hi1, h⟩ := gd_some h
      refine r_iald X hw ob3_b0 lb3_b0 hi1 d_X10_areToldBy_27 ?_
      refine lv_aload_n hx hb d_X10_areToldBy_28 rfl (lv_at hl 1 rfl) ?_
      refine r_getrN (j := 2) X hw ct0 ob0_b0 rfl (Nat.le_of_ble_eq_true rfl) (q := (b0 + 3)) (rt_bed hb_b0) nw_15 d_X10_areToldBy_29 ?_
      refine lv_iload_n hx hb d_X10_areToldBy_32 rfl (lv_at hl 0 rfl) ?_
      obtain ⟨hi2, h⟩ := gd_some h
      refine r_iald X hw ob3_b0 lb3_b0 hi2 d_X10_areToldBy_33 ?_
      refine lv_ixor hx hb d_X10_areToldBy_34 ?_
      refine lv_istore (lv' := [(4, .int ((cA χ (b0 + 3) y2.toNatClampNeg) ^^^ (cA χ (b0 + 3) x3.toNatClampNeg))), (3, .int x3), (0, .ref (ga G b0)), (1, .int y1), (2, .int y2)]) hx hb d_X10_areToldBy_35 hl (Nat.le_of_ble_eq_true rfl) rfl (fun ls hl => ?_)
      refine lv_iload hx hb d_X10_areToldBy_37 (lv_at hl 0 rfl) ?_
      refine lv_if_eq (tgt := 51) hx hb d_X10_areToldBy_39 (by decide) (fun hc => ?_) (fun hc => ?_)
      · have h := ite_t h hc
        exact j51_14 y1 y2 x3 o h hk _ _ _ hw (lv_sub hl [2, 3, 4, 1] rfl)
      · have h := ite_f h hc
        refine lv_iload hx hb d_X10_areToldBy_42 (lv_at hl 0 rfl) ?_
        refine lv_iload_n hx hb d_X10_areToldBy_44 rfl (lv_at hl 3 rfl) ?_
        refine lv_iand hx hb d_X10_areToldBy_45 ?_
        refine lv_if_ne (tgt := 51) hx hb d_X10_areToldBy_46 (by decide) (fun hc => ?_) (fun hc => ?_)
        · have h := ite_f h hc
          exact j51_14 y1 y2 x3 o h hk _ _ _ hw (lv_sub hl [2, 3, 4, 1] rfl)
        · have h := ite_t h hc
          refine lv_iconst (v := (0 : Int32)) hx hb d_X10_areToldBy_49 (by decide) ?_
          obtain rfl := Option.some.inj h
          cases (show _ = q from hk)
          subst hQ
          exact r_zret X hr nbz0 hlk hw d_X10_areToldBy_50
  have b2 : ∀ (y1 : Int32) (x2 : Int32) (o : (Int32) ⊕ ((Int32) ⊕ (Unit))), f_X10_areToldBy_s2 b0 χ y1 x2 = some o → Sum.elim (fun z : Int32 => Wat p l e (rmk 0 0) s m args below meth c Q G 5 2 [] [(2, .int z), (0, .ref (ga G b0)), (1, .int y1)] χ σ) (Sum.elim (fun r : Int32 => r = q) (fun z : Unit => Wat p l e (rmk 0 0) s m args below meth c Q G 5 63 [] [] χ σ)) o → Wat p l e (rmk 0 0) s m args below meth c Q G 5 2 [] [(2, .int x2), (0, .ref (ga G b0)), (1, .int y1)] χ σ := by
    intro y1 x2 o h hk H locs ls hw hl
    unfold f_X10_areToldBy_s2 at h
    refine lv_iload_n hx hb d_X10_areToldBy_2 rfl (lv_at hl 0 rfl) ?_
    refine lv_aload_n hx hb d_X10_areToldBy_3 rfl (lv_at hl 1 rfl) ?_
    refine r_getiN (j := 5) X hw ct0 ob0_b0 lb0_b0 rfl (Nat.le_of_ble_eq_true rfl) nw_24 d_X10_areToldBy_4 ?_
    refine lv_icmp_ge (tgt := 63) hx hb d_X10_areToldBy_7 (by decide) (fun hc => ?_) (fun hc => ?_)
    · have h := ite_t h hc
      obtain rfl := Option.some.inj h
      dsimp only [Sum.elim_inr, Sum.elim_inl] at hk
      exact hk _ _ _ hw (lv_sub hl [] rfl)
    · have h := ite_f h hc
      refine lv_iload_n hx hb d_X10_areToldBy_10 rfl (lv_at hl 0 rfl) ?_
      refine lv_iconst (v := (1 : Int32)) hx hb d_X10_areToldBy_11 (by decide) ?_
      refine lv_iadd hx hb d_X10_areToldBy_12 ?_
      refine lv_istore_n (lv' := [(3, .int (x2 + (1 : Int32))), (2, .int x2), (0, .ref (ga G b0)), (1, .int y1)]) hx hb d_X10_areToldBy_13 rfl hl (Nat.le_of_ble_eq_true rfl) rfl (fun ls hl => ?_)
      obtain ⟨z3, e4, h⟩ := bd_some h
      refine iter_w (Wh := fun z : Int32 => Wat p l e (rmk 0 0) s m args below meth c Q G 5 14 [] [(3, .int z), (0, .ref (ga G b0)), (1, .int y1), (2, .int x2)] χ σ) (K := Sum.elim (fun r : Int32 => r = q) (fun z : Unit => Wat p l e (rmk 0 0) s m args below meth c Q G 5 57 [] [(0, .ref (ga G b0)), (1, .int y1), (2, .int x2)] χ σ)) (fun z o h1 h2 => b14 y1 x2 z o h1 h2) FU _ _ e4 ?_ _ _ _ hw (lv_sub hl [0, 2, 3, 1] rfl)
      rcases z3 with r | z3
      · obtain rfl := Option.some.inj h
        exact hk
      · dsimp only [Sum.elim_inr] at h ⊢
        intro H locs ls hw hl
        refine lv_iinc (v := (x2 + (1 : Int32))) (k := 2) (lv' := [(2, .int (x2 + (1 : Int32))), (0, .ref (ga G b0)), (1, .int y1)]) hx hb d_X10_areToldBy_57 hl rfl (by rfl) (Nat.le_of_ble_eq_true rfl) rfl (fun ls hl => ?_)
        refine lv_goto (tgt := 2) hx hb d_X10_areToldBy_60 (by decide) ?_
        obtain rfl := Option.some.inj h
        dsimp only [Sum.elim_inl] at hk
        exact hk _ _ _ hw (lv_sub hl [0, 1, 2] rfl)
  intro H locs ls hw hl
  have hl : lv_has ls 5 [(0, .ref (ga G b0)), (1, .int a1)] := hl
  unfold f_X10_areToldBy at h
  refine lv_iconst (v := (0 : Int32)) hx hb d_X10_areToldBy_0 (by decide) ?_
  refine lv_istore_n (lv' := [(2, .int (0 : Int32)), (0, .ref (ga G b0)), (1, .int a1)]) hx hb d_X10_areToldBy_1 rfl hl (Nat.le_of_ble_eq_true rfl) rfl (fun ls hl => ?_)
  obtain ⟨z6, e7, h⟩ := bd_some h
  refine iter_w (Wh := fun z : Int32 => Wat p l e (rmk 0 0) s m args below meth c Q G 5 2 [] [(2, .int z), (0, .ref (ga G b0)), (1, .int a1)] χ σ) (K := Sum.elim (fun r : Int32 => r = q) (fun z : Unit => Wat p l e (rmk 0 0) s m args below meth c Q G 5 63 [] [] χ σ)) (fun z o h1 h2 => b2 a1 z o h1 h2) FU _ _ e7 ?_ _ _ _ hw (lv_sub hl [0, 1, 2] rfl)
  rcases z6 with r | z6
  · exact Option.some.inj h
  · dsimp only [Sum.elim_inr] at h ⊢
    intro H locs ls hw hl
    refine lv_iconst (v := (1 : Int32)) hx hb d_X10_areToldBy_63 (by decide) ?_
    obtain rfl := Option.some.inj h
    subst hQ
    exact r_zret X hr nbz1 hlk hw d_X10_areToldBy_64
abbrev yX10_topicsAlike : MethodName := ⟨"OysterBeds$Views", "topicsAlike", "(LOysterBeds$Bed;I)I"⟩
theorem mwX10_topicsAlike : MW yX10_topicsAlike prog_12_method_11_code 5 (some .int) 2 := ⟨wd_651, wd_20, by decide +kernel⟩
theorem d_X10_topicsAlike_0 : decode prog_12_method_11_code 0 = .ok (.iconst 0, 1) := by decide +kernel
theorem d_X10_topicsAlike_1 : decode prog_12_method_11_code 1 = .ok (.istore_n 2, 1) := by decide +kernel
theorem d_X10_topicsAlike_2 : decode prog_12_method_11_code 2 = .ok (.iconst 0, 1) := by decide +kernel
theorem d_X10_topicsAlike_3 : decode prog_12_method_11_code 3 = .ok (.istore_n 3, 1) := by decide +kernel
theorem d_X10_topicsAlike_4 : decode prog_12_method_11_code 4 = .ok (.iload_n 3, 1) := by decide +kernel
theorem d_X10_topicsAlike_5 : decode prog_12_method_11_code 5 = .ok (.iconst 4, 1) := by decide +kernel
theorem d_X10_topicsAlike_6 : decode prog_12_method_11_code 6 = .ok (.if_icmp .ge 32, 3) := by decide +kernel
theorem d_X10_topicsAlike_9 : decode prog_12_method_11_code 9 = .ok (.aload_n 0, 1) := by decide +kernel
theorem d_X10_topicsAlike_10 : decode prog_12_method_11_code 10 = .ok (.iload_n 3, 1) := by decide +kernel
theorem d_X10_topicsAlike_11 : decode prog_12_method_11_code 11 = .ok (.invokevirtual 15, 3) := by decide +kernel
theorem d_X10_topicsAlike_14 : decode prog_12_method_11_code 14 = .ok (.iload_n 1, 1) := by decide +kernel
theorem d_X10_topicsAlike_15 : decode prog_12_method_11_code 15 = .ok (.iand, 1) := by decide +kernel
theorem d_X10_topicsAlike_16 : decode prog_12_method_11_code 16 = .ok (.istore 4, 2) := by decide +kernel
theorem d_X10_topicsAlike_18 : decode prog_12_method_11_code 18 = .ok (.iload 4, 2) := by decide +kernel
theorem d_X10_topicsAlike_20 : decode prog_12_method_11_code 20 = .ok (.ifCond .eq 9, 3) := by decide +kernel
theorem d_X10_topicsAlike_23 : decode prog_12_method_11_code 23 = .ok (.iload 4, 2) := by decide +kernel
theorem d_X10_topicsAlike_25 : decode prog_12_method_11_code 25 = .ok (.iload_n 1, 1) := by decide +kernel
theorem d_X10_topicsAlike_26 : decode prog_12_method_11_code 26 = .ok (.if_icmp .ne 6, 3) := by decide +kernel
theorem d_X10_topicsAlike_29 : decode prog_12_method_11_code 29 = .ok (.iinc 2 1, 3) := by decide +kernel
theorem d_X10_topicsAlike_32 : decode prog_12_method_11_code 32 = .ok (.iinc 3 1, 3) := by decide +kernel
theorem d_X10_topicsAlike_35 : decode prog_12_method_11_code 35 = .ok (.goto (-31), 3) := by decide +kernel
theorem d_X10_topicsAlike_38 : decode prog_12_method_11_code 38 = .ok (.iload_n 2, 1) := by decide +kernel
theorem d_X10_topicsAlike_39 : decode prog_12_method_11_code 39 = .ok (.ireturn, 1) := by decide +kernel
def f_X10_topicsAlike_j32_4 (b0 : Nat) (χ : St) (x1 : Int32) (x2 : Int32) (x3 : Int32) : Option ((Int32 × Int32) ⊕ (Int32)) := some (.inl (x2, (x3 + (1 : Int32))))
def f_X10_topicsAlike_j29_4 (b0 : Nat) (χ : St) (x1 : Int32) (x2 : Int32) (x3 : Int32) : Option ((Int32 × Int32) ⊕ (Int32)) := f_X10_topicsAlike_j32_4 b0 χ x1 (x2 + (1 : Int32)) x3
def f_X10_topicsAlike_s4 (b0 : Nat) (χ : St) (y1 : Int32) (x2 : Int32) (x3 : Int32) : Option ((Int32 × Int32) ⊕ (Int32)) := (if (4 : Int32) ≤ x3 then some (.inr x2) else (f_X0_yesOnes χ b0 x3).bind (fun q1 => (if (q1 &&& y1) = 0 then f_X10_topicsAlike_j29_4 b0 χ y1 x2 x3 else (if (q1 &&& y1) = y1 then f_X10_topicsAlike_j29_4 b0 χ y1 x2 x3 else f_X10_topicsAlike_j32_4 b0 χ y1 x2 x3))))
def f_X10_topicsAlike (χ : St) (b0 : Nat) (a1 : Int32) : Option (Int32) := (iter (fun z => f_X10_topicsAlike_s4 b0 χ a1 z.1 z.2) FU ((0 : Int32), (0 : Int32))).bind (fun z3 => some z3)
theorem c_X10_topicsAlike {l : Launch} {G : gT} {χ σ : St} {b0 : Nat} {a1 : Int32} (hf : FW G) (hb_b0 : isBed b0 = true) {q : Int32} (h : f_X10_topicsAlike χ b0 a1 = some q) : Ct l G yX10_topicsAlike prog_12_method_11_code 5 (some .int) 1 23 [.ref (ga G b0), .int a1] χ σ (some (.int q)) χ σ := by
  obtain ⟨ob0_b0, ob1_b0, ob2_b0, ob3_b0, ob4_b0, ob5_b0, lb_b0, -, -⟩ := bed_at hf hb_b0
  have lb0_b0 : b0 < 300 := by omega
  have lb1_b0 : b0 + 1 < 300 := by omega
  have lb2_b0 : b0 + 2 < 300 := by omega
  have lb3_b0 : b0 + 3 < 300 := by omega
  have lb4_b0 : b0 + 4 < 300 := by omega
  have lb5_b0 : b0 + 5 < 300 := by omega
  refine Ct.of (by decide) (Nat.le_of_ble_eq_true rfl) ?_
  intro p e s m args below meth c Q X hr hlk hQ
  have hx := X.1
  have hb := X.2.1
  have j32_4 : ∀ (x1 : Int32) (x2 : Int32) (x3 : Int32) (o : (Int32 × Int32) ⊕ (Int32)), f_X10_topicsAlike_j32_4 b0 χ x1 x2 x3 = some o → Sum.elim (fun z : Int32 × Int32 => Wat p l e (rmk 1 23) s m args below meth c Q G 5 4 [] [(2, .int z.1), (3, .int z.2), (0, .ref (ga G b0)), (1, .int x1)] χ σ) (fun z : Int32 => Wat p l e (rmk 1 23) s m args below meth c Q G 5 38 [] [(2, .int z)] χ σ) o → Wat p l e (rmk 1 23) s m args below meth c Q G 5 32 [] [(0, .ref (ga G b0)), (1, .int x1), (2, .int x2), (3, .int x3)] χ σ := by
    intro x1 x2 x3 o h hk H locs ls hw hl
    unfold f_X10_topicsAlike_j32_4 at h
    refine lv_iinc (v := (x3 + (1 : Int32))) (k := 3) (lv' := [(3, .int (x3 + (1 : Int32))), (0, .ref (ga G b0)), (1, .int x1), (2, .int x2)]) hx hb d_X10_topicsAlike_32 hl rfl (by rfl) (Nat.le_of_ble_eq_true rfl) rfl (fun ls hl => ?_)
    refine lv_goto (tgt := 4) hx hb d_X10_topicsAlike_35 (by decide) ?_
    obtain rfl := Option.some.inj h
    dsimp only [Sum.elim_inl] at hk
    exact hk _ _ _ hw (lv_sub hl [3, 0, 1, 2] rfl)
  have j29_4 : ∀ (x1 : Int32) (x2 : Int32) (x3 : Int32) (o : (Int32 × Int32) ⊕ (Int32)), f_X10_topicsAlike_j29_4 b0 χ x1 x2 x3 = some o → Sum.elim (fun z : Int32 × Int32 => Wat p l e (rmk 1 23) s m args below meth c Q G 5 4 [] [(2, .int z.1), (3, .int z.2), (0, .ref (ga G b0)), (1, .int x1)] χ σ) (fun z : Int32 => Wat p l e (rmk 1 23) s m args below meth c Q G 5 38 [] [(2, .int z)] χ σ) o → Wat p l e (rmk 1 23) s m args below meth c Q G 5 29 [] [(0, .ref (ga G b0)), (1, .int x1), (2, .int x2), (3, .int x3)] χ σ := by
    intro x1 x2 x3 o h hk H locs ls hw hl
    unfold f_X10_topicsAlike_j29_4 at h
    refine lv_iinc (v := (x2 + (1 : Int32))) (k := 2) (lv' := [(2, .int (x2 + (1 : Int32))), (0, .ref (ga G b0)), (1, .int x1), (3, .int x3)]) hx hb d_X10_topicsAlike_29 hl rfl (by rfl) (Nat.le_of_ble_eq_true rfl) rfl (fun ls hl => ?_)
    exact j32_4 x1 (x2 + (1 : Int32)) x3 o h hk _ _ _ hw (lv_sub hl [1, 2, 0, 3] rfl)
  have b4 : ∀ (y1 : Int32) (x2 : Int32) (x3 : Int32) (o : (Int32 × Int32) ⊕ (Int32)), f_X10_topicsAlike_s4 b0 χ y1 x2 x3 = some o → Sum.elim (fun z : Int32 × Int32 => Wat p l e (rmk 1 23) s m args below meth c Q G 5 4 [] [(2, .int z.1), (3, .int z.2), (0, .ref (ga G b0)), (1, .int y1)] χ σ) (fun z : Int32 => Wat p l e (rmk 1 23) s m args below meth c Q G 5 38 [] [(2, .int z)] χ σ) o → Wat p l e (rmk 1 23) s m args below meth c Q G 5 4 [] [(2, .int x2), (3, .int x3), (0, .ref (ga G b0)), (1, .int y1)] χ σ := by
    intro y1 x2 x3 o h hk H locs ls hw hl
    unfold f_X10_topicsAlike_s4 at h
    refine lv_iload_n hx hb d_X10_topicsAlike_4 rfl (lv_at hl 1 rfl) ?_
    refine lv_iconst (v := (4 : Int32)) hx hb d_X10_topicsAlike_5 (by decide) ?_
    refine lv_icmp_ge (tgt := 38) hx hb d_X10_topicsAlike_6 (by decide) (fun hc => ?_) (fun hc => ?_)
    · have h := ite_t h hc
      obtain rfl := Option.some.inj h
      dsimp only [Sum.elim_inr] at hk
      exact hk _ _ _ hw (lv_sub hl [0] rfl)
    · have h := ite_f h hc
      refine lv_aload_n hx hb d_X10_topicsAlike_9 rfl (lv_at hl 2 rfl) ?_
      refine lv_iload_n hx hb d_X10_topicsAlike_10 rfl (lv_at hl 1 rfl) ?_
      obtain ⟨q1, e2, h⟩ := bd_some h
      refine r_callV (As := [.int x3]) (rest := []) (st' := [.int q1]) X hw hl mwX0_yesOnes wd_510 wd_511 wd_576 (c_X0_yesOnes hf hb_b0 e2) (r_recv X hw ct0 ob0_b0) rfl ⟨Nat.le_of_ble_eq_true rfl, Nat.le_of_ble_eq_true rfl⟩ ⟨Nat.le_refl _, Nat.le_refl _⟩ rfl rfl (Nat.le_of_ble_eq_true rfl) d_X10_topicsAlike_11 (fun H locs hw => ?_)
      refine lv_iload_n hx hb d_X10_topicsAlike_14 rfl (lv_at hl 3 rfl) ?_
      refine lv_iand hx hb d_X10_topicsAlike_15 ?_
      refine lv_istore (lv' := [(4, .int (q1 &&& y1)), (2, .int x2), (3, .int x3), (0, .ref (ga G b0)), (1, .int y1)]) hx hb d_X10_topicsAlike_16 hl (Nat.le_of_ble_eq_true rfl) rfl (fun ls hl => ?_)
      refine lv_iload hx hb d_X10_topicsAlike_18 (lv_at hl 0 rfl) ?_
      refine lv_if_eq (tgt := 29) hx hb d_X10_topicsAlike_20 (by decide) (fun hc => ?_) (fun hc => ?_)
      · have h := ite_t h hc
        exact j29_4 y1 x2 x3 o h hk _ _ _ hw (lv_sub hl [3, 4, 1, 2] rfl)
      · have h := ite_f h hc
        refine lv_iload hx hb d_X10_topicsAlike_23 (lv_at hl 0 rfl) ?_
        refine lv_iload_n hx hb d_X10_topicsAlike_25 rfl (lv_at hl 4 rfl) ?_
        refine lv_icmp_ne (tgt := 32) hx hb d_X10_topicsAlike_26 (by decide) (fun hc => ?_) (fun hc => ?_)
        · have h := ite_f h hc
          exact j32_4 y1 x2 x3 o h hk _ _ _ hw (lv_sub hl [3, 4, 1, 2] rfl)
        · have h := ite_t h hc
          exact j29_4 y1 x2 x3 o h hk _ _ _ hw (lv_sub hl [3, 4, 1, 2] rfl)
  intro H locs ls hw hl
  have hl : lv_has ls 5 [(0, .ref (ga G b0)), (1, .int a1)] := hl
  unfold f_X10_topicsAlike at h
  refine lv_iconst (v := (0 : Int32)) hx hb d_X10_topicsAlike_0 (by decide) ?_
  refine lv_istore_n (lv' := [(2, .int (0 : Int32)), (0, .ref (ga G b0)), (1, .int a1)]) hx hb d_X10_topicsAlike_1 rfl hl (Nat.le_of_ble_eq_true rfl) rfl (fun ls hl => ?_)
  refine lv_iconst (v := (0 : Int32)) hx hb d_X10_topicsAlike_2 (by decide) ?_
  refine lv_istore_n (lv' := [(3, .int (0 : Int32)), (2, .int (0 : Int32)), (0, .ref (ga G b0)), (1, .int a1)]) hx hb d_X10_topicsAlike_3 rfl hl (Nat.le_of_ble_eq_true rfl) rfl (fun ls hl => ?_)
  obtain ⟨z3, e4, h⟩ := bd_some h
  refine iter_w (Wh := fun z : Int32 × Int32 => Wat p l e (rmk 1 23) s m args below meth c Q G 5 4 [] [(2, .int z.1), (3, .int z.2), (0, .ref (ga G b0)), (1, .int a1)] χ σ) (K := fun z : Int32 => Wat p l e (rmk 1 23) s m args below meth c Q G 5 38 [] [(2, .int z)] χ σ) (fun z o h1 h2 => b4 a1 z.1 z.2 o h1 h2) FU _ _ e4 ?_ _ _ _ hw (lv_sub hl [1, 0, 2, 3] rfl)
  intro H locs ls hw hl
  refine lv_iload_n hx hb d_X10_topicsAlike_38 rfl (lv_at hl 0 rfl) ?_
  obtain rfl := Option.some.inj h
  subst hQ
  exact r_iret X hr hlk hw d_X10_topicsAlike_39
abbrev yX11_sign : MethodName := ⟨"OysterBeds", "sign", "(I)I"⟩
theorem mwX11_sign : MW yX11_sign prog_1_method_2_code 3 (some .int) 1 := ⟨wd_295, wd_1, by decide +kernel⟩
theorem d_X11_sign_0 : decode prog_1_method_2_code 0 = .ok (.aload_n 0, 1) := by decide +kernel
theorem d_X11_sign_1 : decode prog_1_method_2_code 1 = .ok (.getfield 12, 3) := by decide +kernel
theorem d_X11_sign_4 : decode prog_1_method_2_code 4 = .ok (.getfield 64, 3) := by decide +kernel
theorem d_X11_sign_7 : decode prog_1_method_2_code 7 = .ok (.iconst 4, 1) := by decide +kernel
theorem d_X11_sign_8 : decode prog_1_method_2_code 8 = .ok (.iadd, 1) := by decide +kernel
theorem d_X11_sign_9 : decode prog_1_method_2_code 9 = .ok (.bipush 80, 2) := by decide +kernel
theorem d_X11_sign_11 : decode prog_1_method_2_code 11 = .ok (.if_icmp .le 5, 3) := by decide +kernel
theorem d_X11_sign_14 : decode prog_1_method_2_code 14 = .ok (.iconst (-1), 1) := by decide +kernel
theorem d_X11_sign_15 : decode prog_1_method_2_code 15 = .ok (.ireturn, 1) := by decide +kernel
theorem d_X11_sign_16 : decode prog_1_method_2_code 16 = .ok (.bipush 24, 2) := by decide +kernel
theorem d_X11_sign_18 : decode prog_1_method_2_code 18 = .ok (.istore_n 2, 1) := by decide +kernel
theorem d_X11_sign_19 : decode prog_1_method_2_code 19 = .ok (.iload_n 2, 1) := by decide +kernel
theorem d_X11_sign_20 : decode prog_1_method_2_code 20 = .ok (.ifCond .lt 24, 3) := by decide +kernel
theorem d_X11_sign_23 : decode prog_1_method_2_code 23 = .ok (.aload_n 0, 1) := by decide +kernel
theorem d_X11_sign_24 : decode prog_1_method_2_code 24 = .ok (.getfield 12, 3) := by decide +kernel
theorem d_X11_sign_27 : decode prog_1_method_2_code 27 = .ok (.iload_n 1, 1) := by decide +kernel
theorem d_X11_sign_28 : decode prog_1_method_2_code 28 = .ok (.iload_n 2, 1) := by decide +kernel
theorem d_X11_sign_29 : decode prog_1_method_2_code 29 = .ok (.iushr, 1) := by decide +kernel
theorem d_X11_sign_30 : decode prog_1_method_2_code 30 = .ok (.sipush 255, 3) := by decide +kernel
theorem d_X11_sign_33 : decode prog_1_method_2_code 33 = .ok (.iand, 1) := by decide +kernel
theorem d_X11_sign_34 : decode prog_1_method_2_code 34 = .ok (.i2c, 1) := by decide +kernel
theorem d_X11_sign_35 : decode prog_1_method_2_code 35 = .ok (.invokevirtual 68, 3) := by decide +kernel
theorem d_X11_sign_38 : decode prog_1_method_2_code 38 = .ok (.iinc 2 (-8), 3) := by decide +kernel
theorem d_X11_sign_41 : decode prog_1_method_2_code 41 = .ok (.goto (-22), 3) := by decide +kernel
theorem d_X11_sign_44 : decode prog_1_method_2_code 44 = .ok (.aload_n 0, 1) := by decide +kernel
theorem d_X11_sign_45 : decode prog_1_method_2_code 45 = .ok (.getfield 12, 3) := by decide +kernel
theorem d_X11_sign_48 : decode prog_1_method_2_code 48 = .ok (.getfield 64, 3) := by decide +kernel
theorem d_X11_sign_51 : decode prog_1_method_2_code 51 = .ok (.ireturn, 1) := by decide +kernel
def f_X11_sign_s19 (τ : St) (y1 : Int32) (x2 : Int32) : Option ((Int32 × St) ⊕ (St)) := (if x2 < 0 then some (.inr τ) else (f_X8_put τ (((y1.toUInt32 >>> (x2.toUInt32 &&& Int32.toUInt32 31)).toInt32 &&& (255 : Int32)).toUInt32 % 65536).toInt32).bind (fun q1 => some (.inl ((x2 + (-8 : Int32)), q1))))
def f_X11_sign (χ : St) (a1 : Int32) : Option (Int32 × St) := (if ((cF χ 1 1) + (4 : Int32)) ≤ (80 : Int32) then (iter (fun z => f_X11_sign_s19 z.2 a1 z.1) FU ((24 : Int32), χ)).bind (fun z3 => some ((cF z3 1 1), z3)) else some ((-1 : Int32), χ))
theorem c_X11_sign {l : Launch} {G : gT} {χ σ : St} {a1 : Int32} (hf : FW G) {q : Int32 × St} (h : f_X11_sign χ a1 = some q) : Ct l G yX11_sign prog_1_method_2_code 3 (some .int) 1 21 [.ref (ga G 0), .int a1] χ σ (some (.int q.1)) q.2 σ := by
  refine Ct.of (by decide) (Nat.le_of_ble_eq_true rfl) ?_
  intro p e s m args below meth c Q X hr hlk hQ
  have hx := X.1
  have hb := X.2.1
  have b19 : ∀ (τ : St) (y1 : Int32) (x2 : Int32) (o : (Int32 × St) ⊕ (St)), f_X11_sign_s19 τ y1 x2 = some o → Sum.elim (fun z : Int32 × St => Wat p l e (rmk 1 21) s m args below meth c Q G 3 19 [] [(2, .int z.1), (0, .ref (ga G 0)), (1, .int y1)] z.2 σ) (fun z : St => Wat p l e (rmk 1 21) s m args below meth c Q G 3 44 [] [(0, .ref (ga G 0))] z σ) o → Wat p l e (rmk 1 21) s m args below meth c Q G 3 19 [] [(2, .int x2), (0, .ref (ga G 0)), (1, .int y1)] τ σ := by
    intro τ y1 x2 o h hk H locs ls hw hl
    unfold f_X11_sign_s19 at h
    refine lv_iload_n hx hb d_X11_sign_19 rfl (lv_at hl 0 rfl) ?_
    refine lv_if_lt (tgt := 44) hx hb d_X11_sign_20 (by decide) (fun hc => ?_) (fun hc => ?_)
    · have h := ite_t h hc
      obtain rfl := Option.some.inj h
      dsimp only [Sum.elim_inr] at hk
      exact hk _ _ _ hw (lv_sub hl [1] rfl)
    · have h := ite_f h hc
      refine lv_aload_n hx hb d_X11_sign_23 rfl (lv_at hl 1 rfl) ?_
      refine r_getr (j := 0) X hw ct7 (o_0 hf) rfl (Nat.le_of_ble_eq_true rfl) (q := 1) rfl wd_264 d_X11_sign_24 ?_
      refine lv_iload_n hx hb d_X11_sign_27 rfl (lv_at hl 2 rfl) ?_
      refine lv_iload_n hx hb d_X11_sign_28 rfl (lv_at hl 0 rfl) ?_
      refine lv_iushr hx hb d_X11_sign_29 rfl ?_
      refine lv_sipush (v := (255 : Int32)) hx hb d_X11_sign_30 (by decide) ?_
      refine lv_iand hx hb d_X11_sign_33 ?_
      refine lv_i2c hx hb d_X11_sign_34 rfl ?_
      obtain ⟨q1, e2, h⟩ := bd_some h
      refine r_callV (As := [.int (((y1.toUInt32 >>> (x2.toUInt32 &&& Int32.toUInt32 31)).toInt32 &&& (255 : Int32)).toUInt32 % 65536).toInt32]) (rest := []) (st' := []) X hw hl mwX8_put wd_297 wd_298 wd_296 (c_X8_put hf e2) (r_recv X hw ct5 (o_1 hf)) rfl ⟨Nat.le_of_ble_eq_true rfl, Nat.le_of_ble_eq_true rfl⟩ ⟨Nat.le_refl _, Nat.le_refl _⟩ rfl rfl (Nat.le_of_ble_eq_true rfl) d_X11_sign_35 (fun H locs hw => ?_)
      refine lv_iinc (v := (x2 + (-8 : Int32))) (k := 0) (lv' := [(2, .int (x2 + (-8 : Int32))), (0, .ref (ga G 0)), (1, .int y1)]) hx hb d_X11_sign_38 hl rfl (by rfl) (Nat.le_of_ble_eq_true rfl) rfl (fun ls hl => ?_)
      refine lv_goto (tgt := 19) hx hb d_X11_sign_41 (by decide) ?_
      obtain rfl := Option.some.inj h
      dsimp only [Sum.elim_inl] at hk
      exact hk _ _ _ hw (lv_sub hl [0, 1, 2] rfl)
  intro H locs ls hw hl
  have hl : lv_has ls 3 [(0, .ref (ga G 0)), (1, .int a1)] := hl
  unfold f_X11_sign at h
  refine lv_aload_n hx hb d_X11_sign_0 rfl (lv_at hl 0 rfl) ?_
  refine r_getr (j := 0) X hw ct7 (o_0 hf) rfl (Nat.le_of_ble_eq_true rfl) (q := 1) rfl wd_264 d_X11_sign_1 ?_
  refine r_getiN (j := 1) X hw ct5 (o_1 hf) (Nat.le_of_ble_eq_true rfl) rfl (Nat.le_of_ble_eq_true rfl) nw_1 d_X11_sign_4 ?_
  refine lv_iconst (v := (4 : Int32)) hx hb d_X11_sign_7 (by decide) ?_
  refine lv_iadd hx hb d_X11_sign_8 ?_
  refine lv_bipush (v := (80 : Int32)) hx hb d_X11_sign_9 (by decide) ?_
  refine lv_icmp_le (tgt := 16) hx hb d_X11_sign_11 (by decide) (fun hc => ?_) (fun hc => ?_)
  · have h := ite_t h hc
    refine lv_bipush (v := (24 : Int32)) hx hb d_X11_sign_16 (by decide) ?_
    refine lv_istore_n (lv' := [(2, .int (24 : Int32)), (0, .ref (ga G 0)), (1, .int a1)]) hx hb d_X11_sign_18 rfl hl (Nat.le_of_ble_eq_true rfl) rfl (fun ls hl => ?_)
    obtain ⟨z3, e4, h⟩ := bd_some h
    refine iter_w (Wh := fun z : Int32 × St => Wat p l e (rmk 1 21) s m args below meth c Q G 3 19 [] [(2, .int z.1), (0, .ref (ga G 0)), (1, .int a1)] z.2 σ) (K := fun z : St => Wat p l e (rmk 1 21) s m args below meth c Q G 3 44 [] [(0, .ref (ga G 0))] z σ) (fun z o h1 h2 => b19 z.2 a1 z.1 o h1 h2) FU _ _ e4 ?_ _ _ _ hw (lv_sub hl [0, 1, 2] rfl)
    intro H locs ls hw hl
    refine lv_aload_n hx hb d_X11_sign_44 rfl (lv_at hl 0 rfl) ?_
    refine r_getr (j := 0) X hw ct7 (o_0 hf) rfl (Nat.le_of_ble_eq_true rfl) (q := 1) rfl wd_264 d_X11_sign_45 ?_
    refine r_getiN (j := 1) X hw ct5 (o_1 hf) (Nat.le_of_ble_eq_true rfl) rfl (Nat.le_of_ble_eq_true rfl) nw_1 d_X11_sign_48 ?_
    obtain rfl := Option.some.inj h
    subst hQ
    exact r_iret X hr hlk hw d_X11_sign_51
  · have h := ite_f h hc
    refine lv_iconst (v := (-1 : Int32)) hx hb d_X11_sign_14 (by decide) ?_
    obtain rfl := Option.some.inj h
    subst hQ
    exact r_iret X hr hlk hw d_X11_sign_15
abbrev yX11_end : MethodName := ⟨"OysterBeds", "end", "(I)Z"⟩
theorem mwX11_end : MW yX11_end prog_1_method_3_code 2 (some .boolean) 1 := ⟨wd_303, wd_1, by decide +kernel⟩
theorem d_X11_end_0 : decode prog_1_method_3_code 0 = .ok (.aload_n 0, 1) := by decide +kernel
theorem d_X11_end_1 : decode prog_1_method_3_code 1 = .ok (.getfield 12, 3) := by decide +kernel
theorem d_X11_end_4 : decode prog_1_method_3_code 4 = .ok (.iload_n 1, 1) := by decide +kernel
theorem d_X11_end_5 : decode prog_1_method_3_code 5 = .ok (.invokevirtual 72, 3) := by decide +kernel
theorem d_X11_end_8 : decode prog_1_method_3_code 8 = .ok (.ireturn, 1) := by decide +kernel
def f_X11_end (χ : St) (a1 : Int32) : Option (Int32 × St) := (f_X8_cutTo χ a1).bind (fun q1 => gd (nb q1.1) (some (q1.1, q1.2)))
theorem c_X11_end {l : Launch} {G : gT} {χ σ : St} {a1 : Int32} (hf : FW G) {q : Int32 × St} (h : f_X11_end χ a1 = some q) : Ct l G yX11_end prog_1_method_3_code 2 (some .boolean) 1 21 [.ref (ga G 0), .int a1] χ σ (some (.int q.1)) q.2 σ := by
  refine Ct.of (by decide) (Nat.le_of_ble_eq_true rfl) ?_
  intro p e s m args below meth c Q X hr hlk hQ
  have hx := X.1
  have hb := X.2.1
  intro H locs ls hw hl
  have hl : lv_has ls 2 [(0, .ref (ga G 0)), (1, .int a1)] := hl
  unfold f_X11_end at h
  refine lv_aload_n hx hb d_X11_end_0 rfl (lv_at hl 0 rfl) ?_
  refine r_getr (j := 0) X hw ct7 (o_0 hf) rfl (Nat.le_of_ble_eq_true rfl) (q := 1) rfl wd_264 d_X11_end_1 ?_
  refine lv_iload_n hx hb d_X11_end_4 rfl (lv_at hl 1 rfl) ?_
  obtain ⟨q1, e2, h⟩ := bd_some h
  refine r_callV (As := [.int a1]) (rest := []) (st' := [.int q1.1]) X hw hl mwX8_cutTo wd_305 wd_306 wd_304 (c_X8_cutTo hf e2) (r_recv X hw ct5 (o_1 hf)) rfl ⟨Nat.le_of_ble_eq_true rfl, Nat.le_of_ble_eq_true rfl⟩ ⟨Nat.le_refl _, Nat.le_refl _⟩ rfl rfl (Nat.le_of_ble_eq_true rfl) d_X11_end_5 (fun H locs hw => ?_)
  obtain ⟨hv3, h⟩ := gd_some h
  obtain rfl := Option.some.inj h
  subst hQ
  exact r_zret X hr (nb_of hv3) hlk hw d_X11_end_8
abbrev yX11_kindOf : MethodName := ⟨"OysterBeds", "kindOf", "(C)I"⟩
theorem mwX11_kindOf : MW yX11_kindOf prog_1_method_56_code 1 (some .int) 1 := ⟨wd_338, wd_1, by decide +kernel⟩
theorem d_X11_kindOf_0 : decode prog_1_method_56_code 0 = .ok (.iload_n 0, 1) := by decide +kernel
theorem d_X11_kindOf_1 : decode prog_1_method_56_code 1 = .ok (.bipush 110, 2) := by decide +kernel
theorem d_X11_kindOf_3 : decode prog_1_method_56_code 3 = .ok (.if_icmp .ne 7, 3) := by decide +kernel
theorem d_X11_kindOf_6 : decode prog_1_method_56_code 6 = .ok (.iconst 0, 1) := by decide +kernel
theorem d_X11_kindOf_7 : decode prog_1_method_56_code 7 = .ok (.goto 14, 3) := by decide +kernel
theorem d_X11_kindOf_10 : decode prog_1_method_56_code 10 = .ok (.iload_n 0, 1) := by decide +kernel
theorem d_X11_kindOf_11 : decode prog_1_method_56_code 11 = .ok (.bipush 112, 2) := by decide +kernel
theorem d_X11_kindOf_13 : decode prog_1_method_56_code 13 = .ok (.if_icmp .ne 7, 3) := by decide +kernel
theorem d_X11_kindOf_16 : decode prog_1_method_56_code 16 = .ok (.iconst 1, 1) := by decide +kernel
theorem d_X11_kindOf_17 : decode prog_1_method_56_code 17 = .ok (.goto 4, 3) := by decide +kernel
theorem d_X11_kindOf_20 : decode prog_1_method_56_code 20 = .ok (.iconst 2, 1) := by decide +kernel
theorem d_X11_kindOf_21 : decode prog_1_method_56_code 21 = .ok (.ireturn, 1) := by decide +kernel
def f_X11_kindOf (a0 : Int32) : Option (Int32) := some (if a0 = (110 : Int32) then (0 : Int32) else (if a0 = (112 : Int32) then (1 : Int32) else (2 : Int32)))
theorem c_X11_kindOf {l : Launch} {G : gT} {χ σ : St} {a0 : Int32} (hf : FW G) {q : Int32} (h : f_X11_kindOf a0 = some q) : Ct l G yX11_kindOf prog_1_method_56_code 1 (some .int) 0 0 [.int a0] χ σ (some (.int q)) χ σ := by
  refine Ct.of (by decide) (Nat.le_of_ble_eq_true rfl) ?_
  intro p e s m args below meth c Q X hr hlk hQ
  have hx := X.1
  have hb := X.2.1
  intro H locs ls hw hl
  have hl : lv_has ls 1 [(0, .int a0)] := hl
  unfold f_X11_kindOf at h
  refine lv_iload_n hx hb d_X11_kindOf_0 rfl (lv_at hl 0 rfl) ?_
  refine lv_bipush (v := (110 : Int32)) hx hb d_X11_kindOf_1 (by decide) ?_
  refine lv_icmp_ne (tgt := 10) hx hb d_X11_kindOf_3 (by decide) (fun hc => ?_) (fun hc => ?_)
  · simp only [if_neg hc] at h
    refine lv_iload_n hx hb d_X11_kindOf_10 rfl (lv_at hl 0 rfl) ?_
    refine lv_bipush (v := (112 : Int32)) hx hb d_X11_kindOf_11 (by decide) ?_
    refine lv_icmp_ne (tgt := 20) hx hb d_X11_kindOf_13 (by decide) (fun hc => ?_) (fun hc => ?_)
    · simp only [if_neg hc] at h
      refine lv_iconst (v := (2 : Int32)) hx hb d_X11_kindOf_20 (by decide) ?_
      obtain rfl := Option.some.inj h
      subst hQ
      exact r_iret X hr hlk hw d_X11_kindOf_21
    · simp only [if_pos hc] at h
      refine lv_iconst (v := (1 : Int32)) hx hb d_X11_kindOf_16 (by decide) ?_
      refine lv_goto (tgt := 21) hx hb d_X11_kindOf_17 (by decide) ?_
      obtain rfl := Option.some.inj h
      subst hQ
      exact r_iret X hr hlk hw d_X11_kindOf_21
  · simp only [if_pos hc] at h
    refine lv_iconst (v := (0 : Int32)) hx hb d_X11_kindOf_6 (by decide) ?_
    refine lv_goto (tgt := 21) hx hb d_X11_kindOf_7 (by decide) ?_
    obtain rfl := Option.some.inj h
    subst hQ
    exact r_iret X hr hlk hw d_X11_kindOf_21
abbrev yX11_oysters : MethodName := ⟨"OysterBeds", "oysters", "()I"⟩
theorem mwX11_oysters : MW yX11_oysters prog_1_method_4_code 4 (some .int) 0 := ⟨wd_311, wd_1, by decide +kernel⟩
theorem d_X11_oysters_0 : decode prog_1_method_4_code 0 = .ok (.aload_n 0, 1) := by decide +kernel
theorem d_X11_oysters_1 : decode prog_1_method_4_code 1 = .ok (.getfield 12, 3) := by decide +kernel
theorem d_X11_oysters_4 : decode prog_1_method_4_code 4 = .ok (.bipush 8, 2) := by decide +kernel
theorem d_X11_oysters_6 : decode prog_1_method_4_code 6 = .ok (.aload_n 0, 1) := by decide +kernel
theorem d_X11_oysters_7 : decode prog_1_method_4_code 7 = .ok (.getfield 26, 3) := by decide +kernel
theorem d_X11_oysters_10 : decode prog_1_method_4_code 10 = .ok (.getfield 76, 3) := by decide +kernel
theorem d_X11_oysters_13 : decode prog_1_method_4_code 13 = .ok (.isub, 1) := by decide +kernel
theorem d_X11_oysters_14 : decode prog_1_method_4_code 14 = .ok (.invokevirtual 79, 3) := by decide +kernel
theorem d_X11_oysters_17 : decode prog_1_method_4_code 17 = .ok (.istore_n 1, 1) := by decide +kernel
theorem d_X11_oysters_18 : decode prog_1_method_4_code 18 = .ok (.iload_n 1, 1) := by decide +kernel
theorem d_X11_oysters_19 : decode prog_1_method_4_code 19 = .ok (.iconst (-1), 1) := by decide +kernel
theorem d_X11_oysters_20 : decode prog_1_method_4_code 20 = .ok (.if_icmp .eq 16, 3) := by decide +kernel
theorem d_X11_oysters_23 : decode prog_1_method_4_code 23 = .ok (.aload_n 0, 1) := by decide +kernel
theorem d_X11_oysters_24 : decode prog_1_method_4_code 24 = .ok (.getfield 12, 3) := by decide +kernel
theorem d_X11_oysters_27 : decode prog_1_method_4_code 27 = .ok (.iconst 0, 1) := by decide +kernel
theorem d_X11_oysters_28 : decode prog_1_method_4_code 28 = .ok (.invokevirtual 72, 3) := by decide +kernel
theorem d_X11_oysters_31 : decode prog_1_method_4_code 31 = .ok (.pop, 1) := by decide +kernel
theorem d_X11_oysters_32 : decode prog_1_method_4_code 32 = .ok (.iconst (-1), 1) := by decide +kernel
theorem d_X11_oysters_33 : decode prog_1_method_4_code 33 = .ok (.iload_n 1, 1) := by decide +kernel
theorem d_X11_oysters_34 : decode prog_1_method_4_code 34 = .ok (.isub, 1) := by decide +kernel
theorem d_X11_oysters_35 : decode prog_1_method_4_code 35 = .ok (.ireturn, 1) := by decide +kernel
theorem d_X11_oysters_36 : decode prog_1_method_4_code 36 = .ok (.iconst 0, 1) := by decide +kernel
theorem d_X11_oysters_37 : decode prog_1_method_4_code 37 = .ok (.istore_n 2, 1) := by decide +kernel
theorem d_X11_oysters_38 : decode prog_1_method_4_code 38 = .ok (.iconst 0, 1) := by decide +kernel
theorem d_X11_oysters_39 : decode prog_1_method_4_code 39 = .ok (.istore_n 3, 1) := by decide +kernel
theorem d_X11_oysters_40 : decode prog_1_method_4_code 40 = .ok (.iload_n 3, 1) := by decide +kernel
theorem d_X11_oysters_41 : decode prog_1_method_4_code 41 = .ok (.aload_n 0, 1) := by decide +kernel
theorem d_X11_oysters_42 : decode prog_1_method_4_code 42 = .ok (.getfield 12, 3) := by decide +kernel
theorem d_X11_oysters_45 : decode prog_1_method_4_code 45 = .ok (.getfield 64, 3) := by decide +kernel
theorem d_X11_oysters_48 : decode prog_1_method_4_code 48 = .ok (.if_icmp .ge 50, 3) := by decide +kernel
theorem d_X11_oysters_51 : decode prog_1_method_4_code 51 = .ok (.aload_n 0, 1) := by decide +kernel
theorem d_X11_oysters_52 : decode prog_1_method_4_code 52 = .ok (.getfield 26, 3) := by decide +kernel
theorem d_X11_oysters_55 : decode prog_1_method_4_code 55 = .ok (.aload_n 0, 1) := by decide +kernel
theorem d_X11_oysters_56 : decode prog_1_method_4_code 56 = .ok (.getfield 12, 3) := by decide +kernel
theorem d_X11_oysters_59 : decode prog_1_method_4_code 59 = .ok (.iload_n 3, 1) := by decide +kernel
theorem d_X11_oysters_60 : decode prog_1_method_4_code 60 = .ok (.invokevirtual 83, 3) := by decide +kernel
theorem d_X11_oysters_63 : decode prog_1_method_4_code 63 = .ok (.invokestatic 87, 3) := by decide +kernel
theorem d_X11_oysters_66 : decode prog_1_method_4_code 66 = .ok (.aload_n 0, 1) := by decide +kernel
theorem d_X11_oysters_67 : decode prog_1_method_4_code 67 = .ok (.getfield 12, 3) := by decide +kernel
theorem d_X11_oysters_70 : decode prog_1_method_4_code 70 = .ok (.iload_n 3, 1) := by decide +kernel
theorem d_X11_oysters_71 : decode prog_1_method_4_code 71 = .ok (.iconst 1, 1) := by decide +kernel
theorem d_X11_oysters_72 : decode prog_1_method_4_code 72 = .ok (.iadd, 1) := by decide +kernel
theorem d_X11_oysters_73 : decode prog_1_method_4_code 73 = .ok (.invokevirtual 91, 3) := by decide +kernel
theorem d_X11_oysters_76 : decode prog_1_method_4_code 76 = .ok (.aload_n 0, 1) := by decide +kernel
theorem d_X11_oysters_77 : decode prog_1_method_4_code 77 = .ok (.getfield 12, 3) := by decide +kernel
theorem d_X11_oysters_80 : decode prog_1_method_4_code 80 = .ok (.iload_n 3, 1) := by decide +kernel
theorem d_X11_oysters_81 : decode prog_1_method_4_code 81 = .ok (.iconst 2, 1) := by decide +kernel
theorem d_X11_oysters_82 : decode prog_1_method_4_code 82 = .ok (.iadd, 1) := by decide +kernel
theorem d_X11_oysters_83 : decode prog_1_method_4_code 83 = .ok (.invokevirtual 94, 3) := by decide +kernel
theorem d_X11_oysters_86 : decode prog_1_method_4_code 86 = .ok (.invokevirtual 97, 3) := by decide +kernel
theorem d_X11_oysters_89 : decode prog_1_method_4_code 89 = .ok (.iinc 2 1, 3) := by decide +kernel
theorem d_X11_oysters_92 : decode prog_1_method_4_code 92 = .ok (.iinc 3 5, 3) := by decide +kernel
theorem d_X11_oysters_95 : decode prog_1_method_4_code 95 = .ok (.goto (-55), 3) := by decide +kernel
theorem d_X11_oysters_98 : decode prog_1_method_4_code 98 = .ok (.aload_n 0, 1) := by decide +kernel
theorem d_X11_oysters_99 : decode prog_1_method_4_code 99 = .ok (.getfield 12, 3) := by decide +kernel
theorem d_X11_oysters_102 : decode prog_1_method_4_code 102 = .ok (.iconst 0, 1) := by decide +kernel
theorem d_X11_oysters_103 : decode prog_1_method_4_code 103 = .ok (.invokevirtual 72, 3) := by decide +kernel
theorem d_X11_oysters_106 : decode prog_1_method_4_code 106 = .ok (.pop, 1) := by decide +kernel
theorem d_X11_oysters_107 : decode prog_1_method_4_code 107 = .ok (.iload_n 2, 1) := by decide +kernel
theorem d_X11_oysters_108 : decode prog_1_method_4_code 108 = .ok (.ifCond .le 10, 3) := by decide +kernel
theorem d_X11_oysters_111 : decode prog_1_method_4_code 111 = .ok (.aload_n 0, 1) := by decide +kernel
theorem d_X11_oysters_112 : decode prog_1_method_4_code 112 = .ok (.getfield 36, 3) := by decide +kernel
theorem d_X11_oysters_115 : decode prog_1_method_4_code 115 = .ok (.invokevirtual 101, 3) := by decide +kernel
theorem d_X11_oysters_118 : decode prog_1_method_4_code 118 = .ok (.iload_n 2, 1) := by decide +kernel
theorem d_X11_oysters_119 : decode prog_1_method_4_code 119 = .ok (.ireturn, 1) := by decide +kernel
def f_X11_oysters_s40 (τ : St) (x2 : Int32) (x3 : Int32) : Option ((Int32 × Int32 × St) ⊕ (Int32 × St)) := (if (cF τ 1 1) ≤ x3 then some (.inr (x2, τ)) else (f_X8_at τ x3).bind (fun q3 => (f_X11_kindOf q3).bind (fun q5 => (f_X8_digitAt τ (x3 + (1 : Int32))).bind (fun q7 => (f_X8_twoDigitsAt τ (x3 + (2 : Int32))).bind (fun q9 => (f_X0_admit τ 32 q5 q7 q9).bind (fun q11 => some (.inl ((x2 + (1 : Int32)), (x3 + (5 : Int32)), q11))))))))
def f_X11_oysters (χ : St) : Option (Int32 × St) := (f_X8_faultAsLines χ ((8 : Int32) - (cF χ 32 5))).bind (fun q1 => (if q1 = (-1 : Int32) then (iter (fun z => f_X11_oysters_s40 z.2.2 z.1 z.2.1) FU ((0 : Int32), (0 : Int32), χ)).bind (fun z13 => (f_X8_cutTo z13.2 (0 : Int32)).bind (fun q16 => (if z13.1 ≤ 0 then some (z13.1, q16.2) else (f_X6_clear q16.2).bind (fun q18 => some (z13.1, q18))))) else (f_X8_cutTo χ (0 : Int32)).bind (fun q20 => some (((-1 : Int32) - q1), q20.2))))
theorem c_X11_oysters {l : Launch} {G : gT} {χ σ : St} (hf : FW G) {q : Int32 × St} (h : f_X11_oysters χ = some q) : Ct l G yX11_oysters prog_1_method_4_code 4 (some .int) 5 110 [.ref (ga G 0)] χ σ (some (.int q.1)) q.2 σ := by
  refine Ct.of (by decide) (Nat.le_of_ble_eq_true rfl) ?_
  intro p e s m args below meth c Q X hr hlk hQ
  have hx := X.1
  have hb := X.2.1
  have b40 : ∀ (τ : St) (x2 : Int32) (x3 : Int32) (o : (Int32 × Int32 × St) ⊕ (Int32 × St)), f_X11_oysters_s40 τ x2 x3 = some o → Sum.elim (fun z : Int32 × Int32 × St => Wat p l e (rmk 5 110) s m args below meth c Q G 4 40 [] [(2, .int z.1), (3, .int z.2.1), (0, .ref (ga G 0))] z.2.2 σ) (fun z : Int32 × St => Wat p l e (rmk 5 110) s m args below meth c Q G 4 98 [] [(0, .ref (ga G 0)), (2, .int z.1)] z.2 σ) o → Wat p l e (rmk 5 110) s m args below meth c Q G 4 40 [] [(2, .int x2), (3, .int x3), (0, .ref (ga G 0))] τ σ := by
    intro τ x2 x3 o h hk H locs ls hw hl
    unfold f_X11_oysters_s40 at h
    refine lv_iload_n hx hb d_X11_oysters_40 rfl (lv_at hl 1 rfl) ?_
    refine lv_aload_n hx hb d_X11_oysters_41 rfl (lv_at hl 2 rfl) ?_
    refine r_getr (j := 0) X hw ct7 (o_0 hf) rfl (Nat.le_of_ble_eq_true rfl) (q := 1) rfl wd_264 d_X11_oysters_42 ?_
    refine r_getiN (j := 1) X hw ct5 (o_1 hf) (Nat.le_of_ble_eq_true rfl) rfl (Nat.le_of_ble_eq_true rfl) nw_1 d_X11_oysters_45 ?_
    refine lv_icmp_ge (tgt := 98) hx hb d_X11_oysters_48 (by decide) (fun hc => ?_) (fun hc => ?_)
    · have h := ite_t h hc
      obtain rfl := Option.some.inj h
      dsimp only [Sum.elim_inr] at hk
      exact hk _ _ _ hw (lv_sub hl [2, 0] rfl)
    · have h := ite_f h hc
      refine lv_aload_n hx hb d_X11_oysters_51 rfl (lv_at hl 2 rfl) ?_
      refine r_getr (j := 2) X hw ct7 (o_0 hf) rfl (Nat.le_of_ble_eq_true rfl) (q := 32) rfl wd_266 d_X11_oysters_52 ?_
      refine lv_aload_n hx hb d_X11_oysters_55 rfl (lv_at hl 2 rfl) ?_
      refine r_getr (j := 0) X hw ct7 (o_0 hf) rfl (Nat.le_of_ble_eq_true rfl) (q := 1) rfl wd_264 d_X11_oysters_56 ?_
      refine lv_iload_n hx hb d_X11_oysters_59 rfl (lv_at hl 1 rfl) ?_
      obtain ⟨q3, e4, h⟩ := bd_some h
      refine r_callV (As := [.int x3]) (rest := [.ref (ga G 32)]) (st' := [.int q3, .ref (ga G 32)]) X hw hl mwX8_at wd_324 wd_325 wd_335 (c_X8_at hf e4) (r_recv X hw ct5 (o_1 hf)) rfl ⟨Nat.le_of_ble_eq_true rfl, Nat.le_of_ble_eq_true rfl⟩ ⟨Nat.le_refl _, Nat.le_refl _⟩ rfl rfl (Nat.le_of_ble_eq_true rfl) d_X11_oysters_60 (fun H locs hw => ?_)
      obtain ⟨q5, e6, h⟩ := bd_some h
      refine r_callS (As := [.int q3]) (rest := [.ref (ga G 32)]) (st' := [.int q5, .ref (ga G 32)]) X hw hl mwX11_kindOf wd_337 wd_336 (c_X11_kindOf hf e6) rfl ⟨Nat.le_of_ble_eq_true rfl, Nat.le_of_ble_eq_true rfl⟩ ⟨Nat.le_refl _, Nat.le_refl _⟩ rfl rfl (Nat.le_of_ble_eq_true rfl) d_X11_oysters_63 (fun H locs hw => ?_)
      refine lv_aload_n hx hb d_X11_oysters_66 rfl (lv_at hl 2 rfl) ?_
      refine r_getr (j := 0) X hw ct7 (o_0 hf) rfl (Nat.le_of_ble_eq_true rfl) (q := 1) rfl wd_264 d_X11_oysters_67 ?_
      refine lv_iload_n hx hb d_X11_oysters_70 rfl (lv_at hl 1 rfl) ?_
      refine lv_iconst (v := (1 : Int32)) hx hb d_X11_oysters_71 (by decide) ?_
      refine lv_iadd hx hb d_X11_oysters_72 ?_
      obtain ⟨q7, e8, h⟩ := bd_some h
      refine r_callV (As := [.int (x3 + (1 : Int32))]) (rest := [.int q5, .ref (ga G 32)]) (st' := [.int q7, .int q5, .ref (ga G 32)]) X hw hl mwX8_digitAt wd_328 wd_329 wd_339 (c_X8_digitAt hf e8) (r_recv X hw ct5 (o_1 hf)) rfl ⟨Nat.le_of_ble_eq_true rfl, Nat.le_of_ble_eq_true rfl⟩ ⟨Nat.le_refl _, Nat.le_refl _⟩ rfl rfl (Nat.le_of_ble_eq_true rfl) d_X11_oysters_73 (fun H locs hw => ?_)
      refine lv_aload_n hx hb d_X11_oysters_76 rfl (lv_at hl 2 rfl) ?_
      refine r_getr (j := 0) X hw ct7 (o_0 hf) rfl (Nat.le_of_ble_eq_true rfl) (q := 1) rfl wd_264 d_X11_oysters_77 ?_
      refine lv_iload_n hx hb d_X11_oysters_80 rfl (lv_at hl 1 rfl) ?_
      refine lv_iconst (v := (2 : Int32)) hx hb d_X11_oysters_81 (by decide) ?_
      refine lv_iadd hx hb d_X11_oysters_82 ?_
      obtain ⟨q9, e10, h⟩ := bd_some h
      refine r_callV (As := [.int (x3 + (2 : Int32))]) (rest := [.int q7, .int q5, .ref (ga G 32)]) (st' := [.int q9, .int q7, .int q5, .ref (ga G 32)]) X hw hl mwX8_twoDigitsAt wd_332 wd_333 wd_340 (c_X8_twoDigitsAt hf e10) (r_recv X hw ct5 (o_1 hf)) rfl ⟨Nat.le_of_ble_eq_true rfl, Nat.le_of_ble_eq_true rfl⟩ ⟨Nat.le_refl _, Nat.le_refl _⟩ rfl rfl (Nat.le_of_ble_eq_true rfl) d_X11_oysters_83 (fun H locs hw => ?_)
      obtain ⟨q11, e12, h⟩ := bd_some h
      refine r_callV (As := [.int q5, .int q7, .int q9]) (rest := []) (st' := []) X hw hl mwX0_admit wd_342 wd_343 wd_341 (c_X0_admit hf b_32 e12) (r_recv X hw ct0 (o_32 hf)) rfl ⟨Nat.le_of_ble_eq_true rfl, Nat.le_of_ble_eq_true rfl⟩ ⟨Nat.le_refl _, Nat.le_refl _⟩ rfl rfl (Nat.le_of_ble_eq_true rfl) d_X11_oysters_86 (fun H locs hw => ?_)
      refine lv_iinc (v := (x2 + (1 : Int32))) (k := 0) (lv' := [(2, .int (x2 + (1 : Int32))), (3, .int x3), (0, .ref (ga G 0))]) hx hb d_X11_oysters_89 hl rfl (by rfl) (Nat.le_of_ble_eq_true rfl) rfl (fun ls hl => ?_)
      refine lv_iinc (v := (x3 + (5 : Int32))) (k := 1) (lv' := [(3, .int (x3 + (5 : Int32))), (2, .int (x2 + (1 : Int32))), (0, .ref (ga G 0))]) hx hb d_X11_oysters_92 hl rfl (by rfl) (Nat.le_of_ble_eq_true rfl) rfl (fun ls hl => ?_)
      refine lv_goto (tgt := 40) hx hb d_X11_oysters_95 (by decide) ?_
      obtain rfl := Option.some.inj h
      dsimp only [Sum.elim_inl] at hk
      exact hk _ _ _ hw (lv_sub hl [1, 0, 2] rfl)
  intro H locs ls hw hl
  have hl : lv_has ls 4 [(0, .ref (ga G 0))] := hl
  unfold f_X11_oysters at h
  refine lv_aload_n hx hb d_X11_oysters_0 rfl (lv_at hl 0 rfl) ?_
  refine r_getr (j := 0) X hw ct7 (o_0 hf) rfl (Nat.le_of_ble_eq_true rfl) (q := 1) rfl wd_264 d_X11_oysters_1 ?_
  refine lv_bipush (v := (8 : Int32)) hx hb d_X11_oysters_4 (by decide) ?_
  refine lv_aload_n hx hb d_X11_oysters_6 rfl (lv_at hl 0 rfl) ?_
  refine r_getr (j := 2) X hw ct7 (o_0 hf) rfl (Nat.le_of_ble_eq_true rfl) (q := 32) rfl wd_266 d_X11_oysters_7 ?_
  refine r_getiN (j := 5) X hw ct0 (o_32 hf) (Nat.le_of_ble_eq_true rfl) rfl (Nat.le_of_ble_eq_true rfl) nw_23 d_X11_oysters_10 ?_
  refine lv_isub hx hb d_X11_oysters_13 ?_
  obtain ⟨q1, e2, h⟩ := bd_some h
  refine r_callV (As := [.int ((8 : Int32) - (cF χ 32 5))]) (rest := []) (st' := [.int q1]) X hw hl mwX8_faultAsLines wd_313 wd_314 wd_312 (c_X8_faultAsLines hf e2) (r_recv X hw ct5 (o_1 hf)) rfl ⟨Nat.le_of_ble_eq_true rfl, Nat.le_of_ble_eq_true rfl⟩ ⟨Nat.le_refl _, Nat.le_refl _⟩ rfl rfl (Nat.le_of_ble_eq_true rfl) d_X11_oysters_14 (fun H locs hw => ?_)
  refine lv_istore_n (lv' := [(1, .int q1), (0, .ref (ga G 0))]) hx hb d_X11_oysters_17 rfl hl (Nat.le_of_ble_eq_true rfl) rfl (fun ls hl => ?_)
  refine lv_iload_n hx hb d_X11_oysters_18 rfl (lv_at hl 0 rfl) ?_
  refine lv_iconst (v := (-1 : Int32)) hx hb d_X11_oysters_19 (by decide) ?_
  refine lv_icmp_eq (tgt := 36) hx hb d_X11_oysters_20 (by decide) (fun hc => ?_) (fun hc => ?_)
  · have h := ite_t h hc
    refine lv_iconst (v := (0 : Int32)) hx hb d_X11_oysters_36 (by decide) ?_
    refine lv_istore_n (lv' := [(2, .int (0 : Int32)), (1, .int q1), (0, .ref (ga G 0))]) hx hb d_X11_oysters_37 rfl hl (Nat.le_of_ble_eq_true rfl) rfl (fun ls hl => ?_)
    refine lv_iconst (v := (0 : Int32)) hx hb d_X11_oysters_38 (by decide) ?_
    refine lv_istore_n (lv' := [(3, .int (0 : Int32)), (2, .int (0 : Int32)), (1, .int q1), (0, .ref (ga G 0))]) hx hb d_X11_oysters_39 rfl hl (Nat.le_of_ble_eq_true rfl) rfl (fun ls hl => ?_)
    obtain ⟨z13, e14, h⟩ := bd_some h
    refine iter_w (Wh := fun z : Int32 × Int32 × St => Wat p l e (rmk 5 110) s m args below meth c Q G 4 40 [] [(2, .int z.1), (3, .int z.2.1), (0, .ref (ga G 0))] z.2.2 σ) (K := fun z : Int32 × St => Wat p l e (rmk 5 110) s m args below meth c Q G 4 98 [] [(0, .ref (ga G 0)), (2, .int z.1)] z.2 σ) (fun z o h1 h2 => b40 z.2.2 z.1 z.2.1 o h1 h2) FU _ _ e14 ?_ _ _ _ hw (lv_sub hl [1, 0, 3] rfl)
    intro H locs ls hw hl
    refine lv_aload_n hx hb d_X11_oysters_98 rfl (lv_at hl 0 rfl) ?_
    refine r_getr (j := 0) X hw ct7 (o_0 hf) rfl (Nat.le_of_ble_eq_true rfl) (q := 1) rfl wd_264 d_X11_oysters_99 ?_
    refine lv_iconst (v := (0 : Int32)) hx hb d_X11_oysters_102 (by decide) ?_
    obtain ⟨q16, e17, h⟩ := bd_some h
    refine r_callV (As := [.int (0 : Int32)]) (rest := []) (st' := [.int q16.1]) X hw hl mwX8_cutTo wd_305 wd_306 wd_304 (c_X8_cutTo hf e17) (r_recv X hw ct5 (o_1 hf)) rfl ⟨Nat.le_of_ble_eq_true rfl, Nat.le_of_ble_eq_true rfl⟩ ⟨Nat.le_refl _, Nat.le_refl _⟩ rfl rfl (Nat.le_of_ble_eq_true rfl) d_X11_oysters_103 (fun H locs hw => ?_)
    refine lv_pop hx hb d_X11_oysters_106 rfl ?_
    refine lv_iload_n hx hb d_X11_oysters_107 rfl (lv_at hl 1 rfl) ?_
    refine lv_if_le (tgt := 118) hx hb d_X11_oysters_108 (by decide) (fun hc => ?_) (fun hc => ?_)
    · have h := ite_t h hc
      refine lv_iload_n hx hb d_X11_oysters_118 rfl (lv_at hl 1 rfl) ?_
      obtain rfl := Option.some.inj h
      subst hQ
      exact r_iret X hr hlk hw d_X11_oysters_119
    · have h := ite_f h hc
      refine lv_aload_n hx hb d_X11_oysters_111 rfl (lv_at hl 0 rfl) ?_
      refine r_getr (j := 4) X hw ct7 (o_0 hf) rfl (Nat.le_of_ble_eq_true rfl) (q := 5) rfl wd_268 d_X11_oysters_112 ?_
      obtain ⟨q18, e19, h⟩ := bd_some h
      refine r_callV (As := []) (rest := []) (st' := []) X hw hl mwX6_clear wd_346 wd_347 wd_345 (c_X6_clear hf e19) (r_recv X hw ct3 (o_5 hf)) rfl ⟨Nat.le_of_ble_eq_true rfl, Nat.le_of_ble_eq_true rfl⟩ ⟨Nat.le_refl _, Nat.le_refl _⟩ rfl rfl (Nat.le_of_ble_eq_true rfl) d_X11_oysters_115 (fun H locs hw => ?_)
      refine lv_iload_n hx hb d_X11_oysters_118 rfl (lv_at hl 1 rfl) ?_
      obtain rfl := Option.some.inj h
      subst hQ
      exact r_iret X hr hlk hw d_X11_oysters_119
  · have h := ite_f h hc
    refine lv_aload_n hx hb d_X11_oysters_23 rfl (lv_at hl 1 rfl) ?_
    refine r_getr (j := 0) X hw ct7 (o_0 hf) rfl (Nat.le_of_ble_eq_true rfl) (q := 1) rfl wd_264 d_X11_oysters_24 ?_
    refine lv_iconst (v := (0 : Int32)) hx hb d_X11_oysters_27 (by decide) ?_
    obtain ⟨q20, e21, h⟩ := bd_some h
    refine r_callV (As := [.int (0 : Int32)]) (rest := []) (st' := [.int q20.1]) X hw hl mwX8_cutTo wd_305 wd_306 wd_304 (c_X8_cutTo hf e21) (r_recv X hw ct5 (o_1 hf)) rfl ⟨Nat.le_of_ble_eq_true rfl, Nat.le_of_ble_eq_true rfl⟩ ⟨Nat.le_refl _, Nat.le_refl _⟩ rfl rfl (Nat.le_of_ble_eq_true rfl) d_X11_oysters_28 (fun H locs hw => ?_)
    refine lv_pop hx hb d_X11_oysters_31 rfl ?_
    refine lv_iconst (v := (-1 : Int32)) hx hb d_X11_oysters_32 (by decide) ?_
    refine lv_iload_n hx hb d_X11_oysters_33 rfl (lv_at hl 0 rfl) ?_
    refine lv_isub hx hb d_X11_oysters_34 ?_
    obtain rfl := Option.some.inj h
    subst hQ
    exact r_iret X hr hlk hw d_X11_oysters_35
abbrev yX11_sheet : MethodName := ⟨"OysterBeds", "sheet", "(IIII)I"⟩
theorem mwX11_sheet : MW yX11_sheet prog_1_method_7_code 5 (some .int) 4 := ⟨wd_366, wd_1, by decide +kernel⟩
theorem d_X11_sheet_0 : decode prog_1_method_7_code 0 = .ok (.iload_n 1, 1) := by decide +kernel
theorem d_X11_sheet_1 : decode prog_1_method_7_code 1 = .ok (.ifCond .lt 14, 3) := by decide +kernel
theorem d_X11_sheet_4 : decode prog_1_method_7_code 4 = .ok (.iload_n 1, 1) := by decide +kernel
theorem d_X11_sheet_5 : decode prog_1_method_7_code 5 = .ok (.iconst 3, 1) := by decide +kernel
theorem d_X11_sheet_6 : decode prog_1_method_7_code 6 = .ok (.if_icmp .gt 9, 3) := by decide +kernel
theorem d_X11_sheet_9 : decode prog_1_method_7_code 9 = .ok (.iload_n 2, 1) := by decide +kernel
theorem d_X11_sheet_10 : decode prog_1_method_7_code 10 = .ok (.bipush 8, 2) := by decide +kernel
theorem d_X11_sheet_12 : decode prog_1_method_7_code 12 = .ok (.if_icmp .le 5, 3) := by decide +kernel
theorem d_X11_sheet_15 : decode prog_1_method_7_code 15 = .ok (.iconst (-1), 1) := by decide +kernel
theorem d_X11_sheet_16 : decode prog_1_method_7_code 16 = .ok (.ireturn, 1) := by decide +kernel
theorem d_X11_sheet_17 : decode prog_1_method_7_code 17 = .ok (.iload_n 1, 1) := by decide +kernel
theorem d_X11_sheet_18 : decode prog_1_method_7_code 18 = .ok (.iconst 3, 1) := by decide +kernel
theorem d_X11_sheet_19 : decode prog_1_method_7_code 19 = .ok (.if_icmp .ne 17, 3) := by decide +kernel
theorem d_X11_sheet_22 : decode prog_1_method_7_code 22 = .ok (.aload_n 0, 1) := by decide +kernel
theorem d_X11_sheet_23 : decode prog_1_method_7_code 23 = .ok (.getfield 26, 3) := by decide +kernel
theorem d_X11_sheet_26 : decode prog_1_method_7_code 26 = .ok (.iload_n 1, 1) := by decide +kernel
theorem d_X11_sheet_27 : decode prog_1_method_7_code 27 = .ok (.iconst 0, 1) := by decide +kernel
theorem d_X11_sheet_28 : decode prog_1_method_7_code 28 = .ok (.iconst 0, 1) := by decide +kernel
theorem d_X11_sheet_29 : decode prog_1_method_7_code 29 = .ok (.iconst 0, 1) := by decide +kernel
theorem d_X11_sheet_30 : decode prog_1_method_7_code 30 = .ok (.invokevirtual 136, 3) := by decide +kernel
theorem d_X11_sheet_33 : decode prog_1_method_7_code 33 = .ok (.bipush (-3), 2) := by decide +kernel
theorem d_X11_sheet_35 : decode prog_1_method_7_code 35 = .ok (.ireturn, 1) := by decide +kernel
theorem d_X11_sheet_36 : decode prog_1_method_7_code 36 = .ok (.iload_n 2, 1) := by decide +kernel
theorem d_X11_sheet_37 : decode prog_1_method_7_code 37 = .ok (.ifCond .ge 6, 3) := by decide +kernel
theorem d_X11_sheet_40 : decode prog_1_method_7_code 40 = .ok (.bipush (-2), 2) := by decide +kernel
theorem d_X11_sheet_42 : decode prog_1_method_7_code 42 = .ok (.ireturn, 1) := by decide +kernel
theorem d_X11_sheet_43 : decode prog_1_method_7_code 43 = .ok (.aload_n 0, 1) := by decide +kernel
theorem d_X11_sheet_44 : decode prog_1_method_7_code 44 = .ok (.getfield 26, 3) := by decide +kernel
theorem d_X11_sheet_47 : decode prog_1_method_7_code 47 = .ok (.iload_n 1, 1) := by decide +kernel
theorem d_X11_sheet_48 : decode prog_1_method_7_code 48 = .ok (.iload_n 2, 1) := by decide +kernel
theorem d_X11_sheet_49 : decode prog_1_method_7_code 49 = .ok (.iload_n 3, 1) := by decide +kernel
theorem d_X11_sheet_50 : decode prog_1_method_7_code 50 = .ok (.iload 4, 2) := by decide +kernel
theorem d_X11_sheet_52 : decode prog_1_method_7_code 52 = .ok (.invokevirtual 136, 3) := by decide +kernel
theorem d_X11_sheet_55 : decode prog_1_method_7_code 55 = .ok (.aload_n 0, 1) := by decide +kernel
theorem d_X11_sheet_56 : decode prog_1_method_7_code 56 = .ok (.getfield 26, 3) := by decide +kernel
theorem d_X11_sheet_59 : decode prog_1_method_7_code 59 = .ok (.invokevirtual 140, 3) := by decide +kernel
theorem d_X11_sheet_62 : decode prog_1_method_7_code 62 = .ok (.ireturn, 1) := by decide +kernel
def f_X11_sheet (χ : St) (a1 : Int32) (a2 : Int32) (a3 : Int32) (a4 : Int32) : Option (Int32 × St) := (if a1 < 0 then some ((-1 : Int32), χ) else (if (3 : Int32) < a1 then some ((-1 : Int32), χ) else (if a2 ≤ (8 : Int32) then (if a1 = (3 : Int32) then (f_X0_takeFears χ 32 a1 (0 : Int32) (0 : Int32) (0 : Int32)).bind (fun q5 => some ((-3 : Int32), q5)) else (if 0 ≤ a2 then (f_X0_takeFears χ 32 a1 a2 a3 a4).bind (fun q1 => (f_X0_fears q1 32).bind (fun q3 => some (q3, q1))) else some ((-2 : Int32), χ))) else some ((-1 : Int32), χ))))
theorem c_X11_sheet {l : Launch} {G : gT} {χ σ : St} {a1 : Int32} {a2 : Int32} {a3 : Int32} {a4 : Int32} (hf : FW G) {q : Int32 × St} (h : f_X11_sheet χ a1 a2 a3 a4 = some q) : Ct l G yX11_sheet prog_1_method_7_code 5 (some .int) 2 47 [.ref (ga G 0), .int a1, .int a2, .int a3, .int a4] χ σ (some (.int q.1)) q.2 σ := by
  refine Ct.of (by decide) (Nat.le_of_ble_eq_true rfl) ?_
  intro p e s m args below meth c Q X hr hlk hQ
  have hx := X.1
  have hb := X.2.1
  intro H locs ls hw hl
  have hl : lv_has ls 5 [(0, .ref (ga G 0)), (1, .int a1), (2, .int a2), (3, .int a3), (4, .int a4)] := hl
  unfold f_X11_sheet at h
  refine lv_iload_n hx hb d_X11_sheet_0 rfl (lv_at hl 1 rfl) ?_
  refine lv_if_lt (tgt := 15) hx hb d_X11_sheet_1 (by decide) (fun hc => ?_) (fun hc => ?_)
  · have h := ite_t h hc
    refine lv_iconst (v := (-1 : Int32)) hx hb d_X11_sheet_15 (by decide) ?_
    obtain rfl := Option.some.inj h
    subst hQ
    exact r_iret X hr hlk hw d_X11_sheet_16
  · have h := ite_f h hc
    refine lv_iload_n hx hb d_X11_sheet_4 rfl (lv_at hl 1 rfl) ?_
    refine lv_iconst (v := (3 : Int32)) hx hb d_X11_sheet_5 (by decide) ?_
    refine lv_icmp_gt (tgt := 15) hx hb d_X11_sheet_6 (by decide) (fun hc => ?_) (fun hc => ?_)
    · have h := ite_t h hc
      refine lv_iconst (v := (-1 : Int32)) hx hb d_X11_sheet_15 (by decide) ?_
      obtain rfl := Option.some.inj h
      subst hQ
      exact r_iret X hr hlk hw d_X11_sheet_16
    · have h := ite_f h hc
      refine lv_iload_n hx hb d_X11_sheet_9 rfl (lv_at hl 2 rfl) ?_
      refine lv_bipush (v := (8 : Int32)) hx hb d_X11_sheet_10 (by decide) ?_
      refine lv_icmp_le (tgt := 17) hx hb d_X11_sheet_12 (by decide) (fun hc => ?_) (fun hc => ?_)
      · have h := ite_t h hc
        refine lv_iload_n hx hb d_X11_sheet_17 rfl (lv_at hl 1 rfl) ?_
        refine lv_iconst (v := (3 : Int32)) hx hb d_X11_sheet_18 (by decide) ?_
        refine lv_icmp_ne (tgt := 36) hx hb d_X11_sheet_19 (by decide) (fun hc => ?_) (fun hc => ?_)
        · have h := ite_f h hc
          refine lv_iload_n hx hb d_X11_sheet_36 rfl (lv_at hl 2 rfl) ?_
          refine lv_if_ge (tgt := 43) hx hb d_X11_sheet_37 (by decide) (fun hc => ?_) (fun hc => ?_)
          · have h := ite_t h hc
            refine lv_aload_n hx hb d_X11_sheet_43 rfl (lv_at hl 0 rfl) ?_
            refine r_getr (j := 2) X hw ct7 (o_0 hf) rfl (Nat.le_of_ble_eq_true rfl) (q := 32) rfl wd_266 d_X11_sheet_44 ?_
            refine lv_iload_n hx hb d_X11_sheet_47 rfl (lv_at hl 1 rfl) ?_
            refine lv_iload_n hx hb d_X11_sheet_48 rfl (lv_at hl 2 rfl) ?_
            refine lv_iload_n hx hb d_X11_sheet_49 rfl (lv_at hl 3 rfl) ?_
            refine lv_iload hx hb d_X11_sheet_50 (lv_at hl 4 rfl) ?_
            obtain ⟨q1, e2, h⟩ := bd_some h
            refine r_callV (As := [.int a1, .int a2, .int a3, .int a4]) (rest := []) (st' := []) X hw hl mwX0_takeFears wd_368 wd_369 wd_367 (c_X0_takeFears hf b_32 e2) (r_recv X hw ct0 (o_32 hf)) rfl ⟨Nat.le_of_ble_eq_true rfl, Nat.le_of_ble_eq_true rfl⟩ ⟨Nat.le_refl _, Nat.le_refl _⟩ rfl rfl (Nat.le_of_ble_eq_true rfl) d_X11_sheet_52 (fun H locs hw => ?_)
            refine lv_aload_n hx hb d_X11_sheet_55 rfl (lv_at hl 0 rfl) ?_
            refine r_getr (j := 2) X hw ct7 (o_0 hf) rfl (Nat.le_of_ble_eq_true rfl) (q := 32) rfl wd_266 d_X11_sheet_56 ?_
            obtain ⟨q3, e4, h⟩ := bd_some h
            refine r_callV (As := []) (rest := []) (st' := [.int q3]) X hw hl mwX0_fears wd_374 wd_375 wd_373 (c_X0_fears hf b_32 e4) (r_recv X hw ct0 (o_32 hf)) rfl ⟨Nat.le_of_ble_eq_true rfl, Nat.le_of_ble_eq_true rfl⟩ ⟨Nat.le_refl _, Nat.le_refl _⟩ rfl rfl (Nat.le_of_ble_eq_true rfl) d_X11_sheet_59 (fun H locs hw => ?_)
            obtain rfl := Option.some.inj h
            subst hQ
            exact r_iret X hr hlk hw d_X11_sheet_62
          · have h := ite_f h hc
            refine lv_bipush (v := (-2 : Int32)) hx hb d_X11_sheet_40 (by decide) ?_
            obtain rfl := Option.some.inj h
            subst hQ
            exact r_iret X hr hlk hw d_X11_sheet_42
        · have h := ite_t h hc
          refine lv_aload_n hx hb d_X11_sheet_22 rfl (lv_at hl 0 rfl) ?_
          refine r_getr (j := 2) X hw ct7 (o_0 hf) rfl (Nat.le_of_ble_eq_true rfl) (q := 32) rfl wd_266 d_X11_sheet_23 ?_
          refine lv_iload_n hx hb d_X11_sheet_26 rfl (lv_at hl 1 rfl) ?_
          refine lv_iconst (v := (0 : Int32)) hx hb d_X11_sheet_27 (by decide) ?_
          refine lv_iconst (v := (0 : Int32)) hx hb d_X11_sheet_28 (by decide) ?_
          refine lv_iconst (v := (0 : Int32)) hx hb d_X11_sheet_29 (by decide) ?_
          obtain ⟨q5, e6, h⟩ := bd_some h
          refine r_callV (As := [.int a1, .int (0 : Int32), .int (0 : Int32), .int (0 : Int32)]) (rest := []) (st' := []) X hw hl mwX0_takeFears wd_368 wd_369 wd_367 (c_X0_takeFears hf b_32 e6) (r_recv X hw ct0 (o_32 hf)) rfl ⟨Nat.le_of_ble_eq_true rfl, Nat.le_of_ble_eq_true rfl⟩ ⟨Nat.le_refl _, Nat.le_refl _⟩ rfl rfl (Nat.le_of_ble_eq_true rfl) d_X11_sheet_30 (fun H locs hw => ?_)
          refine lv_bipush (v := (-3 : Int32)) hx hb d_X11_sheet_33 (by decide) ?_
          obtain rfl := Option.some.inj h
          subst hQ
          exact r_iret X hr hlk hw d_X11_sheet_35
      · have h := ite_f h hc
        refine lv_iconst (v := (-1 : Int32)) hx hb d_X11_sheet_15 (by decide) ?_
        obtain rfl := Option.some.inj h
        subst hQ
        exact r_iret X hr hlk hw d_X11_sheet_16
abbrev yX11_isQuestion : MethodName := ⟨"OysterBeds", "isQuestion", "(II)Z"⟩
theorem mwX11_isQuestion : MW yX11_isQuestion prog_1_method_54_code 2 (some .boolean) 2 := ⟨wd_383, wd_1, by decide +kernel⟩
theorem d_X11_isQuestion_0 : decode prog_1_method_54_code 0 = .ok (.iload_n 0, 1) := by decide +kernel
theorem d_X11_isQuestion_1 : decode prog_1_method_54_code 1 = .ok (.ifCond .lt 22, 3) := by decide +kernel
theorem d_X11_isQuestion_4 : decode prog_1_method_54_code 4 = .ok (.iload_n 0, 1) := by decide +kernel
theorem d_X11_isQuestion_5 : decode prog_1_method_54_code 5 = .ok (.iconst 4, 1) := by decide +kernel
theorem d_X11_isQuestion_6 : decode prog_1_method_54_code 6 = .ok (.if_icmp .ge 17, 3) := by decide +kernel
theorem d_X11_isQuestion_9 : decode prog_1_method_54_code 9 = .ok (.iload_n 1, 1) := by decide +kernel
theorem d_X11_isQuestion_10 : decode prog_1_method_54_code 10 = .ok (.ifCond .lt 13, 3) := by decide +kernel
theorem d_X11_isQuestion_13 : decode prog_1_method_54_code 13 = .ok (.iload_n 1, 1) := by decide +kernel
theorem d_X11_isQuestion_14 : decode prog_1_method_54_code 14 = .ok (.bipush 10, 2) := by decide +kernel
theorem d_X11_isQuestion_16 : decode prog_1_method_54_code 16 = .ok (.if_icmp .ge 7, 3) := by decide +kernel
theorem d_X11_isQuestion_19 : decode prog_1_method_54_code 19 = .ok (.iconst 1, 1) := by decide +kernel
theorem d_X11_isQuestion_20 : decode prog_1_method_54_code 20 = .ok (.goto 4, 3) := by decide +kernel
theorem d_X11_isQuestion_23 : decode prog_1_method_54_code 23 = .ok (.iconst 0, 1) := by decide +kernel
theorem d_X11_isQuestion_24 : decode prog_1_method_54_code 24 = .ok (.ireturn, 1) := by decide +kernel
def f_X11_isQuestion (a0 : Int32) (a1 : Int32) : Option (Int32) := some (if a0 < 0 then (0 : Int32) else (if (4 : Int32) ≤ a0 then (0 : Int32) else (if a1 < 0 then (0 : Int32) else (if (10 : Int32) ≤ a1 then (0 : Int32) else (1 : Int32)))))
theorem c_X11_isQuestion {l : Launch} {G : gT} {χ σ : St} {a0 : Int32} {a1 : Int32} (hf : FW G) {q : Int32} (h : f_X11_isQuestion a0 a1 = some q) : Ct l G yX11_isQuestion prog_1_method_54_code 2 (some .boolean) 0 0 [.int a0, .int a1] χ σ (some (.int q)) χ σ := by
  refine Ct.of (by decide) (Nat.le_of_ble_eq_true rfl) ?_
  intro p e s m args below meth c Q X hr hlk hQ
  have hx := X.1
  have hb := X.2.1
  intro H locs ls hw hl
  have hl : lv_has ls 2 [(0, .int a0), (1, .int a1)] := hl
  unfold f_X11_isQuestion at h
  refine lv_iload_n hx hb d_X11_isQuestion_0 rfl (lv_at hl 0 rfl) ?_
  refine lv_if_lt (tgt := 23) hx hb d_X11_isQuestion_1 (by decide) (fun hc => ?_) (fun hc => ?_)
  · simp only [if_pos hc] at h
    refine lv_iconst (v := (0 : Int32)) hx hb d_X11_isQuestion_23 (by decide) ?_
    obtain rfl := Option.some.inj h
    subst hQ
    exact r_zret X hr nbz0 hlk hw d_X11_isQuestion_24
  · simp only [if_neg hc] at h
    refine lv_iload_n hx hb d_X11_isQuestion_4 rfl (lv_at hl 0 rfl) ?_
    refine lv_iconst (v := (4 : Int32)) hx hb d_X11_isQuestion_5 (by decide) ?_
    refine lv_icmp_ge (tgt := 23) hx hb d_X11_isQuestion_6 (by decide) (fun hc => ?_) (fun hc => ?_)
    · simp only [if_pos hc] at h
      refine lv_iconst (v := (0 : Int32)) hx hb d_X11_isQuestion_23 (by decide) ?_
      obtain rfl := Option.some.inj h
      subst hQ
      exact r_zret X hr nbz0 hlk hw d_X11_isQuestion_24
    · simp only [if_neg hc] at h
      refine lv_iload_n hx hb d_X11_isQuestion_9 rfl (lv_at hl 1 rfl) ?_
      refine lv_if_lt (tgt := 23) hx hb d_X11_isQuestion_10 (by decide) (fun hc => ?_) (fun hc => ?_)
      · simp only [if_pos hc] at h
        refine lv_iconst (v := (0 : Int32)) hx hb d_X11_isQuestion_23 (by decide) ?_
        obtain rfl := Option.some.inj h
        subst hQ
        exact r_zret X hr nbz0 hlk hw d_X11_isQuestion_24
      · simp only [if_neg hc] at h
        refine lv_iload_n hx hb d_X11_isQuestion_13 rfl (lv_at hl 1 rfl) ?_
        refine lv_bipush (v := (10 : Int32)) hx hb d_X11_isQuestion_14 (by decide) ?_
        refine lv_icmp_ge (tgt := 23) hx hb d_X11_isQuestion_16 (by decide) (fun hc => ?_) (fun hc => ?_)
        · simp only [if_pos hc] at h
          refine lv_iconst (v := (0 : Int32)) hx hb d_X11_isQuestion_23 (by decide) ?_
          obtain rfl := Option.some.inj h
          subst hQ
          exact r_zret X hr nbz0 hlk hw d_X11_isQuestion_24
        · simp only [if_neg hc] at h
          refine lv_iconst (v := (1 : Int32)) hx hb d_X11_isQuestion_19 (by decide) ?_
          refine lv_goto (tgt := 24) hx hb d_X11_isQuestion_20 (by decide) ?_
          obtain rfl := Option.some.inj h
          subst hQ
          exact r_zret X hr nbz1 hlk hw d_X11_isQuestion_24
